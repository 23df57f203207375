/-- StepRowsModel.isLike -/
def g_104 (o : X_O) : Nat → Nat → Q_S → Nat → Int → Int → Int → Int → Int → Option (Q_S × Int)
  | 0, _, _, _, _, _, _, _, _ => none
  | n + 1, 0, s, r0, i1, i2, i3, i4, ti0 => (q_gv s 7 (.ref r0) 9).bind fun v1 => (q_ia o s v1 i1).bind fun v3 => (q_gv s 7 (.ref r0) 9).bind fun v5 => (q_ia o s v5 i2).bind fun v7 => (q_g (q_in v3 ∧ q_in v7)).bind fun _ => if ¬ v3 = v7 then g_104 o n 1 s r0 (i1) (i2) 0 0 (0) else g_104 o n 1 s r0 (i1) (i2) 0 0 (1)
  | n + 1, 1, s, r0, i1, i2, i3, i4, ti0 => g_104 o n 2 s r0 (i1) (i2) (ti0) (0) 0
  | n + 1, 2, s, r0, i1, i2, i3, i4, ti0 => (q_gv s 7 (.ref r0) 9).bind fun v1 => (q_ia o s v1 i1).bind fun v3 => (q_g (q_in i4 ∧ q_in v3)).bind fun _ => if v3 ≤ i4 then g_104 o n 5 s 0 0 0 (i3) 0 0 else (q_g (q_in i3)).bind fun _ => if i3 = 0 then g_104 o n 5 s 0 0 0 (i3) 0 0 else (q_gv s 7 (.ref r0) 10).bind fun v11 => (q_ia o s v11 ((500 * i1) + i4)).bind fun v13 => (q_gv s 7 (.ref r0) 10).bind fun v15 => (q_ia o s v15 ((500 * i2) + i4)).bind fun v17 => (q_g (q_in v13 ∧ q_in v17)).bind fun _ => if ¬ v13 = v17 then g_104 o n 3 s r0 (i1) (i2) 0 (i4) 0 else (q_gv s 7 (.ref r0) 11).bind fun v22 => (q_la s v22 ((500 * i1) + i4)).bind fun v24 => (q_gv s 7 (.ref r0) 11).bind fun v26 => (q_la s v26 ((500 * i2) + i4)).bind fun v28 => if ¬ v24 = v28 then g_104 o n 3 s r0 (i1) (i2) 0 (i4) 0 else (q_gv s 7 (.ref r0) 12).bind fun v31 => (q_ia o s v31 ((500 * i1) + i4)).bind fun v33 => (q_gv s 7 (.ref r0) 12).bind fun v35 => (q_ia o s v35 ((500 * i2) + i4)).bind fun v37 => (q_g (q_in v33 ∧ q_in v37)).bind fun _ => if ¬ v33 = v37 then g_104 o n 3 s r0 (i1) (i2) 0 (i4) 0 else (q_gv s 7 (.ref r0) 13).bind fun v42 => (q_ia o s v42 ((500 * i1) + i4)).bind fun v44 => (q_gv s 7 (.ref r0) 13).bind fun v46 => (q_ia o s v46 ((500 * i2) + i4)).bind fun v48 => (q_g (q_in v44 ∧ q_in v48)).bind fun _ => if ¬ v44 = v48 then g_104 o n 3 s r0 (i1) (i2) 0 (i4) 0 else (q_gv s 7 (.ref r0) 14).bind fun v53 => (q_ia o s v53 ((500 * i1) + i4)).bind fun v55 => (q_gv s 7 (.ref r0) 14).bind fun v57 => (q_ia o s v57 ((500 * i2) + i4)).bind fun v59 => (q_g (q_in v55 ∧ q_in v59)).bind fun _ => if ¬ v55 = v59 then g_104 o n 3 s r0 (i1) (i2) 0 (i4) 0 else g_104 o n 4 s r0 (i1) (i2) 0 (i4) (1)
  | n + 1, 3, s, r0, i1, i2, i3, i4, ti0 => g_104 o n 4 s r0 (i1) (i2) 0 (i4) (0)
  | n + 1, 4, s, r0, i1, i2, i3, i4, ti0 => g_104 o n 2 s r0 (i1) (i2) (ti0) ((i4 + 1)) 0
  | n + 1, 5, s, r0, i1, i2, i3, i4, ti0 => (q_g (i3 = 0 ∨ i3 = 1)).bind fun _ => some (s, i3)
  | _ + 1, _, _, _, _, _, _, _, _ => none
set_option maxRecDepth 100000 in
set_option maxHeartbeats 4000000 in
theorem c_104 (o : X_O) : ∀ n, (∀ (d : Nat) (hd : 0 ≤ d) (s : Q_S) (r0 : Nat) (i1 : Int) (i2 : Int) (i3 : Int) (i4 : Int) (ti0 : Int) (s9 : Q_S) (r : Int), g_104 o n 0 s r0 i1 i2 i3 i4 ti0 = some (s9, r) → ∀ lv : X_L, x_lget lv 0 = some (.ref r0) → x_lget lv 1 = some (.int (Int32.ofInt i1)) → x_lget lv 2 = some (.int (Int32.ofInt i2)) → Y o d 104 0 lv [] (q_y s) (fun s1 r1 => s1 = q_y s9 ∧ r1 = some (.int (Int32.ofInt r)))) ∧
    (∀ (d : Nat) (hd : 0 ≤ d) (s : Q_S) (r0 : Nat) (i1 : Int) (i2 : Int) (i3 : Int) (i4 : Int) (ti0 : Int) (s9 : Q_S) (r : Int), g_104 o n 1 s r0 i1 i2 i3 i4 ti0 = some (s9, r) → ∀ lv : X_L, x_lget lv 0 = some (.ref r0) → x_lget lv 1 = some (.int (Int32.ofInt i1)) → x_lget lv 2 = some (.int (Int32.ofInt i2)) → Y o d 104 20 lv [.int (Int32.ofInt ti0)] (q_y s) (fun s1 r1 => s1 = q_y s9 ∧ r1 = some (.int (Int32.ofInt r)))) ∧
    (∀ (d : Nat) (hd : 0 ≤ d) (s : Q_S) (r0 : Nat) (i1 : Int) (i2 : Int) (i3 : Int) (i4 : Int) (ti0 : Int) (s9 : Q_S) (r : Int), g_104 o n 2 s r0 i1 i2 i3 i4 ti0 = some (s9, r) → ∀ lv : X_L, x_lget lv 0 = some (.ref r0) → x_lget lv 1 = some (.int (Int32.ofInt i1)) → x_lget lv 2 = some (.int (Int32.ofInt i2)) → x_lget lv 3 = some (.int (Int32.ofInt i3)) → x_lget lv 4 = some (.int (Int32.ofInt i4)) → Y o d 104 24 lv [] (q_y s) (fun s1 r1 => s1 = q_y s9 ∧ r1 = some (.int (Int32.ofInt r)))) ∧
    (∀ (d : Nat) (hd : 0 ≤ d) (s : Q_S) (r0 : Nat) (i1 : Int) (i2 : Int) (i3 : Int) (i4 : Int) (ti0 : Int) (s9 : Q_S) (r : Int), g_104 o n 3 s r0 i1 i2 i3 i4 ti0 = some (s9, r) → ∀ lv : X_L, x_lget lv 0 = some (.ref r0) → x_lget lv 1 = some (.int (Int32.ofInt i1)) → x_lget lv 2 = some (.int (Int32.ofInt i2)) → x_lget lv 4 = some (.int (Int32.ofInt i4)) → Y o d 104 149 lv [] (q_y s) (fun s1 r1 => s1 = q_y s9 ∧ r1 = some (.int (Int32.ofInt r)))) ∧
    (∀ (d : Nat) (hd : 0 ≤ d) (s : Q_S) (r0 : Nat) (i1 : Int) (i2 : Int) (i3 : Int) (i4 : Int) (ti0 : Int) (s9 : Q_S) (r : Int), g_104 o n 4 s r0 i1 i2 i3 i4 ti0 = some (s9, r) → ∀ lv : X_L, x_lget lv 0 = some (.ref r0) → x_lget lv 1 = some (.int (Int32.ofInt i1)) → x_lget lv 2 = some (.int (Int32.ofInt i2)) → x_lget lv 4 = some (.int (Int32.ofInt i4)) → Y o d 104 150 lv [.int (Int32.ofInt ti0)] (q_y s) (fun s1 r1 => s1 = q_y s9 ∧ r1 = some (.int (Int32.ofInt r)))) ∧
    (∀ (d : Nat) (hd : 0 ≤ d) (s : Q_S) (r0 : Nat) (i1 : Int) (i2 : Int) (i3 : Int) (i4 : Int) (ti0 : Int) (s9 : Q_S) (r : Int), g_104 o n 5 s r0 i1 i2 i3 i4 ti0 = some (s9, r) → ∀ lv : X_L, x_lget lv 3 = some (.int (Int32.ofInt i3)) → Y o d 104 157 lv [] (q_y s) (fun s1 r1 => s1 = q_y s9 ∧ r1 = some (.int (Int32.ofInt r)))) := by
  intro n
  induction n with
  | zero => exact ⟨fun d hd s _ _ _ _ _ _ s9 r h => (by simp only [g_104] at h; cases h), fun d hd s _ _ _ _ _ _ s9 r h => (by simp only [g_104] at h; cases h), fun d hd s _ _ _ _ _ _ s9 r h => (by simp only [g_104] at h; cases h), fun d hd s _ _ _ _ _ _ s9 r h => (by simp only [g_104] at h; cases h), fun d hd s _ _ _ _ _ _ s9 r h => (by simp only [g_104] at h; cases h), fun d hd s _ _ _ _ _ _ s9 r h => (by simp only [g_104] at h; cases h)⟩
  | succ n ih =>
    refine ⟨?_, ?_, ?_, ?_, ?_, ?_⟩
    · intro d hd s r0 i1 i2 i3 i4 ti0 s9 r h lv lk0 lk1 lk2
      simp only [g_104] at h
      refine Van rfl lk0 rfl rfl ?_
      have hz := y_bind h
      clear h
      obtain ⟨v1, h2, h⟩ := hz
      have wv1 := (y_gv_ok h2).2
      refine Vgv h2 rfl rfl rfl ?_
      refine Vin rfl lk1 rfl ?_
      have hz := y_bind h
      clear h
      obtain ⟨v3, h4, h⟩ := hz
      refine Zia (q_ia_y h4) rfl rfl ?_
      refine Van rfl lk0 rfl rfl ?_
      have hz := y_bind h
      clear h
      obtain ⟨v5, h6, h⟩ := hz
      have wv5 := (y_gv_ok h6).2
      refine Vgv h6 rfl rfl rfl ?_
      refine Vin rfl lk2 rfl ?_
      have hz := y_bind h
      clear h
      obtain ⟨v7, h8, h⟩ := hz
      refine Zia (q_ia_y h8) rfl rfl ?_
      have hz := y_bind h
      clear h
      obtain ⟨_, h10, h⟩ := hz
      have c9 := q_g_ok h10
      refine Uif (not_congr (q_eq c9.1 c9.2)) rfl rfl rfl rfl rfl rfl rfl (fun c11 => ?_) (fun c11 => ?_)
      · rw [if_pos c11] at h
        refine Vic (v := Int32.ofInt 0) rfl rfl rfl ?_
        exact ih.2.1 _ hd _ _ _ _ _ _ _ _ _ h lv lk0 lk1 lk2
      · rw [if_neg c11] at h
        refine Vic (v := Int32.ofInt 1) rfl rfl rfl ?_
        refine Ygo rfl rfl rfl rfl rfl rfl ?_
        exact ih.2.1 _ hd _ _ _ _ _ _ _ _ _ h lv lk0 lk1 lk2
    · intro d hd s r0 i1 i2 i3 i4 ti0 s9 r h lv lk0 lk1 lk2
      simp only [g_104] at h
      refine Vsin rfl rfl (fun lv lk3 hk => ?_)
      have lk0 := hk 0 _ lk0 (by decide) (by decide) (Or.inl (by decide))
      have lk1 := hk 1 _ lk1 (by decide) (by decide) (Or.inl (by decide))
      have lk2 := hk 2 _ lk2 (by decide) (by decide) (Or.inr rfl)
      refine Vic (v := Int32.ofInt 0) rfl rfl rfl ?_
      refine Vsi rfl rfl (fun lv lk4 hk => ?_)
      have lk0 := hk 0 _ lk0 (by decide) (by decide) (Or.inl (by decide))
      have lk1 := hk 1 _ lk1 (by decide) (by decide) (Or.inl (by decide))
      have lk2 := hk 2 _ lk2 (by decide) (by decide) (Or.inl (by decide))
      have lk3 := hk 3 _ lk3 (by decide) (by decide) (Or.inr rfl)
      exact ih.2.2.1 _ hd _ _ _ _ _ _ _ _ _ h lv lk0 lk1 lk2 lk3 lk4
    · intro d hd s r0 i1 i2 i3 i4 ti0 s9 r h lv lk0 lk1 lk2 lk3 lk4
      simp only [g_104] at h
      refine Vi rfl lk4 rfl ?_
      refine Van rfl lk0 rfl rfl ?_
      have hz := y_bind h
      clear h
      obtain ⟨v1, h2, h⟩ := hz
      have wv1 := (y_gv_ok h2).2
      refine Vgv h2 rfl rfl rfl ?_
      refine Vin rfl lk1 rfl ?_
      have hz := y_bind h
      clear h
      obtain ⟨v3, h4, h⟩ := hz
      refine Zia (q_ia_y h4) rfl rfl ?_
      have hz := y_bind h
      clear h
      obtain ⟨_, h6, h⟩ := hz
      have c5 := q_g_ok h6
      refine Uif (q_le c5.2 c5.1) rfl rfl rfl rfl rfl rfl rfl (fun c7 => ?_) (fun c7 => ?_)
      · rw [if_pos c7] at h
        exact ih.2.2.2.2.2 _ hd _ _ _ _ _ _ _ _ _ h lv lk3
      · rw [if_neg c7] at h
        refine Vin rfl lk3 rfl ?_
        have hz := y_bind h
        clear h
        obtain ⟨_, h9, h⟩ := hz
        have c8 := q_g_ok h9
        refine Uif (q_eq0 c8) rfl rfl rfl rfl rfl rfl rfl (fun c10 => ?_) (fun c10 => ?_)
        · rw [if_pos c10] at h
          exact ih.2.2.2.2.2 _ hd _ _ _ _ _ _ _ _ _ h lv lk3
        · rw [if_neg c10] at h
          refine Vsp (v := Int32.ofInt 500) rfl (by decide) rfl ?_
          refine Vin rfl lk1 rfl ?_
          refine Umul rfl rfl ?_
          refine Vi rfl lk4 rfl ?_
          refine Uadd rfl rfl ?_
          refine Vsi rfl rfl (fun lv lk5 hk => ?_)
          have lk0 := hk 0 _ lk0 (by decide) (by decide) (Or.inl (by decide))
          have lk1 := hk 1 _ lk1 (by decide) (by decide) (Or.inl (by decide))
          have lk2 := hk 2 _ lk2 (by decide) (by decide) (Or.inl (by decide))
          have lk4 := hk 4 _ lk4 (by decide) (by decide) (Or.inr rfl)
          refine Vsp (v := Int32.ofInt 500) rfl (by decide) rfl ?_
          refine Vin rfl lk2 rfl ?_
          refine Umul rfl rfl ?_
          refine Vi rfl lk4 rfl ?_
          refine Uadd rfl rfl ?_
          refine Vsi rfl rfl (fun lv lk6 hk => ?_)
          have lk0 := hk 0 _ lk0 (by decide) (by decide) (Or.inl (by decide))
          have lk1 := hk 1 _ lk1 (by decide) (by decide) (Or.inl (by decide))
          have lk2 := hk 2 _ lk2 (by decide) (by decide) (Or.inl (by decide))
          have lk4 := hk 4 _ lk4 (by decide) (by decide) (Or.inl (by decide))
          have lk5 := hk 5 _ lk5 (by decide) (by decide) (Or.inr rfl)
          refine Van rfl lk0 rfl rfl ?_
          have hz := y_bind h
          clear h
          obtain ⟨v11, h12, h⟩ := hz
          have wv11 := (y_gv_ok h12).2
          refine Vgv h12 rfl rfl rfl ?_
          refine Vi rfl lk5 rfl ?_
          have hz := y_bind h
          clear h
          obtain ⟨v13, h14, h⟩ := hz
          refine Zia (q_ia_y h14) rfl rfl ?_
          refine Van rfl lk0 rfl rfl ?_
          have hz := y_bind h
          clear h
          obtain ⟨v15, h16, h⟩ := hz
          have wv15 := (y_gv_ok h16).2
          refine Vgv h16 rfl rfl rfl ?_
          refine Vi rfl lk6 rfl ?_
          have hz := y_bind h
          clear h
          obtain ⟨v17, h18, h⟩ := hz
          refine Zia (q_ia_y h18) rfl rfl ?_
          have hz := y_bind h
          clear h
          obtain ⟨_, h20, h⟩ := hz
          have c19 := q_g_ok h20
          refine Uif (not_congr (q_eq c19.1 c19.2)) rfl rfl rfl rfl rfl rfl rfl (fun c21 => ?_) (fun c21 => ?_)
          · rw [if_pos c21] at h
            exact ih.2.2.2.1 _ hd _ _ _ _ _ _ _ _ _ h lv lk0 lk1 lk2 lk4
          · rw [if_neg c21] at h
            refine Van rfl lk0 rfl rfl ?_
            have hz := y_bind h
            clear h
            obtain ⟨v22, h23, h⟩ := hz
            have wv22 := (y_gv_ok h23).2
            refine Vgv h23 rfl rfl rfl ?_
            refine Vi rfl lk5 rfl ?_
            have hz := y_bind h
            clear h
            obtain ⟨v24, h25, h⟩ := hz
            refine Zla (q_la_y h25) rfl rfl ?_
            refine Van rfl lk0 rfl rfl ?_
            have hz := y_bind h
            clear h
            obtain ⟨v26, h27, h⟩ := hz
            have wv26 := (y_gv_ok h27).2
            refine Vgv h27 rfl rfl rfl ?_
            refine Vi rfl lk6 rfl ?_
            have hz := y_bind h
            clear h
            obtain ⟨v28, h29, h⟩ := hz
            refine Zla (q_la_y h29) rfl rfl ?_
            refine Ya rfl rfl rfl ?_
            refine Uif (not_congr (lg_cmp_eq _ _)) rfl rfl rfl rfl rfl rfl rfl (fun c30 => ?_) (fun c30 => ?_)
            · rw [if_pos c30] at h
              exact ih.2.2.2.1 _ hd _ _ _ _ _ _ _ _ _ h lv lk0 lk1 lk2 lk4
            · rw [if_neg c30] at h
              refine Van rfl lk0 rfl rfl ?_
              have hz := y_bind h
              clear h
              obtain ⟨v31, h32, h⟩ := hz
              have wv31 := (y_gv_ok h32).2
              refine Vgv h32 rfl rfl rfl ?_
              refine Vi rfl lk5 rfl ?_
              have hz := y_bind h
              clear h
              obtain ⟨v33, h34, h⟩ := hz
              refine Zia (q_ia_y h34) rfl rfl ?_
              refine Van rfl lk0 rfl rfl ?_
              have hz := y_bind h
              clear h
              obtain ⟨v35, h36, h⟩ := hz
              have wv35 := (y_gv_ok h36).2
              refine Vgv h36 rfl rfl rfl ?_
              refine Vi rfl lk6 rfl ?_
              have hz := y_bind h
              clear h
              obtain ⟨v37, h38, h⟩ := hz
              refine Zia (q_ia_y h38) rfl rfl ?_
              have hz := y_bind h
              clear h
              obtain ⟨_, h40, h⟩ := hz
              have c39 := q_g_ok h40
              refine Uif (not_congr (q_eq c39.1 c39.2)) rfl rfl rfl rfl rfl rfl rfl (fun c41 => ?_) (fun c41 => ?_)
              · rw [if_pos c41] at h
                exact ih.2.2.2.1 _ hd _ _ _ _ _ _ _ _ _ h lv lk0 lk1 lk2 lk4
              · rw [if_neg c41] at h
                refine Van rfl lk0 rfl rfl ?_
                have hz := y_bind h
                clear h
                obtain ⟨v42, h43, h⟩ := hz
                have wv42 := (y_gv_ok h43).2
                refine Vgv h43 rfl rfl rfl ?_
                refine Vi rfl lk5 rfl ?_
                have hz := y_bind h
                clear h
                obtain ⟨v44, h45, h⟩ := hz
                refine Zia (q_ia_y h45) rfl rfl ?_
                refine Van rfl lk0 rfl rfl ?_
                have hz := y_bind h
                clear h
                obtain ⟨v46, h47, h⟩ := hz
                have wv46 := (y_gv_ok h47).2
                refine Vgv h47 rfl rfl rfl ?_
                refine Vi rfl lk6 rfl ?_
                have hz := y_bind h
                clear h
                obtain ⟨v48, h49, h⟩ := hz
                refine Zia (q_ia_y h49) rfl rfl ?_
                have hz := y_bind h
                clear h
                obtain ⟨_, h51, h⟩ := hz
                have c50 := q_g_ok h51
                refine Uif (not_congr (q_eq c50.1 c50.2)) rfl rfl rfl rfl rfl rfl rfl (fun c52 => ?_) (fun c52 => ?_)
                · rw [if_pos c52] at h
                  exact ih.2.2.2.1 _ hd _ _ _ _ _ _ _ _ _ h lv lk0 lk1 lk2 lk4
                · rw [if_neg c52] at h
                  refine Van rfl lk0 rfl rfl ?_
                  have hz := y_bind h
                  clear h
                  obtain ⟨v53, h54, h⟩ := hz
                  have wv53 := (y_gv_ok h54).2
                  refine Vgv h54 rfl rfl rfl ?_
                  refine Vi rfl lk5 rfl ?_
                  have hz := y_bind h
                  clear h
                  obtain ⟨v55, h56, h⟩ := hz
                  refine Zia (q_ia_y h56) rfl rfl ?_
                  refine Van rfl lk0 rfl rfl ?_
                  have hz := y_bind h
                  clear h
                  obtain ⟨v57, h58, h⟩ := hz
                  have wv57 := (y_gv_ok h58).2
                  refine Vgv h58 rfl rfl rfl ?_
                  refine Vi rfl lk6 rfl ?_
                  have hz := y_bind h
                  clear h
                  obtain ⟨v59, h60, h⟩ := hz
                  refine Zia (q_ia_y h60) rfl rfl ?_
                  have hz := y_bind h
                  clear h
                  obtain ⟨_, h62, h⟩ := hz
                  have c61 := q_g_ok h62
                  refine Uif (not_congr (q_eq c61.1 c61.2)) rfl rfl rfl rfl rfl rfl rfl (fun c63 => ?_) (fun c63 => ?_)
                  · rw [if_pos c63] at h
                    exact ih.2.2.2.1 _ hd _ _ _ _ _ _ _ _ _ h lv lk0 lk1 lk2 lk4
                  · rw [if_neg c63] at h
                    refine Vic (v := Int32.ofInt 1) rfl rfl rfl ?_
                    refine Ygo rfl rfl rfl rfl rfl rfl ?_
                    exact ih.2.2.2.2.1 _ hd _ _ _ _ _ _ _ _ _ h lv lk0 lk1 lk2 lk4
    · intro d hd s r0 i1 i2 i3 i4 ti0 s9 r h lv lk0 lk1 lk2 lk4
      simp only [g_104] at h
      refine Vic (v := Int32.ofInt 0) rfl rfl rfl ?_
      exact ih.2.2.2.2.1 _ hd _ _ _ _ _ _ _ _ _ h lv lk0 lk1 lk2 lk4
    · intro d hd s r0 i1 i2 i3 i4 ti0 s9 r h lv lk0 lk1 lk2 lk4
      simp only [g_104] at h
      refine Vsin rfl rfl (fun lv lk3 hk => ?_)
      have lk0 := hk 0 _ lk0 (by decide) (by decide) (Or.inl (by decide))
      have lk1 := hk 1 _ lk1 (by decide) (by decide) (Or.inl (by decide))
      have lk2 := hk 2 _ lk2 (by decide) (by decide) (Or.inr rfl)
      have lk4 := hk 4 _ lk4 (by decide) (by decide) (Or.inl (by decide))
      refine Uinc rfl lk4 rfl (fun lv lk4 hk => ?_)
      have lk0 := hk 0 _ lk0 (by decide) (by decide) (Or.inl (by decide))
      have lk1 := hk 1 _ lk1 (by decide) (by decide) (Or.inl (by decide))
      have lk2 := hk 2 _ lk2 (by decide) (by decide) (Or.inl (by decide))
      have lk3 := hk 3 _ lk3 (by decide) (by decide) (Or.inr rfl)
      refine Ygo rfl rfl rfl rfl rfl rfl ?_
      exact ih.2.2.1 _ hd _ _ _ _ _ _ _ _ _ h lv lk0 lk1 lk2 lk3 lk4
    · intro d hd s r0 i1 i2 i3 i4 ti0 s9 r h lv lk3
      simp only [g_104] at h
      refine Vin rfl lk3 rfl ?_
      have hz := y_bind h
      clear h
      obtain ⟨_, h2, h⟩ := hz
      have c1 := q_g_ok h2
      cases h
      exact Yret rfl rfl rfl rfl rfl rfl (if_pos (q_bool c1)) ⟨rfl, rfl⟩

/-- StepRowsModel.shared -/
def g_102 (o : X_O) : Nat → Nat → Q_S → Nat → Int → Int → Int → Option (Q_S × Int)
  | 0, _, _, _, _, _, _ => none
  | n + 1, 0, s, r0, i1, i2, ti0 => (q_pi s 7 (.ref r0) 0 0).bind fun s1 => (q_rcv s1 7 (.ref r0)).bind fun b7 => (g_103 o n 0 s1 b7 (i1) 0).bind fun q6 => (q_g (q_in q6.2)).bind fun _ => if q6.2 = 0 then g_102 o n 1 q6.1 0 0 0 0 else (q_rcv q6.1 7 (.ref r0)).bind fun b18 => (g_103 o n 0 q6.1 b18 (i2) 0).bind fun q17 => (q_g (q_in q17.2)).bind fun _ => if q17.2 = 0 then g_102 o n 1 q17.1 0 0 0 0 else (q_rcv q17.1 7 (.ref r0)).bind fun b29 => (g_104 o n 0 q17.1 b29 (i1) (i2) 0 0 0).bind fun q28 => (q_g (q_in q28.2)).bind fun _ => if q28.2 = 0 then g_102 o n 1 q28.1 0 0 0 0 else g_102 o n 2 q28.1 0 0 0 (1)
  | n + 1, 1, s, r0, i1, i2, ti0 => g_102 o n 2 s 0 0 0 (0)
  | n + 1, 2, s, r0, i1, i2, ti0 => (q_g (ti0 = 0 ∨ ti0 = 1)).bind fun _ => some (s, ti0)
  | _ + 1, _, _, _, _, _, _ => none
set_option maxRecDepth 100000 in
set_option maxHeartbeats 4000000 in
theorem c_102 (o : X_O) : ∀ n, (∀ (d : Nat) (hd : 1 ≤ d) (s : Q_S) (r0 : Nat) (i1 : Int) (i2 : Int) (ti0 : Int) (s9 : Q_S) (r : Int), g_102 o n 0 s r0 i1 i2 ti0 = some (s9, r) → ∀ lv : X_L, x_lget lv 0 = some (.ref r0) → x_lget lv 1 = some (.int (Int32.ofInt i1)) → x_lget lv 2 = some (.int (Int32.ofInt i2)) → Y o d 102 0 lv [] (q_y s) (fun s1 r1 => s1 = q_y s9 ∧ r1 = some (.int (Int32.ofInt r)))) ∧
    (∀ (d : Nat) (hd : 1 ≤ d) (s : Q_S) (r0 : Nat) (i1 : Int) (i2 : Int) (ti0 : Int) (s9 : Q_S) (r : Int), g_102 o n 1 s r0 i1 i2 ti0 = some (s9, r) → ∀ lv : X_L, True → Y o d 102 34 lv [] (q_y s) (fun s1 r1 => s1 = q_y s9 ∧ r1 = some (.int (Int32.ofInt r)))) ∧
    (∀ (d : Nat) (hd : 1 ≤ d) (s : Q_S) (r0 : Nat) (i1 : Int) (i2 : Int) (ti0 : Int) (s9 : Q_S) (r : Int), g_102 o n 2 s r0 i1 i2 ti0 = some (s9, r) → ∀ lv : X_L, True → Y o d 102 35 lv [.int (Int32.ofInt ti0)] (q_y s) (fun s1 r1 => s1 = q_y s9 ∧ r1 = some (.int (Int32.ofInt r)))) := by
  intro n
  induction n with
  | zero => exact ⟨fun d hd s _ _ _ _ s9 r h => (by simp only [g_102] at h; cases h), fun d hd s _ _ _ _ s9 r h => (by simp only [g_102] at h; cases h), fun d hd s _ _ _ _ s9 r h => (by simp only [g_102] at h; cases h)⟩
  | succ n ih =>
    refine ⟨?_, ?_, ?_⟩
    · intro d hd s r0 i1 i2 ti0 s9 r h lv lk0 lk1 lk2
      obtain ⟨d, rfl⟩ : ∃ x, d = x + 1 := ⟨d - 1, by omega⟩
      simp only [g_102] at h
      refine Van rfl lk0 rfl rfl ?_
      refine Vic (v := Int32.ofInt 0) rfl rfl rfl ?_
      have hz := y_bind h
      clear h
      obtain ⟨s1, h2, h⟩ := hz
      refine Zpi (q_pi_y h2) rfl rfl rfl rfl ?_
      refine Van rfl lk0 rfl rfl ?_
      refine Vin rfl lk1 rfl ?_
      have hz := y_bind h
      clear h
      obtain ⟨b7, h8, h⟩ := hz
      obtain ⟨eh8, fh8, wh8⟩ := y_rcv_ok h8
      cases eh8
      have hz := y_bind h
      clear h
      obtain ⟨⟨s3, r4⟩, h5, h⟩ := hz
      try dsimp only at h
      refine Vcv rfl rfl rfl wh8 rfl rfl ⟨(Nat.le_of_ble_eq_true rfl), (Nat.le_of_ble_eq_true rfl)⟩ rfl ((c_103 o n).1 _ (by omega) _ _ _ _ _ _ h5 _ rfl rfl) (fun z1 z2 zq => ?_)
      obtain ⟨rfl, rfl⟩ := zq
      try dsimp only [Option.toList, HAppend.hAppend, Append.append, List.append]
      have hz := y_bind h
      clear h
      obtain ⟨_, h12, h⟩ := hz
      have c11 := q_g_ok h12
      refine Uif (q_eq0 c11) rfl rfl rfl rfl rfl rfl rfl (fun c13 => ?_) (fun c13 => ?_)
      · rw [if_pos c13] at h
        exact ih.2.1 _ hd _ _ _ _ _ _ _ h lv trivial
      · rw [if_neg c13] at h
        refine Van rfl lk0 rfl rfl ?_
        refine Vin rfl lk2 rfl ?_
        have hz := y_bind h
        clear h
        obtain ⟨b18, h19, h⟩ := hz
        obtain ⟨eh19, fh19, wh19⟩ := y_rcv_ok h19
        cases eh19
        have hz := y_bind h
        clear h
        obtain ⟨⟨s14, r15⟩, h16, h⟩ := hz
        try dsimp only at h
        refine Vcv rfl rfl rfl wh19 rfl rfl ⟨(Nat.le_of_ble_eq_true rfl), (Nat.le_of_ble_eq_true rfl)⟩ rfl ((c_103 o n).1 _ (by omega) _ _ _ _ _ _ h16 _ rfl rfl) (fun z1 z2 zq => ?_)
        obtain ⟨rfl, rfl⟩ := zq
        try dsimp only [Option.toList, HAppend.hAppend, Append.append, List.append]
        have hz := y_bind h
        clear h
        obtain ⟨_, h23, h⟩ := hz
        have c22 := q_g_ok h23
        refine Uif (q_eq0 c22) rfl rfl rfl rfl rfl rfl rfl (fun c24 => ?_) (fun c24 => ?_)
        · rw [if_pos c24] at h
          exact ih.2.1 _ hd _ _ _ _ _ _ _ h lv trivial
        · rw [if_neg c24] at h
          refine Van rfl lk0 rfl rfl ?_
          refine Vin rfl lk1 rfl ?_
          refine Vin rfl lk2 rfl ?_
          have hz := y_bind h
          clear h
          obtain ⟨b29, h30, h⟩ := hz
          obtain ⟨eh30, fh30, wh30⟩ := y_rcv_ok h30
          cases eh30
          have hz := y_bind h
          clear h
          obtain ⟨⟨s25, r26⟩, h27, h⟩ := hz
          try dsimp only at h
          refine Vcv rfl rfl rfl wh30 rfl rfl ⟨(Nat.le_of_ble_eq_true rfl), (Nat.le_of_ble_eq_true rfl)⟩ rfl ((c_104 o n).1 _ (by omega) _ _ _ _ _ _ _ _ _ h27 _ rfl rfl rfl) (fun z1 z2 zq => ?_)
          obtain ⟨rfl, rfl⟩ := zq
          try dsimp only [Option.toList, HAppend.hAppend, Append.append, List.append]
          have hz := y_bind h
          clear h
          obtain ⟨_, h34, h⟩ := hz
          have c33 := q_g_ok h34
          refine Uif (q_eq0 c33) rfl rfl rfl rfl rfl rfl rfl (fun c35 => ?_) (fun c35 => ?_)
          · rw [if_pos c35] at h
            exact ih.2.1 _ hd _ _ _ _ _ _ _ h lv trivial
          · rw [if_neg c35] at h
            refine Vic (v := Int32.ofInt 1) rfl rfl rfl ?_
            refine Ygo rfl rfl rfl rfl rfl rfl ?_
            exact ih.2.2 _ hd _ _ _ _ _ _ _ h lv trivial
    · intro d hd s r0 i1 i2 ti0 s9 r h lv _
      obtain ⟨d, rfl⟩ : ∃ x, d = x + 1 := ⟨d - 1, by omega⟩
      simp only [g_102] at h
      refine Vic (v := Int32.ofInt 0) rfl rfl rfl ?_
      exact ih.2.2 _ hd _ _ _ _ _ _ _ h lv trivial
    · intro d hd s r0 i1 i2 ti0 s9 r h lv _
      obtain ⟨d, rfl⟩ : ∃ x, d = x + 1 := ⟨d - 1, by omega⟩
      simp only [g_102] at h
      have hz := y_bind h
      clear h
      obtain ⟨_, h2, h⟩ := hz
      have c1 := q_g_ok h2
      cases h
      exact Yret rfl rfl rfl rfl rfl rfl (if_pos (q_bool c1)) ⟨rfl, rfl⟩

/-- StepRowsModel.signal -/
def g_105 (o : X_O) : Nat → Nat → Q_S → Nat → Int → Int64 → Option (Q_S × Int)
  | 0, _, _, _, _, _ => none
  | n + 1, 0, s, r0, i1, l2 => (q_pi s 7 (.ref r0) 0 0).bind fun s1 => (q_g (q_in i1)).bind fun _ => if i1 < 0 then g_105 o n 1 s1 0 0 0 else (q_g (q_in i1)).bind fun _ => if i1 ≤ 15 then (q_gv s1 7 (.ref r0) 7).bind fun v9 => (q_ls s1 v9 i1 l2).bind fun s11 => some (s11, 1) else g_105 o n 1 s1 0 0 0
  | n + 1, 1, s, r0, i1, l2 => some (s, 0)
  | _ + 1, _, _, _, _, _ => none
set_option maxRecDepth 100000 in
set_option maxHeartbeats 4000000 in
theorem c_105 (o : X_O) : ∀ n, (∀ (d : Nat) (hd : 0 ≤ d) (s : Q_S) (r0 : Nat) (i1 : Int) (l2 : Int64) (s9 : Q_S) (r : Int), g_105 o n 0 s r0 i1 l2 = some (s9, r) → ∀ lv : X_L, x_lget lv 0 = some (.ref r0) → x_lget lv 1 = some (.int (Int32.ofInt i1)) → x_lget lv 2 = some (.long l2) → Y o d 105 0 lv [] (q_y s) (fun s1 r1 => s1 = q_y s9 ∧ r1 = some (.int (Int32.ofInt r)))) ∧
    (∀ (d : Nat) (hd : 0 ≤ d) (s : Q_S) (r0 : Nat) (i1 : Int) (l2 : Int64) (s9 : Q_S) (r : Int), g_105 o n 1 s r0 i1 l2 = some (s9, r) → ∀ lv : X_L, True → Y o d 105 15 lv [] (q_y s) (fun s1 r1 => s1 = q_y s9 ∧ r1 = some (.int (Int32.ofInt r)))) := by
  intro n
  induction n with
  | zero => exact ⟨fun d hd s _ _ _ s9 r h => (by simp only [g_105] at h; cases h), fun d hd s _ _ _ s9 r h => (by simp only [g_105] at h; cases h)⟩
  | succ n ih =>
    refine ⟨?_, ?_⟩
    · intro d hd s r0 i1 l2 s9 r h lv lk0 lk1 lk2
      simp only [g_105] at h
      refine Van rfl lk0 rfl rfl ?_
      refine Vic (v := Int32.ofInt 0) rfl rfl rfl ?_
      have hz := y_bind h
      clear h
      obtain ⟨s1, h2, h⟩ := hz
      refine Zpi (q_pi_y h2) rfl rfl rfl rfl ?_
      refine Vin rfl lk1 rfl ?_
      have hz := y_bind h
      clear h
      obtain ⟨_, h4, h⟩ := hz
      have c3 := q_g_ok h4
      refine Uif (q_lt0 c3) rfl rfl rfl rfl rfl rfl rfl (fun c5 => ?_) (fun c5 => ?_)
      · rw [if_pos c5] at h
        exact ih.2 _ hd _ _ _ _ _ _ h lv trivial
      · rw [if_neg c5] at h
        refine Vin rfl lk1 rfl ?_
        refine Vbp (v := Int32.ofInt 15) rfl (by decide) rfl ?_
        have hz := y_bind h
        clear h
        obtain ⟨_, h7, h⟩ := hz
        have c6 := q_g_ok h7
        refine Uif (q_le c6 (by decide)) rfl rfl rfl rfl rfl rfl rfl (fun c8 => ?_) (fun c8 => ?_)
        · rw [if_pos c8] at h
          refine Van rfl lk0 rfl rfl ?_
          have hz := y_bind h
          clear h
          obtain ⟨v9, h10, h⟩ := hz
          have wv9 := (y_gv_ok h10).2
          refine Vgv h10 rfl rfl rfl ?_
          refine Vin rfl lk1 rfl ?_
          refine Vln rfl lk2 rfl ?_
          have hz := y_bind h
          clear h
          obtain ⟨s11, h12, h⟩ := hz
          refine Zls (q_ls_y h12) rfl rfl ?_
          refine Vic (v := Int32.ofInt 1) rfl rfl rfl ?_
          cases h
          exact Yret rfl rfl rfl rfl rfl rfl rfl ⟨rfl, rfl⟩
        · rw [if_neg c8] at h
          exact ih.2 _ hd _ _ _ _ _ _ h lv trivial
    · intro d hd s r0 i1 l2 s9 r h lv _
      simp only [g_105] at h
      refine Vic (v := Int32.ofInt 0) rfl rfl rfl ?_
      cases h
      exact Yret rfl rfl rfl rfl rfl rfl rfl ⟨rfl, rfl⟩

/-- StepRowsModel.branch -/
def g_107 (o : X_O) : Nat → Nat → Q_S → Nat → Int → Int → Int → Option (Q_S × Int)
  | 0, _, _, _, _, _, _ => none
  | n + 1, 0, s, r0, i1, i2, i3 => g_107 o n 1 s r0 (i1) (i2) (0)
  | n + 1, 1, s, r0, i1, i2, i3 => (q_gv s 7 (.ref r0) 44).bind fun v1 => (q_ba s v1 i3).bind fun v3 => (q_g (q_in v3)).bind fun _ => if v3 = 0 then (q_gv s 7 (.ref r0) 44).bind fun v8 => (q_bs s v8 i3 1).bind fun s10 => (q_gv s10 7 (.ref r0) 37).bind fun v12 => (q_is s10 v12 i3 2).bind fun s14 => (q_gv s14 7 (.ref r0) 38).bind fun v16 => (q_is s14 v16 i3 i2).bind fun s18 => (q_gv s18 7 (.ref r0) 39).bind fun v20 => (q_is s18 v20 i3 i1).bind fun s22 => some (s22, i3) else g_107 o n 1 s r0 (i1) (i2) ((i3 + 1))
  | _ + 1, _, _, _, _, _, _ => none
set_option maxRecDepth 100000 in
set_option maxHeartbeats 4000000 in
theorem c_107 (o : X_O) : ∀ n, (∀ (d : Nat) (hd : 0 ≤ d) (s : Q_S) (r0 : Nat) (i1 : Int) (i2 : Int) (i3 : Int) (s9 : Q_S) (r : Int), g_107 o n 0 s r0 i1 i2 i3 = some (s9, r) → ∀ lv : X_L, x_lget lv 0 = some (.ref r0) → x_lget lv 1 = some (.int (Int32.ofInt i1)) → x_lget lv 2 = some (.int (Int32.ofInt i2)) → Y o d 107 0 lv [] (q_y s) (fun s1 r1 => s1 = q_y s9 ∧ r1 = some (.int (Int32.ofInt r)))) ∧
    (∀ (d : Nat) (hd : 0 ≤ d) (s : Q_S) (r0 : Nat) (i1 : Int) (i2 : Int) (i3 : Int) (s9 : Q_S) (r : Int), g_107 o n 1 s r0 i1 i2 i3 = some (s9, r) → ∀ lv : X_L, x_lget lv 0 = some (.ref r0) → x_lget lv 1 = some (.int (Int32.ofInt i1)) → x_lget lv 2 = some (.int (Int32.ofInt i2)) → x_lget lv 3 = some (.int (Int32.ofInt i3)) → Y o d 107 2 lv [] (q_y s) (fun s1 r1 => s1 = q_y s9 ∧ r1 = some (.int (Int32.ofInt r)))) := by
  intro n
  induction n with
  | zero => exact ⟨fun d hd s _ _ _ _ s9 r h => (by simp only [g_107] at h; cases h), fun d hd s _ _ _ _ s9 r h => (by simp only [g_107] at h; cases h)⟩
  | succ n ih =>
    refine ⟨?_, ?_⟩
    · intro d hd s r0 i1 i2 i3 s9 r h lv lk0 lk1 lk2
      simp only [g_107] at h
      refine Vic (v := Int32.ofInt 0) rfl rfl rfl ?_
      refine Vsin rfl rfl (fun lv lk3 hk => ?_)
      have lk0 := hk 0 _ lk0 (by decide) (by decide) (Or.inl (by decide))
      have lk1 := hk 1 _ lk1 (by decide) (by decide) (Or.inl (by decide))
      have lk2 := hk 2 _ lk2 (by decide) (by decide) (Or.inr rfl)
      exact ih.2 _ hd _ _ _ _ _ _ _ h lv lk0 lk1 lk2 lk3
    · intro d hd s r0 i1 i2 i3 s9 r h lv lk0 lk1 lk2 lk3
      simp only [g_107] at h
      refine Van rfl lk0 rfl rfl ?_
      have hz := y_bind h
      clear h
      obtain ⟨v1, h2, h⟩ := hz
      have wv1 := (y_gv_ok h2).2
      refine Vgv h2 rfl rfl rfl ?_
      refine Vin rfl lk3 rfl ?_
      have hz := y_bind h
      clear h
      obtain ⟨v3, h4, h⟩ := hz
      refine Zba (q_ba_y h4) rfl rfl ?_
      have hz := y_bind h
      clear h
      obtain ⟨_, h6, h⟩ := hz
      have c5 := q_g_ok h6
      refine Uif (q_eq0 c5) rfl rfl rfl rfl rfl rfl rfl (fun c7 => ?_) (fun c7 => ?_)
      · rw [if_pos c7] at h
        refine Van rfl lk0 rfl rfl ?_
        have hz := y_bind h
        clear h
        obtain ⟨v8, h9, h⟩ := hz
        have wv8 := (y_gv_ok h9).2
        refine Vgv h9 rfl rfl rfl ?_
        refine Vin rfl lk3 rfl ?_
        refine Vic (v := Int32.ofInt 1) rfl rfl rfl ?_
        have hz := y_bind h
        clear h
        obtain ⟨s10, h11, h⟩ := hz
        refine Zbs (q_bs_y h11) rfl rfl ?_
        refine Van rfl lk0 rfl rfl ?_
        have hz := y_bind h
        clear h
        obtain ⟨v12, h13, h⟩ := hz
        have wv12 := (y_gv_ok h13).2
        refine Vgv h13 rfl rfl rfl ?_
        refine Vin rfl lk3 rfl ?_
        refine Vic (v := Int32.ofInt 2) rfl rfl rfl ?_
        have hz := y_bind h
        clear h
        obtain ⟨s14, h15, h⟩ := hz
        refine Zis (q_is_y h15) rfl rfl ?_
        refine Van rfl lk0 rfl rfl ?_
        have hz := y_bind h
        clear h
        obtain ⟨v16, h17, h⟩ := hz
        have wv16 := (y_gv_ok h17).2
        refine Vgv h17 rfl rfl rfl ?_
        refine Vin rfl lk3 rfl ?_
        refine Vin rfl lk2 rfl ?_
        have hz := y_bind h
        clear h
        obtain ⟨s18, h19, h⟩ := hz
        refine Zis (q_is_y h19) rfl rfl ?_
        refine Van rfl lk0 rfl rfl ?_
        have hz := y_bind h
        clear h
        obtain ⟨v20, h21, h⟩ := hz
        have wv20 := (y_gv_ok h21).2
        refine Vgv h21 rfl rfl rfl ?_
        refine Vin rfl lk3 rfl ?_
        refine Vin rfl lk1 rfl ?_
        have hz := y_bind h
        clear h
        obtain ⟨s22, h23, h⟩ := hz
        refine Zis (q_is_y h23) rfl rfl ?_
        refine Vin rfl lk3 rfl ?_
        cases h
        exact Yret rfl rfl rfl rfl rfl rfl rfl ⟨rfl, rfl⟩
      · rw [if_neg c7] at h
        refine Uinc rfl lk3 rfl (fun lv lk3 hk => ?_)
        have lk0 := hk 0 _ lk0 (by decide) (by decide) (Or.inl (by decide))
        have lk1 := hk 1 _ lk1 (by decide) (by decide) (Or.inl (by decide))
        have lk2 := hk 2 _ lk2 (by decide) (by decide) (Or.inr rfl)
        refine Ygo rfl rfl rfl rfl rfl rfl ?_
        exact ih.2 _ hd _ _ _ _ _ _ _ h lv lk0 lk1 lk2 lk3

/-- StepRowsModel.start -/
def g_106 (o : X_O) : Nat → Nat → Q_S → Nat → Int → Int → Option (Q_S × Int)
  | 0, _, _, _, _, _ => none
  | n + 1, 0, s, r0, i1, i2 => (q_pi s 7 (.ref r0) 0 0).bind fun s1 => (q_rcv s1 7 (.ref r0)).bind fun b7 => (g_103 o n 0 s1 b7 (i1) 0).bind fun q6 => (q_g (q_in q6.2)).bind fun _ => if ¬ q6.2 = 0 then (q_pi q6.1 7 (.ref r0) 18 i1).bind fun s14 => (q_pi s14 7 (.ref r0) 17 1).bind fun s16 => (q_pi s16 7 (.ref r0) 19 0).bind fun s18 => (q_pi s18 7 (.ref r0) 20 0).bind fun s20 => (q_pi s20 7 (.ref r0) 21 (-1)).bind fun s22 => (q_pi s22 7 (.ref r0) 22 0).bind fun s24 => (q_pz s24 7 (.ref r0) 47 0).bind fun s26 => (q_pi s26 7 (.ref r0) 45 0).bind fun s28 => g_106 o n 1 s28 r0 0 (0) else some (q6.1, (-1))
  | n + 1, 1, s, r0, i1, i2 => (q_g (q_in i2)).bind fun _ => if 16 ≤ i2 then g_106 o n 2 s r0 0 (0) else (q_gv s 7 (.ref r0) 27).bind fun v4 => (q_ls s v4 i2 0).bind fun s6 => g_106 o n 1 s6 r0 0 ((i2 + 1))
  | n + 1, 2, s, r0, i1, i2 => (q_g (q_in i2)).bind fun _ => if 8 ≤ i2 then g_106 o n 3 s r0 0 (0) else (q_gv s 7 (.ref r0) 26).bind fun v4 => (q_ls s v4 i2 0).bind fun s6 => (q_gv s6 7 (.ref r0) 28).bind fun v8 => (q_is s6 v8 i2 (-1)).bind fun s10 => g_106 o n 2 s10 r0 0 ((i2 + 1))
  | n + 1, 3, s, r0, i1, i2 => (q_g (q_in i2)).bind fun _ => if 6144 ≤ i2 then g_106 o n 4 s r0 0 (0) else (q_gv s 7 (.ref r0) 35).bind fun v4 => (q_bs s v4 i2 0).bind fun s6 => g_106 o n 3 s6 r0 0 ((i2 + 1))
  | n + 1, 4, s, r0, i1, i2 => (q_g (q_in i2)).bind fun _ => if 104 ≤ i2 then (q_rcv s 7 (.ref r0)).bind fun b8 => (g_107 o n 0 s b8 ((-1)) (0) 0).bind fun q7 => some (q7.1, 0) else (q_gv s 7 (.ref r0) 44).bind fun v12 => (q_bs s v12 i2 0).bind fun s14 => g_106 o n 4 s14 r0 0 ((i2 + 1))
  | _ + 1, _, _, _, _, _ => none
set_option maxRecDepth 100000 in
set_option maxHeartbeats 4000000 in
theorem c_106 (o : X_O) : ∀ n, (∀ (d : Nat) (hd : 1 ≤ d) (s : Q_S) (r0 : Nat) (i1 : Int) (i2 : Int) (s9 : Q_S) (r : Int), g_106 o n 0 s r0 i1 i2 = some (s9, r) → ∀ lv : X_L, x_lget lv 0 = some (.ref r0) → x_lget lv 1 = some (.int (Int32.ofInt i1)) → Y o d 106 0 lv [] (q_y s) (fun s1 r1 => s1 = q_y s9 ∧ r1 = some (.int (Int32.ofInt r)))) ∧
    (∀ (d : Nat) (hd : 1 ≤ d) (s : Q_S) (r0 : Nat) (i1 : Int) (i2 : Int) (s9 : Q_S) (r : Int), g_106 o n 1 s r0 i1 i2 = some (s9, r) → ∀ lv : X_L, x_lget lv 0 = some (.ref r0) → x_lget lv 2 = some (.int (Int32.ofInt i2)) → Y o d 106 57 lv [] (q_y s) (fun s1 r1 => s1 = q_y s9 ∧ r1 = some (.int (Int32.ofInt r)))) ∧
    (∀ (d : Nat) (hd : 1 ≤ d) (s : Q_S) (r0 : Nat) (i1 : Int) (i2 : Int) (s9 : Q_S) (r : Int), g_106 o n 2 s r0 i1 i2 = some (s9, r) → ∀ lv : X_L, x_lget lv 0 = some (.ref r0) → x_lget lv 2 = some (.int (Int32.ofInt i2)) → Y o d 106 78 lv [] (q_y s) (fun s1 r1 => s1 = q_y s9 ∧ r1 = some (.int (Int32.ofInt r)))) ∧
    (∀ (d : Nat) (hd : 1 ≤ d) (s : Q_S) (r0 : Nat) (i1 : Int) (i2 : Int) (s9 : Q_S) (r : Int), g_106 o n 3 s r0 i1 i2 = some (s9, r) → ∀ lv : X_L, x_lget lv 0 = some (.ref r0) → x_lget lv 2 = some (.int (Int32.ofInt i2)) → Y o d 106 106 lv [] (q_y s) (fun s1 r1 => s1 = q_y s9 ∧ r1 = some (.int (Int32.ofInt r)))) ∧
    (∀ (d : Nat) (hd : 1 ≤ d) (s : Q_S) (r0 : Nat) (i1 : Int) (i2 : Int) (s9 : Q_S) (r : Int), g_106 o n 4 s r0 i1 i2 = some (s9, r) → ∀ lv : X_L, x_lget lv 0 = some (.ref r0) → x_lget lv 2 = some (.int (Int32.ofInt i2)) → Y o d 106 128 lv [] (q_y s) (fun s1 r1 => s1 = q_y s9 ∧ r1 = some (.int (Int32.ofInt r)))) := by
  intro n
  induction n with
  | zero => exact ⟨fun d hd s _ _ _ s9 r h => (by simp only [g_106] at h; cases h), fun d hd s _ _ _ s9 r h => (by simp only [g_106] at h; cases h), fun d hd s _ _ _ s9 r h => (by simp only [g_106] at h; cases h), fun d hd s _ _ _ s9 r h => (by simp only [g_106] at h; cases h), fun d hd s _ _ _ s9 r h => (by simp only [g_106] at h; cases h)⟩
  | succ n ih =>
    refine ⟨?_, ?_, ?_, ?_, ?_⟩
    · intro d hd s r0 i1 i2 s9 r h lv lk0 lk1
      obtain ⟨d, rfl⟩ : ∃ x, d = x + 1 := ⟨d - 1, by omega⟩
      simp only [g_106] at h
      refine Van rfl lk0 rfl rfl ?_
      refine Vic (v := Int32.ofInt 0) rfl rfl rfl ?_
      have hz := y_bind h
      clear h
      obtain ⟨s1, h2, h⟩ := hz
      refine Zpi (q_pi_y h2) rfl rfl rfl rfl ?_
      refine Van rfl lk0 rfl rfl ?_
      refine Vin rfl lk1 rfl ?_
      have hz := y_bind h
      clear h
      obtain ⟨b7, h8, h⟩ := hz
      obtain ⟨eh8, fh8, wh8⟩ := y_rcv_ok h8
      cases eh8
      have hz := y_bind h
      clear h
      obtain ⟨⟨s3, r4⟩, h5, h⟩ := hz
      try dsimp only at h
      refine Vcv rfl rfl rfl wh8 rfl rfl ⟨(Nat.le_of_ble_eq_true rfl), (Nat.le_of_ble_eq_true rfl)⟩ rfl ((c_103 o n).1 _ (by omega) _ _ _ _ _ _ h5 _ rfl rfl) (fun z1 z2 zq => ?_)
      obtain ⟨rfl, rfl⟩ := zq
      try dsimp only [Option.toList, HAppend.hAppend, Append.append, List.append]
      have hz := y_bind h
      clear h
      obtain ⟨_, h12, h⟩ := hz
      have c11 := q_g_ok h12
      refine Uif (not_congr (q_eq0 c11)) rfl rfl rfl rfl rfl rfl rfl (fun c13 => ?_) (fun c13 => ?_)
      · rw [if_pos c13] at h
        refine Van rfl lk0 rfl rfl ?_
        refine Vin rfl lk1 rfl ?_
        have hz := y_bind h
        clear h
        obtain ⟨s14, h15, h⟩ := hz
        refine Zpi (q_pi_y h15) rfl rfl rfl rfl ?_
        refine Van rfl lk0 rfl rfl ?_
        refine Vic (v := Int32.ofInt 1) rfl rfl rfl ?_
        have hz := y_bind h
        clear h
        obtain ⟨s16, h17, h⟩ := hz
        refine Zpi (q_pi_y h17) rfl rfl rfl rfl ?_
        refine Van rfl lk0 rfl rfl ?_
        refine Vic (v := Int32.ofInt 0) rfl rfl rfl ?_
        have hz := y_bind h
        clear h
        obtain ⟨s18, h19, h⟩ := hz
        refine Zpi (q_pi_y h19) rfl rfl rfl rfl ?_
        refine Van rfl lk0 rfl rfl ?_
        refine Vic (v := Int32.ofInt 0) rfl rfl rfl ?_
        have hz := y_bind h
        clear h
        obtain ⟨s20, h21, h⟩ := hz
        refine Zpi (q_pi_y h21) rfl rfl rfl rfl ?_
        refine Van rfl lk0 rfl rfl ?_
        refine Vic (v := Int32.ofInt (-1)) rfl rfl rfl ?_
        have hz := y_bind h
        clear h
        obtain ⟨s22, h23, h⟩ := hz
        refine Zpi (q_pi_y h23) rfl rfl rfl rfl ?_
        refine Van rfl lk0 rfl rfl ?_
        refine Vic (v := Int32.ofInt 0) rfl rfl rfl ?_
        have hz := y_bind h
        clear h
        obtain ⟨s24, h25, h⟩ := hz
        refine Zpi (q_pi_y h25) rfl rfl rfl rfl ?_
        refine Van rfl lk0 rfl rfl ?_
        refine Vic (v := Int32.ofInt 0) rfl rfl rfl ?_
        have hz := y_bind h
        clear h
        obtain ⟨s26, h27, h⟩ := hz
        refine Zpi (q_pz_y h27) rfl rfl rfl rfl ?_
        refine Van rfl lk0 rfl rfl ?_
        refine Vic (v := Int32.ofInt 0) rfl rfl rfl ?_
        have hz := y_bind h
        clear h
        obtain ⟨s28, h29, h⟩ := hz
        refine Zpi (q_pi_y h29) rfl rfl rfl rfl ?_
        refine Vic (v := Int32.ofInt 0) rfl rfl rfl ?_
        refine Vsin rfl rfl (fun lv lk2 hk => ?_)
        have lk0 := hk 0 _ lk0 (by decide) (by decide) (Or.inl (by decide))
        exact ih.2.1 _ hd _ _ _ _ _ _ h lv lk0 lk2
      · rw [if_neg c13] at h
        refine Vic (v := Int32.ofInt (-1)) rfl rfl rfl ?_
        cases h
        exact Yret rfl rfl rfl rfl rfl rfl rfl ⟨rfl, rfl⟩
    · intro d hd s r0 i1 i2 s9 r h lv lk0 lk2
      obtain ⟨d, rfl⟩ : ∃ x, d = x + 1 := ⟨d - 1, by omega⟩
      simp only [g_106] at h
      refine Vin rfl lk2 rfl ?_
      refine Vbp (v := Int32.ofInt 16) rfl (by decide) rfl ?_
      have hz := y_bind h
      clear h
      obtain ⟨_, h2, h⟩ := hz
      have c1 := q_g_ok h2
      refine Uif (q_le (by decide) c1) rfl rfl rfl rfl rfl rfl rfl (fun c3 => ?_) (fun c3 => ?_)
      · rw [if_pos c3] at h
        refine Vic (v := Int32.ofInt 0) rfl rfl rfl ?_
        refine Vsin rfl rfl (fun lv lk2 hk => ?_)
        have lk0 := hk 0 _ lk0 (by decide) (by decide) (Or.inl (by decide))
        exact ih.2.2.1 _ hd _ _ _ _ _ _ h lv lk0 lk2
      · rw [if_neg c3] at h
        refine Van rfl lk0 rfl rfl ?_
        have hz := y_bind h
        clear h
        obtain ⟨v4, h5, h⟩ := hz
        have wv4 := (y_gv_ok h5).2
        refine Vgv h5 rfl rfl rfl ?_
        refine Vin rfl lk2 rfl ?_
        refine Vlc (v := 0) rfl (by decide) rfl ?_
        have hz := y_bind h
        clear h
        obtain ⟨s6, h7, h⟩ := hz
        refine Zls (q_ls_y h7) rfl rfl ?_
        refine Uinc rfl lk2 rfl (fun lv lk2 hk => ?_)
        have lk0 := hk 0 _ lk0 (by decide) (by decide) (Or.inl (by decide))
        refine Ygo rfl rfl rfl rfl rfl rfl ?_
        exact ih.2.1 _ hd _ _ _ _ _ _ h lv lk0 lk2
    · intro d hd s r0 i1 i2 s9 r h lv lk0 lk2
      obtain ⟨d, rfl⟩ : ∃ x, d = x + 1 := ⟨d - 1, by omega⟩
      simp only [g_106] at h
      refine Vin rfl lk2 rfl ?_
      refine Vbp (v := Int32.ofInt 8) rfl (by decide) rfl ?_
      have hz := y_bind h
      clear h
      obtain ⟨_, h2, h⟩ := hz
      have c1 := q_g_ok h2
      refine Uif (q_le (by decide) c1) rfl rfl rfl rfl rfl rfl rfl (fun c3 => ?_) (fun c3 => ?_)
      · rw [if_pos c3] at h
        refine Vic (v := Int32.ofInt 0) rfl rfl rfl ?_
        refine Vsin rfl rfl (fun lv lk2 hk => ?_)
        have lk0 := hk 0 _ lk0 (by decide) (by decide) (Or.inl (by decide))
        exact ih.2.2.2.1 _ hd _ _ _ _ _ _ h lv lk0 lk2
      · rw [if_neg c3] at h
        refine Van rfl lk0 rfl rfl ?_
        have hz := y_bind h
        clear h
        obtain ⟨v4, h5, h⟩ := hz
        have wv4 := (y_gv_ok h5).2
        refine Vgv h5 rfl rfl rfl ?_
        refine Vin rfl lk2 rfl ?_
        refine Vlc (v := 0) rfl (by decide) rfl ?_
        have hz := y_bind h
        clear h
        obtain ⟨s6, h7, h⟩ := hz
        refine Zls (q_ls_y h7) rfl rfl ?_
        refine Van rfl lk0 rfl rfl ?_
        have hz := y_bind h
        clear h
        obtain ⟨v8, h9, h⟩ := hz
        have wv8 := (y_gv_ok h9).2
        refine Vgv h9 rfl rfl rfl ?_
        refine Vin rfl lk2 rfl ?_
        refine Vic (v := Int32.ofInt (-1)) rfl rfl rfl ?_
        have hz := y_bind h
        clear h
        obtain ⟨s10, h11, h⟩ := hz
        refine Zis (q_is_y h11) rfl rfl ?_
        refine Uinc rfl lk2 rfl (fun lv lk2 hk => ?_)
        have lk0 := hk 0 _ lk0 (by decide) (by decide) (Or.inl (by decide))
        refine Ygo rfl rfl rfl rfl rfl rfl ?_
        exact ih.2.2.1 _ hd _ _ _ _ _ _ h lv lk0 lk2
    · intro d hd s r0 i1 i2 s9 r h lv lk0 lk2
      obtain ⟨d, rfl⟩ : ∃ x, d = x + 1 := ⟨d - 1, by omega⟩
      simp only [g_106] at h
      refine Vin rfl lk2 rfl ?_
      refine Vsp (v := Int32.ofInt 6144) rfl (by decide) rfl ?_
      have hz := y_bind h
      clear h
      obtain ⟨_, h2, h⟩ := hz
      have c1 := q_g_ok h2
      refine Uif (q_le (by decide) c1) rfl rfl rfl rfl rfl rfl rfl (fun c3 => ?_) (fun c3 => ?_)
      · rw [if_pos c3] at h
        refine Vic (v := Int32.ofInt 0) rfl rfl rfl ?_
        refine Vsin rfl rfl (fun lv lk2 hk => ?_)
        have lk0 := hk 0 _ lk0 (by decide) (by decide) (Or.inl (by decide))
        exact ih.2.2.2.2 _ hd _ _ _ _ _ _ h lv lk0 lk2
      · rw [if_neg c3] at h
        refine Van rfl lk0 rfl rfl ?_
        have hz := y_bind h
        clear h
        obtain ⟨v4, h5, h⟩ := hz
        have wv4 := (y_gv_ok h5).2
        refine Vgv h5 rfl rfl rfl ?_
        refine Vin rfl lk2 rfl ?_
        refine Vic (v := Int32.ofInt 0) rfl rfl rfl ?_
        have hz := y_bind h
        clear h
        obtain ⟨s6, h7, h⟩ := hz
        refine Zbs (q_bs_y h7) rfl rfl ?_
        refine Uinc rfl lk2 rfl (fun lv lk2 hk => ?_)
        have lk0 := hk 0 _ lk0 (by decide) (by decide) (Or.inl (by decide))
        refine Ygo rfl rfl rfl rfl rfl rfl ?_
        exact ih.2.2.2.1 _ hd _ _ _ _ _ _ h lv lk0 lk2
    · intro d hd s r0 i1 i2 s9 r h lv lk0 lk2
      obtain ⟨d, rfl⟩ : ∃ x, d = x + 1 := ⟨d - 1, by omega⟩
      simp only [g_106] at h
      refine Vin rfl lk2 rfl ?_
      refine Vbp (v := Int32.ofInt 104) rfl (by decide) rfl ?_
      have hz := y_bind h
      clear h
      obtain ⟨_, h2, h⟩ := hz
      have c1 := q_g_ok h2
      refine Uif (q_le (by decide) c1) rfl rfl rfl rfl rfl rfl rfl (fun c3 => ?_) (fun c3 => ?_)
      · rw [if_pos c3] at h
        refine Van rfl lk0 rfl rfl ?_
        refine Vic (v := Int32.ofInt (-1)) rfl rfl rfl ?_
        refine Vic (v := Int32.ofInt 0) rfl rfl rfl ?_
        have hz := y_bind h
        clear h
        obtain ⟨b8, h9, h⟩ := hz
        obtain ⟨eh9, fh9, wh9⟩ := y_rcv_ok h9
        cases eh9
        have hz := y_bind h
        clear h
        obtain ⟨⟨s4, r5⟩, h6, h⟩ := hz
        try dsimp only at h
        refine Vcv rfl rfl rfl wh9 rfl rfl ⟨(Nat.le_of_ble_eq_true rfl), (Nat.le_of_ble_eq_true rfl)⟩ rfl ((c_107 o n).1 _ (by omega) _ _ _ _ _ _ _ h6 _ rfl rfl rfl) (fun z1 z2 zq => ?_)
        obtain ⟨rfl, rfl⟩ := zq
        try dsimp only [Option.toList, HAppend.hAppend, Append.append, List.append]
        refine Vsin rfl rfl (fun lv lk2 hk => ?_)
        refine Vic (v := Int32.ofInt 0) rfl rfl rfl ?_
        cases h
        exact Yret rfl rfl rfl rfl rfl rfl rfl ⟨rfl, rfl⟩
      · rw [if_neg c3] at h
        refine Van rfl lk0 rfl rfl ?_
        have hz := y_bind h
        clear h
        obtain ⟨v12, h13, h⟩ := hz
        have wv12 := (y_gv_ok h13).2
        refine Vgv h13 rfl rfl rfl ?_
        refine Vin rfl lk2 rfl ?_
        refine Vic (v := Int32.ofInt 0) rfl rfl rfl ?_
        have hz := y_bind h
        clear h
        obtain ⟨s14, h15, h⟩ := hz
        refine Zbs (q_bs_y h15) rfl rfl ?_
        refine Uinc rfl lk2 rfl (fun lv lk2 hk => ?_)
        have lk0 := hk 0 _ lk0 (by decide) (by decide) (Or.inl (by decide))
        refine Ygo rfl rfl rfl rfl rfl rfl ?_
        exact ih.2.2.2.2 _ hd _ _ _ _ _ _ h lv lk0 lk2

/-- StepRowsModel.whatAt -/
def g_111 (o : X_O) : Nat → Nat → Q_S → Nat → Int → Option (Q_S × Int)
  | 0, _, _, _, _ => none
  | n + 1, 0, s, r0, i1 => (q_gv s 7 (.ref r0) 10).bind fun v1 => (q_gi s 7 (.ref r0) 18).bind fun v3 => (q_ia o s v1 ((500 * v3) + i1)).bind fun v5 => some (s, v5)
  | _ + 1, _, _, _, _ => none
set_option maxRecDepth 100000 in
set_option maxHeartbeats 4000000 in
theorem c_111 (o : X_O) : ∀ n, (∀ (d : Nat) (hd : 0 ≤ d) (s : Q_S) (r0 : Nat) (i1 : Int) (s9 : Q_S) (r : Int), g_111 o n 0 s r0 i1 = some (s9, r) → ∀ lv : X_L, x_lget lv 0 = some (.ref r0) → x_lget lv 1 = some (.int (Int32.ofInt i1)) → Y o d 111 0 lv [] (q_y s) (fun s1 r1 => s1 = q_y s9 ∧ r1 = some (.int (Int32.ofInt r)))) := by
  intro n
  induction n with
  | zero => exact fun d hd s _ _ s9 r h => (by simp only [g_111] at h; cases h)
  | succ n ih =>
    intro d hd s r0 i1 s9 r h lv lk0 lk1
    simp only [g_111] at h
    refine Van rfl lk0 rfl rfl ?_
    have hz := y_bind h
    clear h
    obtain ⟨v1, h2, h⟩ := hz
    have wv1 := (y_gv_ok h2).2
    refine Vgv h2 rfl rfl rfl ?_
    refine Vsp (v := Int32.ofInt 500) rfl (by decide) rfl ?_
    refine Van rfl lk0 rfl rfl ?_
    have hz := y_bind h
    clear h
    obtain ⟨v3, h4, h⟩ := hz
    refine Zgi (q_gi_y h4) rfl rfl rfl ?_
    refine Umul rfl rfl ?_
    refine Vin rfl lk1 rfl ?_
    refine Uadd rfl rfl ?_
    have hz := y_bind h
    clear h
    obtain ⟨v5, h6, h⟩ := hz
    refine Zia (q_ia_y h6) rfl rfl ?_
    cases h
    exact Yret rfl rfl rfl rfl rfl rfl rfl ⟨rfl, rfl⟩

/-- StepRowsModel.one -/
def g_112 (o : X_O) : Nat → Nat → Q_S → Nat → Int → Option (Q_S × Int)
  | 0, _, _, _, _ => none
  | n + 1, 0, s, r0, i1 => (q_gv s 7 (.ref r0) 12).bind fun v1 => (q_gi s 7 (.ref r0) 18).bind fun v3 => (q_ia o s v1 ((500 * v3) + i1)).bind fun v5 => some (s, v5)
  | _ + 1, _, _, _, _ => none
set_option maxRecDepth 100000 in
set_option maxHeartbeats 4000000 in
theorem c_112 (o : X_O) : ∀ n, (∀ (d : Nat) (hd : 0 ≤ d) (s : Q_S) (r0 : Nat) (i1 : Int) (s9 : Q_S) (r : Int), g_112 o n 0 s r0 i1 = some (s9, r) → ∀ lv : X_L, x_lget lv 0 = some (.ref r0) → x_lget lv 1 = some (.int (Int32.ofInt i1)) → Y o d 112 0 lv [] (q_y s) (fun s1 r1 => s1 = q_y s9 ∧ r1 = some (.int (Int32.ofInt r)))) := by
  intro n
  induction n with
  | zero => exact fun d hd s _ _ s9 r h => (by simp only [g_112] at h; cases h)
  | succ n ih =>
    intro d hd s r0 i1 s9 r h lv lk0 lk1
    simp only [g_112] at h
    refine Van rfl lk0 rfl rfl ?_
    have hz := y_bind h
    clear h
    obtain ⟨v1, h2, h⟩ := hz
    have wv1 := (y_gv_ok h2).2
    refine Vgv h2 rfl rfl rfl ?_
    refine Vsp (v := Int32.ofInt 500) rfl (by decide) rfl ?_
    refine Van rfl lk0 rfl rfl ?_
    have hz := y_bind h
    clear h
    obtain ⟨v3, h4, h⟩ := hz
    refine Zgi (q_gi_y h4) rfl rfl rfl ?_
    refine Umul rfl rfl ?_
    refine Vin rfl lk1 rfl ?_
    refine Uadd rfl rfl ?_
    have hz := y_bind h
    clear h
    obtain ⟨v5, h6, h⟩ := hz
    refine Zia (q_ia_y h6) rfl rfl ?_
    cases h
    exact Yret rfl rfl rfl rfl rfl rfl rfl ⟨rfl, rfl⟩

/-- StepRowsModel.fault -/
def g_114 (o : X_O) : Nat → Nat → Q_S → Nat → Int → Int → Option (Q_S × Unit)
  | 0, _, _, _, _, _ => none
  | n + 1, 0, s, r0, i1, i2 => (q_gi s 7 (.ref r0) 47).bind fun v1 => (q_g (q_in v1)).bind fun _ => if ¬ v1 = 0 then g_114 o n 1 s 0 0 0 else (q_pz s 7 (.ref r0) 47 1).bind fun s6 => (q_pi s6 7 (.ref r0) 22 1).bind fun s8 => (q_gi s8 7 (.ref r0) 19).bind fun v10 => (q_pi s8 7 (.ref r0) 23 v10).bind fun s12 => (q_pi s12 7 (.ref r0) 24 i1).bind fun s14 => (q_pi s14 7 (.ref r0) 25 i2).bind fun s16 => g_114 o n 1 s16 0 0 0
  | n + 1, 1, s, r0, i1, i2 => some (s, ())
  | _ + 1, _, _, _, _, _ => none
set_option maxRecDepth 100000 in
set_option maxHeartbeats 4000000 in
theorem c_114 (o : X_O) : ∀ n, (∀ (d : Nat) (hd : 0 ≤ d) (s : Q_S) (r0 : Nat) (i1 : Int) (i2 : Int) (s9 : Q_S) (r : Unit), g_114 o n 0 s r0 i1 i2 = some (s9, r) → ∀ lv : X_L, x_lget lv 0 = some (.ref r0) → x_lget lv 1 = some (.int (Int32.ofInt i1)) → x_lget lv 2 = some (.int (Int32.ofInt i2)) → Y o d 114 0 lv [] (q_y s) (fun s1 r1 => s1 = q_y s9 ∧ r1 = none)) ∧
    (∀ (d : Nat) (hd : 0 ≤ d) (s : Q_S) (r0 : Nat) (i1 : Int) (i2 : Int) (s9 : Q_S) (r : Unit), g_114 o n 1 s r0 i1 i2 = some (s9, r) → ∀ lv : X_L, True → Y o d 114 35 lv [] (q_y s) (fun s1 r1 => s1 = q_y s9 ∧ r1 = none)) := by
  intro n
  induction n with
  | zero => exact ⟨fun d hd s _ _ _ s9 r h => (by simp only [g_114] at h; cases h), fun d hd s _ _ _ s9 r h => (by simp only [g_114] at h; cases h)⟩
  | succ n ih =>
    refine ⟨?_, ?_⟩
    · intro d hd s r0 i1 i2 s9 r h lv lk0 lk1 lk2
      simp only [g_114] at h
      refine Van rfl lk0 rfl rfl ?_
      have hz := y_bind h
      clear h
      obtain ⟨v1, h2, h⟩ := hz
      refine Zgi (q_gi_y h2) rfl rfl rfl ?_
      have hz := y_bind h
      clear h
      obtain ⟨_, h4, h⟩ := hz
      have c3 := q_g_ok h4
      refine Uif (not_congr (q_eq0 c3)) rfl rfl rfl rfl rfl rfl rfl (fun c5 => ?_) (fun c5 => ?_)
      · rw [if_pos c5] at h
        exact ih.2 _ hd _ _ _ _ _ _ h lv trivial
      · rw [if_neg c5] at h
        refine Van rfl lk0 rfl rfl ?_
        refine Vic (v := Int32.ofInt 1) rfl rfl rfl ?_
        have hz := y_bind h
        clear h
        obtain ⟨s6, h7, h⟩ := hz
        refine Zpi (q_pz_y h7) rfl rfl rfl rfl ?_
        refine Van rfl lk0 rfl rfl ?_
        refine Vic (v := Int32.ofInt 1) rfl rfl rfl ?_
        have hz := y_bind h
        clear h
        obtain ⟨s8, h9, h⟩ := hz
        refine Zpi (q_pi_y h9) rfl rfl rfl rfl ?_
        refine Van rfl lk0 rfl rfl ?_
        refine Van rfl lk0 rfl rfl ?_
        have hz := y_bind h
        clear h
        obtain ⟨v10, h11, h⟩ := hz
        refine Zgi (q_gi_y h11) rfl rfl rfl ?_
        have hz := y_bind h
        clear h
        obtain ⟨s12, h13, h⟩ := hz
        refine Zpi (q_pi_y h13) rfl rfl rfl rfl ?_
        refine Van rfl lk0 rfl rfl ?_
        refine Vin rfl lk1 rfl ?_
        have hz := y_bind h
        clear h
        obtain ⟨s14, h15, h⟩ := hz
        refine Zpi (q_pi_y h15) rfl rfl rfl rfl ?_
        refine Van rfl lk0 rfl rfl ?_
        refine Vin rfl lk2 rfl ?_
        have hz := y_bind h
        clear h
        obtain ⟨s16, h17, h⟩ := hz
        refine Zpi (q_pi_y h17) rfl rfl rfl rfl ?_
        exact ih.2 _ hd _ _ _ _ _ _ h lv trivial
    · intro d hd s r0 i1 i2 s9 r h lv _
      simp only [g_114] at h
      cases h
      exact Yret rfl rfl rfl rfl rfl rfl rfl ⟨rfl, rfl⟩

/-- StepRowsModel.tableAt -/
def g_115 (o : X_O) : Nat → Nat → Q_S → Int → Int → Int → Int → Option (Q_S × Int)
  | 0, _, _, _, _, _, _ => none
  | n + 1, 0, s, i0, i1, i2, i3 => g_115 o n 1 s (i0) (1) (2) (0)
  | n + 1, 1, s, i0, i1, i2, i3 => (q_g (q_in i3 ∧ q_in i0)).bind fun _ => if i0 ≤ i3 then some (s, i1) else g_115 o n 1 s (i0) (i2) ((i1 + i2)) ((i3 + 1))
  | _ + 1, _, _, _, _, _, _ => none
set_option maxRecDepth 100000 in
set_option maxHeartbeats 4000000 in
theorem c_115 (o : X_O) : ∀ n, (∀ (d : Nat) (hd : 0 ≤ d) (s : Q_S) (i0 : Int) (i1 : Int) (i2 : Int) (i3 : Int) (s9 : Q_S) (r : Int), g_115 o n 0 s i0 i1 i2 i3 = some (s9, r) → ∀ lv : X_L, x_lget lv 0 = some (.int (Int32.ofInt i0)) → Y o d 115 0 lv [] (q_y s) (fun s1 r1 => s1 = q_y s9 ∧ r1 = some (.int (Int32.ofInt r)))) ∧
    (∀ (d : Nat) (hd : 0 ≤ d) (s : Q_S) (i0 : Int) (i1 : Int) (i2 : Int) (i3 : Int) (s9 : Q_S) (r : Int), g_115 o n 1 s i0 i1 i2 i3 = some (s9, r) → ∀ lv : X_L, x_lget lv 0 = some (.int (Int32.ofInt i0)) → x_lget lv 1 = some (.int (Int32.ofInt i1)) → x_lget lv 2 = some (.int (Int32.ofInt i2)) → x_lget lv 3 = some (.int (Int32.ofInt i3)) → Y o d 115 6 lv [] (q_y s) (fun s1 r1 => s1 = q_y s9 ∧ r1 = some (.int (Int32.ofInt r)))) := by
  intro n
  induction n with
  | zero => exact ⟨fun d hd s _ _ _ _ s9 r h => (by simp only [g_115] at h; cases h), fun d hd s _ _ _ _ s9 r h => (by simp only [g_115] at h; cases h)⟩
  | succ n ih =>
    refine ⟨?_, ?_⟩
    · intro d hd s i0 i1 i2 i3 s9 r h lv lk0
      simp only [g_115] at h
      refine Vic (v := Int32.ofInt 1) rfl rfl rfl ?_
      refine Vsin rfl rfl (fun lv lk1 hk => ?_)
      have lk0 := hk 0 _ lk0 (by decide) (by decide) (Or.inr rfl)
      refine Vic (v := Int32.ofInt 2) rfl rfl rfl ?_
      refine Vsin rfl rfl (fun lv lk2 hk => ?_)
      have lk0 := hk 0 _ lk0 (by decide) (by decide) (Or.inl (by decide))
      have lk1 := hk 1 _ lk1 (by decide) (by decide) (Or.inr rfl)
      refine Vic (v := Int32.ofInt 0) rfl rfl rfl ?_
      refine Vsin rfl rfl (fun lv lk3 hk => ?_)
      have lk0 := hk 0 _ lk0 (by decide) (by decide) (Or.inl (by decide))
      have lk1 := hk 1 _ lk1 (by decide) (by decide) (Or.inl (by decide))
      have lk2 := hk 2 _ lk2 (by decide) (by decide) (Or.inr rfl)
      exact ih.2 _ hd _ _ _ _ _ _ _ h lv lk0 lk1 lk2 lk3
    · intro d hd s i0 i1 i2 i3 s9 r h lv lk0 lk1 lk2 lk3
      simp only [g_115] at h
      refine Vin rfl lk3 rfl ?_
      refine Vin rfl lk0 rfl ?_
      have hz := y_bind h
      clear h
      obtain ⟨_, h2, h⟩ := hz
      have c1 := q_g_ok h2
      refine Uif (q_le c1.2 c1.1) rfl rfl rfl rfl rfl rfl rfl (fun c3 => ?_) (fun c3 => ?_)
      · rw [if_pos c3] at h
        refine Vin rfl lk1 rfl ?_
        cases h
        exact Yret rfl rfl rfl rfl rfl rfl rfl ⟨rfl, rfl⟩
      · rw [if_neg c3] at h
        refine Vin rfl lk1 rfl ?_
        refine Vin rfl lk2 rfl ?_
        refine Uadd rfl rfl ?_
        refine Vsi rfl rfl (fun lv lk4 hk => ?_)
        have lk0 := hk 0 _ lk0 (by decide) (by decide) (Or.inl (by decide))
        have lk2 := hk 2 _ lk2 (by decide) (by decide) (Or.inl (by decide))
        have lk3 := hk 3 _ lk3 (by decide) (by decide) (Or.inr rfl)
        refine Vin rfl lk2 rfl ?_
        refine Vsin rfl rfl (fun lv lk1 hk => ?_)
        have lk0 := hk 0 _ lk0 (by decide) (by decide) (Or.inr rfl)
        have lk3 := hk 3 _ lk3 (by decide) (by decide) (Or.inl (by decide))
        have lk4 := hk 4 _ lk4 (by decide) (by decide) (Or.inl (by decide))
        refine Vi rfl lk4 rfl ?_
        refine Vsin rfl rfl (fun lv lk2 hk => ?_)
        have lk0 := hk 0 _ lk0 (by decide) (by decide) (Or.inl (by decide))
        have lk1 := hk 1 _ lk1 (by decide) (by decide) (Or.inr rfl)
        have lk3 := hk 3 _ lk3 (by decide) (by decide) (Or.inl (by decide))
        refine Uinc rfl lk3 rfl (fun lv lk3 hk => ?_)
        have lk0 := hk 0 _ lk0 (by decide) (by decide) (Or.inl (by decide))
        have lk1 := hk 1 _ lk1 (by decide) (by decide) (Or.inl (by decide))
        have lk2 := hk 2 _ lk2 (by decide) (by decide) (Or.inr rfl)
        refine Ygo rfl rfl rfl rfl rfl rfl ?_
        exact ih.2 _ hd _ _ _ _ _ _ _ h lv lk0 lk1 lk2 lk3

/-- StepRowsModel.other -/
def g_116 (o : X_O) : Nat → Nat → Q_S → Nat → Int → Option (Q_S × Int)
  | 0, _, _, _, _ => none
  | n + 1, 0, s, r0, i1 => (q_gv s 7 (.ref r0) 13).bind fun v1 => (q_gi s 7 (.ref r0) 18).bind fun v3 => (q_ia o s v1 ((500 * v3) + i1)).bind fun v5 => some (s, v5)
  | _ + 1, _, _, _, _ => none
set_option maxRecDepth 100000 in
set_option maxHeartbeats 4000000 in
theorem c_116 (o : X_O) : ∀ n, (∀ (d : Nat) (hd : 0 ≤ d) (s : Q_S) (r0 : Nat) (i1 : Int) (s9 : Q_S) (r : Int), g_116 o n 0 s r0 i1 = some (s9, r) → ∀ lv : X_L, x_lget lv 0 = some (.ref r0) → x_lget lv 1 = some (.int (Int32.ofInt i1)) → Y o d 116 0 lv [] (q_y s) (fun s1 r1 => s1 = q_y s9 ∧ r1 = some (.int (Int32.ofInt r)))) := by
  intro n
  induction n with
  | zero => exact fun d hd s _ _ s9 r h => (by simp only [g_116] at h; cases h)
  | succ n ih =>
    intro d hd s r0 i1 s9 r h lv lk0 lk1
    simp only [g_116] at h
    refine Van rfl lk0 rfl rfl ?_
    have hz := y_bind h
    clear h
    obtain ⟨v1, h2, h⟩ := hz
    have wv1 := (y_gv_ok h2).2
    refine Vgv h2 rfl rfl rfl ?_
    refine Vsp (v := Int32.ofInt 500) rfl (by decide) rfl ?_
    refine Van rfl lk0 rfl rfl ?_
    have hz := y_bind h
    clear h
    obtain ⟨v3, h4, h⟩ := hz
    refine Zgi (q_gi_y h4) rfl rfl rfl ?_
    refine Umul rfl rfl ?_
    refine Vin rfl lk1 rfl ?_
    refine Uadd rfl rfl ?_
    have hz := y_bind h
    clear h
    obtain ⟨v5, h6, h⟩ := hz
    refine Zia (q_ia_y h6) rfl rfl ?_
    cases h
    exact Yret rfl rfl rfl rfl rfl rfl rfl ⟨rfl, rfl⟩

/-- StepRowsModel.reckon -/
def g_113 (o : X_O) : Nat → Nat → Nat → Q_S → Nat → Int → Int64 → Option (Q_S × Int64)
  | 0, _, _, _, _, _, _ => none
  | n + 1, e, 0, s, r0, i1, tl0 => (q_rcv s 7 (.ref r0)).bind fun b5 => (g_111 o n 0 s b5 (i1)).bind fun q4 => (q_gv q4.1 7 (.ref r0) 11).bind fun v9 => (q_gi q4.1 7 (.ref r0) 18).bind fun v11 => (q_la q4.1 v9 ((500 * v11) + i1)).bind fun v13 => (q_g (q_in q4.2)).bind fun _ => if ¬ q4.2 = 100 then (q_g (q_in q4.2)).bind fun _ => if q4.2 < 101 then (q_rcv q4.1 7 (.ref r0)).bind fun b25 => (g_112 o n 0 q4.1 b25 (i1)).bind fun q24 => (q_dec e).bind fun e99 => (q_rcv q24.1 7 (.ref r0)).bind fun b33 => (g_113 o n e99 0 q24.1 b33 (q24.2) 0).bind fun q32 => (q_gi q32.1 7 (.ref r0) 47).bind fun v37 => (q_g (q_in v37)).bind fun _ => if v37 = 0 then (q_g (q_in q4.2)).bind fun _ => if ¬ q4.2 = 6 then (q_rcv q32.1 7 (.ref r0)).bind fun b49 => (g_116 o n 0 q32.1 b49 (i1)).bind fun q48 => (q_dec e).bind fun e87 => (q_rcv q48.1 7 (.ref r0)).bind fun b57 => (g_113 o n e87 0 q48.1 b57 (q48.2) 0).bind fun q56 => (q_gi q56.1 7 (.ref r0) 47).bind fun v61 => (q_g (q_in v61)).bind fun _ => if v61 = 0 then (q_g (q_in q4.2)).bind fun _ => if q4.2 < 0 ∨ 4 < q4.2 then if ¬ q32.2 = q56.2 then g_113 o n e 4 q56.1 0 0 (0) else g_113 o n e 4 q56.1 0 0 (1) else if q4.2 = 0 then some (q56.1, (q32.2 + q56.2)) else if q4.2 = 1 then some (q56.1, (q32.2 - q56.2)) else if q4.2 = 2 then some (q56.1, (q32.2 * q56.2)) else if q4.2 = 3 then if ¬ q56.2 = 0 then (q_g (¬ q56.2 = 0)).bind fun _ => some (q56.1, (q32.2 / q56.2)) else (q_rcv q56.1 7 (.ref r0)).bind fun b80 => (g_114 o n 0 q56.1 b80 (1) (i1)).bind fun q79 => some (q79.1, 0) else if q4.2 = 4 then if q56.2 ≤ q32.2 then g_113 o n e 3 q56.1 0 0 (0) else g_113 o n e 3 q56.1 0 0 (1) else none else some (q56.1, 0) else if q32.2 < 0 then g_113 o n e 2 q32.1 r0 (i1) 0 else if q32.2 ≤ 9 then (g_115 o n 0 q32.1 ((q32.2).toInt) 0 0 0).bind fun q94 => (q_g (q_in q94.2)).bind fun _ => some (q94.1, (Int64.ofInt q94.2)) else g_113 o n e 2 q32.1 r0 (i1) 0 else some (q32.1, 0) else (q_g (q_in q4.2)).bind fun _ => if ¬ q4.2 = 101 then (q_gv q4.1 7 (.ref r0) 27).bind fun v104 => (q_la q4.1 v104 (v13).toInt).bind fun v106 => g_113 o n e 1 q4.1 0 0 (v106) else (q_gv q4.1 7 (.ref r0) 7).bind fun v108 => (q_la q4.1 v108 (v13).toInt).bind fun v110 => g_113 o n e 1 q4.1 0 0 (v110) else some (q4.1, v13)
  | n + 1, e, 1, s, r0, i1, tl0 => some (s, tl0)
  | n + 1, e, 2, s, r0, i1, tl0 => (q_rcv s 7 (.ref r0)).bind fun b5 => (g_114 o n 0 s b5 (2) (i1)).bind fun q4 => some (q4.1, 0)
  | n + 1, e, 3, s, r0, i1, tl0 => some (s, tl0)
  | n + 1, e, 4, s, r0, i1, tl0 => some (s, tl0)
  | _ + 1, _, _, _, _, _, _ => none
set_option maxRecDepth 100000 in
set_option maxHeartbeats 4000000 in
theorem c_113 (o : X_O) : ∀ n, (∀ (d e : Nat) (hd : 1 + e ≤ d) (s : Q_S) (r0 : Nat) (i1 : Int) (tl0 : Int64) (s9 : Q_S) (r : Int64), g_113 o n e 0 s r0 i1 tl0 = some (s9, r) → ∀ lv : X_L, x_lget lv 0 = some (.ref r0) → x_lget lv 1 = some (.int (Int32.ofInt i1)) → Y o d 113 0 lv [] (q_y s) (fun s1 r1 => s1 = q_y s9 ∧ r1 = some (.long r))) ∧
    (∀ (d e : Nat) (hd : 1 + e ≤ d) (s : Q_S) (r0 : Nat) (i1 : Int) (tl0 : Int64) (s9 : Q_S) (r : Int64), g_113 o n e 1 s r0 i1 tl0 = some (s9, r) → ∀ lv : X_L, True → Y o d 113 59 lv [.long tl0] (q_y s) (fun s1 r1 => s1 = q_y s9 ∧ r1 = some (.long r))) ∧
    (∀ (d e : Nat) (hd : 1 + e ≤ d) (s : Q_S) (r0 : Nat) (i1 : Int) (tl0 : Int64) (s9 : Q_S) (r : Int64), g_113 o n e 2 s r0 i1 tl0 = some (s9, r) → ∀ lv : X_L, x_lget lv 0 = some (.ref r0) → x_lget lv 1 = some (.int (Int32.ofInt i1)) → Y o d 113 102 lv [] (q_y s) (fun s1 r1 => s1 = q_y s9 ∧ r1 = some (.long r))) ∧
    (∀ (d e : Nat) (hd : 1 + e ≤ d) (s : Q_S) (r0 : Nat) (i1 : Int) (tl0 : Int64) (s9 : Q_S) (r : Int64), g_113 o n e 3 s r0 i1 tl0 = some (s9, r) → ∀ lv : X_L, True → Y o d 113 224 lv [.long tl0] (q_y s) (fun s1 r1 => s1 = q_y s9 ∧ r1 = some (.long r))) ∧
    (∀ (d e : Nat) (hd : 1 + e ≤ d) (s : Q_S) (r0 : Nat) (i1 : Int) (tl0 : Int64) (s9 : Q_S) (r : Int64), g_113 o n e 4 s r0 i1 tl0 = some (s9, r) → ∀ lv : X_L, True → Y o d 113 238 lv [.long tl0] (q_y s) (fun s1 r1 => s1 = q_y s9 ∧ r1 = some (.long r))) := by
  intro n
  induction n with
  | zero => exact ⟨fun d e hd s _ _ _ s9 r h => (by simp only [g_113] at h; cases h), fun d e hd s _ _ _ s9 r h => (by simp only [g_113] at h; cases h), fun d e hd s _ _ _ s9 r h => (by simp only [g_113] at h; cases h), fun d e hd s _ _ _ s9 r h => (by simp only [g_113] at h; cases h), fun d e hd s _ _ _ s9 r h => (by simp only [g_113] at h; cases h)⟩
  | succ n ih =>
    refine ⟨?_, ?_, ?_, ?_, ?_⟩
    · intro d e hd s r0 i1 tl0 s9 r h lv lk0 lk1
      obtain ⟨d, rfl⟩ : ∃ x, d = x + 1 := ⟨d - 1, by omega⟩
      simp only [g_113] at h
      refine Van rfl lk0 rfl rfl ?_
      refine Vin rfl lk1 rfl ?_
      have hz := y_bind h
      clear h
      obtain ⟨b5, h6, h⟩ := hz
      obtain ⟨eh6, fh6, wh6⟩ := y_rcv_ok h6
      cases eh6
      have hz := y_bind h
      clear h
      obtain ⟨⟨s1, r2⟩, h3, h⟩ := hz
      try dsimp only at h
      refine Vcv rfl rfl rfl wh6 rfl rfl ⟨(Nat.le_of_ble_eq_true rfl), (Nat.le_of_ble_eq_true rfl)⟩ rfl ((c_111 o n) _ (by omega) _ _ _ _ _ h3 _ rfl rfl) (fun z1 z2 zq => ?_)
      obtain ⟨rfl, rfl⟩ := zq
      try dsimp only [Option.toList, HAppend.hAppend, Append.append, List.append]
      refine Vsin rfl rfl (fun lv lk2 hk => ?_)
      have lk0 := hk 0 _ lk0 (by decide) (by decide) (Or.inl (by decide))
      have lk1 := hk 1 _ lk1 (by decide) (by decide) (Or.inr rfl)
      refine Van rfl lk0 rfl rfl ?_
      have hz := y_bind h
      clear h
      obtain ⟨v9, h10, h⟩ := hz
      have wv9 := (y_gv_ok h10).2
      refine Vgv h10 rfl rfl rfl ?_
      refine Vsp (v := Int32.ofInt 500) rfl (by decide) rfl ?_
      refine Van rfl lk0 rfl rfl ?_
      have hz := y_bind h
      clear h
      obtain ⟨v11, h12, h⟩ := hz
      refine Zgi (q_gi_y h12) rfl rfl rfl ?_
      refine Umul rfl rfl ?_
      refine Vin rfl lk1 rfl ?_
      refine Uadd rfl rfl ?_
      have hz := y_bind h
      clear h
      obtain ⟨v13, h14, h⟩ := hz
      refine Zla (q_la_y h14) rfl rfl ?_
      refine Vsln rfl rfl (fun lv lk3 hk => ?_)
      have lk0 := hk 0 _ lk0 (by decide) (by decide) (Or.inl (by decide))
      have lk1 := hk 1 _ lk1 (by decide) (by decide) (Or.inl (by decide))
      have lk2 := hk 2 _ lk2 (by decide) (by decide) (Or.inr rfl)
      refine Vin rfl lk2 rfl ?_
      refine Vbp (v := Int32.ofInt 100) rfl (by decide) rfl ?_
      have hz := y_bind h
      clear h
      obtain ⟨_, h16, h⟩ := hz
      have c15 := q_g_ok h16
      refine Uif (not_congr (q_eq c15 (by decide))) rfl rfl rfl rfl rfl rfl rfl (fun c17 => ?_) (fun c17 => ?_)
      · rw [if_pos c17] at h
        refine Vin rfl lk2 rfl ?_
        refine Vbp (v := Int32.ofInt 101) rfl (by decide) rfl ?_
        have hz := y_bind h
        clear h
        obtain ⟨_, h19, h⟩ := hz
        have c18 := q_g_ok h19
        refine Uif (q_lt c18 (by decide)) rfl rfl rfl rfl rfl rfl rfl (fun c20 => ?_) (fun c20 => ?_)
        · rw [if_pos c20] at h
          refine Van rfl lk0 rfl rfl ?_
          refine Van rfl lk0 rfl rfl ?_
          refine Vin rfl lk1 rfl ?_
          have hz := y_bind h
          clear h
          obtain ⟨b25, h26, h⟩ := hz
          obtain ⟨eh26, fh26, wh26⟩ := y_rcv_ok h26
          cases eh26
          have hz := y_bind h
          clear h
          obtain ⟨⟨s21, r22⟩, h23, h⟩ := hz
          try dsimp only at h
          refine Vcv rfl rfl rfl wh26 rfl rfl ⟨(Nat.le_of_ble_eq_true rfl), (Nat.le_of_ble_eq_true rfl)⟩ rfl ((c_112 o n) _ (by omega) _ _ _ _ _ h23 _ rfl rfl) (fun z1 z2 zq => ?_)
          obtain ⟨rfl, rfl⟩ := zq
          try dsimp only [Option.toList, HAppend.hAppend, Append.append, List.append]
          have hz := y_bind h
          clear h
          obtain ⟨e99, h100, h⟩ := hz
          have h100x := q_dec_ok h100
          have hz := y_bind h
          clear h
          obtain ⟨b33, h34, h⟩ := hz
          obtain ⟨eh34, fh34, wh34⟩ := y_rcv_ok h34
          cases eh34
          have hz := y_bind h
          clear h
          obtain ⟨⟨s29, r30⟩, h31, h⟩ := hz
          try dsimp only at h
          refine Vcv rfl rfl rfl wh34 rfl rfl ⟨(Nat.le_of_ble_eq_true rfl), (Nat.le_of_ble_eq_true rfl)⟩ rfl (ih.1 _ _ (by omega) _ _ _ _ _ _ h31 _ rfl rfl) (fun z1 z2 zq => ?_)
          obtain ⟨rfl, rfl⟩ := zq
          try dsimp only [Option.toList, HAppend.hAppend, Append.append, List.append]
          refine Vsl rfl rfl (fun lv lk5 hk => ?_)
          have lk0 := hk 0 _ lk0 (by decide) (by decide) (Or.inl (by decide))
          have lk1 := hk 1 _ lk1 (by decide) (by decide) (Or.inl (by decide))
          have lk2 := hk 2 _ lk2 (by decide) (by decide) (Or.inl (by decide))
          refine Van rfl lk0 rfl rfl ?_
          have hz := y_bind h
          clear h
          obtain ⟨v37, h38, h⟩ := hz
          refine Zgi (q_gi_y h38) rfl rfl rfl ?_
          have hz := y_bind h
          clear h
          obtain ⟨_, h40, h⟩ := hz
          have c39 := q_g_ok h40
          refine Uif (q_eq0 c39) rfl rfl rfl rfl rfl rfl rfl (fun c41 => ?_) (fun c41 => ?_)
          · rw [if_pos c41] at h
            refine Vin rfl lk2 rfl ?_
            refine Vbp (v := Int32.ofInt 6) rfl (by decide) rfl ?_
            have hz := y_bind h
            clear h
            obtain ⟨_, h43, h⟩ := hz
            have c42 := q_g_ok h43
            refine Uif (not_congr (q_eq c42 (by decide))) rfl rfl rfl rfl rfl rfl rfl (fun c44 => ?_) (fun c44 => ?_)
            · rw [if_pos c44] at h
              refine Van rfl lk0 rfl rfl ?_
              refine Van rfl lk0 rfl rfl ?_
              refine Vin rfl lk1 rfl ?_
              have hz := y_bind h
              clear h
              obtain ⟨b49, h50, h⟩ := hz
              obtain ⟨eh50, fh50, wh50⟩ := y_rcv_ok h50
              cases eh50
              have hz := y_bind h
              clear h
              obtain ⟨⟨s45, r46⟩, h47, h⟩ := hz
              try dsimp only at h
              refine Vcv rfl rfl rfl wh50 rfl rfl ⟨(Nat.le_of_ble_eq_true rfl), (Nat.le_of_ble_eq_true rfl)⟩ rfl ((c_116 o n) _ (by omega) _ _ _ _ _ h47 _ rfl rfl) (fun z1 z2 zq => ?_)
              obtain ⟨rfl, rfl⟩ := zq
              try dsimp only [Option.toList, HAppend.hAppend, Append.append, List.append]
              have hz := y_bind h
              clear h
              obtain ⟨e87, h88, h⟩ := hz
              have h88x := q_dec_ok h88
              have hz := y_bind h
              clear h
              obtain ⟨b57, h58, h⟩ := hz
              obtain ⟨eh58, fh58, wh58⟩ := y_rcv_ok h58
              cases eh58
              have hz := y_bind h
              clear h
              obtain ⟨⟨s53, r54⟩, h55, h⟩ := hz
              try dsimp only at h
              refine Vcv rfl rfl rfl wh58 rfl rfl ⟨(Nat.le_of_ble_eq_true rfl), (Nat.le_of_ble_eq_true rfl)⟩ rfl (ih.1 _ _ (by omega) _ _ _ _ _ _ h55 _ rfl rfl) (fun z1 z2 zq => ?_)
              obtain ⟨rfl, rfl⟩ := zq
              try dsimp only [Option.toList, HAppend.hAppend, Append.append, List.append]
              refine Vsl rfl rfl (fun lv lk7 hk => ?_)
              have lk0 := hk 0 _ lk0 (by decide) (by decide) (Or.inl (by decide))
              have lk1 := hk 1 _ lk1 (by decide) (by decide) (Or.inl (by decide))
              have lk2 := hk 2 _ lk2 (by decide) (by decide) (Or.inl (by decide))
              have lk5 := hk 5 _ lk5 (by decide) (by decide) (Or.inl (by decide))
              refine Van rfl lk0 rfl rfl ?_
              have hz := y_bind h
              clear h
              obtain ⟨v61, h62, h⟩ := hz
              refine Zgi (q_gi_y h62) rfl rfl rfl ?_
              have hz := y_bind h
              clear h
              obtain ⟨_, h64, h⟩ := hz
              have c63 := q_g_ok h64
              refine Uif (q_eq0 c63) rfl rfl rfl rfl rfl rfl rfl (fun c65 => ?_) (fun c65 => ?_)
              · rw [if_pos c65] at h
                refine Vin rfl lk2 rfl ?_
                have hz := y_bind h
                clear h
                obtain ⟨_, h67, h⟩ := hz
                have c66 := q_g_ok h67
                by_cases c69 : r2 < 0 ∨ 4 < r2
                · rw [if_pos c69] at h
                  refine Ysw rfl rfl rfl rfl rfl (if_pos (by rw [q_ti c66]; exact c69)) rfl ?_
                  refine Vl rfl lk5 rfl ?_
                  refine Vl rfl lk7 rfl ?_
                  refine Ya rfl rfl rfl ?_
                  refine Uif (not_congr (lg_cmp_eq _ _)) rfl rfl rfl rfl rfl rfl rfl (fun c68 => ?_) (fun c68 => ?_)
                  · rw [if_pos c68] at h
                    refine Vlc (v := 0) rfl (by decide) rfl ?_
                    exact ih.2.2.2.2 _ _ hd _ _ _ _ _ _ h lv trivial
                  · rw [if_neg c68] at h
                    refine Vlc (v := 1) rfl (by decide) rfl ?_
                    refine Ygo rfl rfl rfl rfl rfl rfl ?_
                    exact ih.2.2.2.2 _ _ hd _ _ _ _ _ _ h lv trivial
                rw [if_neg c69] at h
                by_cases c70 : r2 = 0
                · rw [if_pos c70] at h
                  refine Vts (k := 0) (congrArg Int32.ofInt c70) rfl rfl rfl rfl rfl rfl rfl ?_
                  refine Vl rfl lk5 rfl ?_
                  refine Vl rfl lk7 rfl ?_
                  refine Ya rfl rfl rfl ?_
                  cases h
                  exact Yret rfl rfl rfl rfl rfl rfl rfl ⟨rfl, rfl⟩
                rw [if_neg c70] at h
                by_cases c71 : r2 = 1
                · rw [if_pos c71] at h
                  refine Vts (k := 1) (congrArg Int32.ofInt c71) rfl rfl rfl rfl rfl rfl rfl ?_
                  refine Vl rfl lk5 rfl ?_
                  refine Vl rfl lk7 rfl ?_
                  refine Ya rfl rfl rfl ?_
                  cases h
                  exact Yret rfl rfl rfl rfl rfl rfl rfl ⟨rfl, rfl⟩
                rw [if_neg c71] at h
                by_cases c72 : r2 = 2
                · rw [if_pos c72] at h
                  refine Vts (k := 2) (congrArg Int32.ofInt c72) rfl rfl rfl rfl rfl rfl rfl ?_
                  refine Vl rfl lk5 rfl ?_
                  refine Vl rfl lk7 rfl ?_
                  refine Ya rfl rfl rfl ?_
                  cases h
                  exact Yret rfl rfl rfl rfl rfl rfl rfl ⟨rfl, rfl⟩
                rw [if_neg c72] at h
                by_cases c84 : r2 = 3
                · rw [if_pos c84] at h
                  refine Vts (k := 3) (congrArg Int32.ofInt c84) rfl rfl rfl rfl rfl rfl rfl ?_
                  refine Vl rfl lk7 rfl ?_
                  refine Vlc (v := 0) rfl (by decide) rfl ?_
                  refine Ya rfl rfl rfl ?_
                  refine Uif (not_congr (lg_cmp_eq _ _)) rfl rfl rfl rfl rfl rfl rfl (fun c73 => ?_) (fun c73 => ?_)
                  · rw [if_pos c73] at h
                    refine Vl rfl lk5 rfl ?_
                    refine Vl rfl lk7 rfl ?_
                    have hz := y_bind h
                    clear h
                    obtain ⟨_, h75, h⟩ := hz
                    have c74 := q_g_ok h75
                    refine Ya rfl (if_neg c74) rfl ?_
                    cases h
                    exact Yret rfl rfl rfl rfl rfl rfl rfl ⟨rfl, rfl⟩
                  · rw [if_neg c73] at h
                    refine Van rfl lk0 rfl rfl ?_
                    refine Vic (v := Int32.ofInt 1) rfl rfl rfl ?_
                    refine Vin rfl lk1 rfl ?_
                    have hz := y_bind h
                    clear h
                    obtain ⟨b80, h81, h⟩ := hz
                    obtain ⟨eh81, fh81, wh81⟩ := y_rcv_ok h81
                    cases eh81
                    have hz := y_bind h
                    clear h
                    obtain ⟨⟨s76, r77⟩, h78, h⟩ := hz
                    try dsimp only at h
                    refine Vcv rfl rfl rfl wh81 rfl rfl ⟨(Nat.le_of_ble_eq_true rfl), (Nat.le_of_ble_eq_true rfl)⟩ rfl ((c_114 o n).1 _ (by omega) _ _ _ _ _ _ h78 _ rfl rfl rfl) (fun z1 z2 zq => ?_)
                    obtain ⟨rfl, rfl⟩ := zq
                    try dsimp only [Option.toList, HAppend.hAppend, Append.append, List.append]
                    refine Vlc (v := 0) rfl (by decide) rfl ?_
                    cases h
                    exact Yret rfl rfl rfl rfl rfl rfl rfl ⟨rfl, rfl⟩
                rw [if_neg c84] at h
                by_cases c86 : r2 = 4
                · rw [if_pos c86] at h
                  refine Vts (k := 4) (congrArg Int32.ofInt c86) rfl rfl rfl rfl rfl rfl rfl ?_
                  refine Vl rfl lk5 rfl ?_
                  refine Vl rfl lk7 rfl ?_
                  refine Ya rfl rfl rfl ?_
                  refine Uif (lg_cmp_ge _ _) rfl rfl rfl rfl rfl rfl rfl (fun c85 => ?_) (fun c85 => ?_)
                  · rw [if_pos c85] at h
                    refine Vlc (v := 0) rfl (by decide) rfl ?_
                    exact ih.2.2.2.1 _ _ hd _ _ _ _ _ _ h lv trivial
                  · rw [if_neg c85] at h
                    refine Vlc (v := 1) rfl (by decide) rfl ?_
                    refine Ygo rfl rfl rfl rfl rfl rfl ?_
                    exact ih.2.2.2.1 _ _ hd _ _ _ _ _ _ h lv trivial
                rw [if_neg c86] at h
                cases h
              · rw [if_neg c65] at h
                refine Vlc (v := 0) rfl (by decide) rfl ?_
                cases h
                exact Yret rfl rfl rfl rfl rfl rfl rfl ⟨rfl, rfl⟩
            · rw [if_neg c44] at h
              refine Vl rfl lk5 rfl ?_
              refine Vlc (v := 0) rfl (by decide) rfl ?_
              refine Ya rfl rfl rfl ?_
              refine Uif (lg_cmp_lt _ _) rfl rfl rfl rfl rfl rfl rfl (fun c89 => ?_) (fun c89 => ?_)
              · rw [if_pos c89] at h
                exact ih.2.2.1 _ _ hd _ _ _ _ _ _ h lv lk0 lk1
              · rw [if_neg c89] at h
                refine Vl rfl lk5 rfl ?_
                refine Yk (v := .long 9) rfl rfl rfl rfl rfl ?_
                refine Ya rfl rfl rfl ?_
                refine Uif (lg_cmp_le _ _) rfl rfl rfl rfl rfl rfl rfl (fun c90 => ?_) (fun c90 => ?_)
                · rw [if_pos c90] at h
                  refine Vl rfl lk5 rfl ?_
                  refine Ul2i rfl rfl ?_
                  have hz := y_bind h
                  clear h
                  obtain ⟨⟨s91, r92⟩, h93, h⟩ := hz
                  try dsimp only at h
                  refine Vcs rfl rfl (Nat.le_of_ble_eq_true rfl) rfl rfl ⟨(Nat.le_of_ble_eq_true rfl), (Nat.le_of_ble_eq_true rfl)⟩ rfl ((c_115 o n).1 _ (by omega) _ _ _ _ _ _ _ h93 _ rfl) (fun z1 z2 zq => ?_)
                  obtain ⟨rfl, rfl⟩ := zq
                  try dsimp only [Option.toList, HAppend.hAppend, Append.append, List.append]
                  have hz := y_bind h
                  clear h
                  obtain ⟨_, h98, h⟩ := hz
                  have c97 := q_g_ok h98
                  refine Ui2l c97 rfl rfl ?_
                  cases h
                  exact Yret rfl rfl rfl rfl rfl rfl rfl ⟨rfl, rfl⟩
                · rw [if_neg c90] at h
                  exact ih.2.2.1 _ _ hd _ _ _ _ _ _ h lv lk0 lk1
          · rw [if_neg c41] at h
            refine Vlc (v := 0) rfl (by decide) rfl ?_
            cases h
            exact Yret rfl rfl rfl rfl rfl rfl rfl ⟨rfl, rfl⟩
        · rw [if_neg c20] at h
          refine Vin rfl lk2 rfl ?_
          refine Vbp (v := Int32.ofInt 101) rfl (by decide) rfl ?_
          have hz := y_bind h
          clear h
          obtain ⟨_, h102, h⟩ := hz
          have c101 := q_g_ok h102
          refine Uif (not_congr (q_eq c101 (by decide))) rfl rfl rfl rfl rfl rfl rfl (fun c103 => ?_) (fun c103 => ?_)
          · rw [if_pos c103] at h
            refine Van rfl lk0 rfl rfl ?_
            have hz := y_bind h
            clear h
            obtain ⟨v104, h105, h⟩ := hz
            have wv104 := (y_gv_ok h105).2
            refine Vgv h105 rfl rfl rfl ?_
            refine Vln rfl lk3 rfl ?_
            refine Ul2i rfl rfl ?_
            have hz := y_bind h
            clear h
            obtain ⟨v106, h107, h⟩ := hz
            refine Zla (q_la_y h107) rfl rfl ?_
            exact ih.2.1 _ _ hd _ _ _ _ _ _ h lv trivial
          · rw [if_neg c103] at h
            refine Van rfl lk0 rfl rfl ?_
            have hz := y_bind h
            clear h
            obtain ⟨v108, h109, h⟩ := hz
            have wv108 := (y_gv_ok h109).2
            refine Vgv h109 rfl rfl rfl ?_
            refine Vln rfl lk3 rfl ?_
            refine Ul2i rfl rfl ?_
            have hz := y_bind h
            clear h
            obtain ⟨v110, h111, h⟩ := hz
            refine Zla (q_la_y h111) rfl rfl ?_
            refine Ygo rfl rfl rfl rfl rfl rfl ?_
            exact ih.2.1 _ _ hd _ _ _ _ _ _ h lv trivial
      · rw [if_neg c17] at h
        refine Vln rfl lk3 rfl ?_
        cases h
        exact Yret rfl rfl rfl rfl rfl rfl rfl ⟨rfl, rfl⟩
    · intro d e hd s r0 i1 tl0 s9 r h lv _
      obtain ⟨d, rfl⟩ : ∃ x, d = x + 1 := ⟨d - 1, by omega⟩
      simp only [g_113] at h
      cases h
      exact Yret rfl rfl rfl rfl rfl rfl rfl ⟨rfl, rfl⟩
    · intro d e hd s r0 i1 tl0 s9 r h lv lk0 lk1
      obtain ⟨d, rfl⟩ : ∃ x, d = x + 1 := ⟨d - 1, by omega⟩
      simp only [g_113] at h
      refine Van rfl lk0 rfl rfl ?_
      refine Vic (v := Int32.ofInt 2) rfl rfl rfl ?_
      refine Vin rfl lk1 rfl ?_
      have hz := y_bind h
      clear h
      obtain ⟨b5, h6, h⟩ := hz
      obtain ⟨eh6, fh6, wh6⟩ := y_rcv_ok h6
      cases eh6
      have hz := y_bind h
      clear h
      obtain ⟨⟨s1, r2⟩, h3, h⟩ := hz
      try dsimp only at h
      refine Vcv rfl rfl rfl wh6 rfl rfl ⟨(Nat.le_of_ble_eq_true rfl), (Nat.le_of_ble_eq_true rfl)⟩ rfl ((c_114 o n).1 _ (by omega) _ _ _ _ _ _ h3 _ rfl rfl rfl) (fun z1 z2 zq => ?_)
      obtain ⟨rfl, rfl⟩ := zq
      try dsimp only [Option.toList, HAppend.hAppend, Append.append, List.append]
      refine Vlc (v := 0) rfl (by decide) rfl ?_
      cases h
      exact Yret rfl rfl rfl rfl rfl rfl rfl ⟨rfl, rfl⟩
    · intro d e hd s r0 i1 tl0 s9 r h lv _
      obtain ⟨d, rfl⟩ : ∃ x, d = x + 1 := ⟨d - 1, by omega⟩
      simp only [g_113] at h
      cases h
      exact Yret rfl rfl rfl rfl rfl rfl rfl ⟨rfl, rfl⟩
    · intro d e hd s r0 i1 tl0 s9 r h lv _
      obtain ⟨d, rfl⟩ : ∃ x, d = x + 1 := ⟨d - 1, by omega⟩
      simp only [g_113] at h
      cases h
      exact Yret rfl rfl rfl rfl rfl rfl rfl ⟨rfl, rfl⟩

/-- StepRowsModel.pop -/
def g_118 (o : X_O) : Nat → Nat → Q_S → Nat → Int → Option (Q_S × Unit)
  | 0, _, _, _, _ => none
  | n + 1, 0, s, r0, i1 => (q_gv s 7 (.ref r0) 39).bind fun v1 => (q_ia o s v1 i1).bind fun v3 => (q_gv s 7 (.ref r0) 35).bind fun v5 => (q_bs s v5 v3 0).bind fun s7 => (q_gv s7 7 (.ref r0) 39).bind fun v9 => (q_gv s7 7 (.ref r0) 30).bind fun v11 => (q_ia o s7 v11 v3).bind fun v13 => (q_is s7 v9 i1 v13).bind fun s15 => some (s15, ())
  | _ + 1, _, _, _, _ => none
set_option maxRecDepth 100000 in
set_option maxHeartbeats 4000000 in
theorem c_118 (o : X_O) : ∀ n, (∀ (d : Nat) (hd : 0 ≤ d) (s : Q_S) (r0 : Nat) (i1 : Int) (s9 : Q_S) (r : Unit), g_118 o n 0 s r0 i1 = some (s9, r) → ∀ lv : X_L, x_lget lv 0 = some (.ref r0) → x_lget lv 1 = some (.int (Int32.ofInt i1)) → Y o d 118 0 lv [] (q_y s) (fun s1 r1 => s1 = q_y s9 ∧ r1 = none)) := by
  intro n
  induction n with
  | zero => exact fun d hd s _ _ s9 r h => (by simp only [g_118] at h; cases h)
  | succ n ih =>
    intro d hd s r0 i1 s9 r h lv lk0 lk1
    simp only [g_118] at h
    refine Van rfl lk0 rfl rfl ?_
    have hz := y_bind h
    clear h
    obtain ⟨v1, h2, h⟩ := hz
    have wv1 := (y_gv_ok h2).2
    refine Vgv h2 rfl rfl rfl ?_
    refine Vin rfl lk1 rfl ?_
    have hz := y_bind h
    clear h
    obtain ⟨v3, h4, h⟩ := hz
    refine Zia (q_ia_y h4) rfl rfl ?_
    refine Vsin rfl rfl (fun lv lk2 hk => ?_)
    have lk0 := hk 0 _ lk0 (by decide) (by decide) (Or.inl (by decide))
    have lk1 := hk 1 _ lk1 (by decide) (by decide) (Or.inr rfl)
    refine Van rfl lk0 rfl rfl ?_
    have hz := y_bind h
    clear h
    obtain ⟨v5, h6, h⟩ := hz
    have wv5 := (y_gv_ok h6).2
    refine Vgv h6 rfl rfl rfl ?_
    refine Vin rfl lk2 rfl ?_
    refine Vic (v := Int32.ofInt 0) rfl rfl rfl ?_
    have hz := y_bind h
    clear h
    obtain ⟨s7, h8, h⟩ := hz
    refine Zbs (q_bs_y h8) rfl rfl ?_
    refine Van rfl lk0 rfl rfl ?_
    have hz := y_bind h
    clear h
    obtain ⟨v9, h10, h⟩ := hz
    have wv9 := (y_gv_ok h10).2
    refine Vgv h10 rfl rfl rfl ?_
    refine Vin rfl lk1 rfl ?_
    refine Van rfl lk0 rfl rfl ?_
    have hz := y_bind h
    clear h
    obtain ⟨v11, h12, h⟩ := hz
    have wv11 := (y_gv_ok h12).2
    refine Vgv h12 rfl rfl rfl ?_
    refine Vin rfl lk2 rfl ?_
    have hz := y_bind h
    clear h
    obtain ⟨v13, h14, h⟩ := hz
    refine Zia (q_ia_y h14) rfl rfl ?_
    have hz := y_bind h
    clear h
    obtain ⟨s15, h16, h⟩ := hz
    refine Zis (q_is_y h16) rfl rfl ?_
    cases h
    exact Yret rfl rfl rfl rfl rfl rfl rfl ⟨rfl, rfl⟩

/-- StepRowsModel.drop -/
def g_117 (o : X_O) : Nat → Nat → Nat → Q_S → Nat → Int → Int → Option (Q_S × Unit)
  | 0, _, _, _, _, _, _ => none
  | n + 1, e, 0, s, r0, i1, i2 => (q_gv s 7 (.ref r0) 39).bind fun v1 => (q_ia o s v1 i1).bind fun v3 => (q_g (q_in v3 ∧ q_in i2)).bind fun _ => if v3 = i2 then some (s, ()) else (q_gv s 7 (.ref r0) 39).bind fun v8 => (q_ia o s v8 i1).bind fun v10 => (q_gv s 7 (.ref r0) 33).bind fun v12 => (q_ia o s v12 v10).bind fun v14 => (q_g (q_in v14)).bind fun _ => if v14 = (-1) then g_117 o n e 1 s r0 (i1) (i2) else (q_gv s 7 (.ref r0) 33).bind fun v19 => (q_ia o s v19 v10).bind fun v21 => (q_dec e).bind fun e65 => (q_rcv s 7 (.ref r0)).bind fun b27 => (g_117 o n e65 0 s b27 (v21) (v10)).bind fun q26 => (q_gv q26.1 7 (.ref r0) 34).bind fun v31 => (q_ia o q26.1 v31 v10).bind fun v33 => (q_dec e).bind fun e63 => (q_rcv q26.1 7 (.ref r0)).bind fun b39 => (g_117 o n e63 0 q26.1 b39 (v33) (v10)).bind fun q38 => (q_gv q38.1 7 (.ref r0) 44).bind fun v43 => (q_gv q38.1 7 (.ref r0) 33).bind fun v45 => (q_ia o q38.1 v45 v10).bind fun v47 => (q_bs q38.1 v43 v47 0).bind fun s49 => (q_gv s49 7 (.ref r0) 44).bind fun v51 => (q_gv s49 7 (.ref r0) 34).bind fun v53 => (q_ia o s49 v53 v10).bind fun v55 => (q_bs s49 v51 v55 0).bind fun s57 => (q_gi s57 7 (.ref r0) 45).bind fun v59 => (q_pi s57 7 (.ref r0) 45 (v59 - 1)).bind fun s61 => g_117 o n e 1 s61 r0 (i1) (i2)
  | n + 1, e, 1, s, r0, i1, i2 => (q_rcv s 7 (.ref r0)).bind fun b5 => (g_118 o n 0 s b5 (i1)).bind fun q4 => g_117 o n e 0 q4.1 r0 (i1) (i2)
  | _ + 1, _, _, _, _, _, _ => none
set_option maxRecDepth 100000 in
set_option maxHeartbeats 4000000 in
theorem c_117 (o : X_O) : ∀ n, (∀ (d e : Nat) (hd : 1 + e ≤ d) (s : Q_S) (r0 : Nat) (i1 : Int) (i2 : Int) (s9 : Q_S) (r : Unit), g_117 o n e 0 s r0 i1 i2 = some (s9, r) → ∀ lv : X_L, x_lget lv 0 = some (.ref r0) → x_lget lv 1 = some (.int (Int32.ofInt i1)) → x_lget lv 2 = some (.int (Int32.ofInt i2)) → Y o d 117 0 lv [] (q_y s) (fun s1 r1 => s1 = q_y s9 ∧ r1 = none)) ∧
    (∀ (d e : Nat) (hd : 1 + e ≤ d) (s : Q_S) (r0 : Nat) (i1 : Int) (i2 : Int) (s9 : Q_S) (r : Unit), g_117 o n e 1 s r0 i1 i2 = some (s9, r) → ∀ lv : X_L, x_lget lv 0 = some (.ref r0) → x_lget lv 1 = some (.int (Int32.ofInt i1)) → x_lget lv 2 = some (.int (Int32.ofInt i2)) → Y o d 117 83 lv [] (q_y s) (fun s1 r1 => s1 = q_y s9 ∧ r1 = none)) := by
  intro n
  induction n with
  | zero => exact ⟨fun d e hd s _ _ _ s9 r h => (by simp only [g_117] at h; cases h), fun d e hd s _ _ _ s9 r h => (by simp only [g_117] at h; cases h)⟩
  | succ n ih =>
    refine ⟨?_, ?_⟩
    · intro d e hd s r0 i1 i2 s9 r h lv lk0 lk1 lk2
      obtain ⟨d, rfl⟩ : ∃ x, d = x + 1 := ⟨d - 1, by omega⟩
      simp only [g_117] at h
      refine Van rfl lk0 rfl rfl ?_
      have hz := y_bind h
      clear h
      obtain ⟨v1, h2, h⟩ := hz
      have wv1 := (y_gv_ok h2).2
      refine Vgv h2 rfl rfl rfl ?_
      refine Vin rfl lk1 rfl ?_
      have hz := y_bind h
      clear h
      obtain ⟨v3, h4, h⟩ := hz
      refine Zia (q_ia_y h4) rfl rfl ?_
      refine Vin rfl lk2 rfl ?_
      have hz := y_bind h
      clear h
      obtain ⟨_, h6, h⟩ := hz
      have c5 := q_g_ok h6
      refine Uif (q_eq c5.1 c5.2) rfl rfl rfl rfl rfl rfl rfl (fun c7 => ?_) (fun c7 => ?_)
      · rw [if_pos c7] at h
        cases h
        exact Yret rfl rfl rfl rfl rfl rfl rfl ⟨rfl, rfl⟩
      · rw [if_neg c7] at h
        refine Van rfl lk0 rfl rfl ?_
        have hz := y_bind h
        clear h
        obtain ⟨v8, h9, h⟩ := hz
        have wv8 := (y_gv_ok h9).2
        refine Vgv h9 rfl rfl rfl ?_
        refine Vin rfl lk1 rfl ?_
        have hz := y_bind h
        clear h
        obtain ⟨v10, h11, h⟩ := hz
        refine Zia (q_ia_y h11) rfl rfl ?_
        refine Vsin rfl rfl (fun lv lk3 hk => ?_)
        have lk0 := hk 0 _ lk0 (by decide) (by decide) (Or.inl (by decide))
        have lk1 := hk 1 _ lk1 (by decide) (by decide) (Or.inl (by decide))
        have lk2 := hk 2 _ lk2 (by decide) (by decide) (Or.inr rfl)
        refine Van rfl lk0 rfl rfl ?_
        have hz := y_bind h
        clear h
        obtain ⟨v12, h13, h⟩ := hz
        have wv12 := (y_gv_ok h13).2
        refine Vgv h13 rfl rfl rfl ?_
        refine Vin rfl lk3 rfl ?_
        have hz := y_bind h
        clear h
        obtain ⟨v14, h15, h⟩ := hz
        refine Zia (q_ia_y h15) rfl rfl ?_
        refine Vic (v := Int32.ofInt (-1)) rfl rfl rfl ?_
        have hz := y_bind h
        clear h
        obtain ⟨_, h17, h⟩ := hz
        have c16 := q_g_ok h17
        refine Uif (q_eq c16 (by decide)) rfl rfl rfl rfl rfl rfl rfl (fun c18 => ?_) (fun c18 => ?_)
        · rw [if_pos c18] at h
          exact ih.2 _ _ hd _ _ _ _ _ _ h lv lk0 lk1 lk2
        · rw [if_neg c18] at h
          refine Van rfl lk0 rfl rfl ?_
          refine Van rfl lk0 rfl rfl ?_
          have hz := y_bind h
          clear h
          obtain ⟨v19, h20, h⟩ := hz
          have wv19 := (y_gv_ok h20).2
          refine Vgv h20 rfl rfl rfl ?_
          refine Vin rfl lk3 rfl ?_
          have hz := y_bind h
          clear h
          obtain ⟨v21, h22, h⟩ := hz
          refine Zia (q_ia_y h22) rfl rfl ?_
          refine Vin rfl lk3 rfl ?_
          have hz := y_bind h
          clear h
          obtain ⟨e65, h66, h⟩ := hz
          have h66x := q_dec_ok h66
          have hz := y_bind h
          clear h
          obtain ⟨b27, h28, h⟩ := hz
          obtain ⟨eh28, fh28, wh28⟩ := y_rcv_ok h28
          cases eh28
          have hz := y_bind h
          clear h
          obtain ⟨⟨s23, r24⟩, h25, h⟩ := hz
          try dsimp only at h
          refine Vcv rfl rfl rfl wh28 rfl rfl ⟨(Nat.le_of_ble_eq_true rfl), (Nat.le_of_ble_eq_true rfl)⟩ rfl (ih.1 _ _ (by omega) _ _ _ _ _ _ h25 _ rfl rfl rfl) (fun z1 z2 zq => ?_)
          obtain ⟨rfl, rfl⟩ := zq
          try dsimp only [Option.toList, HAppend.hAppend, Append.append, List.append]
          refine Van rfl lk0 rfl rfl ?_
          refine Van rfl lk0 rfl rfl ?_
          have hz := y_bind h
          clear h
          obtain ⟨v31, h32, h⟩ := hz
          have wv31 := (y_gv_ok h32).2
          refine Vgv h32 rfl rfl rfl ?_
          refine Vin rfl lk3 rfl ?_
          have hz := y_bind h
          clear h
          obtain ⟨v33, h34, h⟩ := hz
          refine Zia (q_ia_y h34) rfl rfl ?_
          refine Vin rfl lk3 rfl ?_
          have hz := y_bind h
          clear h
          obtain ⟨e63, h64, h⟩ := hz
          have h64x := q_dec_ok h64
          have hz := y_bind h
          clear h
          obtain ⟨b39, h40, h⟩ := hz
          obtain ⟨eh40, fh40, wh40⟩ := y_rcv_ok h40
          cases eh40
          have hz := y_bind h
          clear h
          obtain ⟨⟨s35, r36⟩, h37, h⟩ := hz
          try dsimp only at h
          refine Vcv rfl rfl rfl wh40 rfl rfl ⟨(Nat.le_of_ble_eq_true rfl), (Nat.le_of_ble_eq_true rfl)⟩ rfl (ih.1 _ _ (by omega) _ _ _ _ _ _ h37 _ rfl rfl rfl) (fun z1 z2 zq => ?_)
          obtain ⟨rfl, rfl⟩ := zq
          try dsimp only [Option.toList, HAppend.hAppend, Append.append, List.append]
          refine Van rfl lk0 rfl rfl ?_
          have hz := y_bind h
          clear h
          obtain ⟨v43, h44, h⟩ := hz
          have wv43 := (y_gv_ok h44).2
          refine Vgv h44 rfl rfl rfl ?_
          refine Van rfl lk0 rfl rfl ?_
          have hz := y_bind h
          clear h
          obtain ⟨v45, h46, h⟩ := hz
          have wv45 := (y_gv_ok h46).2
          refine Vgv h46 rfl rfl rfl ?_
          refine Vin rfl lk3 rfl ?_
          have hz := y_bind h
          clear h
          obtain ⟨v47, h48, h⟩ := hz
          refine Zia (q_ia_y h48) rfl rfl ?_
          refine Vic (v := Int32.ofInt 0) rfl rfl rfl ?_
          have hz := y_bind h
          clear h
          obtain ⟨s49, h50, h⟩ := hz
          refine Zbs (q_bs_y h50) rfl rfl ?_
          refine Van rfl lk0 rfl rfl ?_
          have hz := y_bind h
          clear h
          obtain ⟨v51, h52, h⟩ := hz
          have wv51 := (y_gv_ok h52).2
          refine Vgv h52 rfl rfl rfl ?_
          refine Van rfl lk0 rfl rfl ?_
          have hz := y_bind h
          clear h
          obtain ⟨v53, h54, h⟩ := hz
          have wv53 := (y_gv_ok h54).2
          refine Vgv h54 rfl rfl rfl ?_
          refine Vin rfl lk3 rfl ?_
          have hz := y_bind h
          clear h
          obtain ⟨v55, h56, h⟩ := hz
          refine Zia (q_ia_y h56) rfl rfl ?_
          refine Vic (v := Int32.ofInt 0) rfl rfl rfl ?_
          have hz := y_bind h
          clear h
          obtain ⟨s57, h58, h⟩ := hz
          refine Zbs (q_bs_y h58) rfl rfl ?_
          refine Van rfl lk0 rfl rfl ?_
          refine Vdup rfl rfl rfl ?_
          have hz := y_bind h
          clear h
          obtain ⟨v59, h60, h⟩ := hz
          refine Zgi (q_gi_y h60) rfl rfl rfl ?_
          refine Vic (v := Int32.ofInt 1) rfl rfl rfl ?_
          refine Usub rfl rfl ?_
          have hz := y_bind h
          clear h
          obtain ⟨s61, h62, h⟩ := hz
          refine Zpi (q_pi_y h62) rfl rfl rfl rfl ?_
          exact ih.2 _ _ hd _ _ _ _ _ _ h lv lk0 lk1 lk2
    · intro d e hd s r0 i1 i2 s9 r h lv lk0 lk1 lk2
      obtain ⟨d, rfl⟩ : ∃ x, d = x + 1 := ⟨d - 1, by omega⟩
      simp only [g_117] at h
      refine Van rfl lk0 rfl rfl ?_
      refine Vin rfl lk1 rfl ?_
      have hz := y_bind h
      clear h
      obtain ⟨b5, h6, h⟩ := hz
      obtain ⟨eh6, fh6, wh6⟩ := y_rcv_ok h6
      cases eh6
      have hz := y_bind h
      clear h
      obtain ⟨⟨s1, r2⟩, h3, h⟩ := hz
      try dsimp only at h
      refine Vcv rfl rfl rfl wh6 rfl rfl ⟨(Nat.le_of_ble_eq_true rfl), (Nat.le_of_ble_eq_true rfl)⟩ rfl ((c_118 o n) _ (by omega) _ _ _ _ _ h3 _ rfl rfl) (fun z1 z2 zq => ?_)
      obtain ⟨rfl, rfl⟩ := zq
      try dsimp only [Option.toList, HAppend.hAppend, Append.append, List.append]
      refine Ygo rfl rfl rfl rfl rfl rfl ?_
      exact ih.1 _ _ hd _ _ _ _ _ _ h lv lk0 lk1 lk2

/-- StepRowsModel.third -/
def g_119 (o : X_O) : Nat → Nat → Q_S → Nat → Int → Option (Q_S × Int)
  | 0, _, _, _, _ => none
  | n + 1, 0, s, r0, i1 => (q_gv s 7 (.ref r0) 14).bind fun v1 => (q_gi s 7 (.ref r0) 18).bind fun v3 => (q_ia o s v1 ((500 * v3) + i1)).bind fun v5 => some (s, v5)
  | _ + 1, _, _, _, _ => none
set_option maxRecDepth 100000 in
set_option maxHeartbeats 4000000 in
theorem c_119 (o : X_O) : ∀ n, (∀ (d : Nat) (hd : 0 ≤ d) (s : Q_S) (r0 : Nat) (i1 : Int) (s9 : Q_S) (r : Int), g_119 o n 0 s r0 i1 = some (s9, r) → ∀ lv : X_L, x_lget lv 0 = some (.ref r0) → x_lget lv 1 = some (.int (Int32.ofInt i1)) → Y o d 119 0 lv [] (q_y s) (fun s1 r1 => s1 = q_y s9 ∧ r1 = some (.int (Int32.ofInt r)))) := by
  intro n
  induction n with
  | zero => exact fun d hd s _ _ s9 r h => (by simp only [g_119] at h; cases h)
  | succ n ih =>
    intro d hd s r0 i1 s9 r h lv lk0 lk1
    simp only [g_119] at h
    refine Van rfl lk0 rfl rfl ?_
    have hz := y_bind h
    clear h
    obtain ⟨v1, h2, h⟩ := hz
    have wv1 := (y_gv_ok h2).2
    refine Vgv h2 rfl rfl rfl ?_
    refine Vsp (v := Int32.ofInt 500) rfl (by decide) rfl ?_
    refine Van rfl lk0 rfl rfl ?_
    have hz := y_bind h
    clear h
    obtain ⟨v3, h4, h⟩ := hz
    refine Zgi (q_gi_y h4) rfl rfl rfl ?_
    refine Umul rfl rfl ?_
    refine Vin rfl lk1 rfl ?_
    refine Uadd rfl rfl ?_
    have hz := y_bind h
    clear h
    obtain ⟨v5, h6, h⟩ := hz
    refine Zia (q_ia_y h6) rfl rfl ?_
    cases h
    exact Yret rfl rfl rfl rfl rfl rfl rfl ⟨rfl, rfl⟩

/-- StepRowsModel.go -/
def g_120 (o : X_O) : Nat → Nat → Q_S → Nat → Int → Int → Int → Option (Q_S × Unit)
  | 0, _, _, _, _, _, _ => none
  | n + 1, 0, s, r0, i1, i2, i3 => (q_gv s 7 (.ref r0) 37).bind fun v1 => (q_is s v1 i1 i2).bind fun s3 => (q_gv s3 7 (.ref r0) 38).bind fun v5 => (q_is s3 v5 i1 i3).bind fun s7 => some (s7, ())
  | _ + 1, _, _, _, _, _, _ => none
set_option maxRecDepth 100000 in
set_option maxHeartbeats 4000000 in
theorem c_120 (o : X_O) : ∀ n, (∀ (d : Nat) (hd : 0 ≤ d) (s : Q_S) (r0 : Nat) (i1 : Int) (i2 : Int) (i3 : Int) (s9 : Q_S) (r : Unit), g_120 o n 0 s r0 i1 i2 i3 = some (s9, r) → ∀ lv : X_L, x_lget lv 0 = some (.ref r0) → x_lget lv 1 = some (.int (Int32.ofInt i1)) → x_lget lv 2 = some (.int (Int32.ofInt i2)) → x_lget lv 3 = some (.int (Int32.ofInt i3)) → Y o d 120 0 lv [] (q_y s) (fun s1 r1 => s1 = q_y s9 ∧ r1 = none)) := by
  intro n
  induction n with
  | zero => exact fun d hd s _ _ _ _ s9 r h => (by simp only [g_120] at h; cases h)
  | succ n ih =>
    intro d hd s r0 i1 i2 i3 s9 r h lv lk0 lk1 lk2 lk3
    simp only [g_120] at h
    refine Van rfl lk0 rfl rfl ?_
    have hz := y_bind h
    clear h
    obtain ⟨v1, h2, h⟩ := hz
    have wv1 := (y_gv_ok h2).2
    refine Vgv h2 rfl rfl rfl ?_
    refine Vin rfl lk1 rfl ?_
    refine Vin rfl lk2 rfl ?_
    have hz := y_bind h
    clear h
    obtain ⟨s3, h4, h⟩ := hz
    refine Zis (q_is_y h4) rfl rfl ?_
    refine Van rfl lk0 rfl rfl ?_
    have hz := y_bind h
    clear h
    obtain ⟨v5, h6, h⟩ := hz
    have wv5 := (y_gv_ok h6).2
    refine Vgv h6 rfl rfl rfl ?_
    refine Vin rfl lk1 rfl ?_
    refine Vin rfl lk3 rfl ?_
    have hz := y_bind h
    clear h
    obtain ⟨s7, h8, h⟩ := hz
    refine Zis (q_is_y h8) rfl rfl ?_
    cases h
    exact Yret rfl rfl rfl rfl rfl rfl rfl ⟨rfl, rfl⟩

/-- StepRowsModel.look -/
def g_110 (o : X_O) : Nat → Nat → Nat → Q_S → Nat → Int → Int → Int → Int → Int → Option (Q_S × Unit)
  | 0, _, _, _, _, _, _, _, _, _ => none
  | n + 1, e, 0, s, r0, i1, i2, i3, i4, i5 => (q_gv s 7 (.ref r0) 39).bind fun v1 => (q_ia o s v1 i1).bind fun v3 => g_110 o n e 1 s r0 (i1) (i2) (0) (v3) 0
  | n + 1, e, 1, s, r0, i1, i2, i3, i4, i5 => (q_g (q_in i4 ∧ q_in i2)).bind fun _ => if i4 = i2 then g_110 o n e 2 s r0 (i1) 0 0 (0) ((i3 - 1)) else (q_gv s 7 (.ref r0) 48).bind fun v4 => (q_is s v4 i3 i4).bind fun s6 => (q_gv s6 7 (.ref r0) 30).bind fun v8 => (q_ia o s6 v8 i4).bind fun v10 => g_110 o n e 1 s6 r0 (i1) (i2) ((i3 + 1)) (v10) 0
  | n + 1, e, 2, s, r0, i1, i2, i3, i4, i5 => (q_g (q_in i5)).bind fun _ => if i5 < 0 then g_110 o n e 4 s r0 (i1) 0 0 (i4) 0 else (q_g (q_in i4)).bind fun _ => if ¬ i4 = 0 then g_110 o n e 4 s r0 (i1) 0 0 (i4) 0 else (q_gi s 7 (.ref r0) 47).bind fun v7 => (q_g (q_in v7)).bind fun _ => if ¬ v7 = 0 then g_110 o n e 4 s r0 (i1) 0 0 (i4) 0 else (q_gv s 7 (.ref r0) 48).bind fun v12 => (q_ia o s v12 i5).bind fun v14 => (q_gv s 7 (.ref r0) 29).bind fun v16 => (q_ia o s v16 v14).bind fun v18 => (q_rcv s 7 (.ref r0)).bind fun b24 => (g_111 o n 0 s b24 (v18)).bind fun q23 => (q_g (q_in q23.2)).bind fun _ => if ¬ q23.2 = 16 then g_110 o n e 3 q23.1 r0 (i1) 0 0 (i4) (i5) else (q_rcv q23.1 7 (.ref r0)).bind fun b35 => (g_112 o n 0 q23.1 b35 (v18)).bind fun q34 => (q_rcv q34.1 7 (.ref r0)).bind fun b43 => (g_113 o n 510 0 q34.1 b43 (q34.2) 0).bind fun q42 => if ¬ q42.2 = 0 then g_110 o n e 3 q42.1 r0 (i1) 0 0 (i4) (i5) else (q_gi q42.1 7 (.ref r0) 47).bind fun v48 => (q_g (q_in v48)).bind fun _ => if ¬ v48 = 0 then g_110 o n e 3 q42.1 r0 (i1) 0 0 (i4) (i5) else (q_gv q42.1 7 (.ref r0) 30).bind fun v53 => (q_ia o q42.1 v53 v14).bind fun v55 => (q_rcv q42.1 7 (.ref r0)).bind fun b61 => (g_117 o n 60 0 q42.1 b61 (i1) (v55)).bind fun q60 => (q_rcv q60.1 7 (.ref r0)).bind fun b69 => (g_119 o n 0 q60.1 b69 (v18)).bind fun q68 => (q_rcv q68.1 7 (.ref r0)).bind fun b77 => (g_120 o n 0 q68.1 b77 (i1) (2) (q68.2)).bind fun q76 => g_110 o n e 3 q76.1 r0 (i1) 0 0 (1) (i5)
  | n + 1, e, 3, s, r0, i1, i2, i3, i4, i5 => g_110 o n e 2 s r0 (i1) 0 0 (i4) ((i5 + (-1)))
  | n + 1, e, 4, s, r0, i1, i2, i3, i4, i5 => (q_g (q_in i4)).bind fun _ => if ¬ i4 = 0 then g_110 o n e 5 s 0 0 0 0 0 0 else (q_gi s 7 (.ref r0) 47).bind fun v4 => (q_g (q_in v4)).bind fun _ => if ¬ v4 = 0 then g_110 o n e 5 s 0 0 0 0 0 0 else (q_gv s 7 (.ref r0) 37).bind fun v9 => (q_ia o s v9 i1).bind fun v11 => (q_g (q_in v11)).bind fun _ => if ¬ v11 = 4 then g_110 o n e 5 s 0 0 0 0 0 0 else (q_gv s 7 (.ref r0) 39).bind fun v16 => (q_ia o s v16 i1).bind fun v18 => (q_gv s 7 (.ref r0) 33).bind fun v20 => (q_ia o s v20 v18).bind fun v22 => (q_dec e).bind fun e51 => (q_rcv s 7 (.ref r0)).bind fun b28 => (g_110 o n e51 0 s b28 (v22) (v18) 0 0 0).bind fun q27 => (q_gi q27.1 7 (.ref r0) 47).bind fun v32 => (q_g (q_in v32)).bind fun _ => if ¬ v32 = 0 then g_110 o n e 5 q27.1 0 0 0 0 0 0 else (q_gv q27.1 7 (.ref r0) 34).bind fun v37 => (q_ia o q27.1 v37 v18).bind fun v39 => (q_dec e).bind fun e49 => (q_rcv q27.1 7 (.ref r0)).bind fun b45 => (g_110 o n e49 0 q27.1 b45 (v39) (v18) 0 0 0).bind fun q44 => g_110 o n e 5 q44.1 0 0 0 0 0 0
  | n + 1, e, 5, s, r0, i1, i2, i3, i4, i5 => some (s, ())
  | _ + 1, _, _, _, _, _, _, _, _, _ => none
set_option maxRecDepth 100000 in
set_option maxHeartbeats 4000000 in
theorem c_110 (o : X_O) : ∀ n, (∀ (d e : Nat) (hd : 512 + e ≤ d) (s : Q_S) (r0 : Nat) (i1 : Int) (i2 : Int) (i3 : Int) (i4 : Int) (i5 : Int) (s9 : Q_S) (r : Unit), g_110 o n e 0 s r0 i1 i2 i3 i4 i5 = some (s9, r) → ∀ lv : X_L, x_lget lv 0 = some (.ref r0) → x_lget lv 1 = some (.int (Int32.ofInt i1)) → x_lget lv 2 = some (.int (Int32.ofInt i2)) → Y o d 110 0 lv [] (q_y s) (fun s1 r1 => s1 = q_y s9 ∧ r1 = none)) ∧
    (∀ (d e : Nat) (hd : 512 + e ≤ d) (s : Q_S) (r0 : Nat) (i1 : Int) (i2 : Int) (i3 : Int) (i4 : Int) (i5 : Int) (s9 : Q_S) (r : Unit), g_110 o n e 1 s r0 i1 i2 i3 i4 i5 = some (s9, r) → ∀ lv : X_L, x_lget lv 0 = some (.ref r0) → x_lget lv 1 = some (.int (Int32.ofInt i1)) → x_lget lv 2 = some (.int (Int32.ofInt i2)) → x_lget lv 3 = some (.int (Int32.ofInt i3)) → x_lget lv 4 = some (.int (Int32.ofInt i4)) → Y o d 110 10 lv [] (q_y s) (fun s1 r1 => s1 = q_y s9 ∧ r1 = none)) ∧
    (∀ (d e : Nat) (hd : 512 + e ≤ d) (s : Q_S) (r0 : Nat) (i1 : Int) (i2 : Int) (i3 : Int) (i4 : Int) (i5 : Int) (s9 : Q_S) (r : Unit), g_110 o n e 2 s r0 i1 i2 i3 i4 i5 = some (s9, r) → ∀ lv : X_L, x_lget lv 0 = some (.ref r0) → x_lget lv 1 = some (.int (Int32.ofInt i1)) → x_lget lv 4 = some (.int (Int32.ofInt i4)) → x_lget lv 5 = some (.int (Int32.ofInt i5)) → Y o d 110 47 lv [] (q_y s) (fun s1 r1 => s1 = q_y s9 ∧ r1 = none)) ∧
    (∀ (d e : Nat) (hd : 512 + e ≤ d) (s : Q_S) (r0 : Nat) (i1 : Int) (i2 : Int) (i3 : Int) (i4 : Int) (i5 : Int) (s9 : Q_S) (r : Unit), g_110 o n e 3 s r0 i1 i2 i3 i4 i5 = some (s9, r) → ∀ lv : X_L, x_lget lv 0 = some (.ref r0) → x_lget lv 1 = some (.int (Int32.ofInt i1)) → x_lget lv 4 = some (.int (Int32.ofInt i4)) → x_lget lv 5 = some (.int (Int32.ofInt i5)) → Y o d 110 142 lv [] (q_y s) (fun s1 r1 => s1 = q_y s9 ∧ r1 = none)) ∧
    (∀ (d e : Nat) (hd : 512 + e ≤ d) (s : Q_S) (r0 : Nat) (i1 : Int) (i2 : Int) (i3 : Int) (i4 : Int) (i5 : Int) (s9 : Q_S) (r : Unit), g_110 o n e 4 s r0 i1 i2 i3 i4 i5 = some (s9, r) → ∀ lv : X_L, x_lget lv 0 = some (.ref r0) → x_lget lv 1 = some (.int (Int32.ofInt i1)) → x_lget lv 4 = some (.int (Int32.ofInt i4)) → Y o d 110 148 lv [] (q_y s) (fun s1 r1 => s1 = q_y s9 ∧ r1 = none)) ∧
    (∀ (d e : Nat) (hd : 512 + e ≤ d) (s : Q_S) (r0 : Nat) (i1 : Int) (i2 : Int) (i3 : Int) (i4 : Int) (i5 : Int) (s9 : Q_S) (r : Unit), g_110 o n e 5 s r0 i1 i2 i3 i4 i5 = some (s9, r) → ∀ lv : X_L, True → Y o d 110 211 lv [] (q_y s) (fun s1 r1 => s1 = q_y s9 ∧ r1 = none)) := by
  intro n
  induction n with
  | zero => exact ⟨fun d e hd s _ _ _ _ _ _ s9 r h => (by simp only [g_110] at h; cases h), fun d e hd s _ _ _ _ _ _ s9 r h => (by simp only [g_110] at h; cases h), fun d e hd s _ _ _ _ _ _ s9 r h => (by simp only [g_110] at h; cases h), fun d e hd s _ _ _ _ _ _ s9 r h => (by simp only [g_110] at h; cases h), fun d e hd s _ _ _ _ _ _ s9 r h => (by simp only [g_110] at h; cases h), fun d e hd s _ _ _ _ _ _ s9 r h => (by simp only [g_110] at h; cases h)⟩
  | succ n ih =>
    refine ⟨?_, ?_, ?_, ?_, ?_, ?_⟩
    · intro d e hd s r0 i1 i2 i3 i4 i5 s9 r h lv lk0 lk1 lk2
      obtain ⟨d, rfl⟩ : ∃ x, d = x + 1 := ⟨d - 1, by omega⟩
      simp only [g_110] at h
      refine Vic (v := Int32.ofInt 0) rfl rfl rfl ?_
      refine Vsin rfl rfl (fun lv lk3 hk => ?_)
      have lk0 := hk 0 _ lk0 (by decide) (by decide) (Or.inl (by decide))
      have lk1 := hk 1 _ lk1 (by decide) (by decide) (Or.inl (by decide))
      have lk2 := hk 2 _ lk2 (by decide) (by decide) (Or.inr rfl)
      refine Van rfl lk0 rfl rfl ?_
      have hz := y_bind h
      clear h
      obtain ⟨v1, h2, h⟩ := hz
      have wv1 := (y_gv_ok h2).2
      refine Vgv h2 rfl rfl rfl ?_
      refine Vin rfl lk1 rfl ?_
      have hz := y_bind h
      clear h
      obtain ⟨v3, h4, h⟩ := hz
      refine Zia (q_ia_y h4) rfl rfl ?_
      refine Vsi rfl rfl (fun lv lk4 hk => ?_)
      have lk0 := hk 0 _ lk0 (by decide) (by decide) (Or.inl (by decide))
      have lk1 := hk 1 _ lk1 (by decide) (by decide) (Or.inl (by decide))
      have lk2 := hk 2 _ lk2 (by decide) (by decide) (Or.inl (by decide))
      have lk3 := hk 3 _ lk3 (by decide) (by decide) (Or.inr rfl)
      exact ih.2.1 _ _ hd _ _ _ _ _ _ _ _ _ h lv lk0 lk1 lk2 lk3 lk4
    · intro d e hd s r0 i1 i2 i3 i4 i5 s9 r h lv lk0 lk1 lk2 lk3 lk4
      obtain ⟨d, rfl⟩ : ∃ x, d = x + 1 := ⟨d - 1, by omega⟩
      simp only [g_110] at h
      refine Vi rfl lk4 rfl ?_
      refine Vin rfl lk2 rfl ?_
      have hz := y_bind h
      clear h
      obtain ⟨_, h2, h⟩ := hz
      have c1 := q_g_ok h2
      refine Uif (q_eq c1.1 c1.2) rfl rfl rfl rfl rfl rfl rfl (fun c3 => ?_) (fun c3 => ?_)
      · rw [if_pos c3] at h
        refine Vic (v := Int32.ofInt 0) rfl rfl rfl ?_
        refine Vsi rfl rfl (fun lv lk4 hk => ?_)
        have lk0 := hk 0 _ lk0 (by decide) (by decide) (Or.inl (by decide))
        have lk1 := hk 1 _ lk1 (by decide) (by decide) (Or.inl (by decide))
        have lk3 := hk 3 _ lk3 (by decide) (by decide) (Or.inr rfl)
        refine Vin rfl lk3 rfl ?_
        refine Vic (v := Int32.ofInt 1) rfl rfl rfl ?_
        refine Usub rfl rfl ?_
        refine Vsi rfl rfl (fun lv lk5 hk => ?_)
        have lk0 := hk 0 _ lk0 (by decide) (by decide) (Or.inl (by decide))
        have lk1 := hk 1 _ lk1 (by decide) (by decide) (Or.inl (by decide))
        have lk4 := hk 4 _ lk4 (by decide) (by decide) (Or.inr rfl)
        exact ih.2.2.1 _ _ hd _ _ _ _ _ _ _ _ _ h lv lk0 lk1 lk4 lk5
      · rw [if_neg c3] at h
        refine Van rfl lk0 rfl rfl ?_
        have hz := y_bind h
        clear h
        obtain ⟨v4, h5, h⟩ := hz
        have wv4 := (y_gv_ok h5).2
        refine Vgv h5 rfl rfl rfl ?_
        refine Vin rfl lk3 rfl ?_
        refine Vi rfl lk4 rfl ?_
        have hz := y_bind h
        clear h
        obtain ⟨s6, h7, h⟩ := hz
        refine Zis (q_is_y h7) rfl rfl ?_
        refine Uinc rfl lk3 rfl (fun lv lk3 hk => ?_)
        have lk0 := hk 0 _ lk0 (by decide) (by decide) (Or.inl (by decide))
        have lk1 := hk 1 _ lk1 (by decide) (by decide) (Or.inl (by decide))
        have lk2 := hk 2 _ lk2 (by decide) (by decide) (Or.inr rfl)
        have lk4 := hk 4 _ lk4 (by decide) (by decide) (Or.inl (by decide))
        refine Van rfl lk0 rfl rfl ?_
        have hz := y_bind h
        clear h
        obtain ⟨v8, h9, h⟩ := hz
        have wv8 := (y_gv_ok h9).2
        refine Vgv h9 rfl rfl rfl ?_
        refine Vi rfl lk4 rfl ?_
        have hz := y_bind h
        clear h
        obtain ⟨v10, h11, h⟩ := hz
        refine Zia (q_ia_y h11) rfl rfl ?_
        refine Vsi rfl rfl (fun lv lk4 hk => ?_)
        have lk0 := hk 0 _ lk0 (by decide) (by decide) (Or.inl (by decide))
        have lk1 := hk 1 _ lk1 (by decide) (by decide) (Or.inl (by decide))
        have lk2 := hk 2 _ lk2 (by decide) (by decide) (Or.inl (by decide))
        have lk3 := hk 3 _ lk3 (by decide) (by decide) (Or.inr rfl)
        refine Ygo rfl rfl rfl rfl rfl rfl ?_
        exact ih.2.1 _ _ hd _ _ _ _ _ _ _ _ _ h lv lk0 lk1 lk2 lk3 lk4
    · intro d e hd s r0 i1 i2 i3 i4 i5 s9 r h lv lk0 lk1 lk4 lk5
      obtain ⟨d, rfl⟩ : ∃ x, d = x + 1 := ⟨d - 1, by omega⟩
      simp only [g_110] at h
      refine Vi rfl lk5 rfl ?_
      have hz := y_bind h
      clear h
      obtain ⟨_, h2, h⟩ := hz
      have c1 := q_g_ok h2
      refine Uif (q_lt0 c1) rfl rfl rfl rfl rfl rfl rfl (fun c3 => ?_) (fun c3 => ?_)
      · rw [if_pos c3] at h
        exact ih.2.2.2.2.1 _ _ hd _ _ _ _ _ _ _ _ _ h lv lk0 lk1 lk4
      · rw [if_neg c3] at h
        refine Vi rfl lk4 rfl ?_
        have hz := y_bind h
        clear h
        obtain ⟨_, h5, h⟩ := hz
        have c4 := q_g_ok h5
        refine Uif (not_congr (q_eq0 c4)) rfl rfl rfl rfl rfl rfl rfl (fun c6 => ?_) (fun c6 => ?_)
        · rw [if_pos c6] at h
          exact ih.2.2.2.2.1 _ _ hd _ _ _ _ _ _ _ _ _ h lv lk0 lk1 lk4
        · rw [if_neg c6] at h
          refine Van rfl lk0 rfl rfl ?_
          have hz := y_bind h
          clear h
          obtain ⟨v7, h8, h⟩ := hz
          refine Zgi (q_gi_y h8) rfl rfl rfl ?_
          have hz := y_bind h
          clear h
          obtain ⟨_, h10, h⟩ := hz
          have c9 := q_g_ok h10
          refine Uif (not_congr (q_eq0 c9)) rfl rfl rfl rfl rfl rfl rfl (fun c11 => ?_) (fun c11 => ?_)
          · rw [if_pos c11] at h
            exact ih.2.2.2.2.1 _ _ hd _ _ _ _ _ _ _ _ _ h lv lk0 lk1 lk4
          · rw [if_neg c11] at h
            refine Van rfl lk0 rfl rfl ?_
            have hz := y_bind h
            clear h
            obtain ⟨v12, h13, h⟩ := hz
            have wv12 := (y_gv_ok h13).2
            refine Vgv h13 rfl rfl rfl ?_
            refine Vi rfl lk5 rfl ?_
            have hz := y_bind h
            clear h
            obtain ⟨v14, h15, h⟩ := hz
            refine Zia (q_ia_y h15) rfl rfl ?_
            refine Vsi rfl rfl (fun lv lk6 hk => ?_)
            have lk0 := hk 0 _ lk0 (by decide) (by decide) (Or.inl (by decide))
            have lk1 := hk 1 _ lk1 (by decide) (by decide) (Or.inl (by decide))
            have lk4 := hk 4 _ lk4 (by decide) (by decide) (Or.inl (by decide))
            have lk5 := hk 5 _ lk5 (by decide) (by decide) (Or.inr rfl)
            refine Van rfl lk0 rfl rfl ?_
            have hz := y_bind h
            clear h
            obtain ⟨v16, h17, h⟩ := hz
            have wv16 := (y_gv_ok h17).2
            refine Vgv h17 rfl rfl rfl ?_
            refine Vi rfl lk6 rfl ?_
            have hz := y_bind h
            clear h
            obtain ⟨v18, h19, h⟩ := hz
            refine Zia (q_ia_y h19) rfl rfl ?_
            refine Vsi rfl rfl (fun lv lk7 hk => ?_)
            have lk0 := hk 0 _ lk0 (by decide) (by decide) (Or.inl (by decide))
            have lk1 := hk 1 _ lk1 (by decide) (by decide) (Or.inl (by decide))
            have lk4 := hk 4 _ lk4 (by decide) (by decide) (Or.inl (by decide))
            have lk5 := hk 5 _ lk5 (by decide) (by decide) (Or.inl (by decide))
            have lk6 := hk 6 _ lk6 (by decide) (by decide) (Or.inr rfl)
            refine Van rfl lk0 rfl rfl ?_
            refine Vi rfl lk7 rfl ?_
            have hz := y_bind h
            clear h
            obtain ⟨b24, h25, h⟩ := hz
            obtain ⟨eh25, fh25, wh25⟩ := y_rcv_ok h25
            cases eh25
            have hz := y_bind h
            clear h
            obtain ⟨⟨s20, r21⟩, h22, h⟩ := hz
            try dsimp only at h
            refine Vcv rfl rfl rfl wh25 rfl rfl ⟨(Nat.le_of_ble_eq_true rfl), (Nat.le_of_ble_eq_true rfl)⟩ rfl ((c_111 o n) _ (by omega) _ _ _ _ _ h22 _ rfl rfl) (fun z1 z2 zq => ?_)
            obtain ⟨rfl, rfl⟩ := zq
            try dsimp only [Option.toList, HAppend.hAppend, Append.append, List.append]
            refine Vbp (v := Int32.ofInt 16) rfl (by decide) rfl ?_
            have hz := y_bind h
            clear h
            obtain ⟨_, h29, h⟩ := hz
            have c28 := q_g_ok h29
            refine Uif (not_congr (q_eq c28 (by decide))) rfl rfl rfl rfl rfl rfl rfl (fun c30 => ?_) (fun c30 => ?_)
            · rw [if_pos c30] at h
              exact ih.2.2.2.1 _ _ hd _ _ _ _ _ _ _ _ _ h lv lk0 lk1 lk4 lk5
            · rw [if_neg c30] at h
              refine Van rfl lk0 rfl rfl ?_
              refine Van rfl lk0 rfl rfl ?_
              refine Vi rfl lk7 rfl ?_
              have hz := y_bind h
              clear h
              obtain ⟨b35, h36, h⟩ := hz
              obtain ⟨eh36, fh36, wh36⟩ := y_rcv_ok h36
              cases eh36
              have hz := y_bind h
              clear h
              obtain ⟨⟨s31, r32⟩, h33, h⟩ := hz
              try dsimp only at h
              refine Vcv rfl rfl rfl wh36 rfl rfl ⟨(Nat.le_of_ble_eq_true rfl), (Nat.le_of_ble_eq_true rfl)⟩ rfl ((c_112 o n) _ (by omega) _ _ _ _ _ h33 _ rfl rfl) (fun z1 z2 zq => ?_)
              obtain ⟨rfl, rfl⟩ := zq
              try dsimp only [Option.toList, HAppend.hAppend, Append.append, List.append]
              have hz := y_bind h
              clear h
              obtain ⟨b43, h44, h⟩ := hz
              obtain ⟨eh44, fh44, wh44⟩ := y_rcv_ok h44
              cases eh44
              have hz := y_bind h
              clear h
              obtain ⟨⟨s39, r40⟩, h41, h⟩ := hz
              try dsimp only at h
              refine Vcv rfl rfl rfl wh44 rfl rfl ⟨(Nat.le_of_ble_eq_true rfl), (Nat.le_of_ble_eq_true rfl)⟩ rfl ((c_113 o n).1 _ _ (by omega) _ _ _ _ _ _ h41 _ rfl rfl) (fun z1 z2 zq => ?_)
              obtain ⟨rfl, rfl⟩ := zq
              try dsimp only [Option.toList, HAppend.hAppend, Append.append, List.append]
              refine Vlc (v := 0) rfl (by decide) rfl ?_
              refine Ya rfl rfl rfl ?_
              refine Uif (not_congr (lg_cmp_eq _ _)) rfl rfl rfl rfl rfl rfl rfl (fun c47 => ?_) (fun c47 => ?_)
              · rw [if_pos c47] at h
                exact ih.2.2.2.1 _ _ hd _ _ _ _ _ _ _ _ _ h lv lk0 lk1 lk4 lk5
              · rw [if_neg c47] at h
                refine Van rfl lk0 rfl rfl ?_
                have hz := y_bind h
                clear h
                obtain ⟨v48, h49, h⟩ := hz
                refine Zgi (q_gi_y h49) rfl rfl rfl ?_
                have hz := y_bind h
                clear h
                obtain ⟨_, h51, h⟩ := hz
                have c50 := q_g_ok h51
                refine Uif (not_congr (q_eq0 c50)) rfl rfl rfl rfl rfl rfl rfl (fun c52 => ?_) (fun c52 => ?_)
                · rw [if_pos c52] at h
                  exact ih.2.2.2.1 _ _ hd _ _ _ _ _ _ _ _ _ h lv lk0 lk1 lk4 lk5
                · rw [if_neg c52] at h
                  refine Vic (v := Int32.ofInt 1) rfl rfl rfl ?_
                  refine Vsi rfl rfl (fun lv lk4 hk => ?_)
                  have lk0 := hk 0 _ lk0 (by decide) (by decide) (Or.inl (by decide))
                  have lk1 := hk 1 _ lk1 (by decide) (by decide) (Or.inl (by decide))
                  have lk5 := hk 5 _ lk5 (by decide) (by decide) (Or.inl (by decide))
                  have lk6 := hk 6 _ lk6 (by decide) (by decide) (Or.inl (by decide))
                  have lk7 := hk 7 _ lk7 (by decide) (by decide) (Or.inl (by decide))
                  refine Van rfl lk0 rfl rfl ?_
                  refine Vin rfl lk1 rfl ?_
                  refine Van rfl lk0 rfl rfl ?_
                  have hz := y_bind h
                  clear h
                  obtain ⟨v53, h54, h⟩ := hz
                  have wv53 := (y_gv_ok h54).2
                  refine Vgv h54 rfl rfl rfl ?_
                  refine Vi rfl lk6 rfl ?_
                  have hz := y_bind h
                  clear h
                  obtain ⟨v55, h56, h⟩ := hz
                  refine Zia (q_ia_y h56) rfl rfl ?_
                  have hz := y_bind h
                  clear h
                  obtain ⟨b61, h62, h⟩ := hz
                  obtain ⟨eh62, fh62, wh62⟩ := y_rcv_ok h62
                  cases eh62
                  have hz := y_bind h
                  clear h
                  obtain ⟨⟨s57, r58⟩, h59, h⟩ := hz
                  try dsimp only at h
                  refine Vcv rfl rfl rfl wh62 rfl rfl ⟨(Nat.le_of_ble_eq_true rfl), (Nat.le_of_ble_eq_true rfl)⟩ rfl ((c_117 o n).1 _ _ (by omega) _ _ _ _ _ _ h59 _ rfl rfl rfl) (fun z1 z2 zq => ?_)
                  obtain ⟨rfl, rfl⟩ := zq
                  try dsimp only [Option.toList, HAppend.hAppend, Append.append, List.append]
                  refine Van rfl lk0 rfl rfl ?_
                  refine Vin rfl lk1 rfl ?_
                  refine Vic (v := Int32.ofInt 2) rfl rfl rfl ?_
                  refine Van rfl lk0 rfl rfl ?_
                  refine Vi rfl lk7 rfl ?_
                  have hz := y_bind h
                  clear h
                  obtain ⟨b69, h70, h⟩ := hz
                  obtain ⟨eh70, fh70, wh70⟩ := y_rcv_ok h70
                  cases eh70
                  have hz := y_bind h
                  clear h
                  obtain ⟨⟨s65, r66⟩, h67, h⟩ := hz
                  try dsimp only at h
                  refine Vcv rfl rfl rfl wh70 rfl rfl ⟨(Nat.le_of_ble_eq_true rfl), (Nat.le_of_ble_eq_true rfl)⟩ rfl ((c_119 o n) _ (by omega) _ _ _ _ _ h67 _ rfl rfl) (fun z1 z2 zq => ?_)
                  obtain ⟨rfl, rfl⟩ := zq
                  try dsimp only [Option.toList, HAppend.hAppend, Append.append, List.append]
                  have hz := y_bind h
                  clear h
                  obtain ⟨b77, h78, h⟩ := hz
                  obtain ⟨eh78, fh78, wh78⟩ := y_rcv_ok h78
                  cases eh78
                  have hz := y_bind h
                  clear h
                  obtain ⟨⟨s73, r74⟩, h75, h⟩ := hz
                  try dsimp only at h
                  refine Vcv rfl rfl rfl wh78 rfl rfl ⟨(Nat.le_of_ble_eq_true rfl), (Nat.le_of_ble_eq_true rfl)⟩ rfl ((c_120 o n) _ (by omega) _ _ _ _ _ _ _ h75 _ rfl rfl rfl rfl) (fun z1 z2 zq => ?_)
                  obtain ⟨rfl, rfl⟩ := zq
                  try dsimp only [Option.toList, HAppend.hAppend, Append.append, List.append]
                  exact ih.2.2.2.1 _ _ hd _ _ _ _ _ _ _ _ _ h lv lk0 lk1 lk4 lk5
    · intro d e hd s r0 i1 i2 i3 i4 i5 s9 r h lv lk0 lk1 lk4 lk5
      obtain ⟨d, rfl⟩ : ∃ x, d = x + 1 := ⟨d - 1, by omega⟩
      simp only [g_110] at h
      refine Uinc rfl lk5 rfl (fun lv lk5 hk => ?_)
      have lk0 := hk 0 _ lk0 (by decide) (by decide) (Or.inl (by decide))
      have lk1 := hk 1 _ lk1 (by decide) (by decide) (Or.inl (by decide))
      have lk4 := hk 4 _ lk4 (by decide) (by decide) (Or.inr rfl)
      refine Ygo rfl rfl rfl rfl rfl rfl ?_
      exact ih.2.2.1 _ _ hd _ _ _ _ _ _ _ _ _ h lv lk0 lk1 lk4 lk5
    · intro d e hd s r0 i1 i2 i3 i4 i5 s9 r h lv lk0 lk1 lk4
      obtain ⟨d, rfl⟩ : ∃ x, d = x + 1 := ⟨d - 1, by omega⟩
      simp only [g_110] at h
      refine Vi rfl lk4 rfl ?_
      have hz := y_bind h
      clear h
      obtain ⟨_, h2, h⟩ := hz
      have c1 := q_g_ok h2
      refine Uif (not_congr (q_eq0 c1)) rfl rfl rfl rfl rfl rfl rfl (fun c3 => ?_) (fun c3 => ?_)
      · rw [if_pos c3] at h
        exact ih.2.2.2.2.2 _ _ hd _ _ _ _ _ _ _ _ _ h lv trivial
      · rw [if_neg c3] at h
        refine Van rfl lk0 rfl rfl ?_
        have hz := y_bind h
        clear h
        obtain ⟨v4, h5, h⟩ := hz
        refine Zgi (q_gi_y h5) rfl rfl rfl ?_
        have hz := y_bind h
        clear h
        obtain ⟨_, h7, h⟩ := hz
        have c6 := q_g_ok h7
        refine Uif (not_congr (q_eq0 c6)) rfl rfl rfl rfl rfl rfl rfl (fun c8 => ?_) (fun c8 => ?_)
        · rw [if_pos c8] at h
          exact ih.2.2.2.2.2 _ _ hd _ _ _ _ _ _ _ _ _ h lv trivial
        · rw [if_neg c8] at h
          refine Van rfl lk0 rfl rfl ?_
          have hz := y_bind h
          clear h
          obtain ⟨v9, h10, h⟩ := hz
          have wv9 := (y_gv_ok h10).2
          refine Vgv h10 rfl rfl rfl ?_
          refine Vin rfl lk1 rfl ?_
          have hz := y_bind h
          clear h
          obtain ⟨v11, h12, h⟩ := hz
          refine Zia (q_ia_y h12) rfl rfl ?_
          refine Vic (v := Int32.ofInt 4) rfl rfl rfl ?_
          have hz := y_bind h
          clear h
          obtain ⟨_, h14, h⟩ := hz
          have c13 := q_g_ok h14
          refine Uif (not_congr (q_eq c13 (by decide))) rfl rfl rfl rfl rfl rfl rfl (fun c15 => ?_) (fun c15 => ?_)
          · rw [if_pos c15] at h
            exact ih.2.2.2.2.2 _ _ hd _ _ _ _ _ _ _ _ _ h lv trivial
          · rw [if_neg c15] at h
            refine Van rfl lk0 rfl rfl ?_
            have hz := y_bind h
            clear h
            obtain ⟨v16, h17, h⟩ := hz
            have wv16 := (y_gv_ok h17).2
            refine Vgv h17 rfl rfl rfl ?_
            refine Vin rfl lk1 rfl ?_
            have hz := y_bind h
            clear h
            obtain ⟨v18, h19, h⟩ := hz
            refine Zia (q_ia_y h19) rfl rfl ?_
            refine Vsi rfl rfl (fun lv lk5 hk => ?_)
            have lk0 := hk 0 _ lk0 (by decide) (by decide) (Or.inl (by decide))
            refine Van rfl lk0 rfl rfl ?_
            refine Van rfl lk0 rfl rfl ?_
            have hz := y_bind h
            clear h
            obtain ⟨v20, h21, h⟩ := hz
            have wv20 := (y_gv_ok h21).2
            refine Vgv h21 rfl rfl rfl ?_
            refine Vi rfl lk5 rfl ?_
            have hz := y_bind h
            clear h
            obtain ⟨v22, h23, h⟩ := hz
            refine Zia (q_ia_y h23) rfl rfl ?_
            refine Vi rfl lk5 rfl ?_
            have hz := y_bind h
            clear h
            obtain ⟨e51, h52, h⟩ := hz
            have h52x := q_dec_ok h52
            have hz := y_bind h
            clear h
            obtain ⟨b28, h29, h⟩ := hz
            obtain ⟨eh29, fh29, wh29⟩ := y_rcv_ok h29
            cases eh29
            have hz := y_bind h
            clear h
            obtain ⟨⟨s24, r25⟩, h26, h⟩ := hz
            try dsimp only at h
            refine Vcv rfl rfl rfl wh29 rfl rfl ⟨(Nat.le_of_ble_eq_true rfl), (Nat.le_of_ble_eq_true rfl)⟩ rfl (ih.1 _ _ (by omega) _ _ _ _ _ _ _ _ _ h26 _ rfl rfl rfl) (fun z1 z2 zq => ?_)
            obtain ⟨rfl, rfl⟩ := zq
            try dsimp only [Option.toList, HAppend.hAppend, Append.append, List.append]
            refine Van rfl lk0 rfl rfl ?_
            have hz := y_bind h
            clear h
            obtain ⟨v32, h33, h⟩ := hz
            refine Zgi (q_gi_y h33) rfl rfl rfl ?_
            have hz := y_bind h
            clear h
            obtain ⟨_, h35, h⟩ := hz
            have c34 := q_g_ok h35
            refine Uif (not_congr (q_eq0 c34)) rfl rfl rfl rfl rfl rfl rfl (fun c36 => ?_) (fun c36 => ?_)
            · rw [if_pos c36] at h
              exact ih.2.2.2.2.2 _ _ hd _ _ _ _ _ _ _ _ _ h lv trivial
            · rw [if_neg c36] at h
              refine Van rfl lk0 rfl rfl ?_
              refine Van rfl lk0 rfl rfl ?_
              have hz := y_bind h
              clear h
              obtain ⟨v37, h38, h⟩ := hz
              have wv37 := (y_gv_ok h38).2
              refine Vgv h38 rfl rfl rfl ?_
              refine Vi rfl lk5 rfl ?_
              have hz := y_bind h
              clear h
              obtain ⟨v39, h40, h⟩ := hz
              refine Zia (q_ia_y h40) rfl rfl ?_
              refine Vi rfl lk5 rfl ?_
              have hz := y_bind h
              clear h
              obtain ⟨e49, h50, h⟩ := hz
              have h50x := q_dec_ok h50
              have hz := y_bind h
              clear h
              obtain ⟨b45, h46, h⟩ := hz
              obtain ⟨eh46, fh46, wh46⟩ := y_rcv_ok h46
              cases eh46
              have hz := y_bind h
              clear h
              obtain ⟨⟨s41, r42⟩, h43, h⟩ := hz
              try dsimp only at h
              refine Vcv rfl rfl rfl wh46 rfl rfl ⟨(Nat.le_of_ble_eq_true rfl), (Nat.le_of_ble_eq_true rfl)⟩ rfl (ih.1 _ _ (by omega) _ _ _ _ _ _ _ _ _ h43 _ rfl rfl rfl) (fun z1 z2 zq => ?_)
              obtain ⟨rfl, rfl⟩ := zq
              try dsimp only [Option.toList, HAppend.hAppend, Append.append, List.append]
              exact ih.2.2.2.2.2 _ _ hd _ _ _ _ _ _ _ _ _ h lv trivial
    · intro d e hd s r0 i1 i2 i3 i4 i5 s9 r h lv _
      obtain ⟨d, rfl⟩ : ∃ x, d = x + 1 := ⟨d - 1, by omega⟩
      simp only [g_110] at h
      cases h
      exact Yret rfl rfl rfl rfl rfl rfl rfl ⟨rfl, rfl⟩

/-- StepRowsModel.numberAt -/
def g_124 (o : X_O) : Nat → Nat → Q_S → Nat → Int → Option (Q_S × Int)
  | 0, _, _, _, _ => none
  | n + 1, 0, s, r0, i1 => (q_gv s 7 (.ref r0) 11).bind fun v1 => (q_gi s 7 (.ref r0) 18).bind fun v3 => (q_la s v1 ((500 * v3) + i1)).bind fun v5 => some (s, (v5).toInt)
  | _ + 1, _, _, _, _ => none
set_option maxRecDepth 100000 in
set_option maxHeartbeats 4000000 in
theorem c_124 (o : X_O) : ∀ n, (∀ (d : Nat) (hd : 0 ≤ d) (s : Q_S) (r0 : Nat) (i1 : Int) (s9 : Q_S) (r : Int), g_124 o n 0 s r0 i1 = some (s9, r) → ∀ lv : X_L, x_lget lv 0 = some (.ref r0) → x_lget lv 1 = some (.int (Int32.ofInt i1)) → Y o d 124 0 lv [] (q_y s) (fun s1 r1 => s1 = q_y s9 ∧ r1 = some (.int (Int32.ofInt r)))) := by
  intro n
  induction n with
  | zero => exact fun d hd s _ _ s9 r h => (by simp only [g_124] at h; cases h)
  | succ n ih =>
    intro d hd s r0 i1 s9 r h lv lk0 lk1
    simp only [g_124] at h
    refine Van rfl lk0 rfl rfl ?_
    have hz := y_bind h
    clear h
    obtain ⟨v1, h2, h⟩ := hz
    have wv1 := (y_gv_ok h2).2
    refine Vgv h2 rfl rfl rfl ?_
    refine Vsp (v := Int32.ofInt 500) rfl (by decide) rfl ?_
    refine Van rfl lk0 rfl rfl ?_
    have hz := y_bind h
    clear h
    obtain ⟨v3, h4, h⟩ := hz
    refine Zgi (q_gi_y h4) rfl rfl rfl ?_
    refine Umul rfl rfl ?_
    refine Vin rfl lk1 rfl ?_
    refine Uadd rfl rfl ?_
    have hz := y_bind h
    clear h
    obtain ⟨v5, h6, h⟩ := hz
    refine Zla (q_la_y h6) rfl rfl ?_
    refine Ul2i rfl rfl ?_
    cases h
    exact Yret rfl rfl rfl rfl rfl rfl rfl ⟨rfl, rfl⟩

/-- StepRowsModel.set -/
def g_123 (o : X_O) : Nat → Nat → Q_S → Nat → Int → Int → Int → Option (Q_S × Unit)
  | 0, _, _, _, _, _, _ => none
  | n + 1, 0, s, r0, i1, i2, i3 => (q_rcv s 7 (.ref r0)).bind fun b5 => (g_112 o n 0 s b5 (i2)).bind fun q4 => (q_rcv q4.1 7 (.ref r0)).bind fun b13 => (g_113 o n 510 0 q4.1 b13 (q4.2) 0).bind fun q12 => (q_gi q12.1 7 (.ref r0) 47).bind fun v17 => (q_g (q_in v17)).bind fun _ => if v17 = 0 then (q_g (q_in i3)).bind fun _ => if ¬ i3 = 10 then (q_gv q12.1 7 (.ref r0) 27).bind fun v25 => (q_rcv q12.1 7 (.ref r0)).bind fun b31 => (g_124 o n 0 q12.1 b31 (i2)).bind fun q30 => (q_ls q30.1 v25 q30.2 q12.2).bind fun s35 => g_123 o n 1 s35 r0 (i1) (i2) 0 else (q_gv q12.1 7 (.ref r0) 26).bind fun v37 => (q_rcv q12.1 7 (.ref r0)).bind fun b43 => (g_124 o n 0 q12.1 b43 (i2)).bind fun q42 => (q_ls q42.1 v37 q42.2 q12.2).bind fun s47 => g_123 o n 1 s47 r0 (i1) (i2) 0 else some (q12.1, ())
  | n + 1, 1, s, r0, i1, i2, i3 => (q_rcv s 7 (.ref r0)).bind fun b5 => (g_120 o n 0 s b5 (i1) (3) (i2)).bind fun q4 => some (q4.1, ())
  | _ + 1, _, _, _, _, _, _ => none
set_option maxRecDepth 100000 in
set_option maxHeartbeats 4000000 in
theorem c_123 (o : X_O) : ∀ n, (∀ (d : Nat) (hd : 512 ≤ d) (s : Q_S) (r0 : Nat) (i1 : Int) (i2 : Int) (i3 : Int) (s9 : Q_S) (r : Unit), g_123 o n 0 s r0 i1 i2 i3 = some (s9, r) → ∀ lv : X_L, x_lget lv 0 = some (.ref r0) → x_lget lv 1 = some (.int (Int32.ofInt i1)) → x_lget lv 2 = some (.int (Int32.ofInt i2)) → x_lget lv 3 = some (.int (Int32.ofInt i3)) → Y o d 123 0 lv [] (q_y s) (fun s1 r1 => s1 = q_y s9 ∧ r1 = none)) ∧
    (∀ (d : Nat) (hd : 512 ≤ d) (s : Q_S) (r0 : Nat) (i1 : Int) (i2 : Int) (i3 : Int) (s9 : Q_S) (r : Unit), g_123 o n 1 s r0 i1 i2 i3 = some (s9, r) → ∀ lv : X_L, x_lget lv 0 = some (.ref r0) → x_lget lv 1 = some (.int (Int32.ofInt i1)) → x_lget lv 2 = some (.int (Int32.ofInt i2)) → Y o d 123 52 lv [] (q_y s) (fun s1 r1 => s1 = q_y s9 ∧ r1 = none)) := by
  intro n
  induction n with
  | zero => exact ⟨fun d hd s _ _ _ _ s9 r h => (by simp only [g_123] at h; cases h), fun d hd s _ _ _ _ s9 r h => (by simp only [g_123] at h; cases h)⟩
  | succ n ih =>
    refine ⟨?_, ?_⟩
    · intro d hd s r0 i1 i2 i3 s9 r h lv lk0 lk1 lk2 lk3
      obtain ⟨d, rfl⟩ : ∃ x, d = x + 1 := ⟨d - 1, by omega⟩
      simp only [g_123] at h
      refine Van rfl lk0 rfl rfl ?_
      refine Van rfl lk0 rfl rfl ?_
      refine Vin rfl lk2 rfl ?_
      have hz := y_bind h
      clear h
      obtain ⟨b5, h6, h⟩ := hz
      obtain ⟨eh6, fh6, wh6⟩ := y_rcv_ok h6
      cases eh6
      have hz := y_bind h
      clear h
      obtain ⟨⟨s1, r2⟩, h3, h⟩ := hz
      try dsimp only at h
      refine Vcv rfl rfl rfl wh6 rfl rfl ⟨(Nat.le_of_ble_eq_true rfl), (Nat.le_of_ble_eq_true rfl)⟩ rfl ((c_112 o n) _ (by omega) _ _ _ _ _ h3 _ rfl rfl) (fun z1 z2 zq => ?_)
      obtain ⟨rfl, rfl⟩ := zq
      try dsimp only [Option.toList, HAppend.hAppend, Append.append, List.append]
      have hz := y_bind h
      clear h
      obtain ⟨b13, h14, h⟩ := hz
      obtain ⟨eh14, fh14, wh14⟩ := y_rcv_ok h14
      cases eh14
      have hz := y_bind h
      clear h
      obtain ⟨⟨s9, r10⟩, h11, h⟩ := hz
      try dsimp only at h
      refine Vcv rfl rfl rfl wh14 rfl rfl ⟨(Nat.le_of_ble_eq_true rfl), (Nat.le_of_ble_eq_true rfl)⟩ rfl ((c_113 o n).1 _ _ (by omega) _ _ _ _ _ _ h11 _ rfl rfl) (fun z1 z2 zq => ?_)
      obtain ⟨rfl, rfl⟩ := zq
      try dsimp only [Option.toList, HAppend.hAppend, Append.append, List.append]
      refine Vsl rfl rfl (fun lv lk4 hk => ?_)
      have lk0 := hk 0 _ lk0 (by decide) (by decide) (Or.inl (by decide))
      have lk1 := hk 1 _ lk1 (by decide) (by decide) (Or.inl (by decide))
      have lk2 := hk 2 _ lk2 (by decide) (by decide) (Or.inl (by decide))
      have lk3 := hk 3 _ lk3 (by decide) (by decide) (Or.inr rfl)
      refine Van rfl lk0 rfl rfl ?_
      have hz := y_bind h
      clear h
      obtain ⟨v17, h18, h⟩ := hz
      refine Zgi (q_gi_y h18) rfl rfl rfl ?_
      have hz := y_bind h
      clear h
      obtain ⟨_, h20, h⟩ := hz
      have c19 := q_g_ok h20
      refine Uif (q_eq0 c19) rfl rfl rfl rfl rfl rfl rfl (fun c21 => ?_) (fun c21 => ?_)
      · rw [if_pos c21] at h
        refine Vin rfl lk3 rfl ?_
        refine Vbp (v := Int32.ofInt 10) rfl (by decide) rfl ?_
        have hz := y_bind h
        clear h
        obtain ⟨_, h23, h⟩ := hz
        have c22 := q_g_ok h23
        refine Uif (not_congr (q_eq c22 (by decide))) rfl rfl rfl rfl rfl rfl rfl (fun c24 => ?_) (fun c24 => ?_)
        · rw [if_pos c24] at h
          refine Van rfl lk0 rfl rfl ?_
          have hz := y_bind h
          clear h
          obtain ⟨v25, h26, h⟩ := hz
          have wv25 := (y_gv_ok h26).2
          refine Vgv h26 rfl rfl rfl ?_
          refine Van rfl lk0 rfl rfl ?_
          refine Vin rfl lk2 rfl ?_
          have hz := y_bind h
          clear h
          obtain ⟨b31, h32, h⟩ := hz
          obtain ⟨eh32, fh32, wh32⟩ := y_rcv_ok h32
          cases eh32
          have hz := y_bind h
          clear h
          obtain ⟨⟨s27, r28⟩, h29, h⟩ := hz
          try dsimp only at h
          refine Vcv rfl rfl rfl wh32 rfl rfl ⟨(by simp only [List.take, List.reverse_cons, List.reverse_nil, List.nil_append, List.cons_append, List.map_cons, List.map_nil, y_cati, y_catl, y_catr, y_catn, y_cata, y_rv_cat wv25, List.sum_cons, List.sum_nil]; decide +kernel), (Nat.le_of_ble_eq_true rfl)⟩ rfl ((c_124 o n) _ (by omega) _ _ _ _ _ h29 _ rfl rfl) (fun z1 z2 zq => ?_)
          obtain ⟨rfl, rfl⟩ := zq
          try dsimp only [Option.toList, HAppend.hAppend, Append.append, List.append]
          refine Vl rfl lk4 rfl ?_
          have hz := y_bind h
          clear h
          obtain ⟨s35, h36, h⟩ := hz
          refine Zls (q_ls_y h36) rfl rfl ?_
          exact ih.2 _ hd _ _ _ _ _ _ _ h lv lk0 lk1 lk2
        · rw [if_neg c24] at h
          refine Van rfl lk0 rfl rfl ?_
          have hz := y_bind h
          clear h
          obtain ⟨v37, h38, h⟩ := hz
          have wv37 := (y_gv_ok h38).2
          refine Vgv h38 rfl rfl rfl ?_
          refine Van rfl lk0 rfl rfl ?_
          refine Vin rfl lk2 rfl ?_
          have hz := y_bind h
          clear h
          obtain ⟨b43, h44, h⟩ := hz
          obtain ⟨eh44, fh44, wh44⟩ := y_rcv_ok h44
          cases eh44
          have hz := y_bind h
          clear h
          obtain ⟨⟨s39, r40⟩, h41, h⟩ := hz
          try dsimp only at h
          refine Vcv rfl rfl rfl wh44 rfl rfl ⟨(by simp only [List.take, List.reverse_cons, List.reverse_nil, List.nil_append, List.cons_append, List.map_cons, List.map_nil, y_cati, y_catl, y_catr, y_catn, y_cata, y_rv_cat wv37, List.sum_cons, List.sum_nil]; decide +kernel), (Nat.le_of_ble_eq_true rfl)⟩ rfl ((c_124 o n) _ (by omega) _ _ _ _ _ h41 _ rfl rfl) (fun z1 z2 zq => ?_)
          obtain ⟨rfl, rfl⟩ := zq
          try dsimp only [Option.toList, HAppend.hAppend, Append.append, List.append]
          refine Vl rfl lk4 rfl ?_
          have hz := y_bind h
          clear h
          obtain ⟨s47, h48, h⟩ := hz
          refine Zls (q_ls_y h48) rfl rfl ?_
          refine Ygo rfl rfl rfl rfl rfl rfl ?_
          exact ih.2 _ hd _ _ _ _ _ _ _ h lv lk0 lk1 lk2
      · rw [if_neg c21] at h
        cases h
        exact Yret rfl rfl rfl rfl rfl rfl rfl ⟨rfl, rfl⟩
    · intro d hd s r0 i1 i2 i3 s9 r h lv lk0 lk1 lk2
      obtain ⟨d, rfl⟩ : ∃ x, d = x + 1 := ⟨d - 1, by omega⟩
      simp only [g_123] at h
      refine Van rfl lk0 rfl rfl ?_
      refine Vin rfl lk1 rfl ?_
      refine Vic (v := Int32.ofInt 3) rfl rfl rfl ?_
      refine Vin rfl lk2 rfl ?_
      have hz := y_bind h
      clear h
      obtain ⟨b5, h6, h⟩ := hz
      obtain ⟨eh6, fh6, wh6⟩ := y_rcv_ok h6
      cases eh6
      have hz := y_bind h
      clear h
      obtain ⟨⟨s1, r2⟩, h3, h⟩ := hz
      try dsimp only at h
      refine Vcv rfl rfl rfl wh6 rfl rfl ⟨(Nat.le_of_ble_eq_true rfl), (Nat.le_of_ble_eq_true rfl)⟩ rfl ((c_120 o n) _ (by omega) _ _ _ _ _ _ _ h3 _ rfl rfl rfl rfl) (fun z1 z2 zq => ?_)
      obtain ⟨rfl, rfl⟩ := zq
      try dsimp only [Option.toList, HAppend.hAppend, Append.append, List.append]
      cases h
      exact Yret rfl rfl rfl rfl rfl rfl rfl ⟨rfl, rfl⟩

/-- StepRowsModel.ramp -/
def g_125 (o : X_O) : Nat → Nat → Q_S → Nat → Int → Int → Int64 → Int64 → Int64 → Value → Int → Int64 → Int → Option (Q_S × Unit)
  | 0, _, _, _, _, _, _, _, _, _, _, _, _ => none
  | n + 1, 0, s, r0, i1, i2, l3, l5, tl0, ta0, ti1, tl2, ti2 => (q_rcv s 7 (.ref r0)).bind fun b5 => (g_112 o n 0 s b5 (i2)).bind fun q4 => (q_rcv q4.1 7 (.ref r0)).bind fun b13 => (g_113 o n 510 0 q4.1 b13 (q4.2) 0).bind fun q12 => (q_gi q12.1 7 (.ref r0) 47).bind fun v17 => (q_g (q_in v17)).bind fun _ => if v17 = 0 then (q_rcv q12.1 7 (.ref r0)).bind fun b26 => (g_116 o n 0 q12.1 b26 (i2)).bind fun q25 => (q_rcv q25.1 7 (.ref r0)).bind fun b34 => (g_113 o n 510 0 q25.1 b34 (q25.2) 0).bind fun q33 => g_125 o n 1 q33.1 r0 (i1) (i2) (q12.2) 0 (q33.2) .null 0 0 0 else g_125 o n 1 q12.1 r0 (i1) (i2) (q12.2) 0 (0) .null 0 0 0
  | n + 1, 1, s, r0, i1, i2, l3, l5, tl0, ta0, ti1, tl2, ti2 => (q_gi s 7 (.ref r0) 47).bind fun v1 => (q_g (q_in v1)).bind fun _ => if v1 = 0 then (q_rcv s 7 (.ref r0)).bind fun b10 => (g_124 o n 0 s b10 (i2)).bind fun q9 => (q_gv q9.1 7 (.ref r0) 42).bind fun v14 => (q_gv q9.1 7 (.ref r0) 26).bind fun v16 => (q_la q9.1 v16 q9.2).bind fun v18 => (q_ls q9.1 v14 i1 v18).bind fun s20 => (q_gv s20 7 (.ref r0) 43).bind fun v22 => (q_ls s20 v22 i1 l3).bind fun s24 => (q_gv s24 7 (.ref r0) 41).bind fun v26 => (q_ls s24 v26 i1 tl0).bind fun s28 => (q_gv s28 7 (.ref r0) 40).bind fun v30 => (q_gi s28 7 (.ref r0) 19).bind fun v32 => (q_is s28 v30 i1 v32).bind fun s34 => (q_gv s34 7 (.ref r0) 26).bind fun v36 => if 1 ≤ tl0 then (q_gv s34 7 (.ref r0) 26).bind fun v39 => (q_la s34 v39 q9.2).bind fun v41 => g_125 o n 2 s34 r0 (i1) (i2) 0 (tl0) 0 (v36) (q9.2) (v41) 0 else g_125 o n 2 s34 r0 (i1) (i2) 0 (tl0) 0 (v36) (q9.2) (l3) 0 else some (s, ())
  | n + 1, 2, s, r0, i1, i2, l3, l5, tl0, ta0, ti1, tl2, ti2 => (q_ls s ta0 ti1 tl2).bind fun s1 => if 1 ≤ l5 then g_125 o n 3 s1 0 0 (i2) 0 0 0 ((.ref r0)) (i1) 0 (1) else g_125 o n 3 s1 0 0 (i2) 0 0 0 ((.ref r0)) (i1) 0 (3)
  | n + 1, 3, s, r0, i1, i2, l3, l5, tl0, ta0, ti1, tl2, ti2 => (q_rcv s 7 ta0).bind fun b5 => (g_120 o n 0 s b5 (ti1) (ti2) (i2)).bind fun q4 => some (q4.1, ())
  | _ + 1, _, _, _, _, _, _, _, _, _, _, _, _ => none
set_option maxRecDepth 100000 in
set_option maxHeartbeats 4000000 in
theorem c_125 (o : X_O) : ∀ n, (∀ (d : Nat) (hd : 512 ≤ d) (s : Q_S) (r0 : Nat) (i1 : Int) (i2 : Int) (l3 : Int64) (l5 : Int64) (tl0 : Int64) (ta0 : Value) (ti1 : Int) (tl2 : Int64) (ti2 : Int) (s9 : Q_S) (r : Unit), g_125 o n 0 s r0 i1 i2 l3 l5 tl0 ta0 ti1 tl2 ti2 = some (s9, r) → ∀ lv : X_L, x_lget lv 0 = some (.ref r0) → x_lget lv 1 = some (.int (Int32.ofInt i1)) → x_lget lv 2 = some (.int (Int32.ofInt i2)) → Y o d 125 0 lv [] (q_y s) (fun s1 r1 => s1 = q_y s9 ∧ r1 = none)) ∧
    (∀ (d : Nat) (hd : 512 ≤ d) (s : Q_S) (r0 : Nat) (i1 : Int) (i2 : Int) (l3 : Int64) (l5 : Int64) (tl0 : Int64) (ta0 : Value) (ti1 : Int) (tl2 : Int64) (ti2 : Int) (s9 : Q_S) (r : Unit), g_125 o n 1 s r0 i1 i2 l3 l5 tl0 ta0 ti1 tl2 ti2 = some (s9, r) → ∀ lv : X_L, x_lget lv 0 = some (.ref r0) → x_lget lv 1 = some (.int (Int32.ofInt i1)) → x_lget lv 2 = some (.int (Int32.ofInt i2)) → x_lget lv 3 = some (.long l3) → Y o d 125 30 lv [.long tl0] (q_y s) (fun s1 r1 => s1 = q_y s9 ∧ r1 = none)) ∧
    (∀ (d : Nat) (hd : 512 ≤ d) (s : Q_S) (r0 : Nat) (i1 : Int) (i2 : Int) (l3 : Int64) (l5 : Int64) (tl0 : Int64) (ta0 : Value) (ti1 : Int) (tl2 : Int64) (ti2 : Int) (s9 : Q_S) (r : Unit), g_125 o n 2 s r0 i1 i2 l3 l5 tl0 ta0 ti1 tl2 ti2 = some (s9, r) → ∀ lv : X_L, x_lget lv 0 = some (.ref r0) → x_lget lv 1 = some (.int (Int32.ofInt i1)) → x_lget lv 2 = some (.int (Int32.ofInt i2)) → x_lget lv 5 = some (.long l5) → y_rv ta0 = true → Y o d 125 109 lv [.long tl2, .int (Int32.ofInt ti1), ta0] (q_y s) (fun s1 r1 => s1 = q_y s9 ∧ r1 = none)) ∧
    (∀ (d : Nat) (hd : 512 ≤ d) (s : Q_S) (r0 : Nat) (i1 : Int) (i2 : Int) (l3 : Int64) (l5 : Int64) (tl0 : Int64) (ta0 : Value) (ti1 : Int) (tl2 : Int64) (ti2 : Int) (s9 : Q_S) (r : Unit), g_125 o n 3 s r0 i1 i2 l3 l5 tl0 ta0 ti1 tl2 ti2 = some (s9, r) → ∀ lv : X_L, x_lget lv 2 = some (.int (Int32.ofInt i2)) → y_rv ta0 = true → Y o d 125 124 lv [.int (Int32.ofInt ti2), .int (Int32.ofInt ti1), ta0] (q_y s) (fun s1 r1 => s1 = q_y s9 ∧ r1 = none)) := by
  intro n
  induction n with
  | zero => exact ⟨fun d hd s _ _ _ _ _ _ _ _ _ _ s9 r h => (by simp only [g_125] at h; cases h), fun d hd s _ _ _ _ _ _ _ _ _ _ s9 r h => (by simp only [g_125] at h; cases h), fun d hd s _ _ _ _ _ _ _ _ _ _ s9 r h => (by simp only [g_125] at h; cases h), fun d hd s _ _ _ _ _ _ _ _ _ _ s9 r h => (by simp only [g_125] at h; cases h)⟩
  | succ n ih =>
    refine ⟨?_, ?_, ?_, ?_⟩
    · intro d hd s r0 i1 i2 l3 l5 tl0 ta0 ti1 tl2 ti2 s9 r h lv lk0 lk1 lk2
      obtain ⟨d, rfl⟩ : ∃ x, d = x + 1 := ⟨d - 1, by omega⟩
      simp only [g_125] at h
      refine Van rfl lk0 rfl rfl ?_
      refine Van rfl lk0 rfl rfl ?_
      refine Vin rfl lk2 rfl ?_
      have hz := y_bind h
      clear h
      obtain ⟨b5, h6, h⟩ := hz
      obtain ⟨eh6, fh6, wh6⟩ := y_rcv_ok h6
      cases eh6
      have hz := y_bind h
      clear h
      obtain ⟨⟨s1, r2⟩, h3, h⟩ := hz
      try dsimp only at h
      refine Vcv rfl rfl rfl wh6 rfl rfl ⟨(Nat.le_of_ble_eq_true rfl), (Nat.le_of_ble_eq_true rfl)⟩ rfl ((c_112 o n) _ (by omega) _ _ _ _ _ h3 _ rfl rfl) (fun z1 z2 zq => ?_)
      obtain ⟨rfl, rfl⟩ := zq
      try dsimp only [Option.toList, HAppend.hAppend, Append.append, List.append]
      have hz := y_bind h
      clear h
      obtain ⟨b13, h14, h⟩ := hz
      obtain ⟨eh14, fh14, wh14⟩ := y_rcv_ok h14
      cases eh14
      have hz := y_bind h
      clear h
      obtain ⟨⟨s9, r10⟩, h11, h⟩ := hz
      try dsimp only at h
      refine Vcv rfl rfl rfl wh14 rfl rfl ⟨(Nat.le_of_ble_eq_true rfl), (Nat.le_of_ble_eq_true rfl)⟩ rfl ((c_113 o n).1 _ _ (by omega) _ _ _ _ _ _ h11 _ rfl rfl) (fun z1 z2 zq => ?_)
      obtain ⟨rfl, rfl⟩ := zq
      try dsimp only [Option.toList, HAppend.hAppend, Append.append, List.append]
      refine Vsln rfl rfl (fun lv lk3 hk => ?_)
      have lk0 := hk 0 _ lk0 (by decide) (by decide) (Or.inl (by decide))
      have lk1 := hk 1 _ lk1 (by decide) (by decide) (Or.inl (by decide))
      have lk2 := hk 2 _ lk2 (by decide) (by decide) (Or.inr rfl)
      refine Van rfl lk0 rfl rfl ?_
      have hz := y_bind h
      clear h
      obtain ⟨v17, h18, h⟩ := hz
      refine Zgi (q_gi_y h18) rfl rfl rfl ?_
      have hz := y_bind h
      clear h
      obtain ⟨_, h20, h⟩ := hz
      have c19 := q_g_ok h20
      refine Uif (q_eq0 c19) rfl rfl rfl rfl rfl rfl rfl (fun c21 => ?_) (fun c21 => ?_)
      · rw [if_pos c21] at h
        refine Van rfl lk0 rfl rfl ?_
        refine Van rfl lk0 rfl rfl ?_
        refine Vin rfl lk2 rfl ?_
        have hz := y_bind h
        clear h
        obtain ⟨b26, h27, h⟩ := hz
        obtain ⟨eh27, fh27, wh27⟩ := y_rcv_ok h27
        cases eh27
        have hz := y_bind h
        clear h
        obtain ⟨⟨s22, r23⟩, h24, h⟩ := hz
        try dsimp only at h
        refine Vcv rfl rfl rfl wh27 rfl rfl ⟨(Nat.le_of_ble_eq_true rfl), (Nat.le_of_ble_eq_true rfl)⟩ rfl ((c_116 o n) _ (by omega) _ _ _ _ _ h24 _ rfl rfl) (fun z1 z2 zq => ?_)
        obtain ⟨rfl, rfl⟩ := zq
        try dsimp only [Option.toList, HAppend.hAppend, Append.append, List.append]
        have hz := y_bind h
        clear h
        obtain ⟨b34, h35, h⟩ := hz
        obtain ⟨eh35, fh35, wh35⟩ := y_rcv_ok h35
        cases eh35
        have hz := y_bind h
        clear h
        obtain ⟨⟨s30, r31⟩, h32, h⟩ := hz
        try dsimp only at h
        refine Vcv rfl rfl rfl wh35 rfl rfl ⟨(Nat.le_of_ble_eq_true rfl), (Nat.le_of_ble_eq_true rfl)⟩ rfl ((c_113 o n).1 _ _ (by omega) _ _ _ _ _ _ h32 _ rfl rfl) (fun z1 z2 zq => ?_)
        obtain ⟨rfl, rfl⟩ := zq
        try dsimp only [Option.toList, HAppend.hAppend, Append.append, List.append]
        exact ih.2.1 _ hd _ _ _ _ _ _ _ _ _ _ _ _ _ h lv lk0 lk1 lk2 lk3
      · rw [if_neg c21] at h
        refine Vlc (v := 0) rfl (by decide) rfl ?_
        refine Ygo rfl rfl rfl rfl rfl rfl ?_
        exact ih.2.1 _ hd _ _ _ _ _ _ _ _ _ _ _ _ _ h lv lk0 lk1 lk2 lk3
    · intro d hd s r0 i1 i2 l3 l5 tl0 ta0 ti1 tl2 ti2 s9 r h lv lk0 lk1 lk2 lk3
      obtain ⟨d, rfl⟩ : ∃ x, d = x + 1 := ⟨d - 1, by omega⟩
      simp only [g_125] at h
      refine Vsl rfl rfl (fun lv lk5 hk => ?_)
      have lk0 := hk 0 _ lk0 (by decide) (by decide) (Or.inl (by decide))
      have lk1 := hk 1 _ lk1 (by decide) (by decide) (Or.inl (by decide))
      have lk2 := hk 2 _ lk2 (by decide) (by decide) (Or.inl (by decide))
      have lk3 := hk 3 _ lk3 (by decide) (by decide) (Or.inl (by decide))
      refine Van rfl lk0 rfl rfl ?_
      have hz := y_bind h
      clear h
      obtain ⟨v1, h2, h⟩ := hz
      refine Zgi (q_gi_y h2) rfl rfl rfl ?_
      have hz := y_bind h
      clear h
      obtain ⟨_, h4, h⟩ := hz
      have c3 := q_g_ok h4
      refine Uif (q_eq0 c3) rfl rfl rfl rfl rfl rfl rfl (fun c5 => ?_) (fun c5 => ?_)
      · rw [if_pos c5] at h
        refine Van rfl lk0 rfl rfl ?_
        refine Vin rfl lk2 rfl ?_
        have hz := y_bind h
        clear h
        obtain ⟨b10, h11, h⟩ := hz
        obtain ⟨eh11, fh11, wh11⟩ := y_rcv_ok h11
        cases eh11
        have hz := y_bind h
        clear h
        obtain ⟨⟨s6, r7⟩, h8, h⟩ := hz
        try dsimp only at h
        refine Vcv rfl rfl rfl wh11 rfl rfl ⟨(Nat.le_of_ble_eq_true rfl), (Nat.le_of_ble_eq_true rfl)⟩ rfl ((c_124 o n) _ (by omega) _ _ _ _ _ h8 _ rfl rfl) (fun z1 z2 zq => ?_)
        obtain ⟨rfl, rfl⟩ := zq
        try dsimp only [Option.toList, HAppend.hAppend, Append.append, List.append]
        refine Vsi rfl rfl (fun lv lk7 hk => ?_)
        have lk0 := hk 0 _ lk0 (by decide) (by decide) (Or.inl (by decide))
        have lk1 := hk 1 _ lk1 (by decide) (by decide) (Or.inl (by decide))
        have lk2 := hk 2 _ lk2 (by decide) (by decide) (Or.inl (by decide))
        have lk3 := hk 3 _ lk3 (by decide) (by decide) (Or.inl (by decide))
        have lk5 := hk 5 _ lk5 (by decide) (by decide) (Or.inl (by decide))
        refine Van rfl lk0 rfl rfl ?_
        have hz := y_bind h
        clear h
        obtain ⟨v14, h15, h⟩ := hz
        have wv14 := (y_gv_ok h15).2
        refine Vgv h15 rfl rfl rfl ?_
        refine Vin rfl lk1 rfl ?_
        refine Van rfl lk0 rfl rfl ?_
        have hz := y_bind h
        clear h
        obtain ⟨v16, h17, h⟩ := hz
        have wv16 := (y_gv_ok h17).2
        refine Vgv h17 rfl rfl rfl ?_
        refine Vi rfl lk7 rfl ?_
        have hz := y_bind h
        clear h
        obtain ⟨v18, h19, h⟩ := hz
        refine Zla (q_la_y h19) rfl rfl ?_
        have hz := y_bind h
        clear h
        obtain ⟨s20, h21, h⟩ := hz
        refine Zls (q_ls_y h21) rfl rfl ?_
        refine Van rfl lk0 rfl rfl ?_
        have hz := y_bind h
        clear h
        obtain ⟨v22, h23, h⟩ := hz
        have wv22 := (y_gv_ok h23).2
        refine Vgv h23 rfl rfl rfl ?_
        refine Vin rfl lk1 rfl ?_
        refine Vln rfl lk3 rfl ?_
        have hz := y_bind h
        clear h
        obtain ⟨s24, h25, h⟩ := hz
        refine Zls (q_ls_y h25) rfl rfl ?_
        refine Van rfl lk0 rfl rfl ?_
        have hz := y_bind h
        clear h
        obtain ⟨v26, h27, h⟩ := hz
        have wv26 := (y_gv_ok h27).2
        refine Vgv h27 rfl rfl rfl ?_
        refine Vin rfl lk1 rfl ?_
        refine Vl rfl lk5 rfl ?_
        have hz := y_bind h
        clear h
        obtain ⟨s28, h29, h⟩ := hz
        refine Zls (q_ls_y h29) rfl rfl ?_
        refine Van rfl lk0 rfl rfl ?_
        have hz := y_bind h
        clear h
        obtain ⟨v30, h31, h⟩ := hz
        have wv30 := (y_gv_ok h31).2
        refine Vgv h31 rfl rfl rfl ?_
        refine Vin rfl lk1 rfl ?_
        refine Van rfl lk0 rfl rfl ?_
        have hz := y_bind h
        clear h
        obtain ⟨v32, h33, h⟩ := hz
        refine Zgi (q_gi_y h33) rfl rfl rfl ?_
        have hz := y_bind h
        clear h
        obtain ⟨s34, h35, h⟩ := hz
        refine Zis (q_is_y h35) rfl rfl ?_
        refine Van rfl lk0 rfl rfl ?_
        have hz := y_bind h
        clear h
        obtain ⟨v36, h37, h⟩ := hz
        have wv36 := (y_gv_ok h37).2
        refine Vgv h37 rfl rfl rfl ?_
        refine Vi rfl lk7 rfl ?_
        refine Vl rfl lk5 rfl ?_
        refine Vlc (v := 1) rfl (by decide) rfl ?_
        refine Ya rfl rfl rfl ?_
        refine Uif (lg_cmp_ge _ _) rfl rfl rfl rfl rfl rfl rfl (fun c38 => ?_) (fun c38 => ?_)
        · rw [if_pos c38] at h
          refine Van rfl lk0 rfl rfl ?_
          have hz := y_bind h
          clear h
          obtain ⟨v39, h40, h⟩ := hz
          have wv39 := (y_gv_ok h40).2
          refine Vgv h40 rfl rfl rfl ?_
          refine Vi rfl lk7 rfl ?_
          have hz := y_bind h
          clear h
          obtain ⟨v41, h42, h⟩ := hz
          refine Zla (q_la_y h42) rfl rfl ?_
          exact ih.2.2.1 _ hd _ _ _ _ _ _ _ _ _ _ _ _ _ h lv lk0 lk1 lk2 lk5 wv36
        · rw [if_neg c38] at h
          refine Vln rfl lk3 rfl ?_
          refine Ygo rfl rfl rfl rfl rfl rfl ?_
          exact ih.2.2.1 _ hd _ _ _ _ _ _ _ _ _ _ _ _ _ h lv lk0 lk1 lk2 lk5 wv36
      · rw [if_neg c5] at h
        cases h
        exact Yret rfl rfl rfl rfl rfl rfl rfl ⟨rfl, rfl⟩
    · intro d hd s r0 i1 i2 l3 l5 tl0 ta0 ti1 tl2 ti2 s9 r h lv lk0 lk1 lk2 lk5 rs0
      obtain ⟨d, rfl⟩ : ∃ x, d = x + 1 := ⟨d - 1, by omega⟩
      simp only [g_125] at h
      have hz := y_bind h
      clear h
      obtain ⟨s1, h2, h⟩ := hz
      refine Zls (q_ls_y h2) rfl rfl ?_
      refine Van rfl lk0 rfl rfl ?_
      refine Vin rfl lk1 rfl ?_
      refine Vl rfl lk5 rfl ?_
      refine Vlc (v := 1) rfl (by decide) rfl ?_
      refine Ya rfl rfl rfl ?_
      refine Uif (lg_cmp_ge _ _) rfl rfl rfl rfl rfl rfl rfl (fun c3 => ?_) (fun c3 => ?_)
      · rw [if_pos c3] at h
        refine Vic (v := Int32.ofInt 1) rfl rfl rfl ?_
        exact ih.2.2.2 _ hd _ _ _ _ _ _ _ _ _ _ _ _ _ h lv lk2 rfl
      · rw [if_neg c3] at h
        refine Vic (v := Int32.ofInt 3) rfl rfl rfl ?_
        refine Ygo rfl rfl rfl rfl rfl rfl ?_
        exact ih.2.2.2 _ hd _ _ _ _ _ _ _ _ _ _ _ _ _ h lv lk2 rfl
    · intro d hd s r0 i1 i2 l3 l5 tl0 ta0 ti1 tl2 ti2 s9 r h lv lk2 rs0
      obtain ⟨d, rfl⟩ : ∃ x, d = x + 1 := ⟨d - 1, by omega⟩
      simp only [g_125] at h
      refine Vin rfl lk2 rfl ?_
      have hz := y_bind h
      clear h
      obtain ⟨b5, h6, h⟩ := hz
      obtain ⟨eh6, fh6, wh6⟩ := y_rcv_ok h6
      cases eh6
      have hz := y_bind h
      clear h
      obtain ⟨⟨s1, r2⟩, h3, h⟩ := hz
      try dsimp only at h
      refine Vcv rfl rfl rfl wh6 rfl rfl ⟨(Nat.le_of_ble_eq_true rfl), (Nat.le_of_ble_eq_true rfl)⟩ rfl ((c_120 o n) _ (by omega) _ _ _ _ _ _ _ h3 _ rfl rfl rfl rfl) (fun z1 z2 zq => ?_)
      obtain ⟨rfl, rfl⟩ := zq
      try dsimp only [Option.toList, HAppend.hAppend, Append.append, List.append]
      cases h
      exact Yret rfl rfl rfl rfl rfl rfl rfl ⟨rfl, rfl⟩

/-- StepRowsModel.deep -/
def g_127 (o : X_O) : Nat → Nat → Q_S → Nat → Int → Int → Option (Q_S × Int)
  | 0, _, _, _, _, _ => none
  | n + 1, 0, s, r0, i1, ti0 => (q_g (q_in i1)).bind fun _ => if ¬ i1 = (-1) then (q_gv s 7 (.ref r0) 31).bind fun v4 => (q_ia o s v4 i1).bind fun v6 => g_127 o n 1 s 0 0 (v6) else g_127 o n 1 s 0 0 (0)
  | n + 1, 1, s, r0, i1, ti0 => some (s, ti0)
  | _ + 1, _, _, _, _, _ => none
set_option maxRecDepth 100000 in
set_option maxHeartbeats 4000000 in
theorem c_127 (o : X_O) : ∀ n, (∀ (d : Nat) (hd : 0 ≤ d) (s : Q_S) (r0 : Nat) (i1 : Int) (ti0 : Int) (s9 : Q_S) (r : Int), g_127 o n 0 s r0 i1 ti0 = some (s9, r) → ∀ lv : X_L, x_lget lv 0 = some (.ref r0) → x_lget lv 1 = some (.int (Int32.ofInt i1)) → Y o d 127 0 lv [] (q_y s) (fun s1 r1 => s1 = q_y s9 ∧ r1 = some (.int (Int32.ofInt r)))) ∧
    (∀ (d : Nat) (hd : 0 ≤ d) (s : Q_S) (r0 : Nat) (i1 : Int) (ti0 : Int) (s9 : Q_S) (r : Int), g_127 o n 1 s r0 i1 ti0 = some (s9, r) → ∀ lv : X_L, True → Y o d 127 15 lv [.int (Int32.ofInt ti0)] (q_y s) (fun s1 r1 => s1 = q_y s9 ∧ r1 = some (.int (Int32.ofInt r)))) := by
  intro n
  induction n with
  | zero => exact ⟨fun d hd s _ _ _ s9 r h => (by simp only [g_127] at h; cases h), fun d hd s _ _ _ s9 r h => (by simp only [g_127] at h; cases h)⟩
  | succ n ih =>
    refine ⟨?_, ?_⟩
    · intro d hd s r0 i1 ti0 s9 r h lv lk0 lk1
      simp only [g_127] at h
      refine Vin rfl lk1 rfl ?_
      refine Vic (v := Int32.ofInt (-1)) rfl rfl rfl ?_
      have hz := y_bind h
      clear h
      obtain ⟨_, h2, h⟩ := hz
      have c1 := q_g_ok h2
      refine Uif (not_congr (q_eq c1 (by decide))) rfl rfl rfl rfl rfl rfl rfl (fun c3 => ?_) (fun c3 => ?_)
      · rw [if_pos c3] at h
        refine Van rfl lk0 rfl rfl ?_
        have hz := y_bind h
        clear h
        obtain ⟨v4, h5, h⟩ := hz
        have wv4 := (y_gv_ok h5).2
        refine Vgv h5 rfl rfl rfl ?_
        refine Vin rfl lk1 rfl ?_
        have hz := y_bind h
        clear h
        obtain ⟨v6, h7, h⟩ := hz
        refine Zia (q_ia_y h7) rfl rfl ?_
        exact ih.2 _ hd _ _ _ _ _ _ h lv trivial
      · rw [if_neg c3] at h
        refine Vic (v := Int32.ofInt 0) rfl rfl rfl ?_
        refine Ygo rfl rfl rfl rfl rfl rfl ?_
        exact ih.2 _ hd _ _ _ _ _ _ h lv trivial
    · intro d hd s r0 i1 ti0 s9 r h lv _
      simp only [g_127] at h
      cases h
      exact Yret rfl rfl rfl rfl rfl rfl rfl ⟨rfl, rfl⟩

