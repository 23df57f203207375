/-- StepRowsModel.isOver -/
def g_134 (o : X_O) : Nat → Nat → Q_S → Nat → Int → Int64 → Value → Int → Int64 → Int → Option (Q_S × Int)
  | 0, _, _, _, _, _, _, _, _, _ => none
  | n + 1, 0, s, r0, i1, l2, ta0, ti1, tl2, ti0 => (q_gi s 7 (.ref r0) 19).bind fun v1 => (q_gv s 7 (.ref r0) 40).bind fun v3 => (q_ia o s v3 i1).bind fun v5 => (q_g (q_in (v1 - v5))).bind fun _ => (q_gv s 7 (.ref r0) 38).bind fun v9 => (q_ia o s v9 i1).bind fun v11 => (q_rcv s 7 (.ref r0)).bind fun b17 => (g_111 o n 0 s b17 (v11)).bind fun q16 => (q_g (q_in q16.2)).bind fun _ => if ¬ q16.2 = 13 then g_134 o n 2 q16.1 r0 (i1) ((Int64.ofInt (v1 - v5))) .null 0 0 0 else (q_gv q16.1 7 (.ref r0) 26).bind fun v24 => (q_gv q16.1 7 (.ref r0) 38).bind fun v26 => (q_ia o q16.1 v26 i1).bind fun v28 => (q_rcv q16.1 7 (.ref r0)).bind fun b34 => (g_124 o n 0 q16.1 b34 (v28)).bind fun q33 => (q_gv q33.1 7 (.ref r0) 41).bind fun v38 => (q_la q33.1 v38 i1).bind fun v40 => if (Int64.ofInt (v1 - v5)) < v40 then (q_gv q33.1 7 (.ref r0) 42).bind fun v43 => (q_la q33.1 v43 i1).bind fun v45 => (q_gv q33.1 7 (.ref r0) 43).bind fun v47 => (q_la q33.1 v47 i1).bind fun v49 => (q_gv q33.1 7 (.ref r0) 42).bind fun v51 => (q_la q33.1 v51 i1).bind fun v53 => (q_gv q33.1 7 (.ref r0) 41).bind fun v55 => (q_la q33.1 v55 i1).bind fun v57 => (q_g (¬ v57 = 0)).bind fun _ => g_134 o n 1 q33.1 r0 (i1) ((Int64.ofInt (v1 - v5))) (v24) (q33.2) ((v45 + (((v49 - v53) * (Int64.ofInt (v1 - v5))) / v57))) 0 else (q_gv q33.1 7 (.ref r0) 43).bind fun v61 => (q_la q33.1 v61 i1).bind fun v63 => g_134 o n 1 q33.1 r0 (i1) ((Int64.ofInt (v1 - v5))) (v24) (q33.2) (v63) 0
  | n + 1, 1, s, r0, i1, l2, ta0, ti1, tl2, ti0 => (q_ls s ta0 ti1 tl2).bind fun s1 => g_134 o n 2 s1 r0 (i1) (l2) .null 0 0 0
  | n + 1, 2, s, r0, i1, l2, ta0, ti1, tl2, ti0 => (q_gv s 7 (.ref r0) 41).bind fun v1 => (q_la s v1 i1).bind fun v3 => if l2 < v3 then g_134 o n 3 s 0 0 0 .null 0 0 (0) else g_134 o n 3 s 0 0 0 .null 0 0 (1)
  | n + 1, 3, s, r0, i1, l2, ta0, ti1, tl2, ti0 => (q_g (ti0 = 0 ∨ ti0 = 1)).bind fun _ => some (s, ti0)
  | _ + 1, _, _, _, _, _, _, _, _, _ => none
set_option maxRecDepth 100000 in
set_option maxHeartbeats 4000000 in
theorem c_134 (o : X_O) : ∀ n, (∀ (d : Nat) (hd : 1 ≤ d) (s : Q_S) (r0 : Nat) (i1 : Int) (l2 : Int64) (ta0 : Value) (ti1 : Int) (tl2 : Int64) (ti0 : Int) (s9 : Q_S) (r : Int), g_134 o n 0 s r0 i1 l2 ta0 ti1 tl2 ti0 = some (s9, r) → ∀ lv : X_L, x_lget lv 0 = some (.ref r0) → x_lget lv 1 = some (.int (Int32.ofInt i1)) → Y o d 134 0 lv [] (q_y s) (fun s1 r1 => s1 = q_y s9 ∧ r1 = some (.int (Int32.ofInt r)))) ∧
    (∀ (d : Nat) (hd : 1 ≤ d) (s : Q_S) (r0 : Nat) (i1 : Int) (l2 : Int64) (ta0 : Value) (ti1 : Int) (tl2 : Int64) (ti0 : Int) (s9 : Q_S) (r : Int), g_134 o n 1 s r0 i1 l2 ta0 ti1 tl2 ti0 = some (s9, r) → ∀ lv : X_L, x_lget lv 0 = some (.ref r0) → x_lget lv 1 = some (.int (Int32.ofInt i1)) → x_lget lv 2 = some (.long l2) → y_rv ta0 = true → Y o d 134 91 lv [.long tl2, .int (Int32.ofInt ti1), ta0] (q_y s) (fun s1 r1 => s1 = q_y s9 ∧ r1 = some (.int (Int32.ofInt r)))) ∧
    (∀ (d : Nat) (hd : 1 ≤ d) (s : Q_S) (r0 : Nat) (i1 : Int) (l2 : Int64) (ta0 : Value) (ti1 : Int) (tl2 : Int64) (ti0 : Int) (s9 : Q_S) (r : Int), g_134 o n 2 s r0 i1 l2 ta0 ti1 tl2 ti0 = some (s9, r) → ∀ lv : X_L, x_lget lv 0 = some (.ref r0) → x_lget lv 1 = some (.int (Int32.ofInt i1)) → x_lget lv 2 = some (.long l2) → Y o d 134 92 lv [] (q_y s) (fun s1 r1 => s1 = q_y s9 ∧ r1 = some (.int (Int32.ofInt r)))) ∧
    (∀ (d : Nat) (hd : 1 ≤ d) (s : Q_S) (r0 : Nat) (i1 : Int) (l2 : Int64) (ta0 : Value) (ti1 : Int) (tl2 : Int64) (ti0 : Int) (s9 : Q_S) (r : Int), g_134 o n 3 s r0 i1 l2 ta0 ti1 tl2 ti0 = some (s9, r) → ∀ lv : X_L, True → Y o d 134 108 lv [.int (Int32.ofInt ti0)] (q_y s) (fun s1 r1 => s1 = q_y s9 ∧ r1 = some (.int (Int32.ofInt r)))) := by
  intro n
  induction n with
  | zero => exact ⟨fun d hd s _ _ _ _ _ _ _ s9 r h => (by simp only [g_134] at h; cases h), fun d hd s _ _ _ _ _ _ _ s9 r h => (by simp only [g_134] at h; cases h), fun d hd s _ _ _ _ _ _ _ s9 r h => (by simp only [g_134] at h; cases h), fun d hd s _ _ _ _ _ _ _ s9 r h => (by simp only [g_134] at h; cases h)⟩
  | succ n ih =>
    refine ⟨?_, ?_, ?_, ?_⟩
    · intro d hd s r0 i1 l2 ta0 ti1 tl2 ti0 s9 r h lv lk0 lk1
      obtain ⟨d, rfl⟩ : ∃ x, d = x + 1 := ⟨d - 1, by omega⟩
      simp only [g_134] at h
      refine Van rfl lk0 rfl rfl ?_
      have hz := y_bind h
      clear h
      obtain ⟨v1, h2, h⟩ := hz
      refine Zgi (q_gi_y h2) rfl rfl rfl ?_
      refine Van rfl lk0 rfl rfl ?_
      have hz := y_bind h
      clear h
      obtain ⟨v3, h4, h⟩ := hz
      have wv3 := (y_gv_ok h4).2
      refine Vgv h4 rfl rfl rfl ?_
      refine Vin rfl lk1 rfl ?_
      have hz := y_bind h
      clear h
      obtain ⟨v5, h6, h⟩ := hz
      refine Zia (q_ia_y h6) rfl rfl ?_
      refine Usub rfl rfl ?_
      have hz := y_bind h
      clear h
      obtain ⟨_, h8, h⟩ := hz
      have c7 := q_g_ok h8
      refine Ui2l c7 rfl rfl ?_
      refine Vsln rfl rfl (fun lv lk2 hk => ?_)
      have lk0 := hk 0 _ lk0 (by decide) (by decide) (Or.inl (by decide))
      have lk1 := hk 1 _ lk1 (by decide) (by decide) (Or.inr rfl)
      refine Van rfl lk0 rfl rfl ?_
      refine Van rfl lk0 rfl rfl ?_
      have hz := y_bind h
      clear h
      obtain ⟨v9, h10, h⟩ := hz
      have wv9 := (y_gv_ok h10).2
      refine Vgv h10 rfl rfl rfl ?_
      refine Vin rfl lk1 rfl ?_
      have hz := y_bind h
      clear h
      obtain ⟨v11, h12, h⟩ := hz
      refine Zia (q_ia_y h12) rfl rfl ?_
      have hz := y_bind h
      clear h
      obtain ⟨b17, h18, h⟩ := hz
      obtain ⟨eh18, fh18, wh18⟩ := y_rcv_ok h18
      cases eh18
      have hz := y_bind h
      clear h
      obtain ⟨⟨s13, r14⟩, h15, h⟩ := hz
      try dsimp only at h
      refine Vcv rfl rfl rfl wh18 rfl rfl ⟨(Nat.le_of_ble_eq_true rfl), (Nat.le_of_ble_eq_true rfl)⟩ rfl ((c_111 o n) _ (by omega) _ _ _ _ _ h15 _ rfl rfl) (fun z1 z2 zq => ?_)
      obtain ⟨rfl, rfl⟩ := zq
      try dsimp only [Option.toList, HAppend.hAppend, Append.append, List.append]
      refine Vbp (v := Int32.ofInt 13) rfl (by decide) rfl ?_
      have hz := y_bind h
      clear h
      obtain ⟨_, h22, h⟩ := hz
      have c21 := q_g_ok h22
      refine Uif (not_congr (q_eq c21 (by decide))) rfl rfl rfl rfl rfl rfl rfl (fun c23 => ?_) (fun c23 => ?_)
      · rw [if_pos c23] at h
        exact ih.2.2.1 _ hd _ _ _ _ _ _ _ _ _ _ h lv lk0 lk1 lk2
      · rw [if_neg c23] at h
        refine Van rfl lk0 rfl rfl ?_
        have hz := y_bind h
        clear h
        obtain ⟨v24, h25, h⟩ := hz
        have wv24 := (y_gv_ok h25).2
        refine Vgv h25 rfl rfl rfl ?_
        refine Van rfl lk0 rfl rfl ?_
        refine Van rfl lk0 rfl rfl ?_
        have hz := y_bind h
        clear h
        obtain ⟨v26, h27, h⟩ := hz
        have wv26 := (y_gv_ok h27).2
        refine Vgv h27 rfl rfl rfl ?_
        refine Vin rfl lk1 rfl ?_
        have hz := y_bind h
        clear h
        obtain ⟨v28, h29, h⟩ := hz
        refine Zia (q_ia_y h29) rfl rfl ?_
        have hz := y_bind h
        clear h
        obtain ⟨b34, h35, h⟩ := hz
        obtain ⟨eh35, fh35, wh35⟩ := y_rcv_ok h35
        cases eh35
        have hz := y_bind h
        clear h
        obtain ⟨⟨s30, r31⟩, h32, h⟩ := hz
        try dsimp only at h
        refine Vcv rfl rfl rfl wh35 rfl rfl ⟨(by simp only [List.take, List.reverse_cons, List.reverse_nil, List.nil_append, List.cons_append, List.map_cons, List.map_nil, y_cati, y_catl, y_catr, y_catn, y_cata, y_rv_cat wv24, List.sum_cons, List.sum_nil]; decide +kernel), (Nat.le_of_ble_eq_true rfl)⟩ rfl ((c_124 o n) _ (by omega) _ _ _ _ _ h32 _ rfl rfl) (fun z1 z2 zq => ?_)
        obtain ⟨rfl, rfl⟩ := zq
        try dsimp only [Option.toList, HAppend.hAppend, Append.append, List.append]
        refine Vln rfl lk2 rfl ?_
        refine Van rfl lk0 rfl rfl ?_
        have hz := y_bind h
        clear h
        obtain ⟨v38, h39, h⟩ := hz
        have wv38 := (y_gv_ok h39).2
        refine Vgv h39 rfl rfl rfl ?_
        refine Vin rfl lk1 rfl ?_
        have hz := y_bind h
        clear h
        obtain ⟨v40, h41, h⟩ := hz
        refine Zla (q_la_y h41) rfl rfl ?_
        refine Ya rfl rfl rfl ?_
        refine Uif (lg_cmp_lt _ _) rfl rfl rfl rfl rfl rfl rfl (fun c42 => ?_) (fun c42 => ?_)
        · rw [if_pos c42] at h
          refine Van rfl lk0 rfl rfl ?_
          have hz := y_bind h
          clear h
          obtain ⟨v43, h44, h⟩ := hz
          have wv43 := (y_gv_ok h44).2
          refine Vgv h44 rfl rfl rfl ?_
          refine Vin rfl lk1 rfl ?_
          have hz := y_bind h
          clear h
          obtain ⟨v45, h46, h⟩ := hz
          refine Zla (q_la_y h46) rfl rfl ?_
          refine Van rfl lk0 rfl rfl ?_
          have hz := y_bind h
          clear h
          obtain ⟨v47, h48, h⟩ := hz
          have wv47 := (y_gv_ok h48).2
          refine Vgv h48 rfl rfl rfl ?_
          refine Vin rfl lk1 rfl ?_
          have hz := y_bind h
          clear h
          obtain ⟨v49, h50, h⟩ := hz
          refine Zla (q_la_y h50) rfl rfl ?_
          refine Van rfl lk0 rfl rfl ?_
          have hz := y_bind h
          clear h
          obtain ⟨v51, h52, h⟩ := hz
          have wv51 := (y_gv_ok h52).2
          refine Vgv h52 rfl rfl rfl ?_
          refine Vin rfl lk1 rfl ?_
          have hz := y_bind h
          clear h
          obtain ⟨v53, h54, h⟩ := hz
          refine Zla (q_la_y h54) rfl rfl ?_
          refine Ya rfl rfl rfl ?_
          refine Vln rfl lk2 rfl ?_
          refine Ya rfl rfl rfl ?_
          refine Van rfl lk0 rfl rfl ?_
          have hz := y_bind h
          clear h
          obtain ⟨v55, h56, h⟩ := hz
          have wv55 := (y_gv_ok h56).2
          refine Vgv h56 rfl rfl rfl ?_
          refine Vin rfl lk1 rfl ?_
          have hz := y_bind h
          clear h
          obtain ⟨v57, h58, h⟩ := hz
          refine Zla (q_la_y h58) rfl rfl ?_
          have hz := y_bind h
          clear h
          obtain ⟨_, h60, h⟩ := hz
          have c59 := q_g_ok h60
          refine Ya rfl (if_neg c59) rfl ?_
          refine Ya rfl rfl rfl ?_
          exact ih.2.1 _ hd _ _ _ _ _ _ _ _ _ _ h lv lk0 lk1 lk2 wv24
        · rw [if_neg c42] at h
          refine Van rfl lk0 rfl rfl ?_
          have hz := y_bind h
          clear h
          obtain ⟨v61, h62, h⟩ := hz
          have wv61 := (y_gv_ok h62).2
          refine Vgv h62 rfl rfl rfl ?_
          refine Vin rfl lk1 rfl ?_
          have hz := y_bind h
          clear h
          obtain ⟨v63, h64, h⟩ := hz
          refine Zla (q_la_y h64) rfl rfl ?_
          refine Ygo rfl rfl rfl rfl rfl rfl ?_
          exact ih.2.1 _ hd _ _ _ _ _ _ _ _ _ _ h lv lk0 lk1 lk2 wv24
    · intro d hd s r0 i1 l2 ta0 ti1 tl2 ti0 s9 r h lv lk0 lk1 lk2 rs0
      obtain ⟨d, rfl⟩ : ∃ x, d = x + 1 := ⟨d - 1, by omega⟩
      simp only [g_134] at h
      have hz := y_bind h
      clear h
      obtain ⟨s1, h2, h⟩ := hz
      refine Zls (q_ls_y h2) rfl rfl ?_
      exact ih.2.2.1 _ hd _ _ _ _ _ _ _ _ _ _ h lv lk0 lk1 lk2
    · intro d hd s r0 i1 l2 ta0 ti1 tl2 ti0 s9 r h lv lk0 lk1 lk2
      obtain ⟨d, rfl⟩ : ∃ x, d = x + 1 := ⟨d - 1, by omega⟩
      simp only [g_134] at h
      refine Vln rfl lk2 rfl ?_
      refine Van rfl lk0 rfl rfl ?_
      have hz := y_bind h
      clear h
      obtain ⟨v1, h2, h⟩ := hz
      have wv1 := (y_gv_ok h2).2
      refine Vgv h2 rfl rfl rfl ?_
      refine Vin rfl lk1 rfl ?_
      have hz := y_bind h
      clear h
      obtain ⟨v3, h4, h⟩ := hz
      refine Zla (q_la_y h4) rfl rfl ?_
      refine Ya rfl rfl rfl ?_
      refine Uif (lg_cmp_lt _ _) rfl rfl rfl rfl rfl rfl rfl (fun c5 => ?_) (fun c5 => ?_)
      · rw [if_pos c5] at h
        refine Vic (v := Int32.ofInt 0) rfl rfl rfl ?_
        exact ih.2.2.2 _ hd _ _ _ _ _ _ _ _ _ _ h lv trivial
      · rw [if_neg c5] at h
        refine Vic (v := Int32.ofInt 1) rfl rfl rfl ?_
        refine Ygo rfl rfl rfl rfl rfl rfl ?_
        exact ih.2.2.2 _ hd _ _ _ _ _ _ _ _ _ _ h lv trivial
    · intro d hd s r0 i1 l2 ta0 ti1 tl2 ti0 s9 r h lv _
      obtain ⟨d, rfl⟩ : ∃ x, d = x + 1 := ⟨d - 1, by omega⟩
      simp only [g_134] at h
      have hz := y_bind h
      clear h
      obtain ⟨_, h2, h⟩ := hz
      have c1 := q_g_ok h2
      cases h
      exact Yret rfl rfl rfl rfl rfl rfl (if_pos (q_bool c1)) ⟨rfl, rfl⟩

/-- StepRowsModel.run -/
def g_121 (o : X_O) : Nat → Nat → Nat → Q_S → Nat → Int → Int → Int → Int → Value → Int → Int → Option (Q_S × Unit)
  | 0, _, _, _, _, _, _, _, _, _, _, _ => none
  | n + 1, e, 0, s, r0, i1, i2, i3, ti0, ta0, ti1, ti2 => (q_gv s 7 (.ref r0) 37).bind fun v1 => (q_ia o s v1 i1).bind fun v3 => (q_g (q_in v3)).bind fun _ => if v3 = 0 then g_121 o n e 1 s r0 (i1) 0 0 (0) .null 0 0 else g_121 o n e 1 s r0 (i1) 0 0 (1) .null 0 0
  | n + 1, e, 1, s, r0, i1, i2, i3, ti0, ta0, ti1, ti2 => g_121 o n e 2 s r0 (i1) (ti0) 0 0 .null 0 0
  | n + 1, e, 2, s, r0, i1, i2, i3, ti0, ta0, ti1, ti2 => (q_g (q_in i2)).bind fun _ => if i2 = 0 then g_121 o n e 10 s 0 0 0 0 0 .null 0 0 else (q_gi s 7 (.ref r0) 47).bind fun v4 => (q_g (q_in v4)).bind fun _ => if ¬ v4 = 0 then g_121 o n e 10 s 0 0 0 0 0 .null 0 0 else (q_gv s 7 (.ref r0) 37).bind fun v9 => (q_ia o s v9 i1).bind fun v11 => (q_g (q_in v11)).bind fun _ => if ¬ v11 = 2 then (q_gv s 7 (.ref r0) 37).bind fun v16 => (q_ia o s v16 i1).bind fun v18 => (q_g (q_in v18)).bind fun _ => if ¬ v18 = 3 then (q_gv s 7 (.ref r0) 37).bind fun v23 => (q_ia o s v23 i1).bind fun v25 => (q_g (q_in v25)).bind fun _ => if ¬ v25 = 1 then (q_gv s 7 (.ref r0) 37).bind fun v30 => (q_ia o s v30 i1).bind fun v32 => (q_g (q_in v32)).bind fun _ => if ¬ v32 = 4 then g_121 o n e 2 s r0 (i1) (0) 0 0 .null 0 0 else (q_gv s 7 (.ref r0) 39).bind fun v37 => (q_ia o s v37 i1).bind fun v39 => (q_gv s 7 (.ref r0) 33).bind fun v41 => (q_ia o s v41 v39).bind fun v43 => (q_dec e).bind fun e72 => (q_rcv s 7 (.ref r0)).bind fun b49 => (g_121 o n e72 0 s b49 (v43) 0 0 0 .null 0 0).bind fun q48 => (q_gi q48.1 7 (.ref r0) 47).bind fun v53 => (q_g (q_in v53)).bind fun _ => if ¬ v53 = 0 then g_121 o n e 6 q48.1 r0 (i1) 0 (v39) 0 .null 0 0 else (q_gv q48.1 7 (.ref r0) 34).bind fun v58 => (q_ia o q48.1 v58 v39).bind fun v60 => (q_dec e).bind fun e70 => (q_rcv q48.1 7 (.ref r0)).bind fun b66 => (g_121 o n e70 0 q48.1 b66 (v60) 0 0 0 .null 0 0).bind fun q65 => g_121 o n e 6 q65.1 r0 (i1) 0 (v39) 0 .null 0 0 else (q_rcv s 7 (.ref r0)).bind fun b78 => (g_134 o n 0 s b78 (i1) 0 .null 0 0 0).bind fun q77 => (q_g (q_in q77.2)).bind fun _ => if ¬ q77.2 = 0 then g_121 o n e 3 q77.1 r0 (i1) 0 0 (0) .null 0 0 else g_121 o n e 3 q77.1 r0 (i1) 0 0 (1) .null 0 0 else (q_rcv s 7 (.ref r0)).bind fun b89 => (g_129 o n 0 s b89 (i1) 0 0 .null 0 0 0).bind fun q88 => g_121 o n e 2 q88.1 r0 (i1) (i2) 0 0 .null 0 0 else (q_rcv s 7 (.ref r0)).bind fun b97 => (g_122 o n 0 s b97 (i1) 0 0 0 .null 0 0 0 0).bind fun q96 => g_121 o n e 2 q96.1 r0 (i1) (i2) 0 0 .null 0 0
  | n + 1, e, 3, s, r0, i1, i2, i3, ti0, ta0, ti1, ti2 => (q_gv s 7 (.ref r0) 37).bind fun v1 => (q_g (q_in ti0)).bind fun _ => if ti0 = 0 then g_121 o n e 4 s r0 (i1) (ti0) 0 0 (v1) (i1) (3) else g_121 o n e 4 s r0 (i1) (ti0) 0 0 (v1) (i1) (1)
  | n + 1, e, 4, s, r0, i1, i2, i3, ti0, ta0, ti1, ti2 => (q_is s ta0 ti1 ti2).bind fun s1 => (q_g (q_in i2)).bind fun _ => if ¬ i2 = 0 then g_121 o n e 5 s1 r0 (i1) 0 0 (0) .null 0 0 else g_121 o n e 5 s1 r0 (i1) 0 0 (1) .null 0 0
  | n + 1, e, 5, s, r0, i1, i2, i3, ti0, ta0, ti1, ti2 => g_121 o n e 2 s r0 (i1) (ti0) 0 0 .null 0 0
  | n + 1, e, 6, s, r0, i1, i2, i3, ti0, ta0, ti1, ti2 => (q_gi s 7 (.ref r0) 47).bind fun v1 => (q_g (q_in v1)).bind fun _ => if ¬ v1 = 0 then g_121 o n e 7 s r0 (i1) 0 (i3) 0 .null 0 0 else (q_gv s 7 (.ref r0) 37).bind fun v6 => (q_gv s 7 (.ref r0) 33).bind fun v8 => (q_ia o s v8 i3).bind fun v10 => (q_ia o s v6 v10).bind fun v12 => (q_g (q_in v12)).bind fun _ => if ¬ v12 = 0 then g_121 o n e 7 s r0 (i1) 0 (i3) 0 .null 0 0 else (q_gv s 7 (.ref r0) 37).bind fun v17 => (q_gv s 7 (.ref r0) 34).bind fun v19 => (q_ia o s v19 i3).bind fun v21 => (q_ia o s v17 v21).bind fun v23 => (q_g (q_in v23)).bind fun _ => if ¬ v23 = 0 then g_121 o n e 7 s r0 (i1) 0 (i3) 0 .null 0 0 else g_121 o n e 8 s r0 (i1) 0 (i3) (1) .null 0 0
  | n + 1, e, 7, s, r0, i1, i2, i3, ti0, ta0, ti1, ti2 => g_121 o n e 8 s r0 (i1) 0 (i3) (0) .null 0 0
  | n + 1, e, 8, s, r0, i1, i2, i3, ti0, ta0, ti1, ti2 => (q_g (q_in ti0)).bind fun _ => if ti0 = 0 then g_121 o n e 9 s r0 (i1) (ti0) 0 0 .null 0 0 else (q_gv s 7 (.ref r0) 44).bind fun v4 => (q_gv s 7 (.ref r0) 33).bind fun v6 => (q_ia o s v6 i3).bind fun v8 => (q_bs s v4 v8 0).bind fun s10 => (q_gv s10 7 (.ref r0) 44).bind fun v12 => (q_gv s10 7 (.ref r0) 34).bind fun v14 => (q_ia o s10 v14 i3).bind fun v16 => (q_bs s10 v12 v16 0).bind fun s18 => (q_gi s18 7 (.ref r0) 45).bind fun v20 => (q_pi s18 7 (.ref r0) 45 (v20 - 1)).bind fun s22 => (q_gv s22 7 (.ref r0) 29).bind fun v24 => (q_ia o s22 v24 i3).bind fun v26 => (q_rcv s22 7 (.ref r0)).bind fun b32 => (g_118 o n 0 s22 b32 (i1)).bind fun q31 => (q_rcv q31.1 7 (.ref r0)).bind fun b40 => (g_120 o n 0 q31.1 b40 (i1) (3) (v26)).bind fun q39 => g_121 o n e 9 q39.1 r0 (i1) (ti0) 0 0 .null 0 0
  | n + 1, e, 9, s, r0, i1, i2, i3, ti0, ta0, ti1, ti2 => g_121 o n e 2 s r0 (i1) (i2) 0 0 .null 0 0
  | n + 1, e, 10, s, r0, i1, i2, i3, ti0, ta0, ti1, ti2 => some (s, ())
  | _ + 1, _, _, _, _, _, _, _, _, _, _, _ => none
set_option maxRecDepth 100000 in
set_option maxHeartbeats 4000000 in
theorem c_121 (o : X_O) : ∀ n, (∀ (d e : Nat) (hd : 514 + e ≤ d) (s : Q_S) (r0 : Nat) (i1 : Int) (i2 : Int) (i3 : Int) (ti0 : Int) (ta0 : Value) (ti1 : Int) (ti2 : Int) (s9 : Q_S) (r : Unit), g_121 o n e 0 s r0 i1 i2 i3 ti0 ta0 ti1 ti2 = some (s9, r) → ∀ lv : X_L, x_lget lv 0 = some (.ref r0) → x_lget lv 1 = some (.int (Int32.ofInt i1)) → Y o d 121 0 lv [] (q_y s) (fun s1 r1 => s1 = q_y s9 ∧ r1 = none)) ∧
    (∀ (d e : Nat) (hd : 514 + e ≤ d) (s : Q_S) (r0 : Nat) (i1 : Int) (i2 : Int) (i3 : Int) (ti0 : Int) (ta0 : Value) (ti1 : Int) (ti2 : Int) (s9 : Q_S) (r : Unit), g_121 o n e 1 s r0 i1 i2 i3 ti0 ta0 ti1 ti2 = some (s9, r) → ∀ lv : X_L, x_lget lv 0 = some (.ref r0) → x_lget lv 1 = some (.int (Int32.ofInt i1)) → Y o d 121 14 lv [.int (Int32.ofInt ti0)] (q_y s) (fun s1 r1 => s1 = q_y s9 ∧ r1 = none)) ∧
    (∀ (d e : Nat) (hd : 514 + e ≤ d) (s : Q_S) (r0 : Nat) (i1 : Int) (i2 : Int) (i3 : Int) (ti0 : Int) (ta0 : Value) (ti1 : Int) (ti2 : Int) (s9 : Q_S) (r : Unit), g_121 o n e 2 s r0 i1 i2 i3 ti0 ta0 ti1 ti2 = some (s9, r) → ∀ lv : X_L, x_lget lv 0 = some (.ref r0) → x_lget lv 1 = some (.int (Int32.ofInt i1)) → x_lget lv 2 = some (.int (Int32.ofInt i2)) → Y o d 121 15 lv [] (q_y s) (fun s1 r1 => s1 = q_y s9 ∧ r1 = none)) ∧
    (∀ (d e : Nat) (hd : 514 + e ≤ d) (s : Q_S) (r0 : Nat) (i1 : Int) (i2 : Int) (i3 : Int) (ti0 : Int) (ta0 : Value) (ti1 : Int) (ti2 : Int) (s9 : Q_S) (r : Unit), g_121 o n e 3 s r0 i1 i2 i3 ti0 ta0 ti1 ti2 = some (s9, r) → ∀ lv : X_L, x_lget lv 0 = some (.ref r0) → x_lget lv 1 = some (.int (Int32.ofInt i1)) → Y o d 121 85 lv [.int (Int32.ofInt ti0)] (q_y s) (fun s1 r1 => s1 = q_y s9 ∧ r1 = none)) ∧
    (∀ (d e : Nat) (hd : 514 + e ≤ d) (s : Q_S) (r0 : Nat) (i1 : Int) (i2 : Int) (i3 : Int) (ti0 : Int) (ta0 : Value) (ti1 : Int) (ti2 : Int) (s9 : Q_S) (r : Unit), g_121 o n e 4 s r0 i1 i2 i3 ti0 ta0 ti1 ti2 = some (s9, r) → ∀ lv : X_L, x_lget lv 0 = some (.ref r0) → x_lget lv 1 = some (.int (Int32.ofInt i1)) → x_lget lv 2 = some (.int (Int32.ofInt i2)) → y_rv ta0 = true → Y o d 121 100 lv [.int (Int32.ofInt ti2), .int (Int32.ofInt ti1), ta0] (q_y s) (fun s1 r1 => s1 = q_y s9 ∧ r1 = none)) ∧
    (∀ (d e : Nat) (hd : 514 + e ≤ d) (s : Q_S) (r0 : Nat) (i1 : Int) (i2 : Int) (i3 : Int) (ti0 : Int) (ta0 : Value) (ti1 : Int) (ti2 : Int) (s9 : Q_S) (r : Unit), g_121 o n e 5 s r0 i1 i2 i3 ti0 ta0 ti1 ti2 = some (s9, r) → ∀ lv : X_L, x_lget lv 0 = some (.ref r0) → x_lget lv 1 = some (.int (Int32.ofInt i1)) → Y o d 121 110 lv [.int (Int32.ofInt ti0)] (q_y s) (fun s1 r1 => s1 = q_y s9 ∧ r1 = none)) ∧
    (∀ (d e : Nat) (hd : 514 + e ≤ d) (s : Q_S) (r0 : Nat) (i1 : Int) (i2 : Int) (i3 : Int) (ti0 : Int) (ta0 : Value) (ti1 : Int) (ti2 : Int) (s9 : Q_S) (r : Unit), g_121 o n e 6 s r0 i1 i2 i3 ti0 ta0 ti1 ti2 = some (s9, r) → ∀ lv : X_L, x_lget lv 0 = some (.ref r0) → x_lget lv 1 = some (.int (Int32.ofInt i1)) → x_lget lv 3 = some (.int (Int32.ofInt i3)) → Y o d 121 158 lv [] (q_y s) (fun s1 r1 => s1 = q_y s9 ∧ r1 = none)) ∧
    (∀ (d e : Nat) (hd : 514 + e ≤ d) (s : Q_S) (r0 : Nat) (i1 : Int) (i2 : Int) (i3 : Int) (ti0 : Int) (ta0 : Value) (ti1 : Int) (ti2 : Int) (s9 : Q_S) (r : Unit), g_121 o n e 7 s r0 i1 i2 i3 ti0 ta0 ti1 ti2 = some (s9, r) → ∀ lv : X_L, x_lget lv 0 = some (.ref r0) → x_lget lv 1 = some (.int (Int32.ofInt i1)) → x_lget lv 3 = some (.int (Int32.ofInt i3)) → Y o d 121 197 lv [] (q_y s) (fun s1 r1 => s1 = q_y s9 ∧ r1 = none)) ∧
    (∀ (d e : Nat) (hd : 514 + e ≤ d) (s : Q_S) (r0 : Nat) (i1 : Int) (i2 : Int) (i3 : Int) (ti0 : Int) (ta0 : Value) (ti1 : Int) (ti2 : Int) (s9 : Q_S) (r : Unit), g_121 o n e 8 s r0 i1 i2 i3 ti0 ta0 ti1 ti2 = some (s9, r) → ∀ lv : X_L, x_lget lv 0 = some (.ref r0) → x_lget lv 1 = some (.int (Int32.ofInt i1)) → x_lget lv 3 = some (.int (Int32.ofInt i3)) → Y o d 121 198 lv [.int (Int32.ofInt ti0)] (q_y s) (fun s1 r1 => s1 = q_y s9 ∧ r1 = none)) ∧
    (∀ (d e : Nat) (hd : 514 + e ≤ d) (s : Q_S) (r0 : Nat) (i1 : Int) (i2 : Int) (i3 : Int) (ti0 : Int) (ta0 : Value) (ti1 : Int) (ti2 : Int) (s9 : Q_S) (r : Unit), g_121 o n e 9 s r0 i1 i2 i3 ti0 ta0 ti1 ti2 = some (s9, r) → ∀ lv : X_L, x_lget lv 0 = some (.ref r0) → x_lget lv 1 = some (.int (Int32.ofInt i1)) → x_lget lv 2 = some (.int (Int32.ofInt i2)) → Y o d 121 258 lv [] (q_y s) (fun s1 r1 => s1 = q_y s9 ∧ r1 = none)) ∧
    (∀ (d e : Nat) (hd : 514 + e ≤ d) (s : Q_S) (r0 : Nat) (i1 : Int) (i2 : Int) (i3 : Int) (ti0 : Int) (ta0 : Value) (ti1 : Int) (ti2 : Int) (s9 : Q_S) (r : Unit), g_121 o n e 10 s r0 i1 i2 i3 ti0 ta0 ti1 ti2 = some (s9, r) → ∀ lv : X_L, True → Y o d 121 266 lv [] (q_y s) (fun s1 r1 => s1 = q_y s9 ∧ r1 = none)) := by
  intro n
  induction n with
  | zero => exact ⟨fun d e hd s _ _ _ _ _ _ _ _ s9 r h => (by simp only [g_121] at h; cases h), fun d e hd s _ _ _ _ _ _ _ _ s9 r h => (by simp only [g_121] at h; cases h), fun d e hd s _ _ _ _ _ _ _ _ s9 r h => (by simp only [g_121] at h; cases h), fun d e hd s _ _ _ _ _ _ _ _ s9 r h => (by simp only [g_121] at h; cases h), fun d e hd s _ _ _ _ _ _ _ _ s9 r h => (by simp only [g_121] at h; cases h), fun d e hd s _ _ _ _ _ _ _ _ s9 r h => (by simp only [g_121] at h; cases h), fun d e hd s _ _ _ _ _ _ _ _ s9 r h => (by simp only [g_121] at h; cases h), fun d e hd s _ _ _ _ _ _ _ _ s9 r h => (by simp only [g_121] at h; cases h), fun d e hd s _ _ _ _ _ _ _ _ s9 r h => (by simp only [g_121] at h; cases h), fun d e hd s _ _ _ _ _ _ _ _ s9 r h => (by simp only [g_121] at h; cases h), fun d e hd s _ _ _ _ _ _ _ _ s9 r h => (by simp only [g_121] at h; cases h)⟩
  | succ n ih =>
    refine ⟨?_, ?_, ?_, ?_, ?_, ?_, ?_, ?_, ?_, ?_, ?_⟩
    · intro d e hd s r0 i1 i2 i3 ti0 ta0 ti1 ti2 s9 r h lv lk0 lk1
      obtain ⟨d, rfl⟩ : ∃ x, d = x + 1 := ⟨d - 1, by omega⟩
      simp only [g_121] at h
      refine Van rfl lk0 rfl rfl ?_
      have hz := y_bind h
      clear h
      obtain ⟨v1, h2, h⟩ := hz
      have wv1 := (y_gv_ok h2).2
      refine Vgv h2 rfl rfl rfl ?_
      refine Vin rfl lk1 rfl ?_
      have hz := y_bind h
      clear h
      obtain ⟨v3, h4, h⟩ := hz
      refine Zia (q_ia_y h4) rfl rfl ?_
      have hz := y_bind h
      clear h
      obtain ⟨_, h6, h⟩ := hz
      have c5 := q_g_ok h6
      refine Uif (q_eq0 c5) rfl rfl rfl rfl rfl rfl rfl (fun c7 => ?_) (fun c7 => ?_)
      · rw [if_pos c7] at h
        refine Vic (v := Int32.ofInt 0) rfl rfl rfl ?_
        exact ih.2.1 _ _ hd _ _ _ _ _ _ _ _ _ _ _ h lv lk0 lk1
      · rw [if_neg c7] at h
        refine Vic (v := Int32.ofInt 1) rfl rfl rfl ?_
        refine Ygo rfl rfl rfl rfl rfl rfl ?_
        exact ih.2.1 _ _ hd _ _ _ _ _ _ _ _ _ _ _ h lv lk0 lk1
    · intro d e hd s r0 i1 i2 i3 ti0 ta0 ti1 ti2 s9 r h lv lk0 lk1
      obtain ⟨d, rfl⟩ : ∃ x, d = x + 1 := ⟨d - 1, by omega⟩
      simp only [g_121] at h
      refine Vsin rfl rfl (fun lv lk2 hk => ?_)
      have lk0 := hk 0 _ lk0 (by decide) (by decide) (Or.inl (by decide))
      have lk1 := hk 1 _ lk1 (by decide) (by decide) (Or.inr rfl)
      exact ih.2.2.1 _ _ hd _ _ _ _ _ _ _ _ _ _ _ h lv lk0 lk1 lk2
    · intro d e hd s r0 i1 i2 i3 ti0 ta0 ti1 ti2 s9 r h lv lk0 lk1 lk2
      obtain ⟨d, rfl⟩ : ∃ x, d = x + 1 := ⟨d - 1, by omega⟩
      simp only [g_121] at h
      refine Vin rfl lk2 rfl ?_
      have hz := y_bind h
      clear h
      obtain ⟨_, h2, h⟩ := hz
      have c1 := q_g_ok h2
      refine Uif (q_eq0 c1) rfl rfl rfl rfl rfl rfl rfl (fun c3 => ?_) (fun c3 => ?_)
      · rw [if_pos c3] at h
        exact ih.2.2.2.2.2.2.2.2.2.2 _ _ hd _ _ _ _ _ _ _ _ _ _ _ h lv trivial
      · rw [if_neg c3] at h
        refine Van rfl lk0 rfl rfl ?_
        have hz := y_bind h
        clear h
        obtain ⟨v4, h5, h⟩ := hz
        refine Zgi (q_gi_y h5) rfl rfl rfl ?_
        have hz := y_bind h
        clear h
        obtain ⟨_, h7, h⟩ := hz
        have c6 := q_g_ok h7
        refine Uif (not_congr (q_eq0 c6)) rfl rfl rfl rfl rfl rfl rfl (fun c8 => ?_) (fun c8 => ?_)
        · rw [if_pos c8] at h
          exact ih.2.2.2.2.2.2.2.2.2.2 _ _ hd _ _ _ _ _ _ _ _ _ _ _ h lv trivial
        · rw [if_neg c8] at h
          refine Van rfl lk0 rfl rfl ?_
          have hz := y_bind h
          clear h
          obtain ⟨v9, h10, h⟩ := hz
          have wv9 := (y_gv_ok h10).2
          refine Vgv h10 rfl rfl rfl ?_
          refine Vin rfl lk1 rfl ?_
          have hz := y_bind h
          clear h
          obtain ⟨v11, h12, h⟩ := hz
          refine Zia (q_ia_y h12) rfl rfl ?_
          refine Vic (v := Int32.ofInt 2) rfl rfl rfl ?_
          have hz := y_bind h
          clear h
          obtain ⟨_, h14, h⟩ := hz
          have c13 := q_g_ok h14
          refine Uif (not_congr (q_eq c13 (by decide))) rfl rfl rfl rfl rfl rfl rfl (fun c15 => ?_) (fun c15 => ?_)
          · rw [if_pos c15] at h
            refine Van rfl lk0 rfl rfl ?_
            have hz := y_bind h
            clear h
            obtain ⟨v16, h17, h⟩ := hz
            have wv16 := (y_gv_ok h17).2
            refine Vgv h17 rfl rfl rfl ?_
            refine Vin rfl lk1 rfl ?_
            have hz := y_bind h
            clear h
            obtain ⟨v18, h19, h⟩ := hz
            refine Zia (q_ia_y h19) rfl rfl ?_
            refine Vic (v := Int32.ofInt 3) rfl rfl rfl ?_
            have hz := y_bind h
            clear h
            obtain ⟨_, h21, h⟩ := hz
            have c20 := q_g_ok h21
            refine Uif (not_congr (q_eq c20 (by decide))) rfl rfl rfl rfl rfl rfl rfl (fun c22 => ?_) (fun c22 => ?_)
            · rw [if_pos c22] at h
              refine Van rfl lk0 rfl rfl ?_
              have hz := y_bind h
              clear h
              obtain ⟨v23, h24, h⟩ := hz
              have wv23 := (y_gv_ok h24).2
              refine Vgv h24 rfl rfl rfl ?_
              refine Vin rfl lk1 rfl ?_
              have hz := y_bind h
              clear h
              obtain ⟨v25, h26, h⟩ := hz
              refine Zia (q_ia_y h26) rfl rfl ?_
              refine Vic (v := Int32.ofInt 1) rfl rfl rfl ?_
              have hz := y_bind h
              clear h
              obtain ⟨_, h28, h⟩ := hz
              have c27 := q_g_ok h28
              refine Uif (not_congr (q_eq c27 (by decide))) rfl rfl rfl rfl rfl rfl rfl (fun c29 => ?_) (fun c29 => ?_)
              · rw [if_pos c29] at h
                refine Van rfl lk0 rfl rfl ?_
                have hz := y_bind h
                clear h
                obtain ⟨v30, h31, h⟩ := hz
                have wv30 := (y_gv_ok h31).2
                refine Vgv h31 rfl rfl rfl ?_
                refine Vin rfl lk1 rfl ?_
                have hz := y_bind h
                clear h
                obtain ⟨v32, h33, h⟩ := hz
                refine Zia (q_ia_y h33) rfl rfl ?_
                refine Vic (v := Int32.ofInt 4) rfl rfl rfl ?_
                have hz := y_bind h
                clear h
                obtain ⟨_, h35, h⟩ := hz
                have c34 := q_g_ok h35
                refine Uif (not_congr (q_eq c34 (by decide))) rfl rfl rfl rfl rfl rfl rfl (fun c36 => ?_) (fun c36 => ?_)
                · rw [if_pos c36] at h
                  refine Vic (v := Int32.ofInt 0) rfl rfl rfl ?_
                  refine Vsin rfl rfl (fun lv lk2 hk => ?_)
                  have lk0 := hk 0 _ lk0 (by decide) (by decide) (Or.inl (by decide))
                  have lk1 := hk 1 _ lk1 (by decide) (by decide) (Or.inr rfl)
                  refine Ygo rfl rfl rfl rfl rfl rfl ?_
                  exact ih.2.2.1 _ _ hd _ _ _ _ _ _ _ _ _ _ _ h lv lk0 lk1 lk2
                · rw [if_neg c36] at h
                  refine Van rfl lk0 rfl rfl ?_
                  have hz := y_bind h
                  clear h
                  obtain ⟨v37, h38, h⟩ := hz
                  have wv37 := (y_gv_ok h38).2
                  refine Vgv h38 rfl rfl rfl ?_
                  refine Vin rfl lk1 rfl ?_
                  have hz := y_bind h
                  clear h
                  obtain ⟨v39, h40, h⟩ := hz
                  refine Zia (q_ia_y h40) rfl rfl ?_
                  refine Vsin rfl rfl (fun lv lk3 hk => ?_)
                  have lk0 := hk 0 _ lk0 (by decide) (by decide) (Or.inl (by decide))
                  have lk1 := hk 1 _ lk1 (by decide) (by decide) (Or.inl (by decide))
                  refine Van rfl lk0 rfl rfl ?_
                  refine Van rfl lk0 rfl rfl ?_
                  have hz := y_bind h
                  clear h
                  obtain ⟨v41, h42, h⟩ := hz
                  have wv41 := (y_gv_ok h42).2
                  refine Vgv h42 rfl rfl rfl ?_
                  refine Vin rfl lk3 rfl ?_
                  have hz := y_bind h
                  clear h
                  obtain ⟨v43, h44, h⟩ := hz
                  refine Zia (q_ia_y h44) rfl rfl ?_
                  have hz := y_bind h
                  clear h
                  obtain ⟨e72, h73, h⟩ := hz
                  have h73x := q_dec_ok h73
                  have hz := y_bind h
                  clear h
                  obtain ⟨b49, h50, h⟩ := hz
                  obtain ⟨eh50, fh50, wh50⟩ := y_rcv_ok h50
                  cases eh50
                  have hz := y_bind h
                  clear h
                  obtain ⟨⟨s45, r46⟩, h47, h⟩ := hz
                  try dsimp only at h
                  refine Vcv rfl rfl rfl wh50 rfl rfl ⟨(Nat.le_of_ble_eq_true rfl), (Nat.le_of_ble_eq_true rfl)⟩ rfl (ih.1 _ _ (by omega) _ _ _ _ _ _ _ _ _ _ _ h47 _ rfl rfl) (fun z1 z2 zq => ?_)
                  obtain ⟨rfl, rfl⟩ := zq
                  try dsimp only [Option.toList, HAppend.hAppend, Append.append, List.append]
                  refine Van rfl lk0 rfl rfl ?_
                  have hz := y_bind h
                  clear h
                  obtain ⟨v53, h54, h⟩ := hz
                  refine Zgi (q_gi_y h54) rfl rfl rfl ?_
                  have hz := y_bind h
                  clear h
                  obtain ⟨_, h56, h⟩ := hz
                  have c55 := q_g_ok h56
                  refine Uif (not_congr (q_eq0 c55)) rfl rfl rfl rfl rfl rfl rfl (fun c57 => ?_) (fun c57 => ?_)
                  · rw [if_pos c57] at h
                    exact ih.2.2.2.2.2.2.1 _ _ hd _ _ _ _ _ _ _ _ _ _ _ h lv lk0 lk1 lk3
                  · rw [if_neg c57] at h
                    refine Van rfl lk0 rfl rfl ?_
                    refine Van rfl lk0 rfl rfl ?_
                    have hz := y_bind h
                    clear h
                    obtain ⟨v58, h59, h⟩ := hz
                    have wv58 := (y_gv_ok h59).2
                    refine Vgv h59 rfl rfl rfl ?_
                    refine Vin rfl lk3 rfl ?_
                    have hz := y_bind h
                    clear h
                    obtain ⟨v60, h61, h⟩ := hz
                    refine Zia (q_ia_y h61) rfl rfl ?_
                    have hz := y_bind h
                    clear h
                    obtain ⟨e70, h71, h⟩ := hz
                    have h71x := q_dec_ok h71
                    have hz := y_bind h
                    clear h
                    obtain ⟨b66, h67, h⟩ := hz
                    obtain ⟨eh67, fh67, wh67⟩ := y_rcv_ok h67
                    cases eh67
                    have hz := y_bind h
                    clear h
                    obtain ⟨⟨s62, r63⟩, h64, h⟩ := hz
                    try dsimp only at h
                    refine Vcv rfl rfl rfl wh67 rfl rfl ⟨(Nat.le_of_ble_eq_true rfl), (Nat.le_of_ble_eq_true rfl)⟩ rfl (ih.1 _ _ (by omega) _ _ _ _ _ _ _ _ _ _ _ h64 _ rfl rfl) (fun z1 z2 zq => ?_)
                    obtain ⟨rfl, rfl⟩ := zq
                    try dsimp only [Option.toList, HAppend.hAppend, Append.append, List.append]
                    exact ih.2.2.2.2.2.2.1 _ _ hd _ _ _ _ _ _ _ _ _ _ _ h lv lk0 lk1 lk3
              · rw [if_neg c29] at h
                refine Van rfl lk0 rfl rfl ?_
                refine Vin rfl lk1 rfl ?_
                have hz := y_bind h
                clear h
                obtain ⟨b78, h79, h⟩ := hz
                obtain ⟨eh79, fh79, wh79⟩ := y_rcv_ok h79
                cases eh79
                have hz := y_bind h
                clear h
                obtain ⟨⟨s74, r75⟩, h76, h⟩ := hz
                try dsimp only at h
                refine Vcv rfl rfl rfl wh79 rfl rfl ⟨(Nat.le_of_ble_eq_true rfl), (Nat.le_of_ble_eq_true rfl)⟩ rfl ((c_134 o n).1 _ (by omega) _ _ _ _ _ _ _ _ _ _ h76 _ rfl rfl) (fun z1 z2 zq => ?_)
                obtain ⟨rfl, rfl⟩ := zq
                try dsimp only [Option.toList, HAppend.hAppend, Append.append, List.append]
                have hz := y_bind h
                clear h
                obtain ⟨_, h83, h⟩ := hz
                have c82 := q_g_ok h83
                refine Uif (not_congr (q_eq0 c82)) rfl rfl rfl rfl rfl rfl rfl (fun c84 => ?_) (fun c84 => ?_)
                · rw [if_pos c84] at h
                  refine Vic (v := Int32.ofInt 0) rfl rfl rfl ?_
                  exact ih.2.2.2.1 _ _ hd _ _ _ _ _ _ _ _ _ _ _ h lv lk0 lk1
                · rw [if_neg c84] at h
                  refine Vic (v := Int32.ofInt 1) rfl rfl rfl ?_
                  refine Ygo rfl rfl rfl rfl rfl rfl ?_
                  exact ih.2.2.2.1 _ _ hd _ _ _ _ _ _ _ _ _ _ _ h lv lk0 lk1
            · rw [if_neg c22] at h
              refine Van rfl lk0 rfl rfl ?_
              refine Vin rfl lk1 rfl ?_
              have hz := y_bind h
              clear h
              obtain ⟨b89, h90, h⟩ := hz
              obtain ⟨eh90, fh90, wh90⟩ := y_rcv_ok h90
              cases eh90
              have hz := y_bind h
              clear h
              obtain ⟨⟨s85, r86⟩, h87, h⟩ := hz
              try dsimp only at h
              refine Vcv rfl rfl rfl wh90 rfl rfl ⟨(Nat.le_of_ble_eq_true rfl), (Nat.le_of_ble_eq_true rfl)⟩ rfl ((c_129 o n).1 _ (by omega) _ _ _ _ _ _ _ _ _ _ _ h87 _ rfl rfl) (fun z1 z2 zq => ?_)
              obtain ⟨rfl, rfl⟩ := zq
              try dsimp only [Option.toList, HAppend.hAppend, Append.append, List.append]
              refine Ygo rfl rfl rfl rfl rfl rfl ?_
              exact ih.2.2.1 _ _ hd _ _ _ _ _ _ _ _ _ _ _ h lv lk0 lk1 lk2
          · rw [if_neg c15] at h
            refine Van rfl lk0 rfl rfl ?_
            refine Vin rfl lk1 rfl ?_
            have hz := y_bind h
            clear h
            obtain ⟨b97, h98, h⟩ := hz
            obtain ⟨eh98, fh98, wh98⟩ := y_rcv_ok h98
            cases eh98
            have hz := y_bind h
            clear h
            obtain ⟨⟨s93, r94⟩, h95, h⟩ := hz
            try dsimp only at h
            refine Vcv rfl rfl rfl wh98 rfl rfl ⟨(Nat.le_of_ble_eq_true rfl), (Nat.le_of_ble_eq_true rfl)⟩ rfl ((c_122 o n).1 _ (by omega) _ _ _ _ _ _ _ _ _ _ _ _ _ h95 _ rfl rfl) (fun z1 z2 zq => ?_)
            obtain ⟨rfl, rfl⟩ := zq
            try dsimp only [Option.toList, HAppend.hAppend, Append.append, List.append]
            refine Ygo rfl rfl rfl rfl rfl rfl ?_
            exact ih.2.2.1 _ _ hd _ _ _ _ _ _ _ _ _ _ _ h lv lk0 lk1 lk2
    · intro d e hd s r0 i1 i2 i3 ti0 ta0 ti1 ti2 s9 r h lv lk0 lk1
      obtain ⟨d, rfl⟩ : ∃ x, d = x + 1 := ⟨d - 1, by omega⟩
      simp only [g_121] at h
      refine Vsin rfl rfl (fun lv lk2 hk => ?_)
      have lk0 := hk 0 _ lk0 (by decide) (by decide) (Or.inl (by decide))
      have lk1 := hk 1 _ lk1 (by decide) (by decide) (Or.inr rfl)
      refine Van rfl lk0 rfl rfl ?_
      have hz := y_bind h
      clear h
      obtain ⟨v1, h2, h⟩ := hz
      have wv1 := (y_gv_ok h2).2
      refine Vgv h2 rfl rfl rfl ?_
      refine Vin rfl lk1 rfl ?_
      refine Vin rfl lk2 rfl ?_
      have hz := y_bind h
      clear h
      obtain ⟨_, h4, h⟩ := hz
      have c3 := q_g_ok h4
      refine Uif (q_eq0 c3) rfl rfl rfl rfl rfl rfl rfl (fun c5 => ?_) (fun c5 => ?_)
      · rw [if_pos c5] at h
        refine Vic (v := Int32.ofInt 3) rfl rfl rfl ?_
        exact ih.2.2.2.2.1 _ _ hd _ _ _ _ _ _ _ _ _ _ _ h lv lk0 lk1 lk2 wv1
      · rw [if_neg c5] at h
        refine Vic (v := Int32.ofInt 1) rfl rfl rfl ?_
        refine Ygo rfl rfl rfl rfl rfl rfl ?_
        exact ih.2.2.2.2.1 _ _ hd _ _ _ _ _ _ _ _ _ _ _ h lv lk0 lk1 lk2 wv1
    · intro d e hd s r0 i1 i2 i3 ti0 ta0 ti1 ti2 s9 r h lv lk0 lk1 lk2 rs0
      obtain ⟨d, rfl⟩ : ∃ x, d = x + 1 := ⟨d - 1, by omega⟩
      simp only [g_121] at h
      have hz := y_bind h
      clear h
      obtain ⟨s1, h2, h⟩ := hz
      refine Zis (q_is_y h2) rfl rfl ?_
      refine Vin rfl lk2 rfl ?_
      have hz := y_bind h
      clear h
      obtain ⟨_, h4, h⟩ := hz
      have c3 := q_g_ok h4
      refine Uif (not_congr (q_eq0 c3)) rfl rfl rfl rfl rfl rfl rfl (fun c5 => ?_) (fun c5 => ?_)
      · rw [if_pos c5] at h
        refine Vic (v := Int32.ofInt 0) rfl rfl rfl ?_
        exact ih.2.2.2.2.2.1 _ _ hd _ _ _ _ _ _ _ _ _ _ _ h lv lk0 lk1
      · rw [if_neg c5] at h
        refine Vic (v := Int32.ofInt 1) rfl rfl rfl ?_
        refine Ygo rfl rfl rfl rfl rfl rfl ?_
        exact ih.2.2.2.2.2.1 _ _ hd _ _ _ _ _ _ _ _ _ _ _ h lv lk0 lk1
    · intro d e hd s r0 i1 i2 i3 ti0 ta0 ti1 ti2 s9 r h lv lk0 lk1
      obtain ⟨d, rfl⟩ : ∃ x, d = x + 1 := ⟨d - 1, by omega⟩
      simp only [g_121] at h
      refine Vsin rfl rfl (fun lv lk2 hk => ?_)
      have lk0 := hk 0 _ lk0 (by decide) (by decide) (Or.inl (by decide))
      have lk1 := hk 1 _ lk1 (by decide) (by decide) (Or.inr rfl)
      refine Ygo rfl rfl rfl rfl rfl rfl ?_
      exact ih.2.2.1 _ _ hd _ _ _ _ _ _ _ _ _ _ _ h lv lk0 lk1 lk2
    · intro d e hd s r0 i1 i2 i3 ti0 ta0 ti1 ti2 s9 r h lv lk0 lk1 lk3
      obtain ⟨d, rfl⟩ : ∃ x, d = x + 1 := ⟨d - 1, by omega⟩
      simp only [g_121] at h
      refine Van rfl lk0 rfl rfl ?_
      have hz := y_bind h
      clear h
      obtain ⟨v1, h2, h⟩ := hz
      refine Zgi (q_gi_y h2) rfl rfl rfl ?_
      have hz := y_bind h
      clear h
      obtain ⟨_, h4, h⟩ := hz
      have c3 := q_g_ok h4
      refine Uif (not_congr (q_eq0 c3)) rfl rfl rfl rfl rfl rfl rfl (fun c5 => ?_) (fun c5 => ?_)
      · rw [if_pos c5] at h
        exact ih.2.2.2.2.2.2.2.1 _ _ hd _ _ _ _ _ _ _ _ _ _ _ h lv lk0 lk1 lk3
      · rw [if_neg c5] at h
        refine Van rfl lk0 rfl rfl ?_
        have hz := y_bind h
        clear h
        obtain ⟨v6, h7, h⟩ := hz
        have wv6 := (y_gv_ok h7).2
        refine Vgv h7 rfl rfl rfl ?_
        refine Van rfl lk0 rfl rfl ?_
        have hz := y_bind h
        clear h
        obtain ⟨v8, h9, h⟩ := hz
        have wv8 := (y_gv_ok h9).2
        refine Vgv h9 rfl rfl rfl ?_
        refine Vin rfl lk3 rfl ?_
        have hz := y_bind h
        clear h
        obtain ⟨v10, h11, h⟩ := hz
        refine Zia (q_ia_y h11) rfl rfl ?_
        have hz := y_bind h
        clear h
        obtain ⟨v12, h13, h⟩ := hz
        refine Zia (q_ia_y h13) rfl rfl ?_
        have hz := y_bind h
        clear h
        obtain ⟨_, h15, h⟩ := hz
        have c14 := q_g_ok h15
        refine Uif (not_congr (q_eq0 c14)) rfl rfl rfl rfl rfl rfl rfl (fun c16 => ?_) (fun c16 => ?_)
        · rw [if_pos c16] at h
          exact ih.2.2.2.2.2.2.2.1 _ _ hd _ _ _ _ _ _ _ _ _ _ _ h lv lk0 lk1 lk3
        · rw [if_neg c16] at h
          refine Van rfl lk0 rfl rfl ?_
          have hz := y_bind h
          clear h
          obtain ⟨v17, h18, h⟩ := hz
          have wv17 := (y_gv_ok h18).2
          refine Vgv h18 rfl rfl rfl ?_
          refine Van rfl lk0 rfl rfl ?_
          have hz := y_bind h
          clear h
          obtain ⟨v19, h20, h⟩ := hz
          have wv19 := (y_gv_ok h20).2
          refine Vgv h20 rfl rfl rfl ?_
          refine Vin rfl lk3 rfl ?_
          have hz := y_bind h
          clear h
          obtain ⟨v21, h22, h⟩ := hz
          refine Zia (q_ia_y h22) rfl rfl ?_
          have hz := y_bind h
          clear h
          obtain ⟨v23, h24, h⟩ := hz
          refine Zia (q_ia_y h24) rfl rfl ?_
          have hz := y_bind h
          clear h
          obtain ⟨_, h26, h⟩ := hz
          have c25 := q_g_ok h26
          refine Uif (not_congr (q_eq0 c25)) rfl rfl rfl rfl rfl rfl rfl (fun c27 => ?_) (fun c27 => ?_)
          · rw [if_pos c27] at h
            exact ih.2.2.2.2.2.2.2.1 _ _ hd _ _ _ _ _ _ _ _ _ _ _ h lv lk0 lk1 lk3
          · rw [if_neg c27] at h
            refine Vic (v := Int32.ofInt 1) rfl rfl rfl ?_
            refine Ygo rfl rfl rfl rfl rfl rfl ?_
            exact ih.2.2.2.2.2.2.2.2.1 _ _ hd _ _ _ _ _ _ _ _ _ _ _ h lv lk0 lk1 lk3
    · intro d e hd s r0 i1 i2 i3 ti0 ta0 ti1 ti2 s9 r h lv lk0 lk1 lk3
      obtain ⟨d, rfl⟩ : ∃ x, d = x + 1 := ⟨d - 1, by omega⟩
      simp only [g_121] at h
      refine Vic (v := Int32.ofInt 0) rfl rfl rfl ?_
      exact ih.2.2.2.2.2.2.2.2.1 _ _ hd _ _ _ _ _ _ _ _ _ _ _ h lv lk0 lk1 lk3
    · intro d e hd s r0 i1 i2 i3 ti0 ta0 ti1 ti2 s9 r h lv lk0 lk1 lk3
      obtain ⟨d, rfl⟩ : ∃ x, d = x + 1 := ⟨d - 1, by omega⟩
      simp only [g_121] at h
      refine Vsin rfl rfl (fun lv lk2 hk => ?_)
      have lk0 := hk 0 _ lk0 (by decide) (by decide) (Or.inl (by decide))
      have lk1 := hk 1 _ lk1 (by decide) (by decide) (Or.inr rfl)
      have lk3 := hk 3 _ lk3 (by decide) (by decide) (Or.inl (by decide))
      refine Vin rfl lk2 rfl ?_
      have hz := y_bind h
      clear h
      obtain ⟨_, h2, h⟩ := hz
      have c1 := q_g_ok h2
      refine Uif (q_eq0 c1) rfl rfl rfl rfl rfl rfl rfl (fun c3 => ?_) (fun c3 => ?_)
      · rw [if_pos c3] at h
        exact ih.2.2.2.2.2.2.2.2.2.1 _ _ hd _ _ _ _ _ _ _ _ _ _ _ h lv lk0 lk1 lk2
      · rw [if_neg c3] at h
        refine Van rfl lk0 rfl rfl ?_
        have hz := y_bind h
        clear h
        obtain ⟨v4, h5, h⟩ := hz
        have wv4 := (y_gv_ok h5).2
        refine Vgv h5 rfl rfl rfl ?_
        refine Van rfl lk0 rfl rfl ?_
        have hz := y_bind h
        clear h
        obtain ⟨v6, h7, h⟩ := hz
        have wv6 := (y_gv_ok h7).2
        refine Vgv h7 rfl rfl rfl ?_
        refine Vin rfl lk3 rfl ?_
        have hz := y_bind h
        clear h
        obtain ⟨v8, h9, h⟩ := hz
        refine Zia (q_ia_y h9) rfl rfl ?_
        refine Vic (v := Int32.ofInt 0) rfl rfl rfl ?_
        have hz := y_bind h
        clear h
        obtain ⟨s10, h11, h⟩ := hz
        refine Zbs (q_bs_y h11) rfl rfl ?_
        refine Van rfl lk0 rfl rfl ?_
        have hz := y_bind h
        clear h
        obtain ⟨v12, h13, h⟩ := hz
        have wv12 := (y_gv_ok h13).2
        refine Vgv h13 rfl rfl rfl ?_
        refine Van rfl lk0 rfl rfl ?_
        have hz := y_bind h
        clear h
        obtain ⟨v14, h15, h⟩ := hz
        have wv14 := (y_gv_ok h15).2
        refine Vgv h15 rfl rfl rfl ?_
        refine Vin rfl lk3 rfl ?_
        have hz := y_bind h
        clear h
        obtain ⟨v16, h17, h⟩ := hz
        refine Zia (q_ia_y h17) rfl rfl ?_
        refine Vic (v := Int32.ofInt 0) rfl rfl rfl ?_
        have hz := y_bind h
        clear h
        obtain ⟨s18, h19, h⟩ := hz
        refine Zbs (q_bs_y h19) rfl rfl ?_
        refine Van rfl lk0 rfl rfl ?_
        refine Vdup rfl rfl rfl ?_
        have hz := y_bind h
        clear h
        obtain ⟨v20, h21, h⟩ := hz
        refine Zgi (q_gi_y h21) rfl rfl rfl ?_
        refine Vic (v := Int32.ofInt 1) rfl rfl rfl ?_
        refine Usub rfl rfl ?_
        have hz := y_bind h
        clear h
        obtain ⟨s22, h23, h⟩ := hz
        refine Zpi (q_pi_y h23) rfl rfl rfl rfl ?_
        refine Van rfl lk0 rfl rfl ?_
        have hz := y_bind h
        clear h
        obtain ⟨v24, h25, h⟩ := hz
        have wv24 := (y_gv_ok h25).2
        refine Vgv h25 rfl rfl rfl ?_
        refine Vin rfl lk3 rfl ?_
        have hz := y_bind h
        clear h
        obtain ⟨v26, h27, h⟩ := hz
        refine Zia (q_ia_y h27) rfl rfl ?_
        refine Vsi rfl rfl (fun lv lk4 hk => ?_)
        have lk0 := hk 0 _ lk0 (by decide) (by decide) (Or.inl (by decide))
        have lk1 := hk 1 _ lk1 (by decide) (by decide) (Or.inl (by decide))
        have lk2 := hk 2 _ lk2 (by decide) (by decide) (Or.inl (by decide))
        refine Van rfl lk0 rfl rfl ?_
        refine Vin rfl lk1 rfl ?_
        have hz := y_bind h
        clear h
        obtain ⟨b32, h33, h⟩ := hz
        obtain ⟨eh33, fh33, wh33⟩ := y_rcv_ok h33
        cases eh33
        have hz := y_bind h
        clear h
        obtain ⟨⟨s28, r29⟩, h30, h⟩ := hz
        try dsimp only at h
        refine Vcv rfl rfl rfl wh33 rfl rfl ⟨(Nat.le_of_ble_eq_true rfl), (Nat.le_of_ble_eq_true rfl)⟩ rfl ((c_118 o n) _ (by omega) _ _ _ _ _ h30 _ rfl rfl) (fun z1 z2 zq => ?_)
        obtain ⟨rfl, rfl⟩ := zq
        try dsimp only [Option.toList, HAppend.hAppend, Append.append, List.append]
        refine Van rfl lk0 rfl rfl ?_
        refine Vin rfl lk1 rfl ?_
        refine Vic (v := Int32.ofInt 3) rfl rfl rfl ?_
        refine Vi rfl lk4 rfl ?_
        have hz := y_bind h
        clear h
        obtain ⟨b40, h41, h⟩ := hz
        obtain ⟨eh41, fh41, wh41⟩ := y_rcv_ok h41
        cases eh41
        have hz := y_bind h
        clear h
        obtain ⟨⟨s36, r37⟩, h38, h⟩ := hz
        try dsimp only at h
        refine Vcv rfl rfl rfl wh41 rfl rfl ⟨(Nat.le_of_ble_eq_true rfl), (Nat.le_of_ble_eq_true rfl)⟩ rfl ((c_120 o n) _ (by omega) _ _ _ _ _ _ _ h38 _ rfl rfl rfl rfl) (fun z1 z2 zq => ?_)
        obtain ⟨rfl, rfl⟩ := zq
        try dsimp only [Option.toList, HAppend.hAppend, Append.append, List.append]
        exact ih.2.2.2.2.2.2.2.2.2.1 _ _ hd _ _ _ _ _ _ _ _ _ _ _ h lv lk0 lk1 lk2
    · intro d e hd s r0 i1 i2 i3 ti0 ta0 ti1 ti2 s9 r h lv lk0 lk1 lk2
      obtain ⟨d, rfl⟩ : ∃ x, d = x + 1 := ⟨d - 1, by omega⟩
      simp only [g_121] at h
      refine Ygo rfl rfl rfl rfl rfl rfl ?_
      exact ih.2.2.1 _ _ hd _ _ _ _ _ _ _ _ _ _ _ h lv lk0 lk1 lk2
    · intro d e hd s r0 i1 i2 i3 ti0 ta0 ti1 ti2 s9 r h lv _
      obtain ⟨d, rfl⟩ : ∃ x, d = x + 1 := ⟨d - 1, by omega⟩
      simp only [g_121] at h
      cases h
      exact Yret rfl rfl rfl rfl rfl rfl rfl ⟨rfl, rfl⟩

/-- StepRowsModel.doSecond -/
def g_109 (o : X_O) : Nat → Nat → Q_S → Nat → Value → Int → Option (Q_S × Unit)
  | 0, _, _, _, _, _ => none
  | n + 1, 0, s, r0, ta0, ti1 => (q_pi s 7 (.ref r0) 46 0).bind fun s1 => (q_rcv s1 7 (.ref r0)).bind fun b7 => (g_110 o n 60 0 s1 b7 (0) ((-1)) 0 0 0).bind fun q6 => (q_gi q6.1 7 (.ref r0) 47).bind fun v11 => (q_g (q_in v11)).bind fun _ => if ¬ v11 = 0 then g_109 o n 1 q6.1 r0 .null 0 else (q_rcv q6.1 7 (.ref r0)).bind fun b20 => (g_121 o n 60 0 q6.1 b20 (0) 0 0 0 .null 0 0).bind fun q19 => g_109 o n 1 q19.1 r0 .null 0
  | n + 1, 1, s, r0, ta0, ti1 => (q_gi s 7 (.ref r0) 47).bind fun v1 => (q_g (q_in v1)).bind fun _ => if v1 = 0 then (q_gv s 7 (.ref r0) 37).bind fun v6 => (q_ia o s v6 0).bind fun v8 => (q_g (q_in v8)).bind fun _ => if ¬ v8 = 0 then g_109 o n 2 s r0 ((.ref r0)) (1) else g_109 o n 2 s r0 ((.ref r0)) (0) else g_109 o n 2 s r0 ((.ref r0)) (2)
  | n + 1, 2, s, r0, ta0, ti1 => (q_pi s 7 ta0 17 ti1).bind fun s1 => (q_gi s1 7 (.ref r0) 19).bind fun v3 => (q_pi s1 7 (.ref r0) 19 (v3 + 1)).bind fun s5 => some (s5, ())
  | _ + 1, _, _, _, _, _ => none
set_option maxRecDepth 100000 in
set_option maxHeartbeats 4000000 in
theorem c_109 (o : X_O) : ∀ n, (∀ (d : Nat) (hd : 575 ≤ d) (s : Q_S) (r0 : Nat) (ta0 : Value) (ti1 : Int) (s9 : Q_S) (r : Unit), g_109 o n 0 s r0 ta0 ti1 = some (s9, r) → ∀ lv : X_L, x_lget lv 0 = some (.ref r0) → Y o d 109 0 lv [] (q_y s) (fun s1 r1 => s1 = q_y s9 ∧ r1 = none)) ∧
    (∀ (d : Nat) (hd : 575 ≤ d) (s : Q_S) (r0 : Nat) (ta0 : Value) (ti1 : Int) (s9 : Q_S) (r : Unit), g_109 o n 1 s r0 ta0 ti1 = some (s9, r) → ∀ lv : X_L, x_lget lv 0 = some (.ref r0) → Y o d 109 23 lv [] (q_y s) (fun s1 r1 => s1 = q_y s9 ∧ r1 = none)) ∧
    (∀ (d : Nat) (hd : 575 ≤ d) (s : Q_S) (r0 : Nat) (ta0 : Value) (ti1 : Int) (s9 : Q_S) (r : Unit), g_109 o n 2 s r0 ta0 ti1 = some (s9, r) → ∀ lv : X_L, x_lget lv 0 = some (.ref r0) → y_rv ta0 = true → Y o d 109 49 lv [.int (Int32.ofInt ti1), ta0] (q_y s) (fun s1 r1 => s1 = q_y s9 ∧ r1 = none)) := by
  intro n
  induction n with
  | zero => exact ⟨fun d hd s _ _ _ s9 r h => (by simp only [g_109] at h; cases h), fun d hd s _ _ _ s9 r h => (by simp only [g_109] at h; cases h), fun d hd s _ _ _ s9 r h => (by simp only [g_109] at h; cases h)⟩
  | succ n ih =>
    refine ⟨?_, ?_, ?_⟩
    · intro d hd s r0 ta0 ti1 s9 r h lv lk0
      obtain ⟨d, rfl⟩ : ∃ x, d = x + 1 := ⟨d - 1, by omega⟩
      simp only [g_109] at h
      refine Van rfl lk0 rfl rfl ?_
      refine Vic (v := Int32.ofInt 0) rfl rfl rfl ?_
      have hz := y_bind h
      clear h
      obtain ⟨s1, h2, h⟩ := hz
      refine Zpi (q_pi_y h2) rfl rfl rfl rfl ?_
      refine Van rfl lk0 rfl rfl ?_
      refine Vic (v := Int32.ofInt 0) rfl rfl rfl ?_
      refine Vic (v := Int32.ofInt (-1)) rfl rfl rfl ?_
      have hz := y_bind h
      clear h
      obtain ⟨b7, h8, h⟩ := hz
      obtain ⟨eh8, fh8, wh8⟩ := y_rcv_ok h8
      cases eh8
      have hz := y_bind h
      clear h
      obtain ⟨⟨s3, r4⟩, h5, h⟩ := hz
      try dsimp only at h
      refine Vcv rfl rfl rfl wh8 rfl rfl ⟨(Nat.le_of_ble_eq_true rfl), (Nat.le_of_ble_eq_true rfl)⟩ rfl ((c_110 o n).1 _ _ (by omega) _ _ _ _ _ _ _ _ _ h5 _ rfl rfl rfl) (fun z1 z2 zq => ?_)
      obtain ⟨rfl, rfl⟩ := zq
      try dsimp only [Option.toList, HAppend.hAppend, Append.append, List.append]
      refine Van rfl lk0 rfl rfl ?_
      have hz := y_bind h
      clear h
      obtain ⟨v11, h12, h⟩ := hz
      refine Zgi (q_gi_y h12) rfl rfl rfl ?_
      have hz := y_bind h
      clear h
      obtain ⟨_, h14, h⟩ := hz
      have c13 := q_g_ok h14
      refine Uif (not_congr (q_eq0 c13)) rfl rfl rfl rfl rfl rfl rfl (fun c15 => ?_) (fun c15 => ?_)
      · rw [if_pos c15] at h
        exact ih.2.1 _ hd _ _ _ _ _ _ h lv lk0
      · rw [if_neg c15] at h
        refine Van rfl lk0 rfl rfl ?_
        refine Vic (v := Int32.ofInt 0) rfl rfl rfl ?_
        have hz := y_bind h
        clear h
        obtain ⟨b20, h21, h⟩ := hz
        obtain ⟨eh21, fh21, wh21⟩ := y_rcv_ok h21
        cases eh21
        have hz := y_bind h
        clear h
        obtain ⟨⟨s16, r17⟩, h18, h⟩ := hz
        try dsimp only at h
        refine Vcv rfl rfl rfl wh21 rfl rfl ⟨(Nat.le_of_ble_eq_true rfl), (Nat.le_of_ble_eq_true rfl)⟩ rfl ((c_121 o n).1 _ _ (by omega) _ _ _ _ _ _ _ _ _ _ _ h18 _ rfl rfl) (fun z1 z2 zq => ?_)
        obtain ⟨rfl, rfl⟩ := zq
        try dsimp only [Option.toList, HAppend.hAppend, Append.append, List.append]
        exact ih.2.1 _ hd _ _ _ _ _ _ h lv lk0
    · intro d hd s r0 ta0 ti1 s9 r h lv lk0
      obtain ⟨d, rfl⟩ : ∃ x, d = x + 1 := ⟨d - 1, by omega⟩
      simp only [g_109] at h
      refine Van rfl lk0 rfl rfl ?_
      refine Van rfl lk0 rfl rfl ?_
      have hz := y_bind h
      clear h
      obtain ⟨v1, h2, h⟩ := hz
      refine Zgi (q_gi_y h2) rfl rfl rfl ?_
      have hz := y_bind h
      clear h
      obtain ⟨_, h4, h⟩ := hz
      have c3 := q_g_ok h4
      refine Uif (q_eq0 c3) rfl rfl rfl rfl rfl rfl rfl (fun c5 => ?_) (fun c5 => ?_)
      · rw [if_pos c5] at h
        refine Van rfl lk0 rfl rfl ?_
        have hz := y_bind h
        clear h
        obtain ⟨v6, h7, h⟩ := hz
        have wv6 := (y_gv_ok h7).2
        refine Vgv h7 rfl rfl rfl ?_
        refine Vic (v := Int32.ofInt 0) rfl rfl rfl ?_
        have hz := y_bind h
        clear h
        obtain ⟨v8, h9, h⟩ := hz
        refine Zia (q_ia_y h9) rfl rfl ?_
        have hz := y_bind h
        clear h
        obtain ⟨_, h11, h⟩ := hz
        have c10 := q_g_ok h11
        refine Uif (not_congr (q_eq0 c10)) rfl rfl rfl rfl rfl rfl rfl (fun c12 => ?_) (fun c12 => ?_)
        · rw [if_pos c12] at h
          refine Vic (v := Int32.ofInt 1) rfl rfl rfl ?_
          exact ih.2.2 _ hd _ _ _ _ _ _ h lv lk0 rfl
        · rw [if_neg c12] at h
          refine Vic (v := Int32.ofInt 0) rfl rfl rfl ?_
          refine Ygo rfl rfl rfl rfl rfl rfl ?_
          exact ih.2.2 _ hd _ _ _ _ _ _ h lv lk0 rfl
      · rw [if_neg c5] at h
        refine Vic (v := Int32.ofInt 2) rfl rfl rfl ?_
        refine Ygo rfl rfl rfl rfl rfl rfl ?_
        exact ih.2.2 _ hd _ _ _ _ _ _ h lv lk0 rfl
    · intro d hd s r0 ta0 ti1 s9 r h lv lk0 rs0
      obtain ⟨d, rfl⟩ : ∃ x, d = x + 1 := ⟨d - 1, by omega⟩
      simp only [g_109] at h
      have hz := y_bind h
      clear h
      obtain ⟨s1, h2, h⟩ := hz
      refine Zpi (q_pi_y h2) rfl rfl rfl rfl ?_
      refine Van rfl lk0 rfl rfl ?_
      refine Vdup rfl rfl rfl ?_
      have hz := y_bind h
      clear h
      obtain ⟨v3, h4, h⟩ := hz
      refine Zgi (q_gi_y h4) rfl rfl rfl ?_
      refine Vic (v := Int32.ofInt 1) rfl rfl rfl ?_
      refine Uadd rfl rfl ?_
      have hz := y_bind h
      clear h
      obtain ⟨s5, h6, h⟩ := hz
      refine Zpi (q_pi_y h6) rfl rfl rfl rfl ?_
      cases h
      exact Yret rfl rfl rfl rfl rfl rfl rfl ⟨rfl, rfl⟩

/-- StepRowsModel.tick -/
def g_108 (o : X_O) : Nat → Nat → Q_S → Nat → Int → Int → Option (Q_S × Int)
  | 0, _, _, _, _, _ => none
  | n + 1, 0, s, r0, i1, i2 => (q_pi s 7 (.ref r0) 0 0).bind fun s1 => (q_g (q_in i1)).bind fun _ => if i1 < 0 then g_108 o n 1 s1 0 0 0 else (q_g (q_in i1)).bind fun _ => if i1 ≤ 10000 then g_108 o n 2 s1 r0 (i1) (0) else g_108 o n 1 s1 0 0 0
  | n + 1, 1, s, r0, i1, i2 => some (s, (-1))
  | n + 1, 2, s, r0, i1, i2 => (q_g (q_in i2 ∧ q_in i1)).bind fun _ => if i1 ≤ i2 then g_108 o n 3 s r0 0 0 else (q_gi s 7 (.ref r0) 17).bind fun v4 => (q_g (q_in v4)).bind fun _ => if ¬ v4 = 1 then g_108 o n 3 s r0 0 0 else (q_rcv s 7 (.ref r0)).bind fun b13 => (g_109 o n 0 s b13 .null 0).bind fun q12 => g_108 o n 2 q12.1 r0 (i1) ((i2 + 1))
  | n + 1, 3, s, r0, i1, i2 => (q_gi s 7 (.ref r0) 17).bind fun v1 => some (s, v1)
  | _ + 1, _, _, _, _, _ => none
set_option maxRecDepth 100000 in
set_option maxHeartbeats 4000000 in
theorem c_108 (o : X_O) : ∀ n, (∀ (d : Nat) (hd : 576 ≤ d) (s : Q_S) (r0 : Nat) (i1 : Int) (i2 : Int) (s9 : Q_S) (r : Int), g_108 o n 0 s r0 i1 i2 = some (s9, r) → ∀ lv : X_L, x_lget lv 0 = some (.ref r0) → x_lget lv 1 = some (.int (Int32.ofInt i1)) → Y o d 108 0 lv [] (q_y s) (fun s1 r1 => s1 = q_y s9 ∧ r1 = some (.int (Int32.ofInt r)))) ∧
    (∀ (d : Nat) (hd : 576 ≤ d) (s : Q_S) (r0 : Nat) (i1 : Int) (i2 : Int) (s9 : Q_S) (r : Int), g_108 o n 1 s r0 i1 i2 = some (s9, r) → ∀ lv : X_L, True → Y o d 108 16 lv [] (q_y s) (fun s1 r1 => s1 = q_y s9 ∧ r1 = some (.int (Int32.ofInt r)))) ∧
    (∀ (d : Nat) (hd : 576 ≤ d) (s : Q_S) (r0 : Nat) (i1 : Int) (i2 : Int) (s9 : Q_S) (r : Int), g_108 o n 2 s r0 i1 i2 = some (s9, r) → ∀ lv : X_L, x_lget lv 0 = some (.ref r0) → x_lget lv 1 = some (.int (Int32.ofInt i1)) → x_lget lv 2 = some (.int (Int32.ofInt i2)) → Y o d 108 20 lv [] (q_y s) (fun s1 r1 => s1 = q_y s9 ∧ r1 = some (.int (Int32.ofInt r)))) ∧
    (∀ (d : Nat) (hd : 576 ≤ d) (s : Q_S) (r0 : Nat) (i1 : Int) (i2 : Int) (s9 : Q_S) (r : Int), g_108 o n 3 s r0 i1 i2 = some (s9, r) → ∀ lv : X_L, x_lget lv 0 = some (.ref r0) → Y o d 108 43 lv [] (q_y s) (fun s1 r1 => s1 = q_y s9 ∧ r1 = some (.int (Int32.ofInt r)))) := by
  intro n
  induction n with
  | zero => exact ⟨fun d hd s _ _ _ s9 r h => (by simp only [g_108] at h; cases h), fun d hd s _ _ _ s9 r h => (by simp only [g_108] at h; cases h), fun d hd s _ _ _ s9 r h => (by simp only [g_108] at h; cases h), fun d hd s _ _ _ s9 r h => (by simp only [g_108] at h; cases h)⟩
  | succ n ih =>
    refine ⟨?_, ?_, ?_, ?_⟩
    · intro d hd s r0 i1 i2 s9 r h lv lk0 lk1
      obtain ⟨d, rfl⟩ : ∃ x, d = x + 1 := ⟨d - 1, by omega⟩
      simp only [g_108] at h
      refine Van rfl lk0 rfl rfl ?_
      refine Vic (v := Int32.ofInt 0) rfl rfl rfl ?_
      have hz := y_bind h
      clear h
      obtain ⟨s1, h2, h⟩ := hz
      refine Zpi (q_pi_y h2) rfl rfl rfl rfl ?_
      refine Vin rfl lk1 rfl ?_
      have hz := y_bind h
      clear h
      obtain ⟨_, h4, h⟩ := hz
      have c3 := q_g_ok h4
      refine Uif (q_lt0 c3) rfl rfl rfl rfl rfl rfl rfl (fun c5 => ?_) (fun c5 => ?_)
      · rw [if_pos c5] at h
        exact ih.2.1 _ hd _ _ _ _ _ _ h lv trivial
      · rw [if_neg c5] at h
        refine Vin rfl lk1 rfl ?_
        refine Vsp (v := Int32.ofInt 10000) rfl (by decide) rfl ?_
        have hz := y_bind h
        clear h
        obtain ⟨_, h7, h⟩ := hz
        have c6 := q_g_ok h7
        refine Uif (q_le c6 (by decide)) rfl rfl rfl rfl rfl rfl rfl (fun c8 => ?_) (fun c8 => ?_)
        · rw [if_pos c8] at h
          refine Vic (v := Int32.ofInt 0) rfl rfl rfl ?_
          refine Vsin rfl rfl (fun lv lk2 hk => ?_)
          have lk0 := hk 0 _ lk0 (by decide) (by decide) (Or.inl (by decide))
          have lk1 := hk 1 _ lk1 (by decide) (by decide) (Or.inr rfl)
          exact ih.2.2.1 _ hd _ _ _ _ _ _ h lv lk0 lk1 lk2
        · rw [if_neg c8] at h
          exact ih.2.1 _ hd _ _ _ _ _ _ h lv trivial
    · intro d hd s r0 i1 i2 s9 r h lv _
      obtain ⟨d, rfl⟩ : ∃ x, d = x + 1 := ⟨d - 1, by omega⟩
      simp only [g_108] at h
      refine Vic (v := Int32.ofInt (-1)) rfl rfl rfl ?_
      cases h
      exact Yret rfl rfl rfl rfl rfl rfl rfl ⟨rfl, rfl⟩
    · intro d hd s r0 i1 i2 s9 r h lv lk0 lk1 lk2
      obtain ⟨d, rfl⟩ : ∃ x, d = x + 1 := ⟨d - 1, by omega⟩
      simp only [g_108] at h
      refine Vin rfl lk2 rfl ?_
      refine Vin rfl lk1 rfl ?_
      have hz := y_bind h
      clear h
      obtain ⟨_, h2, h⟩ := hz
      have c1 := q_g_ok h2
      refine Uif (q_le c1.2 c1.1) rfl rfl rfl rfl rfl rfl rfl (fun c3 => ?_) (fun c3 => ?_)
      · rw [if_pos c3] at h
        exact ih.2.2.2 _ hd _ _ _ _ _ _ h lv lk0
      · rw [if_neg c3] at h
        refine Van rfl lk0 rfl rfl ?_
        have hz := y_bind h
        clear h
        obtain ⟨v4, h5, h⟩ := hz
        refine Zgi (q_gi_y h5) rfl rfl rfl ?_
        refine Vic (v := Int32.ofInt 1) rfl rfl rfl ?_
        have hz := y_bind h
        clear h
        obtain ⟨_, h7, h⟩ := hz
        have c6 := q_g_ok h7
        refine Uif (not_congr (q_eq c6 (by decide))) rfl rfl rfl rfl rfl rfl rfl (fun c8 => ?_) (fun c8 => ?_)
        · rw [if_pos c8] at h
          exact ih.2.2.2 _ hd _ _ _ _ _ _ h lv lk0
        · rw [if_neg c8] at h
          refine Van rfl lk0 rfl rfl ?_
          have hz := y_bind h
          clear h
          obtain ⟨b13, h14, h⟩ := hz
          obtain ⟨eh14, fh14, wh14⟩ := y_rcv_ok h14
          cases eh14
          have hz := y_bind h
          clear h
          obtain ⟨⟨s9, r10⟩, h11, h⟩ := hz
          try dsimp only at h
          refine Vcv rfl rfl rfl wh14 rfl rfl ⟨(Nat.le_of_ble_eq_true rfl), (Nat.le_of_ble_eq_true rfl)⟩ rfl ((c_109 o n).1 _ (by omega) _ _ _ _ _ _ h11 _ rfl) (fun z1 z2 zq => ?_)
          obtain ⟨rfl, rfl⟩ := zq
          try dsimp only [Option.toList, HAppend.hAppend, Append.append, List.append]
          refine Uinc rfl lk2 rfl (fun lv lk2 hk => ?_)
          have lk0 := hk 0 _ lk0 (by decide) (by decide) (Or.inl (by decide))
          have lk1 := hk 1 _ lk1 (by decide) (by decide) (Or.inr rfl)
          refine Ygo rfl rfl rfl rfl rfl rfl ?_
          exact ih.2.2.1 _ hd _ _ _ _ _ _ h lv lk0 lk1 lk2
    · intro d hd s r0 i1 i2 s9 r h lv lk0
      obtain ⟨d, rfl⟩ : ∃ x, d = x + 1 := ⟨d - 1, by omega⟩
      simp only [g_108] at h
      refine Van rfl lk0 rfl rfl ?_
      have hz := y_bind h
      clear h
      obtain ⟨v1, h2, h⟩ := hz
      refine Zgi (q_gi_y h2) rfl rfl rfl ?_
      cases h
      exact Yret rfl rfl rfl rfl rfl rfl rfl ⟨rfl, rfl⟩

/-- StepRowsModel.output -/
def g_135 (o : X_O) : Nat → Nat → Q_S → Nat → Int → Int64 → Option (Q_S × Int64)
  | 0, _, _, _, _, _ => none
  | n + 1, 0, s, r0, i1, tl0 => (q_pi s 7 (.ref r0) 0 0).bind fun s1 => (q_gi s1 7 (.ref r0) 17).bind fun v3 => (q_g (q_in v3)).bind fun _ => if v3 = 3 then g_135 o n 1 s1 0 0 0 else (q_g (q_in i1)).bind fun _ => if i1 < 0 then g_135 o n 1 s1 0 0 0 else (q_g (q_in i1)).bind fun _ => if i1 ≤ 7 then (q_gv s1 7 (.ref r0) 26).bind fun v14 => (q_la s1 v14 i1).bind fun v16 => g_135 o n 2 s1 0 0 (v16) else g_135 o n 1 s1 0 0 0
  | n + 1, 1, s, r0, i1, tl0 => g_135 o n 2 s 0 0 (0)
  | n + 1, 2, s, r0, i1, tl0 => some (s, tl0)
  | _ + 1, _, _, _, _, _ => none
set_option maxRecDepth 100000 in
set_option maxHeartbeats 4000000 in
theorem c_135 (o : X_O) : ∀ n, (∀ (d : Nat) (hd : 0 ≤ d) (s : Q_S) (r0 : Nat) (i1 : Int) (tl0 : Int64) (s9 : Q_S) (r : Int64), g_135 o n 0 s r0 i1 tl0 = some (s9, r) → ∀ lv : X_L, x_lget lv 0 = some (.ref r0) → x_lget lv 1 = some (.int (Int32.ofInt i1)) → Y o d 135 0 lv [] (q_y s) (fun s1 r1 => s1 = q_y s9 ∧ r1 = some (.long r))) ∧
    (∀ (d : Nat) (hd : 0 ≤ d) (s : Q_S) (r0 : Nat) (i1 : Int) (tl0 : Int64) (s9 : Q_S) (r : Int64), g_135 o n 1 s r0 i1 tl0 = some (s9, r) → ∀ lv : X_L, True → Y o d 135 23 lv [] (q_y s) (fun s1 r1 => s1 = q_y s9 ∧ r1 = some (.long r))) ∧
    (∀ (d : Nat) (hd : 0 ≤ d) (s : Q_S) (r0 : Nat) (i1 : Int) (tl0 : Int64) (s9 : Q_S) (r : Int64), g_135 o n 2 s r0 i1 tl0 = some (s9, r) → ∀ lv : X_L, True → Y o d 135 33 lv [.long tl0] (q_y s) (fun s1 r1 => s1 = q_y s9 ∧ r1 = some (.long r))) := by
  intro n
  induction n with
  | zero => exact ⟨fun d hd s _ _ _ s9 r h => (by simp only [g_135] at h; cases h), fun d hd s _ _ _ s9 r h => (by simp only [g_135] at h; cases h), fun d hd s _ _ _ s9 r h => (by simp only [g_135] at h; cases h)⟩
  | succ n ih =>
    refine ⟨?_, ?_, ?_⟩
    · intro d hd s r0 i1 tl0 s9 r h lv lk0 lk1
      simp only [g_135] at h
      refine Van rfl lk0 rfl rfl ?_
      refine Vic (v := Int32.ofInt 0) rfl rfl rfl ?_
      have hz := y_bind h
      clear h
      obtain ⟨s1, h2, h⟩ := hz
      refine Zpi (q_pi_y h2) rfl rfl rfl rfl ?_
      refine Van rfl lk0 rfl rfl ?_
      have hz := y_bind h
      clear h
      obtain ⟨v3, h4, h⟩ := hz
      refine Zgi (q_gi_y h4) rfl rfl rfl ?_
      refine Vic (v := Int32.ofInt 3) rfl rfl rfl ?_
      have hz := y_bind h
      clear h
      obtain ⟨_, h6, h⟩ := hz
      have c5 := q_g_ok h6
      refine Uif (q_eq c5 (by decide)) rfl rfl rfl rfl rfl rfl rfl (fun c7 => ?_) (fun c7 => ?_)
      · rw [if_pos c7] at h
        exact ih.2.1 _ hd _ _ _ _ _ _ h lv trivial
      · rw [if_neg c7] at h
        refine Vin rfl lk1 rfl ?_
        have hz := y_bind h
        clear h
        obtain ⟨_, h9, h⟩ := hz
        have c8 := q_g_ok h9
        refine Uif (q_lt0 c8) rfl rfl rfl rfl rfl rfl rfl (fun c10 => ?_) (fun c10 => ?_)
        · rw [if_pos c10] at h
          exact ih.2.1 _ hd _ _ _ _ _ _ h lv trivial
        · rw [if_neg c10] at h
          refine Vin rfl lk1 rfl ?_
          refine Vbp (v := Int32.ofInt 7) rfl (by decide) rfl ?_
          have hz := y_bind h
          clear h
          obtain ⟨_, h12, h⟩ := hz
          have c11 := q_g_ok h12
          refine Uif (q_le c11 (by decide)) rfl rfl rfl rfl rfl rfl rfl (fun c13 => ?_) (fun c13 => ?_)
          · rw [if_pos c13] at h
            refine Van rfl lk0 rfl rfl ?_
            have hz := y_bind h
            clear h
            obtain ⟨v14, h15, h⟩ := hz
            have wv14 := (y_gv_ok h15).2
            refine Vgv h15 rfl rfl rfl ?_
            refine Vin rfl lk1 rfl ?_
            have hz := y_bind h
            clear h
            obtain ⟨v16, h17, h⟩ := hz
            refine Zla (q_la_y h17) rfl rfl ?_
            exact ih.2.2 _ hd _ _ _ _ _ _ h lv trivial
          · rw [if_neg c13] at h
            exact ih.2.1 _ hd _ _ _ _ _ _ h lv trivial
    · intro d hd s r0 i1 tl0 s9 r h lv _
      simp only [g_135] at h
      refine Vlc (v := 0) rfl (by decide) rfl ?_
      refine Ygo rfl rfl rfl rfl rfl rfl ?_
      exact ih.2.2 _ hd _ _ _ _ _ _ h lv trivial
    · intro d hd s r0 i1 tl0 s9 r h lv _
      simp only [g_135] at h
      cases h
      exact Yret rfl rfl rfl rfl rfl rfl rfl ⟨rfl, rfl⟩

/-- StepRowsModel.value -/
def g_136 (o : X_O) : Nat → Nat → Q_S → Nat → Int → Int64 → Option (Q_S × Int64)
  | 0, _, _, _, _, _ => none
  | n + 1, 0, s, r0, i1, tl0 => (q_pi s 7 (.ref r0) 0 0).bind fun s1 => (q_gi s1 7 (.ref r0) 17).bind fun v3 => (q_g (q_in v3)).bind fun _ => if v3 = 3 then g_136 o n 1 s1 0 0 0 else (q_g (q_in i1)).bind fun _ => if i1 < 0 then g_136 o n 1 s1 0 0 0 else (q_g (q_in i1)).bind fun _ => if i1 ≤ 15 then (q_gv s1 7 (.ref r0) 27).bind fun v14 => (q_la s1 v14 i1).bind fun v16 => g_136 o n 2 s1 0 0 (v16) else g_136 o n 1 s1 0 0 0
  | n + 1, 1, s, r0, i1, tl0 => g_136 o n 2 s 0 0 (0)
  | n + 1, 2, s, r0, i1, tl0 => some (s, tl0)
  | _ + 1, _, _, _, _, _ => none
set_option maxRecDepth 100000 in
set_option maxHeartbeats 4000000 in
theorem c_136 (o : X_O) : ∀ n, (∀ (d : Nat) (hd : 0 ≤ d) (s : Q_S) (r0 : Nat) (i1 : Int) (tl0 : Int64) (s9 : Q_S) (r : Int64), g_136 o n 0 s r0 i1 tl0 = some (s9, r) → ∀ lv : X_L, x_lget lv 0 = some (.ref r0) → x_lget lv 1 = some (.int (Int32.ofInt i1)) → Y o d 136 0 lv [] (q_y s) (fun s1 r1 => s1 = q_y s9 ∧ r1 = some (.long r))) ∧
    (∀ (d : Nat) (hd : 0 ≤ d) (s : Q_S) (r0 : Nat) (i1 : Int) (tl0 : Int64) (s9 : Q_S) (r : Int64), g_136 o n 1 s r0 i1 tl0 = some (s9, r) → ∀ lv : X_L, True → Y o d 136 23 lv [] (q_y s) (fun s1 r1 => s1 = q_y s9 ∧ r1 = some (.long r))) ∧
    (∀ (d : Nat) (hd : 0 ≤ d) (s : Q_S) (r0 : Nat) (i1 : Int) (tl0 : Int64) (s9 : Q_S) (r : Int64), g_136 o n 2 s r0 i1 tl0 = some (s9, r) → ∀ lv : X_L, True → Y o d 136 33 lv [.long tl0] (q_y s) (fun s1 r1 => s1 = q_y s9 ∧ r1 = some (.long r))) := by
  intro n
  induction n with
  | zero => exact ⟨fun d hd s _ _ _ s9 r h => (by simp only [g_136] at h; cases h), fun d hd s _ _ _ s9 r h => (by simp only [g_136] at h; cases h), fun d hd s _ _ _ s9 r h => (by simp only [g_136] at h; cases h)⟩
  | succ n ih =>
    refine ⟨?_, ?_, ?_⟩
    · intro d hd s r0 i1 tl0 s9 r h lv lk0 lk1
      simp only [g_136] at h
      refine Van rfl lk0 rfl rfl ?_
      refine Vic (v := Int32.ofInt 0) rfl rfl rfl ?_
      have hz := y_bind h
      clear h
      obtain ⟨s1, h2, h⟩ := hz
      refine Zpi (q_pi_y h2) rfl rfl rfl rfl ?_
      refine Van rfl lk0 rfl rfl ?_
      have hz := y_bind h
      clear h
      obtain ⟨v3, h4, h⟩ := hz
      refine Zgi (q_gi_y h4) rfl rfl rfl ?_
      refine Vic (v := Int32.ofInt 3) rfl rfl rfl ?_
      have hz := y_bind h
      clear h
      obtain ⟨_, h6, h⟩ := hz
      have c5 := q_g_ok h6
      refine Uif (q_eq c5 (by decide)) rfl rfl rfl rfl rfl rfl rfl (fun c7 => ?_) (fun c7 => ?_)
      · rw [if_pos c7] at h
        exact ih.2.1 _ hd _ _ _ _ _ _ h lv trivial
      · rw [if_neg c7] at h
        refine Vin rfl lk1 rfl ?_
        have hz := y_bind h
        clear h
        obtain ⟨_, h9, h⟩ := hz
        have c8 := q_g_ok h9
        refine Uif (q_lt0 c8) rfl rfl rfl rfl rfl rfl rfl (fun c10 => ?_) (fun c10 => ?_)
        · rw [if_pos c10] at h
          exact ih.2.1 _ hd _ _ _ _ _ _ h lv trivial
        · rw [if_neg c10] at h
          refine Vin rfl lk1 rfl ?_
          refine Vbp (v := Int32.ofInt 15) rfl (by decide) rfl ?_
          have hz := y_bind h
          clear h
          obtain ⟨_, h12, h⟩ := hz
          have c11 := q_g_ok h12
          refine Uif (q_le c11 (by decide)) rfl rfl rfl rfl rfl rfl rfl (fun c13 => ?_) (fun c13 => ?_)
          · rw [if_pos c13] at h
            refine Van rfl lk0 rfl rfl ?_
            have hz := y_bind h
            clear h
            obtain ⟨v14, h15, h⟩ := hz
            have wv14 := (y_gv_ok h15).2
            refine Vgv h15 rfl rfl rfl ?_
            refine Vin rfl lk1 rfl ?_
            have hz := y_bind h
            clear h
            obtain ⟨v16, h17, h⟩ := hz
            refine Zla (q_la_y h17) rfl rfl ?_
            exact ih.2.2 _ hd _ _ _ _ _ _ h lv trivial
          · rw [if_neg c13] at h
            exact ih.2.1 _ hd _ _ _ _ _ _ h lv trivial
    · intro d hd s r0 i1 tl0 s9 r h lv _
      simp only [g_136] at h
      refine Vlc (v := 0) rfl (by decide) rfl ?_
      refine Ygo rfl rfl rfl rfl rfl rfl ?_
      exact ih.2.2 _ hd _ _ _ _ _ _ h lv trivial
    · intro d hd s r0 i1 tl0 s9 r h lv _
      simp only [g_136] at h
      cases h
      exact Yret rfl rfl rfl rfl rfl rfl rfl ⟨rfl, rfl⟩

/-- StepRowsModel.standing -/
def g_138 (o : X_O) : Nat → Nat → Nat → Q_S → Nat → Int → Int → Option (Q_S × Int)
  | 0, _, _, _, _, _, _ => none
  | n + 1, e, 0, s, r0, i1, ti0 => (q_gv s 7 (.ref r0) 37).bind fun v1 => (q_ia o s v1 i1).bind fun v3 => (q_g (q_in v3)).bind fun _ => if ¬ v3 = 4 then (q_gv s 7 (.ref r0) 37).bind fun v8 => (q_ia o s v8 i1).bind fun v10 => (q_g (q_in v10)).bind fun _ => if v10 = 1 then (q_gi s 7 (.ref r0) 49).bind fun v15 => (q_pi s 7 (.ref r0) 49 (v15 - 1)).bind fun s17 => (q_gi s17 7 (.ref r0) 49).bind fun v19 => (q_g (q_in v19)).bind fun _ => if 0 ≤ v19 then g_138 o n e 2 s17 0 0 ((-1)) else (q_gv s17 7 (.ref r0) 38).bind fun v24 => (q_ia o s17 v24 i1).bind fun v26 => g_138 o n e 2 s17 0 0 (v26) else some (s, (-1)) else (q_gv s 7 (.ref r0) 39).bind fun v28 => (q_ia o s v28 i1).bind fun v30 => (q_gv s 7 (.ref r0) 33).bind fun v32 => (q_ia o s v32 v30).bind fun v34 => (q_dec e).bind fun e61 => (q_rcv s 7 (.ref r0)).bind fun b40 => (g_138 o n e61 0 s b40 (v34) 0).bind fun q39 => (q_g (q_in q39.2)).bind fun _ => if q39.2 = (-1) then (q_gv q39.1 7 (.ref r0) 34).bind fun v47 => (q_ia o q39.1 v47 v30).bind fun v49 => (q_dec e).bind fun e59 => (q_rcv q39.1 7 (.ref r0)).bind fun b55 => (g_138 o n e59 0 q39.1 b55 (v49) 0).bind fun q54 => g_138 o n e 1 q54.1 0 0 (q54.2) else g_138 o n e 1 q39.1 0 0 (q39.2)
  | n + 1, e, 1, s, r0, i1, ti0 => some (s, ti0)
  | n + 1, e, 2, s, r0, i1, ti0 => some (s, ti0)
  | _ + 1, _, _, _, _, _, _ => none
set_option maxRecDepth 100000 in
set_option maxHeartbeats 4000000 in
theorem c_138 (o : X_O) : ∀ n, (∀ (d e : Nat) (hd : 1 + e ≤ d) (s : Q_S) (r0 : Nat) (i1 : Int) (ti0 : Int) (s9 : Q_S) (r : Int), g_138 o n e 0 s r0 i1 ti0 = some (s9, r) → ∀ lv : X_L, x_lget lv 0 = some (.ref r0) → x_lget lv 1 = some (.int (Int32.ofInt i1)) → Y o d 138 0 lv [] (q_y s) (fun s1 r1 => s1 = q_y s9 ∧ r1 = some (.int (Int32.ofInt r)))) ∧
    (∀ (d e : Nat) (hd : 1 + e ≤ d) (s : Q_S) (r0 : Nat) (i1 : Int) (ti0 : Int) (s9 : Q_S) (r : Int), g_138 o n e 1 s r0 i1 ti0 = some (s9, r) → ∀ lv : X_L, True → Y o d 138 47 lv [.int (Int32.ofInt ti0)] (q_y s) (fun s1 r1 => s1 = q_y s9 ∧ r1 = some (.int (Int32.ofInt r)))) ∧
    (∀ (d e : Nat) (hd : 1 + e ≤ d) (s : Q_S) (r0 : Nat) (i1 : Int) (ti0 : Int) (s9 : Q_S) (r : Int), g_138 o n e 2 s r0 i1 ti0 = some (s9, r) → ∀ lv : X_L, True → Y o d 138 87 lv [.int (Int32.ofInt ti0)] (q_y s) (fun s1 r1 => s1 = q_y s9 ∧ r1 = some (.int (Int32.ofInt r)))) := by
  intro n
  induction n with
  | zero => exact ⟨fun d e hd s _ _ _ s9 r h => (by simp only [g_138] at h; cases h), fun d e hd s _ _ _ s9 r h => (by simp only [g_138] at h; cases h), fun d e hd s _ _ _ s9 r h => (by simp only [g_138] at h; cases h)⟩
  | succ n ih =>
    refine ⟨?_, ?_, ?_⟩
    · intro d e hd s r0 i1 ti0 s9 r h lv lk0 lk1
      obtain ⟨d, rfl⟩ : ∃ x, d = x + 1 := ⟨d - 1, by omega⟩
      simp only [g_138] at h
      refine Van rfl lk0 rfl rfl ?_
      have hz := y_bind h
      clear h
      obtain ⟨v1, h2, h⟩ := hz
      have wv1 := (y_gv_ok h2).2
      refine Vgv h2 rfl rfl rfl ?_
      refine Vin rfl lk1 rfl ?_
      have hz := y_bind h
      clear h
      obtain ⟨v3, h4, h⟩ := hz
      refine Zia (q_ia_y h4) rfl rfl ?_
      refine Vic (v := Int32.ofInt 4) rfl rfl rfl ?_
      have hz := y_bind h
      clear h
      obtain ⟨_, h6, h⟩ := hz
      have c5 := q_g_ok h6
      refine Uif (not_congr (q_eq c5 (by decide))) rfl rfl rfl rfl rfl rfl rfl (fun c7 => ?_) (fun c7 => ?_)
      · rw [if_pos c7] at h
        refine Van rfl lk0 rfl rfl ?_
        have hz := y_bind h
        clear h
        obtain ⟨v8, h9, h⟩ := hz
        have wv8 := (y_gv_ok h9).2
        refine Vgv h9 rfl rfl rfl ?_
        refine Vin rfl lk1 rfl ?_
        have hz := y_bind h
        clear h
        obtain ⟨v10, h11, h⟩ := hz
        refine Zia (q_ia_y h11) rfl rfl ?_
        refine Vic (v := Int32.ofInt 1) rfl rfl rfl ?_
        have hz := y_bind h
        clear h
        obtain ⟨_, h13, h⟩ := hz
        have c12 := q_g_ok h13
        refine Uif (q_eq c12 (by decide)) rfl rfl rfl rfl rfl rfl rfl (fun c14 => ?_) (fun c14 => ?_)
        · rw [if_pos c14] at h
          refine Van rfl lk0 rfl rfl ?_
          refine Vdup rfl rfl rfl ?_
          have hz := y_bind h
          clear h
          obtain ⟨v15, h16, h⟩ := hz
          refine Zgi (q_gi_y h16) rfl rfl rfl ?_
          refine Vic (v := Int32.ofInt 1) rfl rfl rfl ?_
          refine Usub rfl rfl ?_
          have hz := y_bind h
          clear h
          obtain ⟨s17, h18, h⟩ := hz
          refine Zpi (q_pi_y h18) rfl rfl rfl rfl ?_
          refine Van rfl lk0 rfl rfl ?_
          have hz := y_bind h
          clear h
          obtain ⟨v19, h20, h⟩ := hz
          refine Zgi (q_gi_y h20) rfl rfl rfl ?_
          have hz := y_bind h
          clear h
          obtain ⟨_, h22, h⟩ := hz
          have c21 := q_g_ok h22
          refine Uif (q_ge0 c21) rfl rfl rfl rfl rfl rfl rfl (fun c23 => ?_) (fun c23 => ?_)
          · rw [if_pos c23] at h
            refine Vic (v := Int32.ofInt (-1)) rfl rfl rfl ?_
            exact ih.2.2 _ _ hd _ _ _ _ _ _ h lv trivial
          · rw [if_neg c23] at h
            refine Van rfl lk0 rfl rfl ?_
            have hz := y_bind h
            clear h
            obtain ⟨v24, h25, h⟩ := hz
            have wv24 := (y_gv_ok h25).2
            refine Vgv h25 rfl rfl rfl ?_
            refine Vin rfl lk1 rfl ?_
            have hz := y_bind h
            clear h
            obtain ⟨v26, h27, h⟩ := hz
            refine Zia (q_ia_y h27) rfl rfl ?_
            refine Ygo rfl rfl rfl rfl rfl rfl ?_
            exact ih.2.2 _ _ hd _ _ _ _ _ _ h lv trivial
        · rw [if_neg c14] at h
          refine Vic (v := Int32.ofInt (-1)) rfl rfl rfl ?_
          cases h
          exact Yret rfl rfl rfl rfl rfl rfl rfl ⟨rfl, rfl⟩
      · rw [if_neg c7] at h
        refine Van rfl lk0 rfl rfl ?_
        have hz := y_bind h
        clear h
        obtain ⟨v28, h29, h⟩ := hz
        have wv28 := (y_gv_ok h29).2
        refine Vgv h29 rfl rfl rfl ?_
        refine Vin rfl lk1 rfl ?_
        have hz := y_bind h
        clear h
        obtain ⟨v30, h31, h⟩ := hz
        refine Zia (q_ia_y h31) rfl rfl ?_
        refine Vsin rfl rfl (fun lv lk2 hk => ?_)
        have lk0 := hk 0 _ lk0 (by decide) (by decide) (Or.inl (by decide))
        refine Van rfl lk0 rfl rfl ?_
        refine Van rfl lk0 rfl rfl ?_
        have hz := y_bind h
        clear h
        obtain ⟨v32, h33, h⟩ := hz
        have wv32 := (y_gv_ok h33).2
        refine Vgv h33 rfl rfl rfl ?_
        refine Vin rfl lk2 rfl ?_
        have hz := y_bind h
        clear h
        obtain ⟨v34, h35, h⟩ := hz
        refine Zia (q_ia_y h35) rfl rfl ?_
        have hz := y_bind h
        clear h
        obtain ⟨e61, h62, h⟩ := hz
        have h62x := q_dec_ok h62
        have hz := y_bind h
        clear h
        obtain ⟨b40, h41, h⟩ := hz
        obtain ⟨eh41, fh41, wh41⟩ := y_rcv_ok h41
        cases eh41
        have hz := y_bind h
        clear h
        obtain ⟨⟨s36, r37⟩, h38, h⟩ := hz
        try dsimp only at h
        refine Vcv rfl rfl rfl wh41 rfl rfl ⟨(Nat.le_of_ble_eq_true rfl), (Nat.le_of_ble_eq_true rfl)⟩ rfl (ih.1 _ _ (by omega) _ _ _ _ _ _ h38 _ rfl rfl) (fun z1 z2 zq => ?_)
        obtain ⟨rfl, rfl⟩ := zq
        try dsimp only [Option.toList, HAppend.hAppend, Append.append, List.append]
        refine Vsin rfl rfl (fun lv lk3 hk => ?_)
        have lk0 := hk 0 _ lk0 (by decide) (by decide) (Or.inl (by decide))
        have lk2 := hk 2 _ lk2 (by decide) (by decide) (Or.inr rfl)
        refine Vin rfl lk3 rfl ?_
        refine Vic (v := Int32.ofInt (-1)) rfl rfl rfl ?_
        have hz := y_bind h
        clear h
        obtain ⟨_, h45, h⟩ := hz
        have c44 := q_g_ok h45
        refine Uif (q_eq c44 (by decide)) rfl rfl rfl rfl rfl rfl rfl (fun c46 => ?_) (fun c46 => ?_)
        · rw [if_pos c46] at h
          refine Van rfl lk0 rfl rfl ?_
          refine Van rfl lk0 rfl rfl ?_
          have hz := y_bind h
          clear h
          obtain ⟨v47, h48, h⟩ := hz
          have wv47 := (y_gv_ok h48).2
          refine Vgv h48 rfl rfl rfl ?_
          refine Vin rfl lk2 rfl ?_
          have hz := y_bind h
          clear h
          obtain ⟨v49, h50, h⟩ := hz
          refine Zia (q_ia_y h50) rfl rfl ?_
          have hz := y_bind h
          clear h
          obtain ⟨e59, h60, h⟩ := hz
          have h60x := q_dec_ok h60
          have hz := y_bind h
          clear h
          obtain ⟨b55, h56, h⟩ := hz
          obtain ⟨eh56, fh56, wh56⟩ := y_rcv_ok h56
          cases eh56
          have hz := y_bind h
          clear h
          obtain ⟨⟨s51, r52⟩, h53, h⟩ := hz
          try dsimp only at h
          refine Vcv rfl rfl rfl wh56 rfl rfl ⟨(Nat.le_of_ble_eq_true rfl), (Nat.le_of_ble_eq_true rfl)⟩ rfl (ih.1 _ _ (by omega) _ _ _ _ _ _ h53 _ rfl rfl) (fun z1 z2 zq => ?_)
          obtain ⟨rfl, rfl⟩ := zq
          try dsimp only [Option.toList, HAppend.hAppend, Append.append, List.append]
          exact ih.2.1 _ _ hd _ _ _ _ _ _ h lv trivial
        · rw [if_neg c46] at h
          refine Vin rfl lk3 rfl ?_
          refine Ygo rfl rfl rfl rfl rfl rfl ?_
          exact ih.2.1 _ _ hd _ _ _ _ _ _ h lv trivial
    · intro d e hd s r0 i1 ti0 s9 r h lv _
      obtain ⟨d, rfl⟩ : ∃ x, d = x + 1 := ⟨d - 1, by omega⟩
      simp only [g_138] at h
      cases h
      exact Yret rfl rfl rfl rfl rfl rfl rfl ⟨rfl, rfl⟩
    · intro d e hd s r0 i1 ti0 s9 r h lv _
      obtain ⟨d, rfl⟩ : ∃ x, d = x + 1 := ⟨d - 1, by omega⟩
      simp only [g_138] at h
      cases h
      exact Yret rfl rfl rfl rfl rfl rfl rfl ⟨rfl, rfl⟩

/-- StepRowsModel.step -/
def g_137 (o : X_O) : Nat → Nat → Q_S → Nat → Int → Int → Option (Q_S × Int)
  | 0, _, _, _, _, _ => none
  | n + 1, 0, s, r0, i1, ti0 => (q_pi s 7 (.ref r0) 0 0).bind fun s1 => (q_pi s1 7 (.ref r0) 49 i1).bind fun s3 => (q_gi s3 7 (.ref r0) 17).bind fun v5 => (q_g (q_in v5)).bind fun _ => if ¬ v5 = 1 then g_137 o n 1 s3 0 0 0 else (q_g (q_in i1)).bind fun _ => if i1 < 0 then g_137 o n 1 s3 0 0 0 else (q_rcv s3 7 (.ref r0)).bind fun b17 => (g_138 o n 60 0 s3 b17 (0) 0).bind fun q16 => g_137 o n 2 q16.1 0 0 (q16.2)
  | n + 1, 1, s, r0, i1, ti0 => g_137 o n 2 s 0 0 ((-1))
  | n + 1, 2, s, r0, i1, ti0 => some (s, ti0)
  | _ + 1, _, _, _, _, _ => none
set_option maxRecDepth 100000 in
set_option maxHeartbeats 4000000 in
theorem c_137 (o : X_O) : ∀ n, (∀ (d : Nat) (hd : 62 ≤ d) (s : Q_S) (r0 : Nat) (i1 : Int) (ti0 : Int) (s9 : Q_S) (r : Int), g_137 o n 0 s r0 i1 ti0 = some (s9, r) → ∀ lv : X_L, x_lget lv 0 = some (.ref r0) → x_lget lv 1 = some (.int (Int32.ofInt i1)) → Y o d 137 0 lv [] (q_y s) (fun s1 r1 => s1 = q_y s9 ∧ r1 = some (.int (Int32.ofInt r)))) ∧
    (∀ (d : Nat) (hd : 62 ≤ d) (s : Q_S) (r0 : Nat) (i1 : Int) (ti0 : Int) (s9 : Q_S) (r : Int), g_137 o n 1 s r0 i1 ti0 = some (s9, r) → ∀ lv : X_L, True → Y o d 137 30 lv [] (q_y s) (fun s1 r1 => s1 = q_y s9 ∧ r1 = some (.int (Int32.ofInt r)))) ∧
    (∀ (d : Nat) (hd : 62 ≤ d) (s : Q_S) (r0 : Nat) (i1 : Int) (ti0 : Int) (s9 : Q_S) (r : Int), g_137 o n 2 s r0 i1 ti0 = some (s9, r) → ∀ lv : X_L, True → Y o d 137 31 lv [.int (Int32.ofInt ti0)] (q_y s) (fun s1 r1 => s1 = q_y s9 ∧ r1 = some (.int (Int32.ofInt r)))) := by
  intro n
  induction n with
  | zero => exact ⟨fun d hd s _ _ _ s9 r h => (by simp only [g_137] at h; cases h), fun d hd s _ _ _ s9 r h => (by simp only [g_137] at h; cases h), fun d hd s _ _ _ s9 r h => (by simp only [g_137] at h; cases h)⟩
  | succ n ih =>
    refine ⟨?_, ?_, ?_⟩
    · intro d hd s r0 i1 ti0 s9 r h lv lk0 lk1
      obtain ⟨d, rfl⟩ : ∃ x, d = x + 1 := ⟨d - 1, by omega⟩
      simp only [g_137] at h
      refine Van rfl lk0 rfl rfl ?_
      refine Vic (v := Int32.ofInt 0) rfl rfl rfl ?_
      have hz := y_bind h
      clear h
      obtain ⟨s1, h2, h⟩ := hz
      refine Zpi (q_pi_y h2) rfl rfl rfl rfl ?_
      refine Van rfl lk0 rfl rfl ?_
      refine Vin rfl lk1 rfl ?_
      have hz := y_bind h
      clear h
      obtain ⟨s3, h4, h⟩ := hz
      refine Zpi (q_pi_y h4) rfl rfl rfl rfl ?_
      refine Van rfl lk0 rfl rfl ?_
      have hz := y_bind h
      clear h
      obtain ⟨v5, h6, h⟩ := hz
      refine Zgi (q_gi_y h6) rfl rfl rfl ?_
      refine Vic (v := Int32.ofInt 1) rfl rfl rfl ?_
      have hz := y_bind h
      clear h
      obtain ⟨_, h8, h⟩ := hz
      have c7 := q_g_ok h8
      refine Uif (not_congr (q_eq c7 (by decide))) rfl rfl rfl rfl rfl rfl rfl (fun c9 => ?_) (fun c9 => ?_)
      · rw [if_pos c9] at h
        exact ih.2.1 _ hd _ _ _ _ _ _ h lv trivial
      · rw [if_neg c9] at h
        refine Vin rfl lk1 rfl ?_
        have hz := y_bind h
        clear h
        obtain ⟨_, h11, h⟩ := hz
        have c10 := q_g_ok h11
        refine Uif (q_lt0 c10) rfl rfl rfl rfl rfl rfl rfl (fun c12 => ?_) (fun c12 => ?_)
        · rw [if_pos c12] at h
          exact ih.2.1 _ hd _ _ _ _ _ _ h lv trivial
        · rw [if_neg c12] at h
          refine Van rfl lk0 rfl rfl ?_
          refine Vic (v := Int32.ofInt 0) rfl rfl rfl ?_
          have hz := y_bind h
          clear h
          obtain ⟨b17, h18, h⟩ := hz
          obtain ⟨eh18, fh18, wh18⟩ := y_rcv_ok h18
          cases eh18
          have hz := y_bind h
          clear h
          obtain ⟨⟨s13, r14⟩, h15, h⟩ := hz
          try dsimp only at h
          refine Vcv rfl rfl rfl wh18 rfl rfl ⟨(Nat.le_of_ble_eq_true rfl), (Nat.le_of_ble_eq_true rfl)⟩ rfl ((c_138 o n).1 _ _ (by omega) _ _ _ _ _ _ h15 _ rfl rfl) (fun z1 z2 zq => ?_)
          obtain ⟨rfl, rfl⟩ := zq
          try dsimp only [Option.toList, HAppend.hAppend, Append.append, List.append]
          refine Ygo rfl rfl rfl rfl rfl rfl ?_
          exact ih.2.2 _ hd _ _ _ _ _ _ h lv trivial
    · intro d hd s r0 i1 ti0 s9 r h lv _
      obtain ⟨d, rfl⟩ : ∃ x, d = x + 1 := ⟨d - 1, by omega⟩
      simp only [g_137] at h
      refine Vic (v := Int32.ofInt (-1)) rfl rfl rfl ?_
      exact ih.2.2 _ hd _ _ _ _ _ _ h lv trivial
    · intro d hd s r0 i1 ti0 s9 r h lv _
      obtain ⟨d, rfl⟩ : ∃ x, d = x + 1 := ⟨d - 1, by omega⟩
      simp only [g_137] at h
      cases h
      exact Yret rfl rfl rfl rfl rfl rfl rfl ⟨rfl, rfl⟩

/-- StepRowsModel.alarm -/
def g_139 (o : X_O) : Nat → Nat → Q_S → Nat → Int → Int → Int → Option (Q_S × Int)
  | 0, _, _, _, _, _, _ => none
  | n + 1, 0, s, r0, i1, i2, ti0 => (q_pi s 7 (.ref r0) 0 0).bind fun s1 => (q_gi s1 7 (.ref r0) 17).bind fun v3 => (q_g (q_in v3)).bind fun _ => if v3 = 3 then g_139 o n 1 s1 0 0 0 0 else (q_g (q_in i1)).bind fun _ => if i1 < 0 then g_139 o n 1 s1 0 0 0 0 else (q_gi s1 7 (.ref r0) 22).bind fun v11 => (q_g (q_in i1 ∧ q_in v11)).bind fun _ => if i1 < v11 then (q_g (q_in i2)).bind fun _ => if ¬ i2 = 0 then (q_g (q_in i2)).bind fun _ => if ¬ i2 = 1 then (q_g (q_in i2)).bind fun _ => if ¬ i2 = 2 then g_139 o n 2 s1 0 0 0 ((-1)) else (q_gi s1 7 (.ref r0) 25).bind fun v25 => g_139 o n 2 s1 0 0 0 (v25) else (q_gi s1 7 (.ref r0) 24).bind fun v27 => g_139 o n 2 s1 0 0 0 (v27) else (q_gi s1 7 (.ref r0) 23).bind fun v29 => g_139 o n 2 s1 0 0 0 (v29) else g_139 o n 1 s1 0 0 0 0
  | n + 1, 1, s, r0, i1, i2, ti0 => some (s, (-1))
  | n + 1, 2, s, r0, i1, i2, ti0 => some (s, ti0)
  | _ + 1, _, _, _, _, _, _ => none
set_option maxRecDepth 100000 in
set_option maxHeartbeats 4000000 in
theorem c_139 (o : X_O) : ∀ n, (∀ (d : Nat) (hd : 0 ≤ d) (s : Q_S) (r0 : Nat) (i1 : Int) (i2 : Int) (ti0 : Int) (s9 : Q_S) (r : Int), g_139 o n 0 s r0 i1 i2 ti0 = some (s9, r) → ∀ lv : X_L, x_lget lv 0 = some (.ref r0) → x_lget lv 1 = some (.int (Int32.ofInt i1)) → x_lget lv 2 = some (.int (Int32.ofInt i2)) → Y o d 139 0 lv [] (q_y s) (fun s1 r1 => s1 = q_y s9 ∧ r1 = some (.int (Int32.ofInt r)))) ∧
    (∀ (d : Nat) (hd : 0 ≤ d) (s : Q_S) (r0 : Nat) (i1 : Int) (i2 : Int) (ti0 : Int) (s9 : Q_S) (r : Int), g_139 o n 1 s r0 i1 i2 ti0 = some (s9, r) → ∀ lv : X_L, True → Y o d 139 25 lv [] (q_y s) (fun s1 r1 => s1 = q_y s9 ∧ r1 = some (.int (Int32.ofInt r)))) ∧
    (∀ (d : Nat) (hd : 0 ≤ d) (s : Q_S) (r0 : Nat) (i1 : Int) (i2 : Int) (ti0 : Int) (s9 : Q_S) (r : Int), g_139 o n 2 s r0 i1 i2 ti0 = some (s9, r) → ∀ lv : X_L, True → Y o d 139 63 lv [.int (Int32.ofInt ti0)] (q_y s) (fun s1 r1 => s1 = q_y s9 ∧ r1 = some (.int (Int32.ofInt r)))) := by
  intro n
  induction n with
  | zero => exact ⟨fun d hd s _ _ _ _ s9 r h => (by simp only [g_139] at h; cases h), fun d hd s _ _ _ _ s9 r h => (by simp only [g_139] at h; cases h), fun d hd s _ _ _ _ s9 r h => (by simp only [g_139] at h; cases h)⟩
  | succ n ih =>
    refine ⟨?_, ?_, ?_⟩
    · intro d hd s r0 i1 i2 ti0 s9 r h lv lk0 lk1 lk2
      simp only [g_139] at h
      refine Van rfl lk0 rfl rfl ?_
      refine Vic (v := Int32.ofInt 0) rfl rfl rfl ?_
      have hz := y_bind h
      clear h
      obtain ⟨s1, h2, h⟩ := hz
      refine Zpi (q_pi_y h2) rfl rfl rfl rfl ?_
      refine Van rfl lk0 rfl rfl ?_
      have hz := y_bind h
      clear h
      obtain ⟨v3, h4, h⟩ := hz
      refine Zgi (q_gi_y h4) rfl rfl rfl ?_
      refine Vic (v := Int32.ofInt 3) rfl rfl rfl ?_
      have hz := y_bind h
      clear h
      obtain ⟨_, h6, h⟩ := hz
      have c5 := q_g_ok h6
      refine Uif (q_eq c5 (by decide)) rfl rfl rfl rfl rfl rfl rfl (fun c7 => ?_) (fun c7 => ?_)
      · rw [if_pos c7] at h
        exact ih.2.1 _ hd _ _ _ _ _ _ _ h lv trivial
      · rw [if_neg c7] at h
        refine Vin rfl lk1 rfl ?_
        have hz := y_bind h
        clear h
        obtain ⟨_, h9, h⟩ := hz
        have c8 := q_g_ok h9
        refine Uif (q_lt0 c8) rfl rfl rfl rfl rfl rfl rfl (fun c10 => ?_) (fun c10 => ?_)
        · rw [if_pos c10] at h
          exact ih.2.1 _ hd _ _ _ _ _ _ _ h lv trivial
        · rw [if_neg c10] at h
          refine Vin rfl lk1 rfl ?_
          refine Van rfl lk0 rfl rfl ?_
          have hz := y_bind h
          clear h
          obtain ⟨v11, h12, h⟩ := hz
          refine Zgi (q_gi_y h12) rfl rfl rfl ?_
          have hz := y_bind h
          clear h
          obtain ⟨_, h14, h⟩ := hz
          have c13 := q_g_ok h14
          refine Uif (q_lt c13.1 c13.2) rfl rfl rfl rfl rfl rfl rfl (fun c15 => ?_) (fun c15 => ?_)
          · rw [if_pos c15] at h
            refine Vin rfl lk2 rfl ?_
            have hz := y_bind h
            clear h
            obtain ⟨_, h17, h⟩ := hz
            have c16 := q_g_ok h17
            refine Uif (not_congr (q_eq0 c16)) rfl rfl rfl rfl rfl rfl rfl (fun c18 => ?_) (fun c18 => ?_)
            · rw [if_pos c18] at h
              refine Vin rfl lk2 rfl ?_
              refine Vic (v := Int32.ofInt 1) rfl rfl rfl ?_
              have hz := y_bind h
              clear h
              obtain ⟨_, h20, h⟩ := hz
              have c19 := q_g_ok h20
              refine Uif (not_congr (q_eq c19 (by decide))) rfl rfl rfl rfl rfl rfl rfl (fun c21 => ?_) (fun c21 => ?_)
              · rw [if_pos c21] at h
                refine Vin rfl lk2 rfl ?_
                refine Vic (v := Int32.ofInt 2) rfl rfl rfl ?_
                have hz := y_bind h
                clear h
                obtain ⟨_, h23, h⟩ := hz
                have c22 := q_g_ok h23
                refine Uif (not_congr (q_eq c22 (by decide))) rfl rfl rfl rfl rfl rfl rfl (fun c24 => ?_) (fun c24 => ?_)
                · rw [if_pos c24] at h
                  refine Vic (v := Int32.ofInt (-1)) rfl rfl rfl ?_
                  exact ih.2.2 _ hd _ _ _ _ _ _ _ h lv trivial
                · rw [if_neg c24] at h
                  refine Van rfl lk0 rfl rfl ?_
                  have hz := y_bind h
                  clear h
                  obtain ⟨v25, h26, h⟩ := hz
                  refine Zgi (q_gi_y h26) rfl rfl rfl ?_
                  refine Ygo rfl rfl rfl rfl rfl rfl ?_
                  exact ih.2.2 _ hd _ _ _ _ _ _ _ h lv trivial
              · rw [if_neg c21] at h
                refine Van rfl lk0 rfl rfl ?_
                have hz := y_bind h
                clear h
                obtain ⟨v27, h28, h⟩ := hz
                refine Zgi (q_gi_y h28) rfl rfl rfl ?_
                refine Ygo rfl rfl rfl rfl rfl rfl ?_
                exact ih.2.2 _ hd _ _ _ _ _ _ _ h lv trivial
            · rw [if_neg c18] at h
              refine Van rfl lk0 rfl rfl ?_
              have hz := y_bind h
              clear h
              obtain ⟨v29, h30, h⟩ := hz
              refine Zgi (q_gi_y h30) rfl rfl rfl ?_
              refine Ygo rfl rfl rfl rfl rfl rfl ?_
              exact ih.2.2 _ hd _ _ _ _ _ _ _ h lv trivial
          · rw [if_neg c15] at h
            exact ih.2.1 _ hd _ _ _ _ _ _ _ h lv trivial
    · intro d hd s r0 i1 i2 ti0 s9 r h lv _
      simp only [g_139] at h
      refine Vic (v := Int32.ofInt (-1)) rfl rfl rfl ?_
      cases h
      exact Yret rfl rfl rfl rfl rfl rfl rfl ⟨rfl, rfl⟩
    · intro d hd s r0 i1 i2 ti0 s9 r h lv _
      simp only [g_139] at h
      cases h
      exact Yret rfl rfl rfl rfl rfl rfl rfl ⟨rfl, rfl⟩

/-- StepRowsModel.swap -/
def g_140 (o : X_O) : Nat → Nat → Q_S → Nat → Int → Option (Q_S × Int)
  | 0, _, _, _, _ => none
  | n + 1, 0, s, r0, i1 => (q_pi s 7 (.ref r0) 0 0).bind fun s1 => (q_rcv s1 7 (.ref r0)).bind fun b7 => (g_103 o n 0 s1 b7 (i1) 0).bind fun q6 => (q_g (q_in q6.2)).bind fun _ => if q6.2 = 0 then g_140 o n 1 q6.1 0 0 else (q_gi q6.1 7 (.ref r0) 17).bind fun v14 => (q_g (q_in v14)).bind fun _ => if v14 = 1 then (q_pi q6.1 7 (.ref r0) 21 i1).bind fun s19 => some (s19, 0) else g_140 o n 1 q6.1 0 0
  | n + 1, 1, s, r0, i1 => some (s, 1)
  | _ + 1, _, _, _, _ => none
set_option maxRecDepth 100000 in
set_option maxHeartbeats 4000000 in
theorem c_140 (o : X_O) : ∀ n, (∀ (d : Nat) (hd : 1 ≤ d) (s : Q_S) (r0 : Nat) (i1 : Int) (s9 : Q_S) (r : Int), g_140 o n 0 s r0 i1 = some (s9, r) → ∀ lv : X_L, x_lget lv 0 = some (.ref r0) → x_lget lv 1 = some (.int (Int32.ofInt i1)) → Y o d 140 0 lv [] (q_y s) (fun s1 r1 => s1 = q_y s9 ∧ r1 = some (.int (Int32.ofInt r)))) ∧
    (∀ (d : Nat) (hd : 1 ≤ d) (s : Q_S) (r0 : Nat) (i1 : Int) (s9 : Q_S) (r : Int), g_140 o n 1 s r0 i1 = some (s9, r) → ∀ lv : X_L, True → Y o d 140 21 lv [] (q_y s) (fun s1 r1 => s1 = q_y s9 ∧ r1 = some (.int (Int32.ofInt r)))) := by
  intro n
  induction n with
  | zero => exact ⟨fun d hd s _ _ s9 r h => (by simp only [g_140] at h; cases h), fun d hd s _ _ s9 r h => (by simp only [g_140] at h; cases h)⟩
  | succ n ih =>
    refine ⟨?_, ?_⟩
    · intro d hd s r0 i1 s9 r h lv lk0 lk1
      obtain ⟨d, rfl⟩ : ∃ x, d = x + 1 := ⟨d - 1, by omega⟩
      simp only [g_140] at h
      refine Van rfl lk0 rfl rfl ?_
      refine Vic (v := Int32.ofInt 0) rfl rfl rfl ?_
      have hz := y_bind h
      clear h
      obtain ⟨s1, h2, h⟩ := hz
      refine Zpi (q_pi_y h2) rfl rfl rfl rfl ?_
      refine Van rfl lk0 rfl rfl ?_
      refine Vin rfl lk1 rfl ?_
      have hz := y_bind h
      clear h
      obtain ⟨b7, h8, h⟩ := hz
      obtain ⟨eh8, fh8, wh8⟩ := y_rcv_ok h8
      cases eh8
      have hz := y_bind h
      clear h
      obtain ⟨⟨s3, r4⟩, h5, h⟩ := hz
      try dsimp only at h
      refine Vcv rfl rfl rfl wh8 rfl rfl ⟨(Nat.le_of_ble_eq_true rfl), (Nat.le_of_ble_eq_true rfl)⟩ rfl ((c_103 o n).1 _ (by omega) _ _ _ _ _ _ h5 _ rfl rfl) (fun z1 z2 zq => ?_)
      obtain ⟨rfl, rfl⟩ := zq
      try dsimp only [Option.toList, HAppend.hAppend, Append.append, List.append]
      have hz := y_bind h
      clear h
      obtain ⟨_, h12, h⟩ := hz
      have c11 := q_g_ok h12
      refine Uif (q_eq0 c11) rfl rfl rfl rfl rfl rfl rfl (fun c13 => ?_) (fun c13 => ?_)
      · rw [if_pos c13] at h
        exact ih.2 _ hd _ _ _ _ _ h lv trivial
      · rw [if_neg c13] at h
        refine Van rfl lk0 rfl rfl ?_
        have hz := y_bind h
        clear h
        obtain ⟨v14, h15, h⟩ := hz
        refine Zgi (q_gi_y h15) rfl rfl rfl ?_
        refine Vic (v := Int32.ofInt 1) rfl rfl rfl ?_
        have hz := y_bind h
        clear h
        obtain ⟨_, h17, h⟩ := hz
        have c16 := q_g_ok h17
        refine Uif (q_eq c16 (by decide)) rfl rfl rfl rfl rfl rfl rfl (fun c18 => ?_) (fun c18 => ?_)
        · rw [if_pos c18] at h
          refine Van rfl lk0 rfl rfl ?_
          refine Vin rfl lk1 rfl ?_
          have hz := y_bind h
          clear h
          obtain ⟨s19, h20, h⟩ := hz
          refine Zpi (q_pi_y h20) rfl rfl rfl rfl ?_
          refine Vic (v := Int32.ofInt 0) rfl rfl rfl ?_
          cases h
          exact Yret rfl rfl rfl rfl rfl rfl rfl ⟨rfl, rfl⟩
        · rw [if_neg c18] at h
          exact ih.2 _ hd _ _ _ _ _ h lv trivial
    · intro d hd s r0 i1 s9 r h lv _
      obtain ⟨d, rfl⟩ : ∃ x, d = x + 1 := ⟨d - 1, by omega⟩
      simp only [g_140] at h
      refine Vic (v := Int32.ofInt 1) rfl rfl rfl ?_
      cases h
      exact Yret rfl rfl rfl rfl rfl rfl rfl ⟨rfl, rfl⟩

/-- StepRowsModel.table -/
def g_141 (o : X_O) : Nat → Nat → Q_S → Nat → Int → Value → Int → Int → Option (Q_S × Int)
  | 0, _, _, _, _, _, _, _ => none
  | n + 1, 0, s, r0, i1, ta0, ti1, ti0 => (q_g (q_in i1)).bind fun _ => if i1 < 0 then g_141 o n 1 s r0 (i1) ((.ref r0)) 0 0 else (q_g (q_in i1)).bind fun _ => if i1 ≤ 9 then g_141 o n 2 s r0 (i1) ((.ref r0)) (0) 0 else g_141 o n 1 s r0 (i1) ((.ref r0)) 0 0
  | n + 1, 1, s, r0, i1, ta0, ti1, ti0 => g_141 o n 2 s r0 (i1) (ta0) (1) 0
  | n + 1, 2, s, r0, i1, ta0, ti1, ti0 => (q_pi s 7 ta0 0 ti1).bind fun s1 => (q_gi s1 7 (.ref r0) 0).bind fun v3 => (q_g (q_in v3)).bind fun _ => if v3 ≤ 0 then (g_115 o n 0 s1 (i1) 0 0 0).bind fun q11 => g_141 o n 3 q11.1 0 0 .null 0 (q11.2) else g_141 o n 3 s1 0 0 .null 0 (0)
  | n + 1, 3, s, r0, i1, ta0, ti1, ti0 => some (s, ti0)
  | _ + 1, _, _, _, _, _, _, _ => none
set_option maxRecDepth 100000 in
set_option maxHeartbeats 4000000 in
theorem c_141 (o : X_O) : ∀ n, (∀ (d : Nat) (hd : 1 ≤ d) (s : Q_S) (r0 : Nat) (i1 : Int) (ta0 : Value) (ti1 : Int) (ti0 : Int) (s9 : Q_S) (r : Int), g_141 o n 0 s r0 i1 ta0 ti1 ti0 = some (s9, r) → ∀ lv : X_L, x_lget lv 0 = some (.ref r0) → x_lget lv 1 = some (.int (Int32.ofInt i1)) → Y o d 141 0 lv [] (q_y s) (fun s1 r1 => s1 = q_y s9 ∧ r1 = some (.int (Int32.ofInt r)))) ∧
    (∀ (d : Nat) (hd : 1 ≤ d) (s : Q_S) (r0 : Nat) (i1 : Int) (ta0 : Value) (ti1 : Int) (ti0 : Int) (s9 : Q_S) (r : Int), g_141 o n 1 s r0 i1 ta0 ti1 ti0 = some (s9, r) → ∀ lv : X_L, x_lget lv 0 = some (.ref r0) → x_lget lv 1 = some (.int (Int32.ofInt i1)) → y_rv ta0 = true → Y o d 141 11 lv [ta0] (q_y s) (fun s1 r1 => s1 = q_y s9 ∧ r1 = some (.int (Int32.ofInt r)))) ∧
    (∀ (d : Nat) (hd : 1 ≤ d) (s : Q_S) (r0 : Nat) (i1 : Int) (ta0 : Value) (ti1 : Int) (ti0 : Int) (s9 : Q_S) (r : Int), g_141 o n 2 s r0 i1 ta0 ti1 ti0 = some (s9, r) → ∀ lv : X_L, x_lget lv 0 = some (.ref r0) → x_lget lv 1 = some (.int (Int32.ofInt i1)) → y_rv ta0 = true → Y o d 141 16 lv [.int (Int32.ofInt ti1), ta0] (q_y s) (fun s1 r1 => s1 = q_y s9 ∧ r1 = some (.int (Int32.ofInt r)))) ∧
    (∀ (d : Nat) (hd : 1 ≤ d) (s : Q_S) (r0 : Nat) (i1 : Int) (ta0 : Value) (ti1 : Int) (ti0 : Int) (s9 : Q_S) (r : Int), g_141 o n 3 s r0 i1 ta0 ti1 ti0 = some (s9, r) → ∀ lv : X_L, True → Y o d 141 34 lv [.int (Int32.ofInt ti0)] (q_y s) (fun s1 r1 => s1 = q_y s9 ∧ r1 = some (.int (Int32.ofInt r)))) := by
  intro n
  induction n with
  | zero => exact ⟨fun d hd s _ _ _ _ _ s9 r h => (by simp only [g_141] at h; cases h), fun d hd s _ _ _ _ _ s9 r h => (by simp only [g_141] at h; cases h), fun d hd s _ _ _ _ _ s9 r h => (by simp only [g_141] at h; cases h), fun d hd s _ _ _ _ _ s9 r h => (by simp only [g_141] at h; cases h)⟩
  | succ n ih =>
    refine ⟨?_, ?_, ?_, ?_⟩
    · intro d hd s r0 i1 ta0 ti1 ti0 s9 r h lv lk0 lk1
      obtain ⟨d, rfl⟩ : ∃ x, d = x + 1 := ⟨d - 1, by omega⟩
      simp only [g_141] at h
      refine Van rfl lk0 rfl rfl ?_
      refine Vin rfl lk1 rfl ?_
      have hz := y_bind h
      clear h
      obtain ⟨_, h2, h⟩ := hz
      have c1 := q_g_ok h2
      refine Uif (q_lt0 c1) rfl rfl rfl rfl rfl rfl rfl (fun c3 => ?_) (fun c3 => ?_)
      · rw [if_pos c3] at h
        exact ih.2.1 _ hd _ _ _ _ _ _ _ _ h lv lk0 lk1 rfl
      · rw [if_neg c3] at h
        refine Vin rfl lk1 rfl ?_
        refine Vbp (v := Int32.ofInt 9) rfl (by decide) rfl ?_
        have hz := y_bind h
        clear h
        obtain ⟨_, h5, h⟩ := hz
        have c4 := q_g_ok h5
        refine Uif (q_le c4 (by decide)) rfl rfl rfl rfl rfl rfl rfl (fun c6 => ?_) (fun c6 => ?_)
        · rw [if_pos c6] at h
          refine Vic (v := Int32.ofInt 0) rfl rfl rfl ?_
          exact ih.2.2.1 _ hd _ _ _ _ _ _ _ _ h lv lk0 lk1 rfl
        · rw [if_neg c6] at h
          exact ih.2.1 _ hd _ _ _ _ _ _ _ _ h lv lk0 lk1 rfl
    · intro d hd s r0 i1 ta0 ti1 ti0 s9 r h lv lk0 lk1 rs0
      obtain ⟨d, rfl⟩ : ∃ x, d = x + 1 := ⟨d - 1, by omega⟩
      simp only [g_141] at h
      refine Vic (v := Int32.ofInt 1) rfl rfl rfl ?_
      refine Ygo rfl rfl rfl rfl rfl rfl ?_
      exact ih.2.2.1 _ hd _ _ _ _ _ _ _ _ h lv lk0 lk1 rs0
    · intro d hd s r0 i1 ta0 ti1 ti0 s9 r h lv lk0 lk1 rs0
      obtain ⟨d, rfl⟩ : ∃ x, d = x + 1 := ⟨d - 1, by omega⟩
      simp only [g_141] at h
      have hz := y_bind h
      clear h
      obtain ⟨s1, h2, h⟩ := hz
      refine Zpi (q_pi_y h2) rfl rfl rfl rfl ?_
      refine Van rfl lk0 rfl rfl ?_
      have hz := y_bind h
      clear h
      obtain ⟨v3, h4, h⟩ := hz
      refine Zgi (q_gi_y h4) rfl rfl rfl ?_
      have hz := y_bind h
      clear h
      obtain ⟨_, h6, h⟩ := hz
      have c5 := q_g_ok h6
      refine Uif (q_le0 c5) rfl rfl rfl rfl rfl rfl rfl (fun c7 => ?_) (fun c7 => ?_)
      · rw [if_pos c7] at h
        refine Vin rfl lk1 rfl ?_
        have hz := y_bind h
        clear h
        obtain ⟨⟨s8, r9⟩, h10, h⟩ := hz
        try dsimp only at h
        refine Vcs rfl rfl (Nat.le_of_ble_eq_true rfl) rfl rfl ⟨(Nat.le_of_ble_eq_true rfl), (Nat.le_of_ble_eq_true rfl)⟩ rfl ((c_115 o n).1 _ (by omega) _ _ _ _ _ _ _ h10 _ rfl) (fun z1 z2 zq => ?_)
        obtain ⟨rfl, rfl⟩ := zq
        try dsimp only [Option.toList, HAppend.hAppend, Append.append, List.append]
        exact ih.2.2.2 _ hd _ _ _ _ _ _ _ _ h lv trivial
      · rw [if_neg c7] at h
        refine Vic (v := Int32.ofInt 0) rfl rfl rfl ?_
        refine Ygo rfl rfl rfl rfl rfl rfl ?_
        exact ih.2.2.2 _ hd _ _ _ _ _ _ _ _ h lv trivial
    · intro d hd s r0 i1 ta0 ti1 ti0 s9 r h lv _
      obtain ⟨d, rfl⟩ : ∃ x, d = x + 1 := ⟨d - 1, by omega⟩
      simp only [g_141] at h
      cases h
      exact Yret rfl rfl rfl rfl rfl rfl rfl ⟨rfl, rfl⟩

/-- StepRowsModel.told -/
def g_142 (o : X_O) : Nat → Nat → Q_S → Nat → Int → Int → Int → Int → Option (Q_S × Int)
  | 0, _, _, _, _, _, _, _ => none
  | n + 1, 0, s, r0, i1, i2, i3, ti0 => (q_pi s 7 (.ref r0) 0 0).bind fun s1 => (q_gi s1 7 (.ref r0) 17).bind fun v3 => (q_g (q_in v3)).bind fun _ => if ¬ v3 = 3 then g_142 o n 1 s1 r0 (i1) 0 0 (0) else g_142 o n 1 s1 r0 (i1) 0 0 (1)
  | n + 1, 1, s, r0, i1, i2, i3, ti0 => (q_g (q_in i1)).bind fun _ => if i1 < 0 ∨ 3 < i1 then some (s, (-1)) else if i1 = 0 then (q_g (q_in ti0)).bind fun _ => if ti0 = 0 then (q_gi s 7 (.ref r0) 19).bind fun v7 => g_142 o n 2 s 0 0 0 0 (v7) else g_142 o n 2 s 0 0 0 0 (0) else if i1 = 1 then (q_g (q_in ti0)).bind fun _ => if ti0 = 0 then (q_gi s 7 (.ref r0) 20).bind fun v13 => g_142 o n 3 s 0 0 0 0 (v13) else g_142 o n 3 s 0 0 0 0 (0) else if i1 = 2 then g_142 o n 4 s r0 0 (ti0) (0) 0 else if i1 = 3 then (q_g (q_in ti0)).bind fun _ => if ¬ ti0 = 0 then g_142 o n 7 s 0 0 0 0 0 else (q_gi s 7 (.ref r0) 21).bind fun v20 => (q_g (q_in v20)).bind fun _ => if v20 = (-1) then g_142 o n 7 s 0 0 0 0 0 else g_142 o n 8 s 0 0 0 0 (1) else none
  | n + 1, 2, s, r0, i1, i2, i3, ti0 => some (s, ti0)
  | n + 1, 3, s, r0, i1, i2, i3, ti0 => some (s, ti0)
  | n + 1, 4, s, r0, i1, i2, i3, ti0 => (q_g (q_in i2)).bind fun _ => if ¬ i2 = 0 then g_142 o n 5 s 0 0 (i2) (i3) 0 else (q_gi s 7 (.ref r0) 18).bind fun v4 => (q_rcv s 7 (.ref r0)).bind fun b10 => (g_104 o n 0 s b10 (i3) (v4) 0 0 0).bind fun q9 => (q_g (q_in q9.2)).bind fun _ => if ¬ q9.2 = 0 then g_142 o n 5 q9.1 0 0 (i2) (i3) 0 else g_142 o n 4 q9.1 r0 0 (i2) ((i3 + 1)) 0
  | n + 1, 5, s, r0, i1, i2, i3, ti0 => (q_g (q_in i2)).bind fun _ => if i2 = 0 then g_142 o n 6 s 0 0 0 0 (i3) else g_142 o n 6 s 0 0 0 0 ((-1))
  | n + 1, 6, s, r0, i1, i2, i3, ti0 => some (s, ti0)
  | n + 1, 7, s, r0, i1, i2, i3, ti0 => g_142 o n 8 s 0 0 0 0 (0)
  | n + 1, 8, s, r0, i1, i2, i3, ti0 => some (s, ti0)
  | _ + 1, _, _, _, _, _, _, _ => none
set_option maxRecDepth 100000 in
set_option maxHeartbeats 4000000 in
theorem c_142 (o : X_O) : ∀ n, (∀ (d : Nat) (hd : 1 ≤ d) (s : Q_S) (r0 : Nat) (i1 : Int) (i2 : Int) (i3 : Int) (ti0 : Int) (s9 : Q_S) (r : Int), g_142 o n 0 s r0 i1 i2 i3 ti0 = some (s9, r) → ∀ lv : X_L, x_lget lv 0 = some (.ref r0) → x_lget lv 1 = some (.int (Int32.ofInt i1)) → Y o d 142 0 lv [] (q_y s) (fun s1 r1 => s1 = q_y s9 ∧ r1 = some (.int (Int32.ofInt r)))) ∧
    (∀ (d : Nat) (hd : 1 ≤ d) (s : Q_S) (r0 : Nat) (i1 : Int) (i2 : Int) (i3 : Int) (ti0 : Int) (s9 : Q_S) (r : Int), g_142 o n 1 s r0 i1 i2 i3 ti0 = some (s9, r) → ∀ lv : X_L, x_lget lv 0 = some (.ref r0) → x_lget lv 1 = some (.int (Int32.ofInt i1)) → Y o d 142 18 lv [.int (Int32.ofInt ti0)] (q_y s) (fun s1 r1 => s1 = q_y s9 ∧ r1 = some (.int (Int32.ofInt r)))) ∧
    (∀ (d : Nat) (hd : 1 ≤ d) (s : Q_S) (r0 : Nat) (i1 : Int) (i2 : Int) (i3 : Int) (ti0 : Int) (s9 : Q_S) (r : Int), g_142 o n 2 s r0 i1 i2 i3 ti0 = some (s9, r) → ∀ lv : X_L, True → Y o d 142 64 lv [.int (Int32.ofInt ti0)] (q_y s) (fun s1 r1 => s1 = q_y s9 ∧ r1 = some (.int (Int32.ofInt r)))) ∧
    (∀ (d : Nat) (hd : 1 ≤ d) (s : Q_S) (r0 : Nat) (i1 : Int) (i2 : Int) (i3 : Int) (ti0 : Int) (s9 : Q_S) (r : Int), g_142 o n 3 s r0 i1 i2 i3 ti0 = some (s9, r) → ∀ lv : X_L, True → Y o d 142 77 lv [.int (Int32.ofInt ti0)] (q_y s) (fun s1 r1 => s1 = q_y s9 ∧ r1 = some (.int (Int32.ofInt r)))) ∧
    (∀ (d : Nat) (hd : 1 ≤ d) (s : Q_S) (r0 : Nat) (i1 : Int) (i2 : Int) (i3 : Int) (ti0 : Int) (s9 : Q_S) (r : Int), g_142 o n 4 s r0 i1 i2 i3 ti0 = some (s9, r) → ∀ lv : X_L, x_lget lv 0 = some (.ref r0) → x_lget lv 2 = some (.int (Int32.ofInt i2)) → x_lget lv 3 = some (.int (Int32.ofInt i3)) → Y o d 142 80 lv [] (q_y s) (fun s1 r1 => s1 = q_y s9 ∧ r1 = some (.int (Int32.ofInt r)))) ∧
    (∀ (d : Nat) (hd : 1 ≤ d) (s : Q_S) (r0 : Nat) (i1 : Int) (i2 : Int) (i3 : Int) (ti0 : Int) (s9 : Q_S) (r : Int), g_142 o n 5 s r0 i1 i2 i3 ti0 = some (s9, r) → ∀ lv : X_L, x_lget lv 2 = some (.int (Int32.ofInt i2)) → x_lget lv 3 = some (.int (Int32.ofInt i3)) → Y o d 142 102 lv [] (q_y s) (fun s1 r1 => s1 = q_y s9 ∧ r1 = some (.int (Int32.ofInt r)))) ∧
    (∀ (d : Nat) (hd : 1 ≤ d) (s : Q_S) (r0 : Nat) (i1 : Int) (i2 : Int) (i3 : Int) (ti0 : Int) (s9 : Q_S) (r : Int), g_142 o n 6 s r0 i1 i2 i3 ti0 = some (s9, r) → ∀ lv : X_L, True → Y o d 142 111 lv [.int (Int32.ofInt ti0)] (q_y s) (fun s1 r1 => s1 = q_y s9 ∧ r1 = some (.int (Int32.ofInt r)))) ∧
    (∀ (d : Nat) (hd : 1 ≤ d) (s : Q_S) (r0 : Nat) (i1 : Int) (i2 : Int) (i3 : Int) (ti0 : Int) (s9 : Q_S) (r : Int), g_142 o n 7 s r0 i1 i2 i3 ti0 = some (s9, r) → ∀ lv : X_L, True → Y o d 142 128 lv [] (q_y s) (fun s1 r1 => s1 = q_y s9 ∧ r1 = some (.int (Int32.ofInt r)))) ∧
    (∀ (d : Nat) (hd : 1 ≤ d) (s : Q_S) (r0 : Nat) (i1 : Int) (i2 : Int) (i3 : Int) (ti0 : Int) (s9 : Q_S) (r : Int), g_142 o n 8 s r0 i1 i2 i3 ti0 = some (s9, r) → ∀ lv : X_L, True → Y o d 142 129 lv [.int (Int32.ofInt ti0)] (q_y s) (fun s1 r1 => s1 = q_y s9 ∧ r1 = some (.int (Int32.ofInt r)))) := by
  intro n
  induction n with
  | zero => exact ⟨fun d hd s _ _ _ _ _ s9 r h => (by simp only [g_142] at h; cases h), fun d hd s _ _ _ _ _ s9 r h => (by simp only [g_142] at h; cases h), fun d hd s _ _ _ _ _ s9 r h => (by simp only [g_142] at h; cases h), fun d hd s _ _ _ _ _ s9 r h => (by simp only [g_142] at h; cases h), fun d hd s _ _ _ _ _ s9 r h => (by simp only [g_142] at h; cases h), fun d hd s _ _ _ _ _ s9 r h => (by simp only [g_142] at h; cases h), fun d hd s _ _ _ _ _ s9 r h => (by simp only [g_142] at h; cases h), fun d hd s _ _ _ _ _ s9 r h => (by simp only [g_142] at h; cases h), fun d hd s _ _ _ _ _ s9 r h => (by simp only [g_142] at h; cases h)⟩
  | succ n ih =>
    refine ⟨?_, ?_, ?_, ?_, ?_, ?_, ?_, ?_, ?_⟩
    · intro d hd s r0 i1 i2 i3 ti0 s9 r h lv lk0 lk1
      obtain ⟨d, rfl⟩ : ∃ x, d = x + 1 := ⟨d - 1, by omega⟩
      simp only [g_142] at h
      refine Van rfl lk0 rfl rfl ?_
      refine Vic (v := Int32.ofInt 0) rfl rfl rfl ?_
      have hz := y_bind h
      clear h
      obtain ⟨s1, h2, h⟩ := hz
      refine Zpi (q_pi_y h2) rfl rfl rfl rfl ?_
      refine Van rfl lk0 rfl rfl ?_
      have hz := y_bind h
      clear h
      obtain ⟨v3, h4, h⟩ := hz
      refine Zgi (q_gi_y h4) rfl rfl rfl ?_
      refine Vic (v := Int32.ofInt 3) rfl rfl rfl ?_
      have hz := y_bind h
      clear h
      obtain ⟨_, h6, h⟩ := hz
      have c5 := q_g_ok h6
      refine Uif (not_congr (q_eq c5 (by decide))) rfl rfl rfl rfl rfl rfl rfl (fun c7 => ?_) (fun c7 => ?_)
      · rw [if_pos c7] at h
        refine Vic (v := Int32.ofInt 0) rfl rfl rfl ?_
        exact ih.2.1 _ hd _ _ _ _ _ _ _ _ h lv lk0 lk1
      · rw [if_neg c7] at h
        refine Vic (v := Int32.ofInt 1) rfl rfl rfl ?_
        refine Ygo rfl rfl rfl rfl rfl rfl ?_
        exact ih.2.1 _ hd _ _ _ _ _ _ _ _ h lv lk0 lk1
    · intro d hd s r0 i1 i2 i3 ti0 s9 r h lv lk0 lk1
      obtain ⟨d, rfl⟩ : ∃ x, d = x + 1 := ⟨d - 1, by omega⟩
      simp only [g_142] at h
      refine Vsin rfl rfl (fun lv lk2 hk => ?_)
      have lk0 := hk 0 _ lk0 (by decide) (by decide) (Or.inl (by decide))
      have lk1 := hk 1 _ lk1 (by decide) (by decide) (Or.inr rfl)
      refine Vin rfl lk1 rfl ?_
      have hz := y_bind h
      clear h
      obtain ⟨_, h2, h⟩ := hz
      have c1 := q_g_ok h2
      by_cases c3 : i1 < 0 ∨ 3 < i1
      · rw [if_pos c3] at h
        refine Ysw rfl rfl rfl rfl rfl (if_pos (by rw [q_ti c1]; exact c3)) rfl ?_
        refine Vic (v := Int32.ofInt (-1)) rfl rfl rfl ?_
        cases h
        exact Yret rfl rfl rfl rfl rfl rfl rfl ⟨rfl, rfl⟩
      rw [if_neg c3] at h
      by_cases c9 : i1 = 0
      · rw [if_pos c9] at h
        refine Vts (k := 0) (congrArg Int32.ofInt c9) rfl rfl rfl rfl rfl rfl rfl ?_
        refine Vin rfl lk2 rfl ?_
        have hz := y_bind h
        clear h
        obtain ⟨_, h5, h⟩ := hz
        have c4 := q_g_ok h5
        refine Uif (q_eq0 c4) rfl rfl rfl rfl rfl rfl rfl (fun c6 => ?_) (fun c6 => ?_)
        · rw [if_pos c6] at h
          refine Van rfl lk0 rfl rfl ?_
          have hz := y_bind h
          clear h
          obtain ⟨v7, h8, h⟩ := hz
          refine Zgi (q_gi_y h8) rfl rfl rfl ?_
          exact ih.2.2.1 _ hd _ _ _ _ _ _ _ _ h lv trivial
        · rw [if_neg c6] at h
          refine Vic (v := Int32.ofInt 0) rfl rfl rfl ?_
          refine Ygo rfl rfl rfl rfl rfl rfl ?_
          exact ih.2.2.1 _ hd _ _ _ _ _ _ _ _ h lv trivial
      rw [if_neg c9] at h
      by_cases c15 : i1 = 1
      · rw [if_pos c15] at h
        refine Vts (k := 1) (congrArg Int32.ofInt c15) rfl rfl rfl rfl rfl rfl rfl ?_
        refine Vin rfl lk2 rfl ?_
        have hz := y_bind h
        clear h
        obtain ⟨_, h11, h⟩ := hz
        have c10 := q_g_ok h11
        refine Uif (q_eq0 c10) rfl rfl rfl rfl rfl rfl rfl (fun c12 => ?_) (fun c12 => ?_)
        · rw [if_pos c12] at h
          refine Van rfl lk0 rfl rfl ?_
          have hz := y_bind h
          clear h
          obtain ⟨v13, h14, h⟩ := hz
          refine Zgi (q_gi_y h14) rfl rfl rfl ?_
          exact ih.2.2.2.1 _ hd _ _ _ _ _ _ _ _ h lv trivial
        · rw [if_neg c12] at h
          refine Vic (v := Int32.ofInt 0) rfl rfl rfl ?_
          refine Ygo rfl rfl rfl rfl rfl rfl ?_
          exact ih.2.2.2.1 _ hd _ _ _ _ _ _ _ _ h lv trivial
      rw [if_neg c15] at h
      by_cases c16 : i1 = 2
      · rw [if_pos c16] at h
        refine Vts (k := 2) (congrArg Int32.ofInt c16) rfl rfl rfl rfl rfl rfl rfl ?_
        refine Vic (v := Int32.ofInt 0) rfl rfl rfl ?_
        refine Vsin rfl rfl (fun lv lk3 hk => ?_)
        have lk0 := hk 0 _ lk0 (by decide) (by decide) (Or.inl (by decide))
        have lk2 := hk 2 _ lk2 (by decide) (by decide) (Or.inr rfl)
        exact ih.2.2.2.2.1 _ hd _ _ _ _ _ _ _ _ h lv lk0 lk2 lk3
      rw [if_neg c16] at h
      by_cases c25 : i1 = 3
      · rw [if_pos c25] at h
        refine Vts (k := 3) (congrArg Int32.ofInt c25) rfl rfl rfl rfl rfl rfl rfl ?_
        refine Vin rfl lk2 rfl ?_
        have hz := y_bind h
        clear h
        obtain ⟨_, h18, h⟩ := hz
        have c17 := q_g_ok h18
        refine Uif (not_congr (q_eq0 c17)) rfl rfl rfl rfl rfl rfl rfl (fun c19 => ?_) (fun c19 => ?_)
        · rw [if_pos c19] at h
          exact ih.2.2.2.2.2.2.2.1 _ hd _ _ _ _ _ _ _ _ h lv trivial
        · rw [if_neg c19] at h
          refine Van rfl lk0 rfl rfl ?_
          have hz := y_bind h
          clear h
          obtain ⟨v20, h21, h⟩ := hz
          refine Zgi (q_gi_y h21) rfl rfl rfl ?_
          refine Vic (v := Int32.ofInt (-1)) rfl rfl rfl ?_
          have hz := y_bind h
          clear h
          obtain ⟨_, h23, h⟩ := hz
          have c22 := q_g_ok h23
          refine Uif (q_eq c22 (by decide)) rfl rfl rfl rfl rfl rfl rfl (fun c24 => ?_) (fun c24 => ?_)
          · rw [if_pos c24] at h
            exact ih.2.2.2.2.2.2.2.1 _ hd _ _ _ _ _ _ _ _ h lv trivial
          · rw [if_neg c24] at h
            refine Vic (v := Int32.ofInt 1) rfl rfl rfl ?_
            refine Ygo rfl rfl rfl rfl rfl rfl ?_
            exact ih.2.2.2.2.2.2.2.2 _ hd _ _ _ _ _ _ _ _ h lv trivial
      rw [if_neg c25] at h
      cases h
    · intro d hd s r0 i1 i2 i3 ti0 s9 r h lv _
      obtain ⟨d, rfl⟩ : ∃ x, d = x + 1 := ⟨d - 1, by omega⟩
      simp only [g_142] at h
      cases h
      exact Yret rfl rfl rfl rfl rfl rfl rfl ⟨rfl, rfl⟩
    · intro d hd s r0 i1 i2 i3 ti0 s9 r h lv _
      obtain ⟨d, rfl⟩ : ∃ x, d = x + 1 := ⟨d - 1, by omega⟩
      simp only [g_142] at h
      cases h
      exact Yret rfl rfl rfl rfl rfl rfl rfl ⟨rfl, rfl⟩
    · intro d hd s r0 i1 i2 i3 ti0 s9 r h lv lk0 lk2 lk3
      obtain ⟨d, rfl⟩ : ∃ x, d = x + 1 := ⟨d - 1, by omega⟩
      simp only [g_142] at h
      refine Vin rfl lk2 rfl ?_
      have hz := y_bind h
      clear h
      obtain ⟨_, h2, h⟩ := hz
      have c1 := q_g_ok h2
      refine Uif (not_congr (q_eq0 c1)) rfl rfl rfl rfl rfl rfl rfl (fun c3 => ?_) (fun c3 => ?_)
      · rw [if_pos c3] at h
        exact ih.2.2.2.2.2.1 _ hd _ _ _ _ _ _ _ _ h lv lk2 lk3
      · rw [if_neg c3] at h
        refine Van rfl lk0 rfl rfl ?_
        refine Vin rfl lk3 rfl ?_
        refine Van rfl lk0 rfl rfl ?_
        have hz := y_bind h
        clear h
        obtain ⟨v4, h5, h⟩ := hz
        refine Zgi (q_gi_y h5) rfl rfl rfl ?_
        have hz := y_bind h
        clear h
        obtain ⟨b10, h11, h⟩ := hz
        obtain ⟨eh11, fh11, wh11⟩ := y_rcv_ok h11
        cases eh11
        have hz := y_bind h
        clear h
        obtain ⟨⟨s6, r7⟩, h8, h⟩ := hz
        try dsimp only at h
        refine Vcv rfl rfl rfl wh11 rfl rfl ⟨(Nat.le_of_ble_eq_true rfl), (Nat.le_of_ble_eq_true rfl)⟩ rfl ((c_104 o n).1 _ (by omega) _ _ _ _ _ _ _ _ _ h8 _ rfl rfl rfl) (fun z1 z2 zq => ?_)
        obtain ⟨rfl, rfl⟩ := zq
        try dsimp only [Option.toList, HAppend.hAppend, Append.append, List.append]
        have hz := y_bind h
        clear h
        obtain ⟨_, h15, h⟩ := hz
        have c14 := q_g_ok h15
        refine Uif (not_congr (q_eq0 c14)) rfl rfl rfl rfl rfl rfl rfl (fun c16 => ?_) (fun c16 => ?_)
        · rw [if_pos c16] at h
          exact ih.2.2.2.2.2.1 _ hd _ _ _ _ _ _ _ _ h lv lk2 lk3
        · rw [if_neg c16] at h
          refine Uinc rfl lk3 rfl (fun lv lk3 hk => ?_)
          have lk0 := hk 0 _ lk0 (by decide) (by decide) (Or.inl (by decide))
          have lk2 := hk 2 _ lk2 (by decide) (by decide) (Or.inr rfl)
          refine Ygo rfl rfl rfl rfl rfl rfl ?_
          exact ih.2.2.2.2.1 _ hd _ _ _ _ _ _ _ _ h lv lk0 lk2 lk3
    · intro d hd s r0 i1 i2 i3 ti0 s9 r h lv lk2 lk3
      obtain ⟨d, rfl⟩ : ∃ x, d = x + 1 := ⟨d - 1, by omega⟩
      simp only [g_142] at h
      refine Vin rfl lk2 rfl ?_
      have hz := y_bind h
      clear h
      obtain ⟨_, h2, h⟩ := hz
      have c1 := q_g_ok h2
      refine Uif (q_eq0 c1) rfl rfl rfl rfl rfl rfl rfl (fun c3 => ?_) (fun c3 => ?_)
      · rw [if_pos c3] at h
        refine Vin rfl lk3 rfl ?_
        exact ih.2.2.2.2.2.2.1 _ hd _ _ _ _ _ _ _ _ h lv trivial
      · rw [if_neg c3] at h
        refine Vic (v := Int32.ofInt (-1)) rfl rfl rfl ?_
        refine Ygo rfl rfl rfl rfl rfl rfl ?_
        exact ih.2.2.2.2.2.2.1 _ hd _ _ _ _ _ _ _ _ h lv trivial
    · intro d hd s r0 i1 i2 i3 ti0 s9 r h lv _
      obtain ⟨d, rfl⟩ : ∃ x, d = x + 1 := ⟨d - 1, by omega⟩
      simp only [g_142] at h
      cases h
      exact Yret rfl rfl rfl rfl rfl rfl rfl ⟨rfl, rfl⟩
    · intro d hd s r0 i1 i2 i3 ti0 s9 r h lv _
      obtain ⟨d, rfl⟩ : ∃ x, d = x + 1 := ⟨d - 1, by omega⟩
      simp only [g_142] at h
      refine Vic (v := Int32.ofInt 0) rfl rfl rfl ?_
      exact ih.2.2.2.2.2.2.2.2 _ hd _ _ _ _ _ _ _ _ h lv trivial
    · intro d hd s r0 i1 i2 i3 ti0 s9 r h lv _
      obtain ⟨d, rfl⟩ : ∃ x, d = x + 1 := ⟨d - 1, by omega⟩
      simp only [g_142] at h
      cases h
      exact Yret rfl rfl rfl rfl rfl rfl rfl ⟨rfl, rfl⟩

/-- StepRowsModel.keep -/
def g_145 (o : X_O) : Nat → Nat → Q_S → Nat → Int → Int → Int → Value → Int → Int → Option (Q_S × Int)
  | 0, _, _, _, _, _, _, _, _, _ => none
  | n + 1, 0, s, r0, i1, i2, i3, ta0, ti1, ti2 => (q_gv s 7 (.ref r0) 51).bind fun v1 => (q_g (q_in i3)).bind fun _ => if i3 = 0 then (q_gv s 7 (.ref r0) 51).bind fun v6 => (q_ia o s v6 i1).bind fun v8 => g_145 o n 1 s r0 (i1) 0 0 (v1) (i1) (v8) else g_145 o n 1 s r0 (i1) 0 0 (v1) (i1) (i2)
  | n + 1, 1, s, r0, i1, i2, i3, ta0, ti1, ti2 => (q_is s ta0 ti1 ti2).bind fun s1 => (q_gv s1 7 (.ref r0) 51).bind fun v3 => (q_ia o s1 v3 i1).bind fun v5 => some (s1, v5)
  | _ + 1, _, _, _, _, _, _, _, _, _ => none
set_option maxRecDepth 100000 in
set_option maxHeartbeats 4000000 in
theorem c_145 (o : X_O) : ∀ n, (∀ (d : Nat) (hd : 0 ≤ d) (s : Q_S) (r0 : Nat) (i1 : Int) (i2 : Int) (i3 : Int) (ta0 : Value) (ti1 : Int) (ti2 : Int) (s9 : Q_S) (r : Int), g_145 o n 0 s r0 i1 i2 i3 ta0 ti1 ti2 = some (s9, r) → ∀ lv : X_L, x_lget lv 0 = some (.ref r0) → x_lget lv 1 = some (.int (Int32.ofInt i1)) → x_lget lv 2 = some (.int (Int32.ofInt i2)) → x_lget lv 3 = some (.int (Int32.ofInt i3)) → Y o d 145 0 lv [] (q_y s) (fun s1 r1 => s1 = q_y s9 ∧ r1 = some (.int (Int32.ofInt r)))) ∧
    (∀ (d : Nat) (hd : 0 ≤ d) (s : Q_S) (r0 : Nat) (i1 : Int) (i2 : Int) (i3 : Int) (ta0 : Value) (ti1 : Int) (ti2 : Int) (s9 : Q_S) (r : Int), g_145 o n 1 s r0 i1 i2 i3 ta0 ti1 ti2 = some (s9, r) → ∀ lv : X_L, x_lget lv 0 = some (.ref r0) → x_lget lv 1 = some (.int (Int32.ofInt i1)) → y_rv ta0 = true → Y o d 145 19 lv [.int (Int32.ofInt ti2), .int (Int32.ofInt ti1), ta0] (q_y s) (fun s1 r1 => s1 = q_y s9 ∧ r1 = some (.int (Int32.ofInt r)))) := by
  intro n
  induction n with
  | zero => exact ⟨fun d hd s _ _ _ _ _ _ _ s9 r h => (by simp only [g_145] at h; cases h), fun d hd s _ _ _ _ _ _ _ s9 r h => (by simp only [g_145] at h; cases h)⟩
  | succ n ih =>
    refine ⟨?_, ?_⟩
    · intro d hd s r0 i1 i2 i3 ta0 ti1 ti2 s9 r h lv lk0 lk1 lk2 lk3
      simp only [g_145] at h
      refine Van rfl lk0 rfl rfl ?_
      have hz := y_bind h
      clear h
      obtain ⟨v1, h2, h⟩ := hz
      have wv1 := (y_gv_ok h2).2
      refine Vgv h2 rfl rfl rfl ?_
      refine Vin rfl lk1 rfl ?_
      refine Vin rfl lk3 rfl ?_
      have hz := y_bind h
      clear h
      obtain ⟨_, h4, h⟩ := hz
      have c3 := q_g_ok h4
      refine Uif (q_eq0 c3) rfl rfl rfl rfl rfl rfl rfl (fun c5 => ?_) (fun c5 => ?_)
      · rw [if_pos c5] at h
        refine Van rfl lk0 rfl rfl ?_
        have hz := y_bind h
        clear h
        obtain ⟨v6, h7, h⟩ := hz
        have wv6 := (y_gv_ok h7).2
        refine Vgv h7 rfl rfl rfl ?_
        refine Vin rfl lk1 rfl ?_
        have hz := y_bind h
        clear h
        obtain ⟨v8, h9, h⟩ := hz
        refine Zia (q_ia_y h9) rfl rfl ?_
        exact ih.2 _ hd _ _ _ _ _ _ _ _ _ _ h lv lk0 lk1 wv1
      · rw [if_neg c5] at h
        refine Vin rfl lk2 rfl ?_
        refine Ygo rfl rfl rfl rfl rfl rfl ?_
        exact ih.2 _ hd _ _ _ _ _ _ _ _ _ _ h lv lk0 lk1 wv1
    · intro d hd s r0 i1 i2 i3 ta0 ti1 ti2 s9 r h lv lk0 lk1 rs0
      simp only [g_145] at h
      have hz := y_bind h
      clear h
      obtain ⟨s1, h2, h⟩ := hz
      refine Zis (q_is_y h2) rfl rfl ?_
      refine Van rfl lk0 rfl rfl ?_
      have hz := y_bind h
      clear h
      obtain ⟨v3, h4, h⟩ := hz
      have wv3 := (y_gv_ok h4).2
      refine Vgv h4 rfl rfl rfl ?_
      refine Vin rfl lk1 rfl ?_
      have hz := y_bind h
      clear h
      obtain ⟨v5, h6, h⟩ := hz
      refine Zia (q_ia_y h6) rfl rfl ?_
      cases h
      exact Yret rfl rfl rfl rfl rfl rfl rfl ⟨rfl, rfl⟩

/-- StepRowsModel.carryNumbers -/
def g_146 (o : X_O) : Nat → Nat → Q_S → Nat → Int → Int → Int → Int → Int64 → Value → Int → Int64 → Int → Option (Q_S × Unit)
  | 0, _, _, _, _, _, _, _, _, _, _, _, _ => none
  | n + 1, 0, s, r0, i1, i2, i3, i4, tl0, ta0, ti1, tl2, ti2 => g_146 o n 1 s r0 (i1) (i2) (0) 0 0 .null 0 0 0
  | n + 1, 1, s, r0, i1, i2, i3, i4, tl0, ta0, ti1, tl2, ti2 => (q_g (q_in i3)).bind fun _ => if 24 ≤ i3 then g_146 o n 5 s r0 (i1) (i2) (0) 0 0 .null 0 0 0 else (q_g (q_in i3)).bind fun _ => if 8 ≤ i3 then (q_gv s 7 (.ref r0) 27).bind fun v7 => (q_la s v7 (i3 - 8)).bind fun v9 => g_146 o n 2 s r0 (i1) (i2) (i3) (((24 * i1) + i3)) (v9) .null 0 0 0 else (q_gv s 7 (.ref r0) 26).bind fun v11 => (q_la s v11 i3).bind fun v13 => g_146 o n 2 s r0 (i1) (i2) (i3) (((24 * i1) + i3)) (v13) .null 0 0 0
  | n + 1, 2, s, r0, i1, i2, i3, i4, tl0, ta0, ti1, tl2, ti2 => (q_gv s 7 (.ref r0) 52).bind fun v1 => (q_g (q_in i2)).bind fun _ => if i2 = 0 then (q_gv s 7 (.ref r0) 52).bind fun v6 => (q_la s v6 i4).bind fun v8 => g_146 o n 3 s r0 (i1) (i2) (i3) (i4) 0 (v1) (i4) (v8) 0 else g_146 o n 3 s r0 (i1) (i2) (i3) (i4) 0 (v1) (i4) (tl0) 0
  | n + 1, 3, s, r0, i1, i2, i3, i4, tl0, ta0, ti1, tl2, ti2 => (q_ls s ta0 ti1 tl2).bind fun s1 => (q_g (q_in i3)).bind fun _ => if 8 ≤ i3 then (q_gv s1 7 (.ref r0) 27).bind fun v6 => (q_gv s1 7 (.ref r0) 52).bind fun v8 => (q_la s1 v8 i4).bind fun v10 => (q_ls s1 v6 (i3 - 8) v10).bind fun s12 => g_146 o n 4 s12 r0 (i1) (i2) (i3) 0 0 .null 0 0 0 else (q_gv s1 7 (.ref r0) 26).bind fun v14 => (q_gv s1 7 (.ref r0) 52).bind fun v16 => (q_la s1 v16 i4).bind fun v18 => (q_ls s1 v14 i3 v18).bind fun s20 => g_146 o n 4 s20 r0 (i1) (i2) (i3) 0 0 .null 0 0 0
  | n + 1, 4, s, r0, i1, i2, i3, i4, tl0, ta0, ti1, tl2, ti2 => g_146 o n 1 s r0 (i1) (i2) ((i3 + 1)) 0 0 .null 0 0 0
  | n + 1, 5, s, r0, i1, i2, i3, i4, tl0, ta0, ti1, tl2, ti2 => (q_g (q_in i3)).bind fun _ => if 8 ≤ i3 then some (s, ()) else (q_gv s 7 (.ref r0) 59).bind fun v4 => (q_g (q_in i2)).bind fun _ => if i2 = 0 then (q_gv s 7 (.ref r0) 59).bind fun v9 => (q_ia o s v9 ((8 * i1) + i3)).bind fun v11 => g_146 o n 6 s r0 (i1) (i2) (i3) 0 0 (v4) (((8 * i1) + i3)) 0 (v11) else (q_gv s 7 (.ref r0) 28).bind fun v13 => (q_ia o s v13 i3).bind fun v15 => g_146 o n 6 s r0 (i1) (i2) (i3) 0 0 (v4) (((8 * i1) + i3)) 0 (v15)
  | n + 1, 6, s, r0, i1, i2, i3, i4, tl0, ta0, ti1, tl2, ti2 => (q_is s ta0 ti1 ti2).bind fun s1 => (q_gv s1 7 (.ref r0) 28).bind fun v3 => (q_gv s1 7 (.ref r0) 59).bind fun v5 => (q_ia o s1 v5 ((8 * i1) + i3)).bind fun v7 => (q_is s1 v3 i3 v7).bind fun s9 => g_146 o n 5 s9 r0 (i1) (i2) ((i3 + 1)) 0 0 .null 0 0 0
  | _ + 1, _, _, _, _, _, _, _, _, _, _, _, _ => none
set_option maxRecDepth 100000 in
set_option maxHeartbeats 4000000 in
theorem c_146 (o : X_O) : ∀ n, (∀ (d : Nat) (hd : 0 ≤ d) (s : Q_S) (r0 : Nat) (i1 : Int) (i2 : Int) (i3 : Int) (i4 : Int) (tl0 : Int64) (ta0 : Value) (ti1 : Int) (tl2 : Int64) (ti2 : Int) (s9 : Q_S) (r : Unit), g_146 o n 0 s r0 i1 i2 i3 i4 tl0 ta0 ti1 tl2 ti2 = some (s9, r) → ∀ lv : X_L, x_lget lv 0 = some (.ref r0) → x_lget lv 1 = some (.int (Int32.ofInt i1)) → x_lget lv 2 = some (.int (Int32.ofInt i2)) → Y o d 146 0 lv [] (q_y s) (fun s1 r1 => s1 = q_y s9 ∧ r1 = none)) ∧
    (∀ (d : Nat) (hd : 0 ≤ d) (s : Q_S) (r0 : Nat) (i1 : Int) (i2 : Int) (i3 : Int) (i4 : Int) (tl0 : Int64) (ta0 : Value) (ti1 : Int) (tl2 : Int64) (ti2 : Int) (s9 : Q_S) (r : Unit), g_146 o n 1 s r0 i1 i2 i3 i4 tl0 ta0 ti1 tl2 ti2 = some (s9, r) → ∀ lv : X_L, x_lget lv 0 = some (.ref r0) → x_lget lv 1 = some (.int (Int32.ofInt i1)) → x_lget lv 2 = some (.int (Int32.ofInt i2)) → x_lget lv 3 = some (.int (Int32.ofInt i3)) → Y o d 146 2 lv [] (q_y s) (fun s1 r1 => s1 = q_y s9 ∧ r1 = none)) ∧
    (∀ (d : Nat) (hd : 0 ≤ d) (s : Q_S) (r0 : Nat) (i1 : Int) (i2 : Int) (i3 : Int) (i4 : Int) (tl0 : Int64) (ta0 : Value) (ti1 : Int) (tl2 : Int64) (ti2 : Int) (s9 : Q_S) (r : Unit), g_146 o n 2 s r0 i1 i2 i3 i4 tl0 ta0 ti1 tl2 ti2 = some (s9, r) → ∀ lv : X_L, x_lget lv 0 = some (.ref r0) → x_lget lv 1 = some (.int (Int32.ofInt i1)) → x_lget lv 2 = some (.int (Int32.ofInt i2)) → x_lget lv 3 = some (.int (Int32.ofInt i3)) → x_lget lv 4 = some (.int (Int32.ofInt i4)) → Y o d 146 40 lv [.long tl0] (q_y s) (fun s1 r1 => s1 = q_y s9 ∧ r1 = none)) ∧
    (∀ (d : Nat) (hd : 0 ≤ d) (s : Q_S) (r0 : Nat) (i1 : Int) (i2 : Int) (i3 : Int) (i4 : Int) (tl0 : Int64) (ta0 : Value) (ti1 : Int) (tl2 : Int64) (ti2 : Int) (s9 : Q_S) (r : Unit), g_146 o n 3 s r0 i1 i2 i3 i4 tl0 ta0 ti1 tl2 ti2 = some (s9, r) → ∀ lv : X_L, x_lget lv 0 = some (.ref r0) → x_lget lv 1 = some (.int (Int32.ofInt i1)) → x_lget lv 2 = some (.int (Int32.ofInt i2)) → x_lget lv 3 = some (.int (Int32.ofInt i3)) → x_lget lv 4 = some (.int (Int32.ofInt i4)) → y_rv ta0 = true → Y o d 146 64 lv [.long tl2, .int (Int32.ofInt ti1), ta0] (q_y s) (fun s1 r1 => s1 = q_y s9 ∧ r1 = none)) ∧
    (∀ (d : Nat) (hd : 0 ≤ d) (s : Q_S) (r0 : Nat) (i1 : Int) (i2 : Int) (i3 : Int) (i4 : Int) (tl0 : Int64) (ta0 : Value) (ti1 : Int) (tl2 : Int64) (ti2 : Int) (s9 : Q_S) (r : Unit), g_146 o n 4 s r0 i1 i2 i3 i4 tl0 ta0 ti1 tl2 ti2 = some (s9, r) → ∀ lv : X_L, x_lget lv 0 = some (.ref r0) → x_lget lv 1 = some (.int (Int32.ofInt i1)) → x_lget lv 2 = some (.int (Int32.ofInt i2)) → x_lget lv 3 = some (.int (Int32.ofInt i3)) → Y o d 146 103 lv [] (q_y s) (fun s1 r1 => s1 = q_y s9 ∧ r1 = none)) ∧
    (∀ (d : Nat) (hd : 0 ≤ d) (s : Q_S) (r0 : Nat) (i1 : Int) (i2 : Int) (i3 : Int) (i4 : Int) (tl0 : Int64) (ta0 : Value) (ti1 : Int) (tl2 : Int64) (ti2 : Int) (s9 : Q_S) (r : Unit), g_146 o n 5 s r0 i1 i2 i3 i4 tl0 ta0 ti1 tl2 ti2 = some (s9, r) → ∀ lv : X_L, x_lget lv 0 = some (.ref r0) → x_lget lv 1 = some (.int (Int32.ofInt i1)) → x_lget lv 2 = some (.int (Int32.ofInt i2)) → x_lget lv 3 = some (.int (Int32.ofInt i3)) → Y o d 146 111 lv [] (q_y s) (fun s1 r1 => s1 = q_y s9 ∧ r1 = none)) ∧
    (∀ (d : Nat) (hd : 0 ≤ d) (s : Q_S) (r0 : Nat) (i1 : Int) (i2 : Int) (i3 : Int) (i4 : Int) (tl0 : Int64) (ta0 : Value) (ti1 : Int) (tl2 : Int64) (ti2 : Int) (s9 : Q_S) (r : Unit), g_146 o n 6 s r0 i1 i2 i3 i4 tl0 ta0 ti1 tl2 ti2 = some (s9, r) → ∀ lv : X_L, x_lget lv 0 = some (.ref r0) → x_lget lv 1 = some (.int (Int32.ofInt i1)) → x_lget lv 2 = some (.int (Int32.ofInt i2)) → x_lget lv 3 = some (.int (Int32.ofInt i3)) → y_rv ta0 = true → Y o d 146 151 lv [.int (Int32.ofInt ti2), .int (Int32.ofInt ti1), ta0] (q_y s) (fun s1 r1 => s1 = q_y s9 ∧ r1 = none)) := by
  intro n
  induction n with
  | zero => exact ⟨fun d hd s _ _ _ _ _ _ _ _ _ _ s9 r h => (by simp only [g_146] at h; cases h), fun d hd s _ _ _ _ _ _ _ _ _ _ s9 r h => (by simp only [g_146] at h; cases h), fun d hd s _ _ _ _ _ _ _ _ _ _ s9 r h => (by simp only [g_146] at h; cases h), fun d hd s _ _ _ _ _ _ _ _ _ _ s9 r h => (by simp only [g_146] at h; cases h), fun d hd s _ _ _ _ _ _ _ _ _ _ s9 r h => (by simp only [g_146] at h; cases h), fun d hd s _ _ _ _ _ _ _ _ _ _ s9 r h => (by simp only [g_146] at h; cases h), fun d hd s _ _ _ _ _ _ _ _ _ _ s9 r h => (by simp only [g_146] at h; cases h)⟩
  | succ n ih =>
    refine ⟨?_, ?_, ?_, ?_, ?_, ?_, ?_⟩
    · intro d hd s r0 i1 i2 i3 i4 tl0 ta0 ti1 tl2 ti2 s9 r h lv lk0 lk1 lk2
      simp only [g_146] at h
      refine Vic (v := Int32.ofInt 0) rfl rfl rfl ?_
      refine Vsin rfl rfl (fun lv lk3 hk => ?_)
      have lk0 := hk 0 _ lk0 (by decide) (by decide) (Or.inl (by decide))
      have lk1 := hk 1 _ lk1 (by decide) (by decide) (Or.inl (by decide))
      have lk2 := hk 2 _ lk2 (by decide) (by decide) (Or.inr rfl)
      exact ih.2.1 _ hd _ _ _ _ _ _ _ _ _ _ _ _ _ h lv lk0 lk1 lk2 lk3
    · intro d hd s r0 i1 i2 i3 i4 tl0 ta0 ti1 tl2 ti2 s9 r h lv lk0 lk1 lk2 lk3
      simp only [g_146] at h
      refine Vin rfl lk3 rfl ?_
      refine Vbp (v := Int32.ofInt 24) rfl (by decide) rfl ?_
      have hz := y_bind h
      clear h
      obtain ⟨_, h2, h⟩ := hz
      have c1 := q_g_ok h2
      refine Uif (q_le (by decide) c1) rfl rfl rfl rfl rfl rfl rfl (fun c3 => ?_) (fun c3 => ?_)
      · rw [if_pos c3] at h
        refine Vic (v := Int32.ofInt 0) rfl rfl rfl ?_
        refine Vsin rfl rfl (fun lv lk3 hk => ?_)
        have lk0 := hk 0 _ lk0 (by decide) (by decide) (Or.inl (by decide))
        have lk1 := hk 1 _ lk1 (by decide) (by decide) (Or.inl (by decide))
        have lk2 := hk 2 _ lk2 (by decide) (by decide) (Or.inr rfl)
        exact ih.2.2.2.2.2.1 _ hd _ _ _ _ _ _ _ _ _ _ _ _ _ h lv lk0 lk1 lk2 lk3
      · rw [if_neg c3] at h
        refine Vbp (v := Int32.ofInt 24) rfl (by decide) rfl ?_
        refine Vin rfl lk1 rfl ?_
        refine Umul rfl rfl ?_
        refine Vin rfl lk3 rfl ?_
        refine Uadd rfl rfl ?_
        refine Vsi rfl rfl (fun lv lk4 hk => ?_)
        have lk0 := hk 0 _ lk0 (by decide) (by decide) (Or.inl (by decide))
        have lk1 := hk 1 _ lk1 (by decide) (by decide) (Or.inl (by decide))
        have lk2 := hk 2 _ lk2 (by decide) (by decide) (Or.inl (by decide))
        have lk3 := hk 3 _ lk3 (by decide) (by decide) (Or.inr rfl)
        refine Vin rfl lk3 rfl ?_
        refine Vbp (v := Int32.ofInt 8) rfl (by decide) rfl ?_
        have hz := y_bind h
        clear h
        obtain ⟨_, h5, h⟩ := hz
        have c4 := q_g_ok h5
        refine Uif (q_le (by decide) c4) rfl rfl rfl rfl rfl rfl rfl (fun c6 => ?_) (fun c6 => ?_)
        · rw [if_pos c6] at h
          refine Van rfl lk0 rfl rfl ?_
          have hz := y_bind h
          clear h
          obtain ⟨v7, h8, h⟩ := hz
          have wv7 := (y_gv_ok h8).2
          refine Vgv h8 rfl rfl rfl ?_
          refine Vin rfl lk3 rfl ?_
          refine Vbp (v := Int32.ofInt 8) rfl (by decide) rfl ?_
          refine Usub rfl rfl ?_
          have hz := y_bind h
          clear h
          obtain ⟨v9, h10, h⟩ := hz
          refine Zla (q_la_y h10) rfl rfl ?_
          exact ih.2.2.1 _ hd _ _ _ _ _ _ _ _ _ _ _ _ _ h lv lk0 lk1 lk2 lk3 lk4
        · rw [if_neg c6] at h
          refine Van rfl lk0 rfl rfl ?_
          have hz := y_bind h
          clear h
          obtain ⟨v11, h12, h⟩ := hz
          have wv11 := (y_gv_ok h12).2
          refine Vgv h12 rfl rfl rfl ?_
          refine Vin rfl lk3 rfl ?_
          have hz := y_bind h
          clear h
          obtain ⟨v13, h14, h⟩ := hz
          refine Zla (q_la_y h14) rfl rfl ?_
          refine Ygo rfl rfl rfl rfl rfl rfl ?_
          exact ih.2.2.1 _ hd _ _ _ _ _ _ _ _ _ _ _ _ _ h lv lk0 lk1 lk2 lk3 lk4
    · intro d hd s r0 i1 i2 i3 i4 tl0 ta0 ti1 tl2 ti2 s9 r h lv lk0 lk1 lk2 lk3 lk4
      simp only [g_146] at h
      refine Vsl rfl rfl (fun lv lk5 hk => ?_)
      have lk0 := hk 0 _ lk0 (by decide) (by decide) (Or.inl (by decide))
      have lk1 := hk 1 _ lk1 (by decide) (by decide) (Or.inl (by decide))
      have lk2 := hk 2 _ lk2 (by decide) (by decide) (Or.inl (by decide))
      have lk3 := hk 3 _ lk3 (by decide) (by decide) (Or.inl (by decide))
      have lk4 := hk 4 _ lk4 (by decide) (by decide) (Or.inr rfl)
      refine Van rfl lk0 rfl rfl ?_
      have hz := y_bind h
      clear h
      obtain ⟨v1, h2, h⟩ := hz
      have wv1 := (y_gv_ok h2).2
      refine Vgv h2 rfl rfl rfl ?_
      refine Vi rfl lk4 rfl ?_
      refine Vin rfl lk2 rfl ?_
      have hz := y_bind h
      clear h
      obtain ⟨_, h4, h⟩ := hz
      have c3 := q_g_ok h4
      refine Uif (q_eq0 c3) rfl rfl rfl rfl rfl rfl rfl (fun c5 => ?_) (fun c5 => ?_)
      · rw [if_pos c5] at h
        refine Van rfl lk0 rfl rfl ?_
        have hz := y_bind h
        clear h
        obtain ⟨v6, h7, h⟩ := hz
        have wv6 := (y_gv_ok h7).2
        refine Vgv h7 rfl rfl rfl ?_
        refine Vi rfl lk4 rfl ?_
        have hz := y_bind h
        clear h
        obtain ⟨v8, h9, h⟩ := hz
        refine Zla (q_la_y h9) rfl rfl ?_
        exact ih.2.2.2.1 _ hd _ _ _ _ _ _ _ _ _ _ _ _ _ h lv lk0 lk1 lk2 lk3 lk4 wv1
      · rw [if_neg c5] at h
        refine Vl rfl lk5 rfl ?_
        refine Ygo rfl rfl rfl rfl rfl rfl ?_
        exact ih.2.2.2.1 _ hd _ _ _ _ _ _ _ _ _ _ _ _ _ h lv lk0 lk1 lk2 lk3 lk4 wv1
    · intro d hd s r0 i1 i2 i3 i4 tl0 ta0 ti1 tl2 ti2 s9 r h lv lk0 lk1 lk2 lk3 lk4 rs0
      simp only [g_146] at h
      have hz := y_bind h
      clear h
      obtain ⟨s1, h2, h⟩ := hz
      refine Zls (q_ls_y h2) rfl rfl ?_
      refine Vin rfl lk3 rfl ?_
      refine Vbp (v := Int32.ofInt 8) rfl (by decide) rfl ?_
      have hz := y_bind h
      clear h
      obtain ⟨_, h4, h⟩ := hz
      have c3 := q_g_ok h4
      refine Uif (q_le (by decide) c3) rfl rfl rfl rfl rfl rfl rfl (fun c5 => ?_) (fun c5 => ?_)
      · rw [if_pos c5] at h
        refine Van rfl lk0 rfl rfl ?_
        have hz := y_bind h
        clear h
        obtain ⟨v6, h7, h⟩ := hz
        have wv6 := (y_gv_ok h7).2
        refine Vgv h7 rfl rfl rfl ?_
        refine Vin rfl lk3 rfl ?_
        refine Vbp (v := Int32.ofInt 8) rfl (by decide) rfl ?_
        refine Usub rfl rfl ?_
        refine Van rfl lk0 rfl rfl ?_
        have hz := y_bind h
        clear h
        obtain ⟨v8, h9, h⟩ := hz
        have wv8 := (y_gv_ok h9).2
        refine Vgv h9 rfl rfl rfl ?_
        refine Vi rfl lk4 rfl ?_
        have hz := y_bind h
        clear h
        obtain ⟨v10, h11, h⟩ := hz
        refine Zla (q_la_y h11) rfl rfl ?_
        have hz := y_bind h
        clear h
        obtain ⟨s12, h13, h⟩ := hz
        refine Zls (q_ls_y h13) rfl rfl ?_
        exact ih.2.2.2.2.1 _ hd _ _ _ _ _ _ _ _ _ _ _ _ _ h lv lk0 lk1 lk2 lk3
      · rw [if_neg c5] at h
        refine Van rfl lk0 rfl rfl ?_
        have hz := y_bind h
        clear h
        obtain ⟨v14, h15, h⟩ := hz
        have wv14 := (y_gv_ok h15).2
        refine Vgv h15 rfl rfl rfl ?_
        refine Vin rfl lk3 rfl ?_
        refine Van rfl lk0 rfl rfl ?_
        have hz := y_bind h
        clear h
        obtain ⟨v16, h17, h⟩ := hz
        have wv16 := (y_gv_ok h17).2
        refine Vgv h17 rfl rfl rfl ?_
        refine Vi rfl lk4 rfl ?_
        have hz := y_bind h
        clear h
        obtain ⟨v18, h19, h⟩ := hz
        refine Zla (q_la_y h19) rfl rfl ?_
        have hz := y_bind h
        clear h
        obtain ⟨s20, h21, h⟩ := hz
        refine Zls (q_ls_y h21) rfl rfl ?_
        refine Ygo rfl rfl rfl rfl rfl rfl ?_
        exact ih.2.2.2.2.1 _ hd _ _ _ _ _ _ _ _ _ _ _ _ _ h lv lk0 lk1 lk2 lk3
    · intro d hd s r0 i1 i2 i3 i4 tl0 ta0 ti1 tl2 ti2 s9 r h lv lk0 lk1 lk2 lk3
      simp only [g_146] at h
      refine Uinc rfl lk3 rfl (fun lv lk3 hk => ?_)
      have lk0 := hk 0 _ lk0 (by decide) (by decide) (Or.inl (by decide))
      have lk1 := hk 1 _ lk1 (by decide) (by decide) (Or.inl (by decide))
      have lk2 := hk 2 _ lk2 (by decide) (by decide) (Or.inr rfl)
      refine Ygo rfl rfl rfl rfl rfl rfl ?_
      exact ih.2.1 _ hd _ _ _ _ _ _ _ _ _ _ _ _ _ h lv lk0 lk1 lk2 lk3
    · intro d hd s r0 i1 i2 i3 i4 tl0 ta0 ti1 tl2 ti2 s9 r h lv lk0 lk1 lk2 lk3
      simp only [g_146] at h
      refine Vin rfl lk3 rfl ?_
      refine Vbp (v := Int32.ofInt 8) rfl (by decide) rfl ?_
      have hz := y_bind h
      clear h
      obtain ⟨_, h2, h⟩ := hz
      have c1 := q_g_ok h2
      refine Uif (q_le (by decide) c1) rfl rfl rfl rfl rfl rfl rfl (fun c3 => ?_) (fun c3 => ?_)
      · rw [if_pos c3] at h
        cases h
        exact Yret rfl rfl rfl rfl rfl rfl rfl ⟨rfl, rfl⟩
      · rw [if_neg c3] at h
        refine Van rfl lk0 rfl rfl ?_
        have hz := y_bind h
        clear h
        obtain ⟨v4, h5, h⟩ := hz
        have wv4 := (y_gv_ok h5).2
        refine Vgv h5 rfl rfl rfl ?_
        refine Vbp (v := Int32.ofInt 8) rfl (by decide) rfl ?_
        refine Vin rfl lk1 rfl ?_
        refine Umul rfl rfl ?_
        refine Vin rfl lk3 rfl ?_
        refine Uadd rfl rfl ?_
        refine Vin rfl lk2 rfl ?_
        have hz := y_bind h
        clear h
        obtain ⟨_, h7, h⟩ := hz
        have c6 := q_g_ok h7
        refine Uif (q_eq0 c6) rfl rfl rfl rfl rfl rfl rfl (fun c8 => ?_) (fun c8 => ?_)
        · rw [if_pos c8] at h
          refine Van rfl lk0 rfl rfl ?_
          have hz := y_bind h
          clear h
          obtain ⟨v9, h10, h⟩ := hz
          have wv9 := (y_gv_ok h10).2
          refine Vgv h10 rfl rfl rfl ?_
          refine Vbp (v := Int32.ofInt 8) rfl (by decide) rfl ?_
          refine Vin rfl lk1 rfl ?_
          refine Umul rfl rfl ?_
          refine Vin rfl lk3 rfl ?_
          refine Uadd rfl rfl ?_
          have hz := y_bind h
          clear h
          obtain ⟨v11, h12, h⟩ := hz
          refine Zia (q_ia_y h12) rfl rfl ?_
          exact ih.2.2.2.2.2.2 _ hd _ _ _ _ _ _ _ _ _ _ _ _ _ h lv lk0 lk1 lk2 lk3 wv4
        · rw [if_neg c8] at h
          refine Van rfl lk0 rfl rfl ?_
          have hz := y_bind h
          clear h
          obtain ⟨v13, h14, h⟩ := hz
          have wv13 := (y_gv_ok h14).2
          refine Vgv h14 rfl rfl rfl ?_
          refine Vin rfl lk3 rfl ?_
          have hz := y_bind h
          clear h
          obtain ⟨v15, h16, h⟩ := hz
          refine Zia (q_ia_y h16) rfl rfl ?_
          refine Ygo rfl rfl rfl rfl rfl rfl ?_
          exact ih.2.2.2.2.2.2 _ hd _ _ _ _ _ _ _ _ _ _ _ _ _ h lv lk0 lk1 lk2 lk3 wv4
    · intro d hd s r0 i1 i2 i3 i4 tl0 ta0 ti1 tl2 ti2 s9 r h lv lk0 lk1 lk2 lk3 rs0
      simp only [g_146] at h
      have hz := y_bind h
      clear h
      obtain ⟨s1, h2, h⟩ := hz
      refine Zis (q_is_y h2) rfl rfl ?_
      refine Van rfl lk0 rfl rfl ?_
      have hz := y_bind h
      clear h
      obtain ⟨v3, h4, h⟩ := hz
      have wv3 := (y_gv_ok h4).2
      refine Vgv h4 rfl rfl rfl ?_
      refine Vin rfl lk3 rfl ?_
      refine Van rfl lk0 rfl rfl ?_
      have hz := y_bind h
      clear h
      obtain ⟨v5, h6, h⟩ := hz
      have wv5 := (y_gv_ok h6).2
      refine Vgv h6 rfl rfl rfl ?_
      refine Vbp (v := Int32.ofInt 8) rfl (by decide) rfl ?_
      refine Vin rfl lk1 rfl ?_
      refine Umul rfl rfl ?_
      refine Vin rfl lk3 rfl ?_
      refine Uadd rfl rfl ?_
      have hz := y_bind h
      clear h
      obtain ⟨v7, h8, h⟩ := hz
      refine Zia (q_ia_y h8) rfl rfl ?_
      have hz := y_bind h
      clear h
      obtain ⟨s9, h10, h⟩ := hz
      refine Zis (q_is_y h10) rfl rfl ?_
      refine Uinc rfl lk3 rfl (fun lv lk3 hk => ?_)
      have lk0 := hk 0 _ lk0 (by decide) (by decide) (Or.inl (by decide))
      have lk1 := hk 1 _ lk1 (by decide) (by decide) (Or.inl (by decide))
      have lk2 := hk 2 _ lk2 (by decide) (by decide) (Or.inr rfl)
      refine Ygo rfl rfl rfl rfl rfl rfl ?_
      exact ih.2.2.2.2.2.1 _ hd _ _ _ _ _ _ _ _ _ _ _ _ _ h lv lk0 lk1 lk2 lk3

