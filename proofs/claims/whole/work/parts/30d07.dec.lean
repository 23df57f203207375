/-- StepRowsModel.push -/
def g_126 (o : X_O) : Nat → Nat → Q_S → Nat → Int → Int → Option (Q_S × Int)
  | 0, _, _, _, _, _ => none
  | n + 1, 0, s, r0, i1, i2 => (q_gv s 7 (.ref r0) 39).bind fun v1 => (q_ia o s v1 i1).bind fun v3 => (q_rcv s 7 (.ref r0)).bind fun b9 => (g_127 o n 0 s b9 (v3) 0).bind fun q8 => (q_g (q_in q8.2)).bind fun _ => if ¬ q8.2 = 60 then g_126 o n 1 q8.1 r0 (i1) (i2) else (q_rcv q8.1 7 (.ref r0)).bind fun b20 => (g_114 o n 0 q8.1 b20 (4) (i2)).bind fun q19 => some (q19.1, 0)
  | n + 1, 1, s, r0, i1, i2 => (q_gv s 7 (.ref r0) 35).bind fun v1 => (q_gi s 7 (.ref r0) 36).bind fun v3 => (q_ba s v1 v3).bind fun v5 => (q_g (q_in v5)).bind fun _ => if v5 = 0 then (q_gi s 7 (.ref r0) 36).bind fun v10 => (q_gv s 7 (.ref r0) 35).bind fun v12 => (q_bs s v12 v10 1).bind fun s14 => (q_gv s14 7 (.ref r0) 29).bind fun v16 => (q_is s14 v16 v10 i2).bind fun s18 => (q_gv s18 7 (.ref r0) 30).bind fun v20 => (q_gv s18 7 (.ref r0) 39).bind fun v22 => (q_ia o s18 v22 i1).bind fun v24 => (q_is s18 v20 v10 v24).bind fun s26 => (q_gv s26 7 (.ref r0) 31).bind fun v28 => (q_gv s26 7 (.ref r0) 39).bind fun v30 => (q_ia o s26 v30 i1).bind fun v32 => (q_rcv s26 7 (.ref r0)).bind fun b38 => (g_127 o n 0 s26 b38 (v32) 0).bind fun q37 => (q_is q37.1 v28 v10 (q37.2 + 1)).bind fun s42 => (q_gv s42 7 (.ref r0) 32).bind fun v44 => (q_ls s42 v44 v10 0).bind fun s46 => (q_gv s46 7 (.ref r0) 33).bind fun v48 => (q_is s46 v48 v10 (-1)).bind fun s50 => (q_gv s50 7 (.ref r0) 34).bind fun v52 => (q_is s50 v52 v10 (-1)).bind fun s54 => (q_gv s54 7 (.ref r0) 39).bind fun v56 => (q_is s54 v56 i1 v10).bind fun s58 => some (s58, 1) else (q_gi s 7 (.ref r0) 36).bind fun v60 => (q_g (0 ≤ (v60 + 1) ∧ (v60 + 1) < 2147483648 ∧ (0 : Int) < 6144 ∧ (6144 : Int) < 2147483648)).bind fun _ => (q_pi s 7 (.ref r0) 36 ((v60 + 1) % 6144)).bind fun s64 => g_126 o n 1 s64 r0 (i1) (i2)
  | _ + 1, _, _, _, _, _ => none
set_option maxRecDepth 100000 in
set_option maxHeartbeats 4000000 in
theorem c_126 (o : X_O) : ∀ n, (∀ (d : Nat) (hd : 1 ≤ d) (s : Q_S) (r0 : Nat) (i1 : Int) (i2 : Int) (s9 : Q_S) (r : Int), g_126 o n 0 s r0 i1 i2 = some (s9, r) → ∀ lv : X_L, x_lget lv 0 = some (.ref r0) → x_lget lv 1 = some (.int (Int32.ofInt i1)) → x_lget lv 2 = some (.int (Int32.ofInt i2)) → Y o d 126 0 lv [] (q_y s) (fun s1 r1 => s1 = q_y s9 ∧ r1 = some (.int (Int32.ofInt r)))) ∧
    (∀ (d : Nat) (hd : 1 ≤ d) (s : Q_S) (r0 : Nat) (i1 : Int) (i2 : Int) (s9 : Q_S) (r : Int), g_126 o n 1 s r0 i1 i2 = some (s9, r) → ∀ lv : X_L, x_lget lv 0 = some (.ref r0) → x_lget lv 1 = some (.int (Int32.ofInt i1)) → x_lget lv 2 = some (.int (Int32.ofInt i2)) → Y o d 126 23 lv [] (q_y s) (fun s1 r1 => s1 = q_y s9 ∧ r1 = some (.int (Int32.ofInt r)))) := by
  intro n
  induction n with
  | zero => exact ⟨fun d hd s _ _ _ s9 r h => (by simp only [g_126] at h; cases h), fun d hd s _ _ _ s9 r h => (by simp only [g_126] at h; cases h)⟩
  | succ n ih =>
    refine ⟨?_, ?_⟩
    · intro d hd s r0 i1 i2 s9 r h lv lk0 lk1 lk2
      obtain ⟨d, rfl⟩ : ∃ x, d = x + 1 := ⟨d - 1, by omega⟩
      simp only [g_126] at h
      refine Van rfl lk0 rfl rfl ?_
      refine Van rfl lk0 rfl rfl ?_
      have hz := y_bind h
      clear h
      obtain ⟨v1, h2, h⟩ := hz
      have wv1 := (y_gv_ok h2).2
      refine Vgv h2 rfl rfl rfl ?_
      refine Vin rfl lk1 rfl ?_
      have hz := y_bind h
      clear h
      obtain ⟨v3, h4, h⟩ := hz
      refine Zia (q_ia_y h4) rfl rfl ?_
      have hz := y_bind h
      clear h
      obtain ⟨b9, h10, h⟩ := hz
      obtain ⟨eh10, fh10, wh10⟩ := y_rcv_ok h10
      cases eh10
      have hz := y_bind h
      clear h
      obtain ⟨⟨s5, r6⟩, h7, h⟩ := hz
      try dsimp only at h
      refine Vcv rfl rfl rfl wh10 rfl rfl ⟨(Nat.le_of_ble_eq_true rfl), (Nat.le_of_ble_eq_true rfl)⟩ rfl ((c_127 o n).1 _ (by omega) _ _ _ _ _ _ h7 _ rfl rfl) (fun z1 z2 zq => ?_)
      obtain ⟨rfl, rfl⟩ := zq
      try dsimp only [Option.toList, HAppend.hAppend, Append.append, List.append]
      refine Vbp (v := Int32.ofInt 60) rfl (by decide) rfl ?_
      have hz := y_bind h
      clear h
      obtain ⟨_, h14, h⟩ := hz
      have c13 := q_g_ok h14
      refine Uif (not_congr (q_eq c13 (by decide))) rfl rfl rfl rfl rfl rfl rfl (fun c15 => ?_) (fun c15 => ?_)
      · rw [if_pos c15] at h
        exact ih.2 _ hd _ _ _ _ _ _ h lv lk0 lk1 lk2
      · rw [if_neg c15] at h
        refine Van rfl lk0 rfl rfl ?_
        refine Vic (v := Int32.ofInt 4) rfl rfl rfl ?_
        refine Vin rfl lk2 rfl ?_
        have hz := y_bind h
        clear h
        obtain ⟨b20, h21, h⟩ := hz
        obtain ⟨eh21, fh21, wh21⟩ := y_rcv_ok h21
        cases eh21
        have hz := y_bind h
        clear h
        obtain ⟨⟨s16, r17⟩, h18, h⟩ := hz
        try dsimp only at h
        refine Vcv rfl rfl rfl wh21 rfl rfl ⟨(Nat.le_of_ble_eq_true rfl), (Nat.le_of_ble_eq_true rfl)⟩ rfl ((c_114 o n).1 _ (by omega) _ _ _ _ _ _ h18 _ rfl rfl rfl) (fun z1 z2 zq => ?_)
        obtain ⟨rfl, rfl⟩ := zq
        try dsimp only [Option.toList, HAppend.hAppend, Append.append, List.append]
        refine Vic (v := Int32.ofInt 0) rfl rfl rfl ?_
        cases h
        exact Yret rfl rfl rfl rfl rfl rfl rfl ⟨rfl, rfl⟩
    · intro d hd s r0 i1 i2 s9 r h lv lk0 lk1 lk2
      obtain ⟨d, rfl⟩ : ∃ x, d = x + 1 := ⟨d - 1, by omega⟩
      simp only [g_126] at h
      refine Van rfl lk0 rfl rfl ?_
      have hz := y_bind h
      clear h
      obtain ⟨v1, h2, h⟩ := hz
      have wv1 := (y_gv_ok h2).2
      refine Vgv h2 rfl rfl rfl ?_
      refine Van rfl lk0 rfl rfl ?_
      have hz := y_bind h
      clear h
      obtain ⟨v3, h4, h⟩ := hz
      refine Zgi (q_gi_y h4) rfl rfl rfl ?_
      have hz := y_bind h
      clear h
      obtain ⟨v5, h6, h⟩ := hz
      refine Zba (q_ba_y h6) rfl rfl ?_
      have hz := y_bind h
      clear h
      obtain ⟨_, h8, h⟩ := hz
      have c7 := q_g_ok h8
      refine Uif (q_eq0 c7) rfl rfl rfl rfl rfl rfl rfl (fun c9 => ?_) (fun c9 => ?_)
      · rw [if_pos c9] at h
        refine Van rfl lk0 rfl rfl ?_
        have hz := y_bind h
        clear h
        obtain ⟨v10, h11, h⟩ := hz
        refine Zgi (q_gi_y h11) rfl rfl rfl ?_
        refine Vsin rfl rfl (fun lv lk3 hk => ?_)
        have lk0 := hk 0 _ lk0 (by decide) (by decide) (Or.inl (by decide))
        have lk1 := hk 1 _ lk1 (by decide) (by decide) (Or.inl (by decide))
        have lk2 := hk 2 _ lk2 (by decide) (by decide) (Or.inr rfl)
        refine Van rfl lk0 rfl rfl ?_
        have hz := y_bind h
        clear h
        obtain ⟨v12, h13, h⟩ := hz
        have wv12 := (y_gv_ok h13).2
        refine Vgv h13 rfl rfl rfl ?_
        refine Vin rfl lk3 rfl ?_
        refine Vic (v := Int32.ofInt 1) rfl rfl rfl ?_
        have hz := y_bind h
        clear h
        obtain ⟨s14, h15, h⟩ := hz
        refine Zbs (q_bs_y h15) rfl rfl ?_
        refine Van rfl lk0 rfl rfl ?_
        have hz := y_bind h
        clear h
        obtain ⟨v16, h17, h⟩ := hz
        have wv16 := (y_gv_ok h17).2
        refine Vgv h17 rfl rfl rfl ?_
        refine Vin rfl lk3 rfl ?_
        refine Vin rfl lk2 rfl ?_
        have hz := y_bind h
        clear h
        obtain ⟨s18, h19, h⟩ := hz
        refine Zis (q_is_y h19) rfl rfl ?_
        refine Van rfl lk0 rfl rfl ?_
        have hz := y_bind h
        clear h
        obtain ⟨v20, h21, h⟩ := hz
        have wv20 := (y_gv_ok h21).2
        refine Vgv h21 rfl rfl rfl ?_
        refine Vin rfl lk3 rfl ?_
        refine Van rfl lk0 rfl rfl ?_
        have hz := y_bind h
        clear h
        obtain ⟨v22, h23, h⟩ := hz
        have wv22 := (y_gv_ok h23).2
        refine Vgv h23 rfl rfl rfl ?_
        refine Vin rfl lk1 rfl ?_
        have hz := y_bind h
        clear h
        obtain ⟨v24, h25, h⟩ := hz
        refine Zia (q_ia_y h25) rfl rfl ?_
        have hz := y_bind h
        clear h
        obtain ⟨s26, h27, h⟩ := hz
        refine Zis (q_is_y h27) rfl rfl ?_
        refine Van rfl lk0 rfl rfl ?_
        have hz := y_bind h
        clear h
        obtain ⟨v28, h29, h⟩ := hz
        have wv28 := (y_gv_ok h29).2
        refine Vgv h29 rfl rfl rfl ?_
        refine Vin rfl lk3 rfl ?_
        refine Van rfl lk0 rfl rfl ?_
        refine Van rfl lk0 rfl rfl ?_
        have hz := y_bind h
        clear h
        obtain ⟨v30, h31, h⟩ := hz
        have wv30 := (y_gv_ok h31).2
        refine Vgv h31 rfl rfl rfl ?_
        refine Vin rfl lk1 rfl ?_
        have hz := y_bind h
        clear h
        obtain ⟨v32, h33, h⟩ := hz
        refine Zia (q_ia_y h33) rfl rfl ?_
        have hz := y_bind h
        clear h
        obtain ⟨b38, h39, h⟩ := hz
        obtain ⟨eh39, fh39, wh39⟩ := y_rcv_ok h39
        cases eh39
        have hz := y_bind h
        clear h
        obtain ⟨⟨s34, r35⟩, h36, h⟩ := hz
        try dsimp only at h
        refine Vcv rfl rfl rfl wh39 rfl rfl ⟨(by simp only [List.take, List.reverse_cons, List.reverse_nil, List.nil_append, List.cons_append, List.map_cons, List.map_nil, y_cati, y_catl, y_catr, y_catn, y_cata, y_rv_cat wv28, List.sum_cons, List.sum_nil]; decide +kernel), (Nat.le_of_ble_eq_true rfl)⟩ rfl ((c_127 o n).1 _ (by omega) _ _ _ _ _ _ h36 _ rfl rfl) (fun z1 z2 zq => ?_)
        obtain ⟨rfl, rfl⟩ := zq
        try dsimp only [Option.toList, HAppend.hAppend, Append.append, List.append]
        refine Vic (v := Int32.ofInt 1) rfl rfl rfl ?_
        refine Uadd rfl rfl ?_
        have hz := y_bind h
        clear h
        obtain ⟨s42, h43, h⟩ := hz
        refine Zis (q_is_y h43) rfl rfl ?_
        refine Van rfl lk0 rfl rfl ?_
        have hz := y_bind h
        clear h
        obtain ⟨v44, h45, h⟩ := hz
        have wv44 := (y_gv_ok h45).2
        refine Vgv h45 rfl rfl rfl ?_
        refine Vin rfl lk3 rfl ?_
        refine Vlc (v := 0) rfl (by decide) rfl ?_
        have hz := y_bind h
        clear h
        obtain ⟨s46, h47, h⟩ := hz
        refine Zls (q_ls_y h47) rfl rfl ?_
        refine Van rfl lk0 rfl rfl ?_
        have hz := y_bind h
        clear h
        obtain ⟨v48, h49, h⟩ := hz
        have wv48 := (y_gv_ok h49).2
        refine Vgv h49 rfl rfl rfl ?_
        refine Vin rfl lk3 rfl ?_
        refine Vic (v := Int32.ofInt (-1)) rfl rfl rfl ?_
        have hz := y_bind h
        clear h
        obtain ⟨s50, h51, h⟩ := hz
        refine Zis (q_is_y h51) rfl rfl ?_
        refine Van rfl lk0 rfl rfl ?_
        have hz := y_bind h
        clear h
        obtain ⟨v52, h53, h⟩ := hz
        have wv52 := (y_gv_ok h53).2
        refine Vgv h53 rfl rfl rfl ?_
        refine Vin rfl lk3 rfl ?_
        refine Vic (v := Int32.ofInt (-1)) rfl rfl rfl ?_
        have hz := y_bind h
        clear h
        obtain ⟨s54, h55, h⟩ := hz
        refine Zis (q_is_y h55) rfl rfl ?_
        refine Van rfl lk0 rfl rfl ?_
        have hz := y_bind h
        clear h
        obtain ⟨v56, h57, h⟩ := hz
        have wv56 := (y_gv_ok h57).2
        refine Vgv h57 rfl rfl rfl ?_
        refine Vin rfl lk1 rfl ?_
        refine Vin rfl lk3 rfl ?_
        have hz := y_bind h
        clear h
        obtain ⟨s58, h59, h⟩ := hz
        refine Zis (q_is_y h59) rfl rfl ?_
        refine Vic (v := Int32.ofInt 1) rfl rfl rfl ?_
        cases h
        exact Yret rfl rfl rfl rfl rfl rfl rfl ⟨rfl, rfl⟩
      · rw [if_neg c9] at h
        refine Van rfl lk0 rfl rfl ?_
        refine Van rfl lk0 rfl rfl ?_
        have hz := y_bind h
        clear h
        obtain ⟨v60, h61, h⟩ := hz
        refine Zgi (q_gi_y h61) rfl rfl rfl ?_
        refine Vic (v := Int32.ofInt 1) rfl rfl rfl ?_
        refine Uadd rfl rfl ?_
        refine Vsp (v := Int32.ofInt 6144) rfl (by decide) rfl ?_
        have hz := y_bind h
        clear h
        obtain ⟨_, h63, h⟩ := hz
        have c62 := q_g_ok h63
        refine Urem c62 rfl rfl ?_
        have hz := y_bind h
        clear h
        obtain ⟨s64, h65, h⟩ := hz
        refine Zpi (q_pi_y h65) rfl rfl rfl rfl ?_
        refine Ygo rfl rfl rfl rfl rfl rfl ?_
        exact ih.2 _ hd _ _ _ _ _ _ h lv lk0 lk1 lk2

/-- StepRowsModel.side -/
def g_128 (o : X_O) : Nat → Nat → Q_S → Nat → Int → Int → Option (Q_S × Unit)
  | 0, _, _, _, _, _ => none
  | n + 1, 0, s, r0, i1, i2 => (q_gv s 7 (.ref r0) 39).bind fun v1 => (q_ia o s v1 i1).bind fun v3 => (q_rcv s 7 (.ref r0)).bind fun b9 => (g_127 o n 0 s b9 (v3) 0).bind fun q8 => (q_g (q_in q8.2)).bind fun _ => if q8.2 = 60 then g_128 o n 1 q8.1 r0 0 (i2) else (q_gi q8.1 7 (.ref r0) 45).bind fun v16 => (q_g (q_in (1 + (2 * (v16 + 1))))).bind fun _ => if (1 + (2 * (v16 + 1))) ≤ 100 then (q_rcv q8.1 7 (.ref r0)).bind fun b25 => (g_126 o n 0 q8.1 b25 (i1) (i2)).bind fun q24 => (q_gi q24.1 7 (.ref r0) 45).bind fun v29 => (q_pi q24.1 7 (.ref r0) 45 (v29 + 1)).bind fun s31 => (q_gv s31 7 (.ref r0) 33).bind fun v33 => (q_gv s31 7 (.ref r0) 39).bind fun v35 => (q_ia o s31 v35 i1).bind fun v37 => (q_gv s31 7 (.ref r0) 39).bind fun v39 => (q_ia o s31 v39 i1).bind fun v41 => (q_rcv s31 7 (.ref r0)).bind fun b47 => (g_112 o n 0 s31 b47 (i2)).bind fun q46 => (q_rcv q46.1 7 (.ref r0)).bind fun b55 => (g_107 o n 0 q46.1 b55 (v41) (q46.2) 0).bind fun q54 => (q_is q54.1 v33 v37 q54.2).bind fun s59 => (q_gv s59 7 (.ref r0) 34).bind fun v61 => (q_gv s59 7 (.ref r0) 39).bind fun v63 => (q_ia o s59 v63 i1).bind fun v65 => (q_gv s59 7 (.ref r0) 39).bind fun v67 => (q_ia o s59 v67 i1).bind fun v69 => (q_rcv s59 7 (.ref r0)).bind fun b75 => (g_116 o n 0 s59 b75 (i2)).bind fun q74 => (q_rcv q74.1 7 (.ref r0)).bind fun b83 => (g_107 o n 0 q74.1 b83 (v69) (q74.2) 0).bind fun q82 => (q_is q82.1 v61 v65 q82.2).bind fun s87 => (q_gv s87 7 (.ref r0) 37).bind fun v89 => (q_is s87 v89 i1 4).bind fun s91 => some (s91, ()) else g_128 o n 1 q8.1 r0 0 (i2)
  | n + 1, 1, s, r0, i1, i2 => (q_rcv s 7 (.ref r0)).bind fun b5 => (g_114 o n 0 s b5 (4) (i2)).bind fun q4 => some (q4.1, ())
  | _ + 1, _, _, _, _, _ => none
set_option maxRecDepth 100000 in
set_option maxHeartbeats 4000000 in
theorem c_128 (o : X_O) : ∀ n, (∀ (d : Nat) (hd : 2 ≤ d) (s : Q_S) (r0 : Nat) (i1 : Int) (i2 : Int) (s9 : Q_S) (r : Unit), g_128 o n 0 s r0 i1 i2 = some (s9, r) → ∀ lv : X_L, x_lget lv 0 = some (.ref r0) → x_lget lv 1 = some (.int (Int32.ofInt i1)) → x_lget lv 2 = some (.int (Int32.ofInt i2)) → Y o d 128 0 lv [] (q_y s) (fun s1 r1 => s1 = q_y s9 ∧ r1 = none)) ∧
    (∀ (d : Nat) (hd : 2 ≤ d) (s : Q_S) (r0 : Nat) (i1 : Int) (i2 : Int) (s9 : Q_S) (r : Unit), g_128 o n 1 s r0 i1 i2 = some (s9, r) → ∀ lv : X_L, x_lget lv 0 = some (.ref r0) → x_lget lv 2 = some (.int (Int32.ofInt i2)) → Y o d 128 30 lv [] (q_y s) (fun s1 r1 => s1 = q_y s9 ∧ r1 = none)) := by
  intro n
  induction n with
  | zero => exact ⟨fun d hd s _ _ _ s9 r h => (by simp only [g_128] at h; cases h), fun d hd s _ _ _ s9 r h => (by simp only [g_128] at h; cases h)⟩
  | succ n ih =>
    refine ⟨?_, ?_⟩
    · intro d hd s r0 i1 i2 s9 r h lv lk0 lk1 lk2
      obtain ⟨d, rfl⟩ : ∃ x, d = x + 1 := ⟨d - 1, by omega⟩
      simp only [g_128] at h
      refine Van rfl lk0 rfl rfl ?_
      refine Van rfl lk0 rfl rfl ?_
      have hz := y_bind h
      clear h
      obtain ⟨v1, h2, h⟩ := hz
      have wv1 := (y_gv_ok h2).2
      refine Vgv h2 rfl rfl rfl ?_
      refine Vin rfl lk1 rfl ?_
      have hz := y_bind h
      clear h
      obtain ⟨v3, h4, h⟩ := hz
      refine Zia (q_ia_y h4) rfl rfl ?_
      have hz := y_bind h
      clear h
      obtain ⟨b9, h10, h⟩ := hz
      obtain ⟨eh10, fh10, wh10⟩ := y_rcv_ok h10
      cases eh10
      have hz := y_bind h
      clear h
      obtain ⟨⟨s5, r6⟩, h7, h⟩ := hz
      try dsimp only at h
      refine Vcv rfl rfl rfl wh10 rfl rfl ⟨(Nat.le_of_ble_eq_true rfl), (Nat.le_of_ble_eq_true rfl)⟩ rfl ((c_127 o n).1 _ (by omega) _ _ _ _ _ _ h7 _ rfl rfl) (fun z1 z2 zq => ?_)
      obtain ⟨rfl, rfl⟩ := zq
      try dsimp only [Option.toList, HAppend.hAppend, Append.append, List.append]
      refine Vbp (v := Int32.ofInt 60) rfl (by decide) rfl ?_
      have hz := y_bind h
      clear h
      obtain ⟨_, h14, h⟩ := hz
      have c13 := q_g_ok h14
      refine Uif (q_eq c13 (by decide)) rfl rfl rfl rfl rfl rfl rfl (fun c15 => ?_) (fun c15 => ?_)
      · rw [if_pos c15] at h
        exact ih.2 _ hd _ _ _ _ _ _ h lv lk0 lk2
      · rw [if_neg c15] at h
        refine Vic (v := Int32.ofInt 1) rfl rfl rfl ?_
        refine Vic (v := Int32.ofInt 2) rfl rfl rfl ?_
        refine Van rfl lk0 rfl rfl ?_
        have hz := y_bind h
        clear h
        obtain ⟨v16, h17, h⟩ := hz
        refine Zgi (q_gi_y h17) rfl rfl rfl ?_
        refine Vic (v := Int32.ofInt 1) rfl rfl rfl ?_
        refine Uadd rfl rfl ?_
        refine Umul rfl rfl ?_
        refine Uadd rfl rfl ?_
        refine Vbp (v := Int32.ofInt 100) rfl (by decide) rfl ?_
        have hz := y_bind h
        clear h
        obtain ⟨_, h19, h⟩ := hz
        have c18 := q_g_ok h19
        refine Uif (q_le c18 (by decide)) rfl rfl rfl rfl rfl rfl rfl (fun c20 => ?_) (fun c20 => ?_)
        · rw [if_pos c20] at h
          refine Van rfl lk0 rfl rfl ?_
          refine Vin rfl lk1 rfl ?_
          refine Vin rfl lk2 rfl ?_
          have hz := y_bind h
          clear h
          obtain ⟨b25, h26, h⟩ := hz
          obtain ⟨eh26, fh26, wh26⟩ := y_rcv_ok h26
          cases eh26
          have hz := y_bind h
          clear h
          obtain ⟨⟨s21, r22⟩, h23, h⟩ := hz
          try dsimp only at h
          refine Vcv rfl rfl rfl wh26 rfl rfl ⟨(Nat.le_of_ble_eq_true rfl), (Nat.le_of_ble_eq_true rfl)⟩ rfl ((c_126 o n).1 _ (by omega) _ _ _ _ _ _ h23 _ rfl rfl rfl) (fun z1 z2 zq => ?_)
          obtain ⟨rfl, rfl⟩ := zq
          try dsimp only [Option.toList, HAppend.hAppend, Append.append, List.append]
          refine Vsin rfl rfl (fun lv lk3 hk => ?_)
          have lk0 := hk 0 _ lk0 (by decide) (by decide) (Or.inl (by decide))
          have lk1 := hk 1 _ lk1 (by decide) (by decide) (Or.inl (by decide))
          have lk2 := hk 2 _ lk2 (by decide) (by decide) (Or.inr rfl)
          refine Van rfl lk0 rfl rfl ?_
          refine Vdup rfl rfl rfl ?_
          have hz := y_bind h
          clear h
          obtain ⟨v29, h30, h⟩ := hz
          refine Zgi (q_gi_y h30) rfl rfl rfl ?_
          refine Vic (v := Int32.ofInt 1) rfl rfl rfl ?_
          refine Uadd rfl rfl ?_
          have hz := y_bind h
          clear h
          obtain ⟨s31, h32, h⟩ := hz
          refine Zpi (q_pi_y h32) rfl rfl rfl rfl ?_
          refine Van rfl lk0 rfl rfl ?_
          have hz := y_bind h
          clear h
          obtain ⟨v33, h34, h⟩ := hz
          have wv33 := (y_gv_ok h34).2
          refine Vgv h34 rfl rfl rfl ?_
          refine Van rfl lk0 rfl rfl ?_
          have hz := y_bind h
          clear h
          obtain ⟨v35, h36, h⟩ := hz
          have wv35 := (y_gv_ok h36).2
          refine Vgv h36 rfl rfl rfl ?_
          refine Vin rfl lk1 rfl ?_
          have hz := y_bind h
          clear h
          obtain ⟨v37, h38, h⟩ := hz
          refine Zia (q_ia_y h38) rfl rfl ?_
          refine Van rfl lk0 rfl rfl ?_
          refine Van rfl lk0 rfl rfl ?_
          have hz := y_bind h
          clear h
          obtain ⟨v39, h40, h⟩ := hz
          have wv39 := (y_gv_ok h40).2
          refine Vgv h40 rfl rfl rfl ?_
          refine Vin rfl lk1 rfl ?_
          have hz := y_bind h
          clear h
          obtain ⟨v41, h42, h⟩ := hz
          refine Zia (q_ia_y h42) rfl rfl ?_
          refine Van rfl lk0 rfl rfl ?_
          refine Vin rfl lk2 rfl ?_
          have hz := y_bind h
          clear h
          obtain ⟨b47, h48, h⟩ := hz
          obtain ⟨eh48, fh48, wh48⟩ := y_rcv_ok h48
          cases eh48
          have hz := y_bind h
          clear h
          obtain ⟨⟨s43, r44⟩, h45, h⟩ := hz
          try dsimp only at h
          refine Vcv rfl rfl rfl wh48 rfl rfl ⟨(by simp only [List.take, List.reverse_cons, List.reverse_nil, List.nil_append, List.cons_append, List.map_cons, List.map_nil, y_cati, y_catl, y_catr, y_catn, y_cata, y_rv_cat wv33, List.sum_cons, List.sum_nil]; decide +kernel), (Nat.le_of_ble_eq_true rfl)⟩ rfl ((c_112 o n) _ (by omega) _ _ _ _ _ h45 _ rfl rfl) (fun z1 z2 zq => ?_)
          obtain ⟨rfl, rfl⟩ := zq
          try dsimp only [Option.toList, HAppend.hAppend, Append.append, List.append]
          have hz := y_bind h
          clear h
          obtain ⟨b55, h56, h⟩ := hz
          obtain ⟨eh56, fh56, wh56⟩ := y_rcv_ok h56
          cases eh56
          have hz := y_bind h
          clear h
          obtain ⟨⟨s51, r52⟩, h53, h⟩ := hz
          try dsimp only at h
          refine Vcv rfl rfl rfl wh56 rfl rfl ⟨(by simp only [List.take, List.reverse_cons, List.reverse_nil, List.nil_append, List.cons_append, List.map_cons, List.map_nil, y_cati, y_catl, y_catr, y_catn, y_cata, y_rv_cat wv33, List.sum_cons, List.sum_nil]; decide +kernel), (Nat.le_of_ble_eq_true rfl)⟩ rfl ((c_107 o n).1 _ (by omega) _ _ _ _ _ _ _ h53 _ rfl rfl rfl) (fun z1 z2 zq => ?_)
          obtain ⟨rfl, rfl⟩ := zq
          try dsimp only [Option.toList, HAppend.hAppend, Append.append, List.append]
          have hz := y_bind h
          clear h
          obtain ⟨s59, h60, h⟩ := hz
          refine Zis (q_is_y h60) rfl rfl ?_
          refine Van rfl lk0 rfl rfl ?_
          have hz := y_bind h
          clear h
          obtain ⟨v61, h62, h⟩ := hz
          have wv61 := (y_gv_ok h62).2
          refine Vgv h62 rfl rfl rfl ?_
          refine Van rfl lk0 rfl rfl ?_
          have hz := y_bind h
          clear h
          obtain ⟨v63, h64, h⟩ := hz
          have wv63 := (y_gv_ok h64).2
          refine Vgv h64 rfl rfl rfl ?_
          refine Vin rfl lk1 rfl ?_
          have hz := y_bind h
          clear h
          obtain ⟨v65, h66, h⟩ := hz
          refine Zia (q_ia_y h66) rfl rfl ?_
          refine Van rfl lk0 rfl rfl ?_
          refine Van rfl lk0 rfl rfl ?_
          have hz := y_bind h
          clear h
          obtain ⟨v67, h68, h⟩ := hz
          have wv67 := (y_gv_ok h68).2
          refine Vgv h68 rfl rfl rfl ?_
          refine Vin rfl lk1 rfl ?_
          have hz := y_bind h
          clear h
          obtain ⟨v69, h70, h⟩ := hz
          refine Zia (q_ia_y h70) rfl rfl ?_
          refine Van rfl lk0 rfl rfl ?_
          refine Vin rfl lk2 rfl ?_
          have hz := y_bind h
          clear h
          obtain ⟨b75, h76, h⟩ := hz
          obtain ⟨eh76, fh76, wh76⟩ := y_rcv_ok h76
          cases eh76
          have hz := y_bind h
          clear h
          obtain ⟨⟨s71, r72⟩, h73, h⟩ := hz
          try dsimp only at h
          refine Vcv rfl rfl rfl wh76 rfl rfl ⟨(by simp only [List.take, List.reverse_cons, List.reverse_nil, List.nil_append, List.cons_append, List.map_cons, List.map_nil, y_cati, y_catl, y_catr, y_catn, y_cata, y_rv_cat wv61, List.sum_cons, List.sum_nil]; decide +kernel), (Nat.le_of_ble_eq_true rfl)⟩ rfl ((c_116 o n) _ (by omega) _ _ _ _ _ h73 _ rfl rfl) (fun z1 z2 zq => ?_)
          obtain ⟨rfl, rfl⟩ := zq
          try dsimp only [Option.toList, HAppend.hAppend, Append.append, List.append]
          have hz := y_bind h
          clear h
          obtain ⟨b83, h84, h⟩ := hz
          obtain ⟨eh84, fh84, wh84⟩ := y_rcv_ok h84
          cases eh84
          have hz := y_bind h
          clear h
          obtain ⟨⟨s79, r80⟩, h81, h⟩ := hz
          try dsimp only at h
          refine Vcv rfl rfl rfl wh84 rfl rfl ⟨(by simp only [List.take, List.reverse_cons, List.reverse_nil, List.nil_append, List.cons_append, List.map_cons, List.map_nil, y_cati, y_catl, y_catr, y_catn, y_cata, y_rv_cat wv61, List.sum_cons, List.sum_nil]; decide +kernel), (Nat.le_of_ble_eq_true rfl)⟩ rfl ((c_107 o n).1 _ (by omega) _ _ _ _ _ _ _ h81 _ rfl rfl rfl) (fun z1 z2 zq => ?_)
          obtain ⟨rfl, rfl⟩ := zq
          try dsimp only [Option.toList, HAppend.hAppend, Append.append, List.append]
          have hz := y_bind h
          clear h
          obtain ⟨s87, h88, h⟩ := hz
          refine Zis (q_is_y h88) rfl rfl ?_
          refine Van rfl lk0 rfl rfl ?_
          have hz := y_bind h
          clear h
          obtain ⟨v89, h90, h⟩ := hz
          have wv89 := (y_gv_ok h90).2
          refine Vgv h90 rfl rfl rfl ?_
          refine Vin rfl lk1 rfl ?_
          refine Vic (v := Int32.ofInt 4) rfl rfl rfl ?_
          have hz := y_bind h
          clear h
          obtain ⟨s91, h92, h⟩ := hz
          refine Zis (q_is_y h92) rfl rfl ?_
          cases h
          exact Yret rfl rfl rfl rfl rfl rfl rfl ⟨rfl, rfl⟩
        · rw [if_neg c20] at h
          exact ih.2 _ hd _ _ _ _ _ _ h lv lk0 lk2
    · intro d hd s r0 i1 i2 s9 r h lv lk0 lk2
      obtain ⟨d, rfl⟩ : ∃ x, d = x + 1 := ⟨d - 1, by omega⟩
      simp only [g_128] at h
      refine Van rfl lk0 rfl rfl ?_
      refine Vic (v := Int32.ofInt 4) rfl rfl rfl ?_
      refine Vin rfl lk2 rfl ?_
      have hz := y_bind h
      clear h
      obtain ⟨b5, h6, h⟩ := hz
      obtain ⟨eh6, fh6, wh6⟩ := y_rcv_ok h6
      cases eh6
      have hz := y_bind h
      clear h
      obtain ⟨⟨s1, r2⟩, h3, h⟩ := hz
      try dsimp only at h
      refine Vcv rfl rfl rfl wh6 rfl rfl ⟨(Nat.le_of_ble_eq_true rfl), (Nat.le_of_ble_eq_true rfl)⟩ rfl ((c_114 o n).1 _ (by omega) _ _ _ _ _ _ h3 _ rfl rfl rfl) (fun z1 z2 zq => ?_)
      obtain ⟨rfl, rfl⟩ := zq
      try dsimp only [Option.toList, HAppend.hAppend, Append.append, List.append]
      cases h
      exact Yret rfl rfl rfl rfl rfl rfl rfl ⟨rfl, rfl⟩

/-- StepRowsModel.begin -/
def g_122 (o : X_O) : Nat → Nat → Q_S → Nat → Int → Int → Int → Int64 → Value → Int → Int → Int → Int → Option (Q_S × Unit)
  | 0, _, _, _, _, _, _, _, _, _, _, _, _ => none
  | n + 1, 0, s, r0, i1, i2, i6, l7, ta0, ti1, ti2, ti0, ti3 => (q_gv s 7 (.ref r0) 38).bind fun v1 => (q_ia o s v1 i1).bind fun v3 => (q_rcv s 7 (.ref r0)).bind fun b9 => (g_111 o n 0 s b9 (v3)).bind fun q8 => (q_g (q_in q8.2)).bind fun _ => if ¬ q8.2 = 14 then (q_gi q8.1 7 (.ref r0) 46).bind fun v16 => (q_g (q_in v16)).bind fun _ => if ¬ v16 = 500 then (q_gi q8.1 7 (.ref r0) 46).bind fun v21 => (q_pi q8.1 7 (.ref r0) 46 (v21 + 1)).bind fun s23 => (q_g (q_in q8.2)).bind fun _ => if q8.2 < 10 ∨ 20 < q8.2 then (q_rcv s23 7 (.ref r0)).bind fun b31 => (g_112 o n 0 s23 b31 (v3)).bind fun q30 => (q_rcv q30.1 7 (.ref r0)).bind fun b39 => (g_120 o n 0 q30.1 b39 (i1) (2) (q30.2)).bind fun q38 => g_122 o n 7 q38.1 0 0 0 0 0 .null 0 0 0 0 else if q8.2 = 10 then (q_rcv s23 7 (.ref r0)).bind fun b48 => (g_123 o n 0 s23 b48 (i1) (v3) (q8.2)).bind fun q47 => g_122 o n 7 q47.1 0 0 0 0 0 .null 0 0 0 0 else if q8.2 = 11 then (q_rcv s23 7 (.ref r0)).bind fun b57 => (g_123 o n 0 s23 b57 (i1) (v3) (q8.2)).bind fun q56 => g_122 o n 7 q56.1 0 0 0 0 0 .null 0 0 0 0 else if q8.2 = 12 then (q_gv s23 7 (.ref r0) 41).bind fun v62 => (q_rcv s23 7 (.ref r0)).bind fun b68 => (g_112 o n 0 s23 b68 (v3)).bind fun q67 => (q_rcv q67.1 7 (.ref r0)).bind fun b76 => (g_113 o n 510 0 q67.1 b76 (q67.2) 0).bind fun q75 => (q_ls q75.1 v62 i1 q75.2).bind fun s80 => (q_gv s80 7 (.ref r0) 40).bind fun v82 => (q_gi s80 7 (.ref r0) 19).bind fun v84 => (q_is s80 v82 i1 v84).bind fun s86 => (q_gv s86 7 (.ref r0) 41).bind fun v88 => (q_la s86 v88 i1).bind fun v90 => if 1 ≤ v90 then g_122 o n 1 s86 0 0 (v3) 0 0 ((.ref r0)) (i1) (1) 0 0 else g_122 o n 1 s86 0 0 (v3) 0 0 ((.ref r0)) (i1) (3) 0 0 else if q8.2 = 13 then (q_rcv s23 7 (.ref r0)).bind fun b98 => (g_125 o n 0 s23 b98 (i1) (v3) 0 0 0 .null 0 0 0).bind fun q97 => g_122 o n 7 q97.1 0 0 0 0 0 .null 0 0 0 0 else if q8.2 = 14 then (q_rcv s23 7 (.ref r0)).bind fun b107 => (g_112 o n 0 s23 b107 (v3)).bind fun q106 => (q_rcv q106.1 7 (.ref r0)).bind fun b115 => (g_120 o n 0 q106.1 b115 (i1) (2) (q106.2)).bind fun q114 => g_122 o n 7 q114.1 0 0 0 0 0 .null 0 0 0 0 else if q8.2 = 15 then (q_rcv s23 7 (.ref r0)).bind fun b124 => (g_112 o n 0 s23 b124 (v3)).bind fun q123 => (q_rcv q123.1 7 (.ref r0)).bind fun b132 => (g_113 o n 510 0 q123.1 b132 (q123.2) 0).bind fun q131 => if q131.2 = 0 then (q_rcv q131.1 7 (.ref r0)).bind fun b141 => (g_119 o n 0 q131.1 b141 (v3)).bind fun q140 => g_122 o n 2 q140.1 r0 (i1) (v3) 0 0 .null 0 0 (q140.2) 0 else (q_rcv q131.1 7 (.ref r0)).bind fun b149 => (g_116 o n 0 q131.1 b149 (v3)).bind fun q148 => g_122 o n 2 q148.1 r0 (i1) (v3) 0 0 .null 0 0 (q148.2) 0 else if q8.2 = 16 then (q_rcv s23 7 (.ref r0)).bind fun b158 => (g_112 o n 0 s23 b158 (v3)).bind fun q157 => (q_rcv q157.1 7 (.ref r0)).bind fun b166 => (g_113 o n 510 0 q157.1 b166 (q157.2) 0).bind fun q165 => (q_gi q165.1 7 (.ref r0) 47).bind fun v170 => (q_g (q_in v170)).bind fun _ => if ¬ v170 = 0 then g_122 o n 7 q165.1 0 0 0 0 0 .null 0 0 0 0 else if q165.2 = 0 then g_122 o n 5 q165.1 r0 (i1) (v3) 0 (q165.2) .null 0 0 0 0 else (q_rcv q165.1 7 (.ref r0)).bind fun b180 => (g_126 o n 0 q165.1 b180 (i1) (v3)).bind fun q179 => (q_g (q_in q179.2)).bind fun _ => if q179.2 = 0 then g_122 o n 7 q179.1 0 0 0 0 0 .null 0 0 0 0 else g_122 o n 5 q179.1 r0 (i1) (v3) 0 (q165.2) .null 0 0 0 0 else if q8.2 = 17 then (q_rcv s23 7 (.ref r0)).bind fun b192 => (g_112 o n 0 s23 b192 (v3)).bind fun q191 => (q_rcv q191.1 7 (.ref r0)).bind fun b200 => (g_113 o n 510 0 q191.1 b200 (q191.2) 0).bind fun q199 => if 1 ≤ q199.2 then (q_gi q199.1 7 (.ref r0) 47).bind fun v205 => (q_g (q_in v205)).bind fun _ => if ¬ v205 = 0 then g_122 o n 7 q199.1 0 0 0 0 0 .null 0 0 0 0 else (q_rcv q199.1 7 (.ref r0)).bind fun b214 => (g_126 o n 0 q199.1 b214 (i1) (v3)).bind fun q213 => (q_g (q_in q213.2)).bind fun _ => if q213.2 = 0 then g_122 o n 7 q213.1 0 0 0 0 0 .null 0 0 0 0 else (q_gv q213.1 7 (.ref r0) 32).bind fun v221 => (q_gv q213.1 7 (.ref r0) 39).bind fun v223 => (q_ia o q213.1 v223 i1).bind fun v225 => (q_ls q213.1 v221 v225 q199.2).bind fun s227 => (q_rcv s227 7 (.ref r0)).bind fun b233 => (g_116 o n 0 s227 b233 (v3)).bind fun q232 => (q_rcv q232.1 7 (.ref r0)).bind fun b241 => (g_120 o n 0 q232.1 b241 (i1) (2) (q232.2)).bind fun q240 => g_122 o n 7 q240.1 0 0 0 0 0 .null 0 0 0 0 else (q_rcv q199.1 7 (.ref r0)).bind fun b249 => (g_120 o n 0 q199.1 b249 (i1) (3) (v3)).bind fun q248 => g_122 o n 7 q248.1 0 0 0 0 0 .null 0 0 0 0 else if q8.2 = 18 then (q_rcv s23 7 (.ref r0)).bind fun b258 => (g_128 o n 0 s23 b258 (i1) (v3)).bind fun q257 => g_122 o n 7 q257.1 0 0 0 0 0 .null 0 0 0 0 else if q8.2 = 19 then (q_gv s23 7 (.ref r0) 28).bind fun v263 => (q_rcv s23 7 (.ref r0)).bind fun b269 => (g_124 o n 0 s23 b269 (v3)).bind fun q268 => (q_ia o q268.1 v263 q268.2).bind fun v273 => (q_g (q_in v273)).bind fun _ => if ¬ v273 = (-1) then (q_rcv q268.1 7 (.ref r0)).bind fun b282 => (g_126 o n 0 q268.1 b282 (i1) (v3)).bind fun q281 => (q_g (q_in q281.2)).bind fun _ => if q281.2 = 0 then g_122 o n 7 q281.1 0 0 0 0 0 .null 0 0 0 0 else (q_gv q281.1 7 (.ref r0) 28).bind fun v289 => (q_rcv q281.1 7 (.ref r0)).bind fun b295 => (g_124 o n 0 q281.1 b295 (v3)).bind fun q294 => (q_ia o q294.1 v289 q294.2).bind fun v299 => (q_rcv q294.1 7 (.ref r0)).bind fun b305 => (g_120 o n 0 q294.1 b305 (i1) (2) (v299)).bind fun q304 => g_122 o n 7 q304.1 0 0 0 0 0 .null 0 0 0 0 else (q_rcv q268.1 7 (.ref r0)).bind fun b313 => (g_114 o n 0 q268.1 b313 (3) (v3)).bind fun q312 => g_122 o n 7 q312.1 0 0 0 0 0 .null 0 0 0 0 else if q8.2 = 20 then (q_gv s23 7 (.ref r0) 28).bind fun v318 => (q_rcv s23 7 (.ref r0)).bind fun b324 => (g_124 o n 0 s23 b324 (v3)).bind fun q323 => (q_rcv q323.1 7 (.ref r0)).bind fun b332 => (g_112 o n 0 q323.1 b332 (v3)).bind fun q331 => (q_is q331.1 v318 q323.2 q331.2).bind fun s336 => (q_rcv s336 7 (.ref r0)).bind fun b342 => (g_120 o n 0 s336 b342 (i1) (3) (v3)).bind fun q341 => g_122 o n 7 q341.1 0 0 0 0 0 .null 0 0 0 0 else none else (q_rcv q8.1 7 (.ref r0)).bind fun b351 => (g_114 o n 0 q8.1 b351 (4) (v3)).bind fun q350 => some (q350.1, ()) else (q_rcv q8.1 7 (.ref r0)).bind fun b359 => (g_112 o n 0 q8.1 b359 (v3)).bind fun q358 => (q_rcv q358.1 7 (.ref r0)).bind fun b367 => (g_120 o n 0 q358.1 b367 (i1) (2) (q358.2)).bind fun q366 => some (q366.1, ())
  | n + 1, 1, s, r0, i1, i2, i6, l7, ta0, ti1, ti2, ti0, ti3 => (q_rcv s 7 ta0).bind fun b5 => (g_120 o n 0 s b5 (ti1) (ti2) (i2)).bind fun q4 => g_122 o n 7 q4.1 0 0 0 0 0 .null 0 0 0 0
  | n + 1, 2, s, r0, i1, i2, i6, l7, ta0, ti1, ti2, ti0, ti3 => (q_g (q_in ti0)).bind fun _ => if ¬ ti0 = (-1) then g_122 o n 3 s 0 0 (i2) (ti0) 0 ((.ref r0)) (i1) (2) 0 0 else g_122 o n 3 s 0 0 (i2) (ti0) 0 ((.ref r0)) (i1) (3) 0 0
  | n + 1, 3, s, r0, i1, i2, i6, l7, ta0, ti1, ti2, ti0, ti3 => (q_g (q_in i6)).bind fun _ => if ¬ i6 = (-1) then g_122 o n 4 s 0 0 0 0 0 (ta0) (ti1) (ti2) 0 (i6) else g_122 o n 4 s 0 0 0 0 0 (ta0) (ti1) (ti2) 0 (i2)
  | n + 1, 4, s, r0, i1, i2, i6, l7, ta0, ti1, ti2, ti0, ti3 => (q_rcv s 7 ta0).bind fun b5 => (g_120 o n 0 s b5 (ti1) (ti2) (ti3)).bind fun q4 => g_122 o n 7 q4.1 0 0 0 0 0 .null 0 0 0 0
  | n + 1, 5, s, r0, i1, i2, i6, l7, ta0, ti1, ti2, ti0, ti3 => if l7 = 0 then (q_rcv s 7 (.ref r0)).bind fun b6 => (g_119 o n 0 s b6 (i2)).bind fun q5 => g_122 o n 6 q5.1 0 0 0 0 0 ((.ref r0)) (i1) (2) 0 (q5.2) else (q_rcv s 7 (.ref r0)).bind fun b14 => (g_116 o n 0 s b14 (i2)).bind fun q13 => g_122 o n 6 q13.1 0 0 0 0 0 ((.ref r0)) (i1) (2) 0 (q13.2)
  | n + 1, 6, s, r0, i1, i2, i6, l7, ta0, ti1, ti2, ti0, ti3 => (q_rcv s 7 ta0).bind fun b5 => (g_120 o n 0 s b5 (ti1) (ti2) (ti3)).bind fun q4 => g_122 o n 7 q4.1 0 0 0 0 0 .null 0 0 0 0
  | n + 1, 7, s, r0, i1, i2, i6, l7, ta0, ti1, ti2, ti0, ti3 => some (s, ())
  | _ + 1, _, _, _, _, _, _, _, _, _, _, _, _ => none
set_option maxRecDepth 100000 in
set_option maxHeartbeats 4000000 in
theorem c_122 (o : X_O) : ∀ n, (∀ (d : Nat) (hd : 513 ≤ d) (s : Q_S) (r0 : Nat) (i1 : Int) (i2 : Int) (i6 : Int) (l7 : Int64) (ta0 : Value) (ti1 : Int) (ti2 : Int) (ti0 : Int) (ti3 : Int) (s9 : Q_S) (r : Unit), g_122 o n 0 s r0 i1 i2 i6 l7 ta0 ti1 ti2 ti0 ti3 = some (s9, r) → ∀ lv : X_L, x_lget lv 0 = some (.ref r0) → x_lget lv 1 = some (.int (Int32.ofInt i1)) → Y o d 122 0 lv [] (q_y s) (fun s1 r1 => s1 = q_y s9 ∧ r1 = none)) ∧
    (∀ (d : Nat) (hd : 513 ≤ d) (s : Q_S) (r0 : Nat) (i1 : Int) (i2 : Int) (i6 : Int) (l7 : Int64) (ta0 : Value) (ti1 : Int) (ti2 : Int) (ti0 : Int) (ti3 : Int) (s9 : Q_S) (r : Unit), g_122 o n 1 s r0 i1 i2 i6 l7 ta0 ti1 ti2 ti0 ti3 = some (s9, r) → ∀ lv : X_L, x_lget lv 2 = some (.int (Int32.ofInt i2)) → y_rv ta0 = true → Y o d 122 169 lv [.int (Int32.ofInt ti2), .int (Int32.ofInt ti1), ta0] (q_y s) (fun s1 r1 => s1 = q_y s9 ∧ r1 = none)) ∧
    (∀ (d : Nat) (hd : 513 ≤ d) (s : Q_S) (r0 : Nat) (i1 : Int) (i2 : Int) (i6 : Int) (l7 : Int64) (ta0 : Value) (ti1 : Int) (ti2 : Int) (ti0 : Int) (ti3 : Int) (s9 : Q_S) (r : Unit), g_122 o n 2 s r0 i1 i2 i6 l7 ta0 ti1 ti2 ti0 ti3 = some (s9, r) → ∀ lv : X_L, x_lget lv 0 = some (.ref r0) → x_lget lv 1 = some (.int (Int32.ofInt i1)) → x_lget lv 2 = some (.int (Int32.ofInt i2)) → Y o d 122 216 lv [.int (Int32.ofInt ti0)] (q_y s) (fun s1 r1 => s1 = q_y s9 ∧ r1 = none)) ∧
    (∀ (d : Nat) (hd : 513 ≤ d) (s : Q_S) (r0 : Nat) (i1 : Int) (i2 : Int) (i6 : Int) (l7 : Int64) (ta0 : Value) (ti1 : Int) (ti2 : Int) (ti0 : Int) (ti3 : Int) (s9 : Q_S) (r : Unit), g_122 o n 3 s r0 i1 i2 i6 l7 ta0 ti1 ti2 ti0 ti3 = some (s9, r) → ∀ lv : X_L, x_lget lv 2 = some (.int (Int32.ofInt i2)) → x_lget lv 6 = some (.int (Int32.ofInt i6)) → y_rv ta0 = true → Y o d 122 231 lv [.int (Int32.ofInt ti2), .int (Int32.ofInt ti1), ta0] (q_y s) (fun s1 r1 => s1 = q_y s9 ∧ r1 = none)) ∧
    (∀ (d : Nat) (hd : 513 ≤ d) (s : Q_S) (r0 : Nat) (i1 : Int) (i2 : Int) (i6 : Int) (l7 : Int64) (ta0 : Value) (ti1 : Int) (ti2 : Int) (ti0 : Int) (ti3 : Int) (s9 : Q_S) (r : Unit), g_122 o n 4 s r0 i1 i2 i6 l7 ta0 ti1 ti2 ti0 ti3 = some (s9, r) → ∀ lv : X_L, y_rv ta0 = true → Y o d 122 243 lv [.int (Int32.ofInt ti3), .int (Int32.ofInt ti2), .int (Int32.ofInt ti1), ta0] (q_y s) (fun s1 r1 => s1 = q_y s9 ∧ r1 = none)) ∧
    (∀ (d : Nat) (hd : 513 ≤ d) (s : Q_S) (r0 : Nat) (i1 : Int) (i2 : Int) (i6 : Int) (l7 : Int64) (ta0 : Value) (ti1 : Int) (ti2 : Int) (ti0 : Int) (ti3 : Int) (s9 : Q_S) (r : Unit), g_122 o n 5 s r0 i1 i2 i6 l7 ta0 ti1 ti2 ti0 ti3 = some (s9, r) → ∀ lv : X_L, x_lget lv 0 = some (.ref r0) → x_lget lv 1 = some (.int (Int32.ofInt i1)) → x_lget lv 2 = some (.int (Int32.ofInt i2)) → x_lget lv 7 = some (.long l7) → Y o d 122 283 lv [] (q_y s) (fun s1 r1 => s1 = q_y s9 ∧ r1 = none)) ∧
    (∀ (d : Nat) (hd : 513 ≤ d) (s : Q_S) (r0 : Nat) (i1 : Int) (i2 : Int) (i6 : Int) (l7 : Int64) (ta0 : Value) (ti1 : Int) (ti2 : Int) (ti0 : Int) (ti3 : Int) (s9 : Q_S) (r : Unit), g_122 o n 6 s r0 i1 i2 i6 l7 ta0 ti1 ti2 ti0 ti3 = some (s9, r) → ∀ lv : X_L, y_rv ta0 = true → Y o d 122 306 lv [.int (Int32.ofInt ti3), .int (Int32.ofInt ti2), .int (Int32.ofInt ti1), ta0] (q_y s) (fun s1 r1 => s1 = q_y s9 ∧ r1 = none)) ∧
    (∀ (d : Nat) (hd : 513 ≤ d) (s : Q_S) (r0 : Nat) (i1 : Int) (i2 : Int) (i6 : Int) (l7 : Int64) (ta0 : Value) (ti1 : Int) (ti2 : Int) (ti0 : Int) (ti3 : Int) (s9 : Q_S) (r : Unit), g_122 o n 7 s r0 i1 i2 i6 l7 ta0 ti1 ti2 ti0 ti3 = some (s9, r) → ∀ lv : X_L, True → Y o d 122 479 lv [] (q_y s) (fun s1 r1 => s1 = q_y s9 ∧ r1 = none)) := by
  intro n
  induction n with
  | zero => exact ⟨fun d hd s _ _ _ _ _ _ _ _ _ _ s9 r h => (by simp only [g_122] at h; cases h), fun d hd s _ _ _ _ _ _ _ _ _ _ s9 r h => (by simp only [g_122] at h; cases h), fun d hd s _ _ _ _ _ _ _ _ _ _ s9 r h => (by simp only [g_122] at h; cases h), fun d hd s _ _ _ _ _ _ _ _ _ _ s9 r h => (by simp only [g_122] at h; cases h), fun d hd s _ _ _ _ _ _ _ _ _ _ s9 r h => (by simp only [g_122] at h; cases h), fun d hd s _ _ _ _ _ _ _ _ _ _ s9 r h => (by simp only [g_122] at h; cases h), fun d hd s _ _ _ _ _ _ _ _ _ _ s9 r h => (by simp only [g_122] at h; cases h), fun d hd s _ _ _ _ _ _ _ _ _ _ s9 r h => (by simp only [g_122] at h; cases h)⟩
  | succ n ih =>
    refine ⟨?_, ?_, ?_, ?_, ?_, ?_, ?_, ?_⟩
    · intro d hd s r0 i1 i2 i6 l7 ta0 ti1 ti2 ti0 ti3 s9 r h lv lk0 lk1
      obtain ⟨d, rfl⟩ : ∃ x, d = x + 1 := ⟨d - 1, by omega⟩
      simp only [g_122] at h
      refine Van rfl lk0 rfl rfl ?_
      have hz := y_bind h
      clear h
      obtain ⟨v1, h2, h⟩ := hz
      have wv1 := (y_gv_ok h2).2
      refine Vgv h2 rfl rfl rfl ?_
      refine Vin rfl lk1 rfl ?_
      have hz := y_bind h
      clear h
      obtain ⟨v3, h4, h⟩ := hz
      refine Zia (q_ia_y h4) rfl rfl ?_
      refine Vsin rfl rfl (fun lv lk2 hk => ?_)
      have lk0 := hk 0 _ lk0 (by decide) (by decide) (Or.inl (by decide))
      have lk1 := hk 1 _ lk1 (by decide) (by decide) (Or.inr rfl)
      refine Van rfl lk0 rfl rfl ?_
      refine Vin rfl lk2 rfl ?_
      have hz := y_bind h
      clear h
      obtain ⟨b9, h10, h⟩ := hz
      obtain ⟨eh10, fh10, wh10⟩ := y_rcv_ok h10
      cases eh10
      have hz := y_bind h
      clear h
      obtain ⟨⟨s5, r6⟩, h7, h⟩ := hz
      try dsimp only at h
      refine Vcv rfl rfl rfl wh10 rfl rfl ⟨(Nat.le_of_ble_eq_true rfl), (Nat.le_of_ble_eq_true rfl)⟩ rfl ((c_111 o n) _ (by omega) _ _ _ _ _ h7 _ rfl rfl) (fun z1 z2 zq => ?_)
      obtain ⟨rfl, rfl⟩ := zq
      try dsimp only [Option.toList, HAppend.hAppend, Append.append, List.append]
      refine Vsin rfl rfl (fun lv lk3 hk => ?_)
      have lk0 := hk 0 _ lk0 (by decide) (by decide) (Or.inl (by decide))
      have lk1 := hk 1 _ lk1 (by decide) (by decide) (Or.inl (by decide))
      have lk2 := hk 2 _ lk2 (by decide) (by decide) (Or.inr rfl)
      refine Vin rfl lk3 rfl ?_
      refine Vbp (v := Int32.ofInt 14) rfl (by decide) rfl ?_
      have hz := y_bind h
      clear h
      obtain ⟨_, h14, h⟩ := hz
      have c13 := q_g_ok h14
      refine Uif (not_congr (q_eq c13 (by decide))) rfl rfl rfl rfl rfl rfl rfl (fun c15 => ?_) (fun c15 => ?_)
      · rw [if_pos c15] at h
        refine Van rfl lk0 rfl rfl ?_
        have hz := y_bind h
        clear h
        obtain ⟨v16, h17, h⟩ := hz
        refine Zgi (q_gi_y h17) rfl rfl rfl ?_
        refine Vsp (v := Int32.ofInt 500) rfl (by decide) rfl ?_
        have hz := y_bind h
        clear h
        obtain ⟨_, h19, h⟩ := hz
        have c18 := q_g_ok h19
        refine Uif (not_congr (q_eq c18 (by decide))) rfl rfl rfl rfl rfl rfl rfl (fun c20 => ?_) (fun c20 => ?_)
        · rw [if_pos c20] at h
          refine Van rfl lk0 rfl rfl ?_
          refine Vdup rfl rfl rfl ?_
          have hz := y_bind h
          clear h
          obtain ⟨v21, h22, h⟩ := hz
          refine Zgi (q_gi_y h22) rfl rfl rfl ?_
          refine Vic (v := Int32.ofInt 1) rfl rfl rfl ?_
          refine Uadd rfl rfl ?_
          have hz := y_bind h
          clear h
          obtain ⟨s23, h24, h⟩ := hz
          refine Zpi (q_pi_y h24) rfl rfl rfl rfl ?_
          refine Vin rfl lk3 rfl ?_
          have hz := y_bind h
          clear h
          obtain ⟨_, h26, h⟩ := hz
          have c25 := q_g_ok h26
          by_cases c43 : r6 < 10 ∨ 20 < r6
          · rw [if_pos c43] at h
            refine Ysw rfl rfl rfl rfl rfl (if_pos (by rw [q_ti c25]; exact c43)) rfl ?_
            refine Van rfl lk0 rfl rfl ?_
            refine Vin rfl lk1 rfl ?_
            refine Vic (v := Int32.ofInt 2) rfl rfl rfl ?_
            refine Van rfl lk0 rfl rfl ?_
            refine Vin rfl lk2 rfl ?_
            have hz := y_bind h
            clear h
            obtain ⟨b31, h32, h⟩ := hz
            obtain ⟨eh32, fh32, wh32⟩ := y_rcv_ok h32
            cases eh32
            have hz := y_bind h
            clear h
            obtain ⟨⟨s27, r28⟩, h29, h⟩ := hz
            try dsimp only at h
            refine Vcv rfl rfl rfl wh32 rfl rfl ⟨(Nat.le_of_ble_eq_true rfl), (Nat.le_of_ble_eq_true rfl)⟩ rfl ((c_112 o n) _ (by omega) _ _ _ _ _ h29 _ rfl rfl) (fun z1 z2 zq => ?_)
            obtain ⟨rfl, rfl⟩ := zq
            try dsimp only [Option.toList, HAppend.hAppend, Append.append, List.append]
            have hz := y_bind h
            clear h
            obtain ⟨b39, h40, h⟩ := hz
            obtain ⟨eh40, fh40, wh40⟩ := y_rcv_ok h40
            cases eh40
            have hz := y_bind h
            clear h
            obtain ⟨⟨s35, r36⟩, h37, h⟩ := hz
            try dsimp only at h
            refine Vcv rfl rfl rfl wh40 rfl rfl ⟨(Nat.le_of_ble_eq_true rfl), (Nat.le_of_ble_eq_true rfl)⟩ rfl ((c_120 o n) _ (by omega) _ _ _ _ _ _ _ h37 _ rfl rfl rfl rfl) (fun z1 z2 zq => ?_)
            obtain ⟨rfl, rfl⟩ := zq
            try dsimp only [Option.toList, HAppend.hAppend, Append.append, List.append]
            exact ih.2.2.2.2.2.2.2 _ hd _ _ _ _ _ _ _ _ _ _ _ _ _ h lv trivial
          rw [if_neg c43] at h
          by_cases c52 : r6 = 10
          · rw [if_pos c52] at h
            refine Vts (k := 10) (congrArg Int32.ofInt c52) rfl rfl rfl rfl rfl rfl rfl ?_
            refine Van rfl lk0 rfl rfl ?_
            refine Vin rfl lk1 rfl ?_
            refine Vin rfl lk2 rfl ?_
            refine Vin rfl lk3 rfl ?_
            have hz := y_bind h
            clear h
            obtain ⟨b48, h49, h⟩ := hz
            obtain ⟨eh49, fh49, wh49⟩ := y_rcv_ok h49
            cases eh49
            have hz := y_bind h
            clear h
            obtain ⟨⟨s44, r45⟩, h46, h⟩ := hz
            try dsimp only at h
            refine Vcv rfl rfl rfl wh49 rfl rfl ⟨(Nat.le_of_ble_eq_true rfl), (Nat.le_of_ble_eq_true rfl)⟩ rfl ((c_123 o n).1 _ (by omega) _ _ _ _ _ _ _ h46 _ rfl rfl rfl rfl) (fun z1 z2 zq => ?_)
            obtain ⟨rfl, rfl⟩ := zq
            try dsimp only [Option.toList, HAppend.hAppend, Append.append, List.append]
            refine Ygo rfl rfl rfl rfl rfl rfl ?_
            exact ih.2.2.2.2.2.2.2 _ hd _ _ _ _ _ _ _ _ _ _ _ _ _ h lv trivial
          rw [if_neg c52] at h
          by_cases c61 : r6 = 11
          · rw [if_pos c61] at h
            refine Vts (k := 11) (congrArg Int32.ofInt c61) rfl rfl rfl rfl rfl rfl rfl ?_
            refine Van rfl lk0 rfl rfl ?_
            refine Vin rfl lk1 rfl ?_
            refine Vin rfl lk2 rfl ?_
            refine Vin rfl lk3 rfl ?_
            have hz := y_bind h
            clear h
            obtain ⟨b57, h58, h⟩ := hz
            obtain ⟨eh58, fh58, wh58⟩ := y_rcv_ok h58
            cases eh58
            have hz := y_bind h
            clear h
            obtain ⟨⟨s53, r54⟩, h55, h⟩ := hz
            try dsimp only at h
            refine Vcv rfl rfl rfl wh58 rfl rfl ⟨(Nat.le_of_ble_eq_true rfl), (Nat.le_of_ble_eq_true rfl)⟩ rfl ((c_123 o n).1 _ (by omega) _ _ _ _ _ _ _ h55 _ rfl rfl rfl rfl) (fun z1 z2 zq => ?_)
            obtain ⟨rfl, rfl⟩ := zq
            try dsimp only [Option.toList, HAppend.hAppend, Append.append, List.append]
            refine Ygo rfl rfl rfl rfl rfl rfl ?_
            exact ih.2.2.2.2.2.2.2 _ hd _ _ _ _ _ _ _ _ _ _ _ _ _ h lv trivial
          rw [if_neg c61] at h
          by_cases c93 : r6 = 12
          · rw [if_pos c93] at h
            refine Vts (k := 12) (congrArg Int32.ofInt c93) rfl rfl rfl rfl rfl rfl rfl ?_
            refine Van rfl lk0 rfl rfl ?_
            have hz := y_bind h
            clear h
            obtain ⟨v62, h63, h⟩ := hz
            have wv62 := (y_gv_ok h63).2
            refine Vgv h63 rfl rfl rfl ?_
            refine Vin rfl lk1 rfl ?_
            refine Van rfl lk0 rfl rfl ?_
            refine Van rfl lk0 rfl rfl ?_
            refine Vin rfl lk2 rfl ?_
            have hz := y_bind h
            clear h
            obtain ⟨b68, h69, h⟩ := hz
            obtain ⟨eh69, fh69, wh69⟩ := y_rcv_ok h69
            cases eh69
            have hz := y_bind h
            clear h
            obtain ⟨⟨s64, r65⟩, h66, h⟩ := hz
            try dsimp only at h
            refine Vcv rfl rfl rfl wh69 rfl rfl ⟨(by simp only [List.take, List.reverse_cons, List.reverse_nil, List.nil_append, List.cons_append, List.map_cons, List.map_nil, y_cati, y_catl, y_catr, y_catn, y_cata, y_rv_cat wv62, List.sum_cons, List.sum_nil]; decide +kernel), (Nat.le_of_ble_eq_true rfl)⟩ rfl ((c_112 o n) _ (by omega) _ _ _ _ _ h66 _ rfl rfl) (fun z1 z2 zq => ?_)
            obtain ⟨rfl, rfl⟩ := zq
            try dsimp only [Option.toList, HAppend.hAppend, Append.append, List.append]
            have hz := y_bind h
            clear h
            obtain ⟨b76, h77, h⟩ := hz
            obtain ⟨eh77, fh77, wh77⟩ := y_rcv_ok h77
            cases eh77
            have hz := y_bind h
            clear h
            obtain ⟨⟨s72, r73⟩, h74, h⟩ := hz
            try dsimp only at h
            refine Vcv rfl rfl rfl wh77 rfl rfl ⟨(by simp only [List.take, List.reverse_cons, List.reverse_nil, List.nil_append, List.cons_append, List.map_cons, List.map_nil, y_cati, y_catl, y_catr, y_catn, y_cata, y_rv_cat wv62, List.sum_cons, List.sum_nil]; decide +kernel), (Nat.le_of_ble_eq_true rfl)⟩ rfl ((c_113 o n).1 _ _ (by omega) _ _ _ _ _ _ h74 _ rfl rfl) (fun z1 z2 zq => ?_)
            obtain ⟨rfl, rfl⟩ := zq
            try dsimp only [Option.toList, HAppend.hAppend, Append.append, List.append]
            have hz := y_bind h
            clear h
            obtain ⟨s80, h81, h⟩ := hz
            refine Zls (q_ls_y h81) rfl rfl ?_
            refine Van rfl lk0 rfl rfl ?_
            have hz := y_bind h
            clear h
            obtain ⟨v82, h83, h⟩ := hz
            have wv82 := (y_gv_ok h83).2
            refine Vgv h83 rfl rfl rfl ?_
            refine Vin rfl lk1 rfl ?_
            refine Van rfl lk0 rfl rfl ?_
            have hz := y_bind h
            clear h
            obtain ⟨v84, h85, h⟩ := hz
            refine Zgi (q_gi_y h85) rfl rfl rfl ?_
            have hz := y_bind h
            clear h
            obtain ⟨s86, h87, h⟩ := hz
            refine Zis (q_is_y h87) rfl rfl ?_
            refine Van rfl lk0 rfl rfl ?_
            refine Vin rfl lk1 rfl ?_
            refine Van rfl lk0 rfl rfl ?_
            have hz := y_bind h
            clear h
            obtain ⟨v88, h89, h⟩ := hz
            have wv88 := (y_gv_ok h89).2
            refine Vgv h89 rfl rfl rfl ?_
            refine Vin rfl lk1 rfl ?_
            have hz := y_bind h
            clear h
            obtain ⟨v90, h91, h⟩ := hz
            refine Zla (q_la_y h91) rfl rfl ?_
            refine Vlc (v := 1) rfl (by decide) rfl ?_
            refine Ya rfl rfl rfl ?_
            refine Uif (lg_cmp_ge _ _) rfl rfl rfl rfl rfl rfl rfl (fun c92 => ?_) (fun c92 => ?_)
            · rw [if_pos c92] at h
              refine Vic (v := Int32.ofInt 1) rfl rfl rfl ?_
              exact ih.2.1 _ hd _ _ _ _ _ _ _ _ _ _ _ _ _ h lv lk2 rfl
            · rw [if_neg c92] at h
              refine Vic (v := Int32.ofInt 3) rfl rfl rfl ?_
              refine Ygo rfl rfl rfl rfl rfl rfl ?_
              exact ih.2.1 _ hd _ _ _ _ _ _ _ _ _ _ _ _ _ h lv lk2 rfl
          rw [if_neg c93] at h
          by_cases c102 : r6 = 13
          · rw [if_pos c102] at h
            refine Vts (k := 13) (congrArg Int32.ofInt c102) rfl rfl rfl rfl rfl rfl rfl ?_
            refine Van rfl lk0 rfl rfl ?_
            refine Vin rfl lk1 rfl ?_
            refine Vin rfl lk2 rfl ?_
            have hz := y_bind h
            clear h
            obtain ⟨b98, h99, h⟩ := hz
            obtain ⟨eh99, fh99, wh99⟩ := y_rcv_ok h99
            cases eh99
            have hz := y_bind h
            clear h
            obtain ⟨⟨s94, r95⟩, h96, h⟩ := hz
            try dsimp only at h
            refine Vcv rfl rfl rfl wh99 rfl rfl ⟨(Nat.le_of_ble_eq_true rfl), (Nat.le_of_ble_eq_true rfl)⟩ rfl ((c_125 o n).1 _ (by omega) _ _ _ _ _ _ _ _ _ _ _ _ _ h96 _ rfl rfl rfl) (fun z1 z2 zq => ?_)
            obtain ⟨rfl, rfl⟩ := zq
            try dsimp only [Option.toList, HAppend.hAppend, Append.append, List.append]
            refine Ygo rfl rfl rfl rfl rfl rfl ?_
            exact ih.2.2.2.2.2.2.2 _ hd _ _ _ _ _ _ _ _ _ _ _ _ _ h lv trivial
          rw [if_neg c102] at h
          by_cases c119 : r6 = 14
          · rw [if_pos c119] at h
            refine Vts (k := 14) (congrArg Int32.ofInt c119) rfl rfl rfl rfl rfl rfl rfl ?_
            refine Van rfl lk0 rfl rfl ?_
            refine Vin rfl lk1 rfl ?_
            refine Vic (v := Int32.ofInt 2) rfl rfl rfl ?_
            refine Van rfl lk0 rfl rfl ?_
            refine Vin rfl lk2 rfl ?_
            have hz := y_bind h
            clear h
            obtain ⟨b107, h108, h⟩ := hz
            obtain ⟨eh108, fh108, wh108⟩ := y_rcv_ok h108
            cases eh108
            have hz := y_bind h
            clear h
            obtain ⟨⟨s103, r104⟩, h105, h⟩ := hz
            try dsimp only at h
            refine Vcv rfl rfl rfl wh108 rfl rfl ⟨(Nat.le_of_ble_eq_true rfl), (Nat.le_of_ble_eq_true rfl)⟩ rfl ((c_112 o n) _ (by omega) _ _ _ _ _ h105 _ rfl rfl) (fun z1 z2 zq => ?_)
            obtain ⟨rfl, rfl⟩ := zq
            try dsimp only [Option.toList, HAppend.hAppend, Append.append, List.append]
            have hz := y_bind h
            clear h
            obtain ⟨b115, h116, h⟩ := hz
            obtain ⟨eh116, fh116, wh116⟩ := y_rcv_ok h116
            cases eh116
            have hz := y_bind h
            clear h
            obtain ⟨⟨s111, r112⟩, h113, h⟩ := hz
            try dsimp only at h
            refine Vcv rfl rfl rfl wh116 rfl rfl ⟨(Nat.le_of_ble_eq_true rfl), (Nat.le_of_ble_eq_true rfl)⟩ rfl ((c_120 o n) _ (by omega) _ _ _ _ _ _ _ h113 _ rfl rfl rfl rfl) (fun z1 z2 zq => ?_)
            obtain ⟨rfl, rfl⟩ := zq
            try dsimp only [Option.toList, HAppend.hAppend, Append.append, List.append]
            exact ih.2.2.2.2.2.2.2 _ hd _ _ _ _ _ _ _ _ _ _ _ _ _ h lv trivial
          rw [if_neg c119] at h
          by_cases c153 : r6 = 15
          · rw [if_pos c153] at h
            refine Vts (k := 15) (congrArg Int32.ofInt c153) rfl rfl rfl rfl rfl rfl rfl ?_
            refine Van rfl lk0 rfl rfl ?_
            refine Van rfl lk0 rfl rfl ?_
            refine Vin rfl lk2 rfl ?_
            have hz := y_bind h
            clear h
            obtain ⟨b124, h125, h⟩ := hz
            obtain ⟨eh125, fh125, wh125⟩ := y_rcv_ok h125
            cases eh125
            have hz := y_bind h
            clear h
            obtain ⟨⟨s120, r121⟩, h122, h⟩ := hz
            try dsimp only at h
            refine Vcv rfl rfl rfl wh125 rfl rfl ⟨(Nat.le_of_ble_eq_true rfl), (Nat.le_of_ble_eq_true rfl)⟩ rfl ((c_112 o n) _ (by omega) _ _ _ _ _ h122 _ rfl rfl) (fun z1 z2 zq => ?_)
            obtain ⟨rfl, rfl⟩ := zq
            try dsimp only [Option.toList, HAppend.hAppend, Append.append, List.append]
            have hz := y_bind h
            clear h
            obtain ⟨b132, h133, h⟩ := hz
            obtain ⟨eh133, fh133, wh133⟩ := y_rcv_ok h133
            cases eh133
            have hz := y_bind h
            clear h
            obtain ⟨⟨s128, r129⟩, h130, h⟩ := hz
            try dsimp only at h
            refine Vcv rfl rfl rfl wh133 rfl rfl ⟨(Nat.le_of_ble_eq_true rfl), (Nat.le_of_ble_eq_true rfl)⟩ rfl ((c_113 o n).1 _ _ (by omega) _ _ _ _ _ _ h130 _ rfl rfl) (fun z1 z2 zq => ?_)
            obtain ⟨rfl, rfl⟩ := zq
            try dsimp only [Option.toList, HAppend.hAppend, Append.append, List.append]
            refine Vsl rfl rfl (fun lv lk4 hk => ?_)
            have lk0 := hk 0 _ lk0 (by decide) (by decide) (Or.inl (by decide))
            have lk1 := hk 1 _ lk1 (by decide) (by decide) (Or.inl (by decide))
            have lk2 := hk 2 _ lk2 (by decide) (by decide) (Or.inl (by decide))
            refine Vl rfl lk4 rfl ?_
            refine Vlc (v := 0) rfl (by decide) rfl ?_
            refine Ya rfl rfl rfl ?_
            refine Uif (lg_cmp_eq _ _) rfl rfl rfl rfl rfl rfl rfl (fun c136 => ?_) (fun c136 => ?_)
            · rw [if_pos c136] at h
              refine Van rfl lk0 rfl rfl ?_
              refine Vin rfl lk2 rfl ?_
              have hz := y_bind h
              clear h
              obtain ⟨b141, h142, h⟩ := hz
              obtain ⟨eh142, fh142, wh142⟩ := y_rcv_ok h142
              cases eh142
              have hz := y_bind h
              clear h
              obtain ⟨⟨s137, r138⟩, h139, h⟩ := hz
              try dsimp only at h
              refine Vcv rfl rfl rfl wh142 rfl rfl ⟨(Nat.le_of_ble_eq_true rfl), (Nat.le_of_ble_eq_true rfl)⟩ rfl ((c_119 o n) _ (by omega) _ _ _ _ _ h139 _ rfl rfl) (fun z1 z2 zq => ?_)
              obtain ⟨rfl, rfl⟩ := zq
              try dsimp only [Option.toList, HAppend.hAppend, Append.append, List.append]
              exact ih.2.2.1 _ hd _ _ _ _ _ _ _ _ _ _ _ _ _ h lv lk0 lk1 lk2
            · rw [if_neg c136] at h
              refine Van rfl lk0 rfl rfl ?_
              refine Vin rfl lk2 rfl ?_
              have hz := y_bind h
              clear h
              obtain ⟨b149, h150, h⟩ := hz
              obtain ⟨eh150, fh150, wh150⟩ := y_rcv_ok h150
              cases eh150
              have hz := y_bind h
              clear h
              obtain ⟨⟨s145, r146⟩, h147, h⟩ := hz
              try dsimp only at h
              refine Vcv rfl rfl rfl wh150 rfl rfl ⟨(Nat.le_of_ble_eq_true rfl), (Nat.le_of_ble_eq_true rfl)⟩ rfl ((c_116 o n) _ (by omega) _ _ _ _ _ h147 _ rfl rfl) (fun z1 z2 zq => ?_)
              obtain ⟨rfl, rfl⟩ := zq
              try dsimp only [Option.toList, HAppend.hAppend, Append.append, List.append]
              refine Ygo rfl rfl rfl rfl rfl rfl ?_
              exact ih.2.2.1 _ hd _ _ _ _ _ _ _ _ _ _ _ _ _ h lv lk0 lk1 lk2
          rw [if_neg c153] at h
          by_cases c187 : r6 = 16
          · rw [if_pos c187] at h
            refine Vts (k := 16) (congrArg Int32.ofInt c187) rfl rfl rfl rfl rfl rfl rfl ?_
            refine Van rfl lk0 rfl rfl ?_
            refine Van rfl lk0 rfl rfl ?_
            refine Vin rfl lk2 rfl ?_
            have hz := y_bind h
            clear h
            obtain ⟨b158, h159, h⟩ := hz
            obtain ⟨eh159, fh159, wh159⟩ := y_rcv_ok h159
            cases eh159
            have hz := y_bind h
            clear h
            obtain ⟨⟨s154, r155⟩, h156, h⟩ := hz
            try dsimp only at h
            refine Vcv rfl rfl rfl wh159 rfl rfl ⟨(Nat.le_of_ble_eq_true rfl), (Nat.le_of_ble_eq_true rfl)⟩ rfl ((c_112 o n) _ (by omega) _ _ _ _ _ h156 _ rfl rfl) (fun z1 z2 zq => ?_)
            obtain ⟨rfl, rfl⟩ := zq
            try dsimp only [Option.toList, HAppend.hAppend, Append.append, List.append]
            have hz := y_bind h
            clear h
            obtain ⟨b166, h167, h⟩ := hz
            obtain ⟨eh167, fh167, wh167⟩ := y_rcv_ok h167
            cases eh167
            have hz := y_bind h
            clear h
            obtain ⟨⟨s162, r163⟩, h164, h⟩ := hz
            try dsimp only at h
            refine Vcv rfl rfl rfl wh167 rfl rfl ⟨(Nat.le_of_ble_eq_true rfl), (Nat.le_of_ble_eq_true rfl)⟩ rfl ((c_113 o n).1 _ _ (by omega) _ _ _ _ _ _ h164 _ rfl rfl) (fun z1 z2 zq => ?_)
            obtain ⟨rfl, rfl⟩ := zq
            try dsimp only [Option.toList, HAppend.hAppend, Append.append, List.append]
            refine Vsl rfl rfl (fun lv lk7 hk => ?_)
            have lk0 := hk 0 _ lk0 (by decide) (by decide) (Or.inl (by decide))
            have lk1 := hk 1 _ lk1 (by decide) (by decide) (Or.inl (by decide))
            have lk2 := hk 2 _ lk2 (by decide) (by decide) (Or.inl (by decide))
            refine Van rfl lk0 rfl rfl ?_
            have hz := y_bind h
            clear h
            obtain ⟨v170, h171, h⟩ := hz
            refine Zgi (q_gi_y h171) rfl rfl rfl ?_
            have hz := y_bind h
            clear h
            obtain ⟨_, h173, h⟩ := hz
            have c172 := q_g_ok h173
            refine Uif (not_congr (q_eq0 c172)) rfl rfl rfl rfl rfl rfl rfl (fun c174 => ?_) (fun c174 => ?_)
            · rw [if_pos c174] at h
              exact ih.2.2.2.2.2.2.2 _ hd _ _ _ _ _ _ _ _ _ _ _ _ _ h lv trivial
            · rw [if_neg c174] at h
              refine Vl rfl lk7 rfl ?_
              refine Vlc (v := 0) rfl (by decide) rfl ?_
              refine Ya rfl rfl rfl ?_
              refine Uif (lg_cmp_eq _ _) rfl rfl rfl rfl rfl rfl rfl (fun c175 => ?_) (fun c175 => ?_)
              · rw [if_pos c175] at h
                exact ih.2.2.2.2.2.1 _ hd _ _ _ _ _ _ _ _ _ _ _ _ _ h lv lk0 lk1 lk2 lk7
              · rw [if_neg c175] at h
                refine Van rfl lk0 rfl rfl ?_
                refine Vin rfl lk1 rfl ?_
                refine Vin rfl lk2 rfl ?_
                have hz := y_bind h
                clear h
                obtain ⟨b180, h181, h⟩ := hz
                obtain ⟨eh181, fh181, wh181⟩ := y_rcv_ok h181
                cases eh181
                have hz := y_bind h
                clear h
                obtain ⟨⟨s176, r177⟩, h178, h⟩ := hz
                try dsimp only at h
                refine Vcv rfl rfl rfl wh181 rfl rfl ⟨(Nat.le_of_ble_eq_true rfl), (Nat.le_of_ble_eq_true rfl)⟩ rfl ((c_126 o n).1 _ (by omega) _ _ _ _ _ _ h178 _ rfl rfl rfl) (fun z1 z2 zq => ?_)
                obtain ⟨rfl, rfl⟩ := zq
                try dsimp only [Option.toList, HAppend.hAppend, Append.append, List.append]
                have hz := y_bind h
                clear h
                obtain ⟨_, h185, h⟩ := hz
                have c184 := q_g_ok h185
                refine Uif (q_eq0 c184) rfl rfl rfl rfl rfl rfl rfl (fun c186 => ?_) (fun c186 => ?_)
                · rw [if_pos c186] at h
                  exact ih.2.2.2.2.2.2.2 _ hd _ _ _ _ _ _ _ _ _ _ _ _ _ h lv trivial
                · rw [if_neg c186] at h
                  exact ih.2.2.2.2.2.1 _ hd _ _ _ _ _ _ _ _ _ _ _ _ _ h lv lk0 lk1 lk2 lk7
          rw [if_neg c187] at h
          by_cases c253 : r6 = 17
          · rw [if_pos c253] at h
            refine Vts (k := 17) (congrArg Int32.ofInt c253) rfl rfl rfl rfl rfl rfl rfl ?_
            refine Van rfl lk0 rfl rfl ?_
            refine Van rfl lk0 rfl rfl ?_
            refine Vin rfl lk2 rfl ?_
            have hz := y_bind h
            clear h
            obtain ⟨b192, h193, h⟩ := hz
            obtain ⟨eh193, fh193, wh193⟩ := y_rcv_ok h193
            cases eh193
            have hz := y_bind h
            clear h
            obtain ⟨⟨s188, r189⟩, h190, h⟩ := hz
            try dsimp only at h
            refine Vcv rfl rfl rfl wh193 rfl rfl ⟨(Nat.le_of_ble_eq_true rfl), (Nat.le_of_ble_eq_true rfl)⟩ rfl ((c_112 o n) _ (by omega) _ _ _ _ _ h190 _ rfl rfl) (fun z1 z2 zq => ?_)
            obtain ⟨rfl, rfl⟩ := zq
            try dsimp only [Option.toList, HAppend.hAppend, Append.append, List.append]
            have hz := y_bind h
            clear h
            obtain ⟨b200, h201, h⟩ := hz
            obtain ⟨eh201, fh201, wh201⟩ := y_rcv_ok h201
            cases eh201
            have hz := y_bind h
            clear h
            obtain ⟨⟨s196, r197⟩, h198, h⟩ := hz
            try dsimp only at h
            refine Vcv rfl rfl rfl wh201 rfl rfl ⟨(Nat.le_of_ble_eq_true rfl), (Nat.le_of_ble_eq_true rfl)⟩ rfl ((c_113 o n).1 _ _ (by omega) _ _ _ _ _ _ h198 _ rfl rfl) (fun z1 z2 zq => ?_)
            obtain ⟨rfl, rfl⟩ := zq
            try dsimp only [Option.toList, HAppend.hAppend, Append.append, List.append]
            refine Vsl rfl rfl (fun lv lk9 hk => ?_)
            have lk0 := hk 0 _ lk0 (by decide) (by decide) (Or.inl (by decide))
            have lk1 := hk 1 _ lk1 (by decide) (by decide) (Or.inl (by decide))
            have lk2 := hk 2 _ lk2 (by decide) (by decide) (Or.inl (by decide))
            refine Vl rfl lk9 rfl ?_
            refine Vlc (v := 1) rfl (by decide) rfl ?_
            refine Ya rfl rfl rfl ?_
            refine Uif (lg_cmp_ge _ _) rfl rfl rfl rfl rfl rfl rfl (fun c204 => ?_) (fun c204 => ?_)
            · rw [if_pos c204] at h
              refine Van rfl lk0 rfl rfl ?_
              have hz := y_bind h
              clear h
              obtain ⟨v205, h206, h⟩ := hz
              refine Zgi (q_gi_y h206) rfl rfl rfl ?_
              have hz := y_bind h
              clear h
              obtain ⟨_, h208, h⟩ := hz
              have c207 := q_g_ok h208
              refine Uif (not_congr (q_eq0 c207)) rfl rfl rfl rfl rfl rfl rfl (fun c209 => ?_) (fun c209 => ?_)
              · rw [if_pos c209] at h
                exact ih.2.2.2.2.2.2.2 _ hd _ _ _ _ _ _ _ _ _ _ _ _ _ h lv trivial
              · rw [if_neg c209] at h
                refine Van rfl lk0 rfl rfl ?_
                refine Vin rfl lk1 rfl ?_
                refine Vin rfl lk2 rfl ?_
                have hz := y_bind h
                clear h
                obtain ⟨b214, h215, h⟩ := hz
                obtain ⟨eh215, fh215, wh215⟩ := y_rcv_ok h215
                cases eh215
                have hz := y_bind h
                clear h
                obtain ⟨⟨s210, r211⟩, h212, h⟩ := hz
                try dsimp only at h
                refine Vcv rfl rfl rfl wh215 rfl rfl ⟨(Nat.le_of_ble_eq_true rfl), (Nat.le_of_ble_eq_true rfl)⟩ rfl ((c_126 o n).1 _ (by omega) _ _ _ _ _ _ h212 _ rfl rfl rfl) (fun z1 z2 zq => ?_)
                obtain ⟨rfl, rfl⟩ := zq
                try dsimp only [Option.toList, HAppend.hAppend, Append.append, List.append]
                have hz := y_bind h
                clear h
                obtain ⟨_, h219, h⟩ := hz
                have c218 := q_g_ok h219
                refine Uif (q_eq0 c218) rfl rfl rfl rfl rfl rfl rfl (fun c220 => ?_) (fun c220 => ?_)
                · rw [if_pos c220] at h
                  exact ih.2.2.2.2.2.2.2 _ hd _ _ _ _ _ _ _ _ _ _ _ _ _ h lv trivial
                · rw [if_neg c220] at h
                  refine Van rfl lk0 rfl rfl ?_
                  have hz := y_bind h
                  clear h
                  obtain ⟨v221, h222, h⟩ := hz
                  have wv221 := (y_gv_ok h222).2
                  refine Vgv h222 rfl rfl rfl ?_
                  refine Van rfl lk0 rfl rfl ?_
                  have hz := y_bind h
                  clear h
                  obtain ⟨v223, h224, h⟩ := hz
                  have wv223 := (y_gv_ok h224).2
                  refine Vgv h224 rfl rfl rfl ?_
                  refine Vin rfl lk1 rfl ?_
                  have hz := y_bind h
                  clear h
                  obtain ⟨v225, h226, h⟩ := hz
                  refine Zia (q_ia_y h226) rfl rfl ?_
                  refine Vl rfl lk9 rfl ?_
                  have hz := y_bind h
                  clear h
                  obtain ⟨s227, h228, h⟩ := hz
                  refine Zls (q_ls_y h228) rfl rfl ?_
                  refine Van rfl lk0 rfl rfl ?_
                  refine Vin rfl lk1 rfl ?_
                  refine Vic (v := Int32.ofInt 2) rfl rfl rfl ?_
                  refine Van rfl lk0 rfl rfl ?_
                  refine Vin rfl lk2 rfl ?_
                  have hz := y_bind h
                  clear h
                  obtain ⟨b233, h234, h⟩ := hz
                  obtain ⟨eh234, fh234, wh234⟩ := y_rcv_ok h234
                  cases eh234
                  have hz := y_bind h
                  clear h
                  obtain ⟨⟨s229, r230⟩, h231, h⟩ := hz
                  try dsimp only at h
                  refine Vcv rfl rfl rfl wh234 rfl rfl ⟨(Nat.le_of_ble_eq_true rfl), (Nat.le_of_ble_eq_true rfl)⟩ rfl ((c_116 o n) _ (by omega) _ _ _ _ _ h231 _ rfl rfl) (fun z1 z2 zq => ?_)
                  obtain ⟨rfl, rfl⟩ := zq
                  try dsimp only [Option.toList, HAppend.hAppend, Append.append, List.append]
                  have hz := y_bind h
                  clear h
                  obtain ⟨b241, h242, h⟩ := hz
                  obtain ⟨eh242, fh242, wh242⟩ := y_rcv_ok h242
                  cases eh242
                  have hz := y_bind h
                  clear h
                  obtain ⟨⟨s237, r238⟩, h239, h⟩ := hz
                  try dsimp only at h
                  refine Vcv rfl rfl rfl wh242 rfl rfl ⟨(Nat.le_of_ble_eq_true rfl), (Nat.le_of_ble_eq_true rfl)⟩ rfl ((c_120 o n) _ (by omega) _ _ _ _ _ _ _ h239 _ rfl rfl rfl rfl) (fun z1 z2 zq => ?_)
                  obtain ⟨rfl, rfl⟩ := zq
                  try dsimp only [Option.toList, HAppend.hAppend, Append.append, List.append]
                  refine Ygo rfl rfl rfl rfl rfl rfl ?_
                  exact ih.2.2.2.2.2.2.2 _ hd _ _ _ _ _ _ _ _ _ _ _ _ _ h lv trivial
            · rw [if_neg c204] at h
              refine Van rfl lk0 rfl rfl ?_
              refine Vin rfl lk1 rfl ?_
              refine Vic (v := Int32.ofInt 3) rfl rfl rfl ?_
              refine Vin rfl lk2 rfl ?_
              have hz := y_bind h
              clear h
              obtain ⟨b249, h250, h⟩ := hz
              obtain ⟨eh250, fh250, wh250⟩ := y_rcv_ok h250
              cases eh250
              have hz := y_bind h
              clear h
              obtain ⟨⟨s245, r246⟩, h247, h⟩ := hz
              try dsimp only at h
              refine Vcv rfl rfl rfl wh250 rfl rfl ⟨(Nat.le_of_ble_eq_true rfl), (Nat.le_of_ble_eq_true rfl)⟩ rfl ((c_120 o n) _ (by omega) _ _ _ _ _ _ _ h247 _ rfl rfl rfl rfl) (fun z1 z2 zq => ?_)
              obtain ⟨rfl, rfl⟩ := zq
              try dsimp only [Option.toList, HAppend.hAppend, Append.append, List.append]
              refine Ygo rfl rfl rfl rfl rfl rfl ?_
              exact ih.2.2.2.2.2.2.2 _ hd _ _ _ _ _ _ _ _ _ _ _ _ _ h lv trivial
          rw [if_neg c253] at h
          by_cases c262 : r6 = 18
          · rw [if_pos c262] at h
            refine Vts (k := 18) (congrArg Int32.ofInt c262) rfl rfl rfl rfl rfl rfl rfl ?_
            refine Van rfl lk0 rfl rfl ?_
            refine Vin rfl lk1 rfl ?_
            refine Vin rfl lk2 rfl ?_
            have hz := y_bind h
            clear h
            obtain ⟨b258, h259, h⟩ := hz
            obtain ⟨eh259, fh259, wh259⟩ := y_rcv_ok h259
            cases eh259
            have hz := y_bind h
            clear h
            obtain ⟨⟨s254, r255⟩, h256, h⟩ := hz
            try dsimp only at h
            refine Vcv rfl rfl rfl wh259 rfl rfl ⟨(Nat.le_of_ble_eq_true rfl), (Nat.le_of_ble_eq_true rfl)⟩ rfl ((c_128 o n).1 _ (by omega) _ _ _ _ _ _ h256 _ rfl rfl rfl) (fun z1 z2 zq => ?_)
            obtain ⟨rfl, rfl⟩ := zq
            try dsimp only [Option.toList, HAppend.hAppend, Append.append, List.append]
            refine Ygo rfl rfl rfl rfl rfl rfl ?_
            exact ih.2.2.2.2.2.2.2 _ hd _ _ _ _ _ _ _ _ _ _ _ _ _ h lv trivial
          rw [if_neg c262] at h
          by_cases c317 : r6 = 19
          · rw [if_pos c317] at h
            refine Vts (k := 19) (congrArg Int32.ofInt c317) rfl rfl rfl rfl rfl rfl rfl ?_
            refine Van rfl lk0 rfl rfl ?_
            have hz := y_bind h
            clear h
            obtain ⟨v263, h264, h⟩ := hz
            have wv263 := (y_gv_ok h264).2
            refine Vgv h264 rfl rfl rfl ?_
            refine Van rfl lk0 rfl rfl ?_
            refine Vin rfl lk2 rfl ?_
            have hz := y_bind h
            clear h
            obtain ⟨b269, h270, h⟩ := hz
            obtain ⟨eh270, fh270, wh270⟩ := y_rcv_ok h270
            cases eh270
            have hz := y_bind h
            clear h
            obtain ⟨⟨s265, r266⟩, h267, h⟩ := hz
            try dsimp only at h
            refine Vcv rfl rfl rfl wh270 rfl rfl ⟨(by simp only [List.take, List.reverse_cons, List.reverse_nil, List.nil_append, List.cons_append, List.map_cons, List.map_nil, y_cati, y_catl, y_catr, y_catn, y_cata, y_rv_cat wv263, List.sum_cons, List.sum_nil]; decide +kernel), (Nat.le_of_ble_eq_true rfl)⟩ rfl ((c_124 o n) _ (by omega) _ _ _ _ _ h267 _ rfl rfl) (fun z1 z2 zq => ?_)
            obtain ⟨rfl, rfl⟩ := zq
            try dsimp only [Option.toList, HAppend.hAppend, Append.append, List.append]
            have hz := y_bind h
            clear h
            obtain ⟨v273, h274, h⟩ := hz
            refine Zia (q_ia_y h274) rfl rfl ?_
            refine Vic (v := Int32.ofInt (-1)) rfl rfl rfl ?_
            have hz := y_bind h
            clear h
            obtain ⟨_, h276, h⟩ := hz
            have c275 := q_g_ok h276
            refine Uif (not_congr (q_eq c275 (by decide))) rfl rfl rfl rfl rfl rfl rfl (fun c277 => ?_) (fun c277 => ?_)
            · rw [if_pos c277] at h
              refine Van rfl lk0 rfl rfl ?_
              refine Vin rfl lk1 rfl ?_
              refine Vin rfl lk2 rfl ?_
              have hz := y_bind h
              clear h
              obtain ⟨b282, h283, h⟩ := hz
              obtain ⟨eh283, fh283, wh283⟩ := y_rcv_ok h283
              cases eh283
              have hz := y_bind h
              clear h
              obtain ⟨⟨s278, r279⟩, h280, h⟩ := hz
              try dsimp only at h
              refine Vcv rfl rfl rfl wh283 rfl rfl ⟨(Nat.le_of_ble_eq_true rfl), (Nat.le_of_ble_eq_true rfl)⟩ rfl ((c_126 o n).1 _ (by omega) _ _ _ _ _ _ h280 _ rfl rfl rfl) (fun z1 z2 zq => ?_)
              obtain ⟨rfl, rfl⟩ := zq
              try dsimp only [Option.toList, HAppend.hAppend, Append.append, List.append]
              have hz := y_bind h
              clear h
              obtain ⟨_, h287, h⟩ := hz
              have c286 := q_g_ok h287
              refine Uif (q_eq0 c286) rfl rfl rfl rfl rfl rfl rfl (fun c288 => ?_) (fun c288 => ?_)
              · rw [if_pos c288] at h
                exact ih.2.2.2.2.2.2.2 _ hd _ _ _ _ _ _ _ _ _ _ _ _ _ h lv trivial
              · rw [if_neg c288] at h
                refine Van rfl lk0 rfl rfl ?_
                refine Vin rfl lk1 rfl ?_
                refine Vic (v := Int32.ofInt 2) rfl rfl rfl ?_
                refine Van rfl lk0 rfl rfl ?_
                have hz := y_bind h
                clear h
                obtain ⟨v289, h290, h⟩ := hz
                have wv289 := (y_gv_ok h290).2
                refine Vgv h290 rfl rfl rfl ?_
                refine Van rfl lk0 rfl rfl ?_
                refine Vin rfl lk2 rfl ?_
                have hz := y_bind h
                clear h
                obtain ⟨b295, h296, h⟩ := hz
                obtain ⟨eh296, fh296, wh296⟩ := y_rcv_ok h296
                cases eh296
                have hz := y_bind h
                clear h
                obtain ⟨⟨s291, r292⟩, h293, h⟩ := hz
                try dsimp only at h
                refine Vcv rfl rfl rfl wh296 rfl rfl ⟨(by simp only [List.take, List.reverse_cons, List.reverse_nil, List.nil_append, List.cons_append, List.map_cons, List.map_nil, y_cati, y_catl, y_catr, y_catn, y_cata, y_rv_cat wv289, List.sum_cons, List.sum_nil]; decide +kernel), (Nat.le_of_ble_eq_true rfl)⟩ rfl ((c_124 o n) _ (by omega) _ _ _ _ _ h293 _ rfl rfl) (fun z1 z2 zq => ?_)
                obtain ⟨rfl, rfl⟩ := zq
                try dsimp only [Option.toList, HAppend.hAppend, Append.append, List.append]
                have hz := y_bind h
                clear h
                obtain ⟨v299, h300, h⟩ := hz
                refine Zia (q_ia_y h300) rfl rfl ?_
                have hz := y_bind h
                clear h
                obtain ⟨b305, h306, h⟩ := hz
                obtain ⟨eh306, fh306, wh306⟩ := y_rcv_ok h306
                cases eh306
                have hz := y_bind h
                clear h
                obtain ⟨⟨s301, r302⟩, h303, h⟩ := hz
                try dsimp only at h
                refine Vcv rfl rfl rfl wh306 rfl rfl ⟨(Nat.le_of_ble_eq_true rfl), (Nat.le_of_ble_eq_true rfl)⟩ rfl ((c_120 o n) _ (by omega) _ _ _ _ _ _ _ h303 _ rfl rfl rfl rfl) (fun z1 z2 zq => ?_)
                obtain ⟨rfl, rfl⟩ := zq
                try dsimp only [Option.toList, HAppend.hAppend, Append.append, List.append]
                refine Ygo rfl rfl rfl rfl rfl rfl ?_
                exact ih.2.2.2.2.2.2.2 _ hd _ _ _ _ _ _ _ _ _ _ _ _ _ h lv trivial
            · rw [if_neg c277] at h
              refine Van rfl lk0 rfl rfl ?_
              refine Vic (v := Int32.ofInt 3) rfl rfl rfl ?_
              refine Vin rfl lk2 rfl ?_
              have hz := y_bind h
              clear h
              obtain ⟨b313, h314, h⟩ := hz
              obtain ⟨eh314, fh314, wh314⟩ := y_rcv_ok h314
              cases eh314
              have hz := y_bind h
              clear h
              obtain ⟨⟨s309, r310⟩, h311, h⟩ := hz
              try dsimp only at h
              refine Vcv rfl rfl rfl wh314 rfl rfl ⟨(Nat.le_of_ble_eq_true rfl), (Nat.le_of_ble_eq_true rfl)⟩ rfl ((c_114 o n).1 _ (by omega) _ _ _ _ _ _ h311 _ rfl rfl rfl) (fun z1 z2 zq => ?_)
              obtain ⟨rfl, rfl⟩ := zq
              try dsimp only [Option.toList, HAppend.hAppend, Append.append, List.append]
              refine Ygo rfl rfl rfl rfl rfl rfl ?_
              exact ih.2.2.2.2.2.2.2 _ hd _ _ _ _ _ _ _ _ _ _ _ _ _ h lv trivial
          rw [if_neg c317] at h
          by_cases c346 : r6 = 20
          · rw [if_pos c346] at h
            refine Vts (k := 20) (congrArg Int32.ofInt c346) rfl rfl rfl rfl rfl rfl rfl ?_
            refine Van rfl lk0 rfl rfl ?_
            have hz := y_bind h
            clear h
            obtain ⟨v318, h319, h⟩ := hz
            have wv318 := (y_gv_ok h319).2
            refine Vgv h319 rfl rfl rfl ?_
            refine Van rfl lk0 rfl rfl ?_
            refine Vin rfl lk2 rfl ?_
            have hz := y_bind h
            clear h
            obtain ⟨b324, h325, h⟩ := hz
            obtain ⟨eh325, fh325, wh325⟩ := y_rcv_ok h325
            cases eh325
            have hz := y_bind h
            clear h
            obtain ⟨⟨s320, r321⟩, h322, h⟩ := hz
            try dsimp only at h
            refine Vcv rfl rfl rfl wh325 rfl rfl ⟨(by simp only [List.take, List.reverse_cons, List.reverse_nil, List.nil_append, List.cons_append, List.map_cons, List.map_nil, y_cati, y_catl, y_catr, y_catn, y_cata, y_rv_cat wv318, List.sum_cons, List.sum_nil]; decide +kernel), (Nat.le_of_ble_eq_true rfl)⟩ rfl ((c_124 o n) _ (by omega) _ _ _ _ _ h322 _ rfl rfl) (fun z1 z2 zq => ?_)
            obtain ⟨rfl, rfl⟩ := zq
            try dsimp only [Option.toList, HAppend.hAppend, Append.append, List.append]
            refine Van rfl lk0 rfl rfl ?_
            refine Vin rfl lk2 rfl ?_
            have hz := y_bind h
            clear h
            obtain ⟨b332, h333, h⟩ := hz
            obtain ⟨eh333, fh333, wh333⟩ := y_rcv_ok h333
            cases eh333
            have hz := y_bind h
            clear h
            obtain ⟨⟨s328, r329⟩, h330, h⟩ := hz
            try dsimp only at h
            refine Vcv rfl rfl rfl wh333 rfl rfl ⟨(by simp only [List.take, List.reverse_cons, List.reverse_nil, List.nil_append, List.cons_append, List.map_cons, List.map_nil, y_cati, y_catl, y_catr, y_catn, y_cata, y_rv_cat wv318, List.sum_cons, List.sum_nil]; decide +kernel), (Nat.le_of_ble_eq_true rfl)⟩ rfl ((c_112 o n) _ (by omega) _ _ _ _ _ h330 _ rfl rfl) (fun z1 z2 zq => ?_)
            obtain ⟨rfl, rfl⟩ := zq
            try dsimp only [Option.toList, HAppend.hAppend, Append.append, List.append]
            have hz := y_bind h
            clear h
            obtain ⟨s336, h337, h⟩ := hz
            refine Zis (q_is_y h337) rfl rfl ?_
            refine Van rfl lk0 rfl rfl ?_
            refine Vin rfl lk1 rfl ?_
            refine Vic (v := Int32.ofInt 3) rfl rfl rfl ?_
            refine Vin rfl lk2 rfl ?_
            have hz := y_bind h
            clear h
            obtain ⟨b342, h343, h⟩ := hz
            obtain ⟨eh343, fh343, wh343⟩ := y_rcv_ok h343
            cases eh343
            have hz := y_bind h
            clear h
            obtain ⟨⟨s338, r339⟩, h340, h⟩ := hz
            try dsimp only at h
            refine Vcv rfl rfl rfl wh343 rfl rfl ⟨(Nat.le_of_ble_eq_true rfl), (Nat.le_of_ble_eq_true rfl)⟩ rfl ((c_120 o n) _ (by omega) _ _ _ _ _ _ _ h340 _ rfl rfl rfl rfl) (fun z1 z2 zq => ?_)
            obtain ⟨rfl, rfl⟩ := zq
            try dsimp only [Option.toList, HAppend.hAppend, Append.append, List.append]
            refine Ygo rfl rfl rfl rfl rfl rfl ?_
            exact ih.2.2.2.2.2.2.2 _ hd _ _ _ _ _ _ _ _ _ _ _ _ _ h lv trivial
          rw [if_neg c346] at h
          cases h
        · rw [if_neg c20] at h
          refine Van rfl lk0 rfl rfl ?_
          refine Vic (v := Int32.ofInt 4) rfl rfl rfl ?_
          refine Vin rfl lk2 rfl ?_
          have hz := y_bind h
          clear h
          obtain ⟨b351, h352, h⟩ := hz
          obtain ⟨eh352, fh352, wh352⟩ := y_rcv_ok h352
          cases eh352
          have hz := y_bind h
          clear h
          obtain ⟨⟨s347, r348⟩, h349, h⟩ := hz
          try dsimp only at h
          refine Vcv rfl rfl rfl wh352 rfl rfl ⟨(Nat.le_of_ble_eq_true rfl), (Nat.le_of_ble_eq_true rfl)⟩ rfl ((c_114 o n).1 _ (by omega) _ _ _ _ _ _ h349 _ rfl rfl rfl) (fun z1 z2 zq => ?_)
          obtain ⟨rfl, rfl⟩ := zq
          try dsimp only [Option.toList, HAppend.hAppend, Append.append, List.append]
          cases h
          exact Yret rfl rfl rfl rfl rfl rfl rfl ⟨rfl, rfl⟩
      · rw [if_neg c15] at h
        refine Van rfl lk0 rfl rfl ?_
        refine Vin rfl lk1 rfl ?_
        refine Vic (v := Int32.ofInt 2) rfl rfl rfl ?_
        refine Van rfl lk0 rfl rfl ?_
        refine Vin rfl lk2 rfl ?_
        have hz := y_bind h
        clear h
        obtain ⟨b359, h360, h⟩ := hz
        obtain ⟨eh360, fh360, wh360⟩ := y_rcv_ok h360
        cases eh360
        have hz := y_bind h
        clear h
        obtain ⟨⟨s355, r356⟩, h357, h⟩ := hz
        try dsimp only at h
        refine Vcv rfl rfl rfl wh360 rfl rfl ⟨(Nat.le_of_ble_eq_true rfl), (Nat.le_of_ble_eq_true rfl)⟩ rfl ((c_112 o n) _ (by omega) _ _ _ _ _ h357 _ rfl rfl) (fun z1 z2 zq => ?_)
        obtain ⟨rfl, rfl⟩ := zq
        try dsimp only [Option.toList, HAppend.hAppend, Append.append, List.append]
        have hz := y_bind h
        clear h
        obtain ⟨b367, h368, h⟩ := hz
        obtain ⟨eh368, fh368, wh368⟩ := y_rcv_ok h368
        cases eh368
        have hz := y_bind h
        clear h
        obtain ⟨⟨s363, r364⟩, h365, h⟩ := hz
        try dsimp only at h
        refine Vcv rfl rfl rfl wh368 rfl rfl ⟨(Nat.le_of_ble_eq_true rfl), (Nat.le_of_ble_eq_true rfl)⟩ rfl ((c_120 o n) _ (by omega) _ _ _ _ _ _ _ h365 _ rfl rfl rfl rfl) (fun z1 z2 zq => ?_)
        obtain ⟨rfl, rfl⟩ := zq
        try dsimp only [Option.toList, HAppend.hAppend, Append.append, List.append]
        cases h
        exact Yret rfl rfl rfl rfl rfl rfl rfl ⟨rfl, rfl⟩
    · intro d hd s r0 i1 i2 i6 l7 ta0 ti1 ti2 ti0 ti3 s9 r h lv lk2 rs0
      obtain ⟨d, rfl⟩ : ∃ x, d = x + 1 := ⟨d - 1, by omega⟩
      simp only [g_122] at h
      refine Vin rfl lk2 rfl ?_
      have hz := y_bind h
      clear h
      obtain ⟨b5, h6, h⟩ := hz
      obtain ⟨eh6, fh6, wh6⟩ := y_rcv_ok h6
      cases eh6
      have hz := y_bind h
      clear h
      obtain ⟨⟨s1, r2⟩, h3, h⟩ := hz
      try dsimp only at h
      refine Vcv rfl rfl rfl wh6 rfl rfl ⟨(Nat.le_of_ble_eq_true rfl), (Nat.le_of_ble_eq_true rfl)⟩ rfl ((c_120 o n) _ (by omega) _ _ _ _ _ _ _ h3 _ rfl rfl rfl rfl) (fun z1 z2 zq => ?_)
      obtain ⟨rfl, rfl⟩ := zq
      try dsimp only [Option.toList, HAppend.hAppend, Append.append, List.append]
      refine Ygo rfl rfl rfl rfl rfl rfl ?_
      exact ih.2.2.2.2.2.2.2 _ hd _ _ _ _ _ _ _ _ _ _ _ _ _ h lv trivial
    · intro d hd s r0 i1 i2 i6 l7 ta0 ti1 ti2 ti0 ti3 s9 r h lv lk0 lk1 lk2
      obtain ⟨d, rfl⟩ : ∃ x, d = x + 1 := ⟨d - 1, by omega⟩
      simp only [g_122] at h
      refine Vsi rfl rfl (fun lv lk6 hk => ?_)
      have lk0 := hk 0 _ lk0 (by decide) (by decide) (Or.inl (by decide))
      have lk1 := hk 1 _ lk1 (by decide) (by decide) (Or.inl (by decide))
      have lk2 := hk 2 _ lk2 (by decide) (by decide) (Or.inl (by decide))
      refine Van rfl lk0 rfl rfl ?_
      refine Vin rfl lk1 rfl ?_
      refine Vi rfl lk6 rfl ?_
      refine Vic (v := Int32.ofInt (-1)) rfl rfl rfl ?_
      have hz := y_bind h
      clear h
      obtain ⟨_, h2, h⟩ := hz
      have c1 := q_g_ok h2
      refine Uif (not_congr (q_eq c1 (by decide))) rfl rfl rfl rfl rfl rfl rfl (fun c3 => ?_) (fun c3 => ?_)
      · rw [if_pos c3] at h
        refine Vic (v := Int32.ofInt 2) rfl rfl rfl ?_
        exact ih.2.2.2.1 _ hd _ _ _ _ _ _ _ _ _ _ _ _ _ h lv lk2 lk6 rfl
      · rw [if_neg c3] at h
        refine Vic (v := Int32.ofInt 3) rfl rfl rfl ?_
        refine Ygo rfl rfl rfl rfl rfl rfl ?_
        exact ih.2.2.2.1 _ hd _ _ _ _ _ _ _ _ _ _ _ _ _ h lv lk2 lk6 rfl
    · intro d hd s r0 i1 i2 i6 l7 ta0 ti1 ti2 ti0 ti3 s9 r h lv lk2 lk6 rs0
      obtain ⟨d, rfl⟩ : ∃ x, d = x + 1 := ⟨d - 1, by omega⟩
      simp only [g_122] at h
      refine Vi rfl lk6 rfl ?_
      refine Vic (v := Int32.ofInt (-1)) rfl rfl rfl ?_
      have hz := y_bind h
      clear h
      obtain ⟨_, h2, h⟩ := hz
      have c1 := q_g_ok h2
      refine Uif (not_congr (q_eq c1 (by decide))) rfl rfl rfl rfl rfl rfl rfl (fun c3 => ?_) (fun c3 => ?_)
      · rw [if_pos c3] at h
        refine Vi rfl lk6 rfl ?_
        exact ih.2.2.2.2.1 _ hd _ _ _ _ _ _ _ _ _ _ _ _ _ h lv rs0
      · rw [if_neg c3] at h
        refine Vin rfl lk2 rfl ?_
        refine Ygo rfl rfl rfl rfl rfl rfl ?_
        exact ih.2.2.2.2.1 _ hd _ _ _ _ _ _ _ _ _ _ _ _ _ h lv rs0
    · intro d hd s r0 i1 i2 i6 l7 ta0 ti1 ti2 ti0 ti3 s9 r h lv rs0
      obtain ⟨d, rfl⟩ : ∃ x, d = x + 1 := ⟨d - 1, by omega⟩
      simp only [g_122] at h
      have hz := y_bind h
      clear h
      obtain ⟨b5, h6, h⟩ := hz
      obtain ⟨eh6, fh6, wh6⟩ := y_rcv_ok h6
      cases eh6
      have hz := y_bind h
      clear h
      obtain ⟨⟨s1, r2⟩, h3, h⟩ := hz
      try dsimp only at h
      refine Vcv rfl rfl rfl wh6 rfl rfl ⟨(Nat.le_of_ble_eq_true rfl), (Nat.le_of_ble_eq_true rfl)⟩ rfl ((c_120 o n) _ (by omega) _ _ _ _ _ _ _ h3 _ rfl rfl rfl rfl) (fun z1 z2 zq => ?_)
      obtain ⟨rfl, rfl⟩ := zq
      try dsimp only [Option.toList, HAppend.hAppend, Append.append, List.append]
      refine Ygo rfl rfl rfl rfl rfl rfl ?_
      exact ih.2.2.2.2.2.2.2 _ hd _ _ _ _ _ _ _ _ _ _ _ _ _ h lv trivial
    · intro d hd s r0 i1 i2 i6 l7 ta0 ti1 ti2 ti0 ti3 s9 r h lv lk0 lk1 lk2 lk7
      obtain ⟨d, rfl⟩ : ∃ x, d = x + 1 := ⟨d - 1, by omega⟩
      simp only [g_122] at h
      refine Van rfl lk0 rfl rfl ?_
      refine Vin rfl lk1 rfl ?_
      refine Vic (v := Int32.ofInt 2) rfl rfl rfl ?_
      refine Vl rfl lk7 rfl ?_
      refine Vlc (v := 0) rfl (by decide) rfl ?_
      refine Ya rfl rfl rfl ?_
      refine Uif (lg_cmp_eq _ _) rfl rfl rfl rfl rfl rfl rfl (fun c1 => ?_) (fun c1 => ?_)
      · rw [if_pos c1] at h
        refine Van rfl lk0 rfl rfl ?_
        refine Vin rfl lk2 rfl ?_
        have hz := y_bind h
        clear h
        obtain ⟨b6, h7, h⟩ := hz
        obtain ⟨eh7, fh7, wh7⟩ := y_rcv_ok h7
        cases eh7
        have hz := y_bind h
        clear h
        obtain ⟨⟨s2, r3⟩, h4, h⟩ := hz
        try dsimp only at h
        refine Vcv rfl rfl rfl wh7 rfl rfl ⟨(Nat.le_of_ble_eq_true rfl), (Nat.le_of_ble_eq_true rfl)⟩ rfl ((c_119 o n) _ (by omega) _ _ _ _ _ h4 _ rfl rfl) (fun z1 z2 zq => ?_)
        obtain ⟨rfl, rfl⟩ := zq
        try dsimp only [Option.toList, HAppend.hAppend, Append.append, List.append]
        exact ih.2.2.2.2.2.2.1 _ hd _ _ _ _ _ _ _ _ _ _ _ _ _ h lv rfl
      · rw [if_neg c1] at h
        refine Van rfl lk0 rfl rfl ?_
        refine Vin rfl lk2 rfl ?_
        have hz := y_bind h
        clear h
        obtain ⟨b14, h15, h⟩ := hz
        obtain ⟨eh15, fh15, wh15⟩ := y_rcv_ok h15
        cases eh15
        have hz := y_bind h
        clear h
        obtain ⟨⟨s10, r11⟩, h12, h⟩ := hz
        try dsimp only at h
        refine Vcv rfl rfl rfl wh15 rfl rfl ⟨(Nat.le_of_ble_eq_true rfl), (Nat.le_of_ble_eq_true rfl)⟩ rfl ((c_116 o n) _ (by omega) _ _ _ _ _ h12 _ rfl rfl) (fun z1 z2 zq => ?_)
        obtain ⟨rfl, rfl⟩ := zq
        try dsimp only [Option.toList, HAppend.hAppend, Append.append, List.append]
        refine Ygo rfl rfl rfl rfl rfl rfl ?_
        exact ih.2.2.2.2.2.2.1 _ hd _ _ _ _ _ _ _ _ _ _ _ _ _ h lv rfl
    · intro d hd s r0 i1 i2 i6 l7 ta0 ti1 ti2 ti0 ti3 s9 r h lv rs0
      obtain ⟨d, rfl⟩ : ∃ x, d = x + 1 := ⟨d - 1, by omega⟩
      simp only [g_122] at h
      have hz := y_bind h
      clear h
      obtain ⟨b5, h6, h⟩ := hz
      obtain ⟨eh6, fh6, wh6⟩ := y_rcv_ok h6
      cases eh6
      have hz := y_bind h
      clear h
      obtain ⟨⟨s1, r2⟩, h3, h⟩ := hz
      try dsimp only at h
      refine Vcv rfl rfl rfl wh6 rfl rfl ⟨(Nat.le_of_ble_eq_true rfl), (Nat.le_of_ble_eq_true rfl)⟩ rfl ((c_120 o n) _ (by omega) _ _ _ _ _ _ _ h3 _ rfl rfl rfl rfl) (fun z1 z2 zq => ?_)
      obtain ⟨rfl, rfl⟩ := zq
      try dsimp only [Option.toList, HAppend.hAppend, Append.append, List.append]
      refine Ygo rfl rfl rfl rfl rfl rfl ?_
      exact ih.2.2.2.2.2.2.2 _ hd _ _ _ _ _ _ _ _ _ _ _ _ _ h lv trivial
    · intro d hd s r0 i1 i2 i6 l7 ta0 ti1 ti2 ti0 ti3 s9 r h lv _
      obtain ⟨d, rfl⟩ : ∃ x, d = x + 1 := ⟨d - 1, by omega⟩
      simp only [g_122] at h
      cases h
      exact Yret rfl rfl rfl rfl rfl rfl rfl ⟨rfl, rfl⟩

/-- StepRowsModel.upOf -/
def g_130 (o : X_O) : Nat → Nat → Q_S → Nat → Int → Option (Q_S × Int)
  | 0, _, _, _, _ => none
  | n + 1, 0, s, r0, i1 => (q_gv s 7 (.ref r0) 15).bind fun v1 => (q_gi s 7 (.ref r0) 18).bind fun v3 => (q_ia o s v1 ((500 * v3) + i1)).bind fun v5 => some (s, v5)
  | _ + 1, _, _, _, _ => none
set_option maxRecDepth 100000 in
set_option maxHeartbeats 4000000 in
theorem c_130 (o : X_O) : ∀ n, (∀ (d : Nat) (hd : 0 ≤ d) (s : Q_S) (r0 : Nat) (i1 : Int) (s9 : Q_S) (r : Int), g_130 o n 0 s r0 i1 = some (s9, r) → ∀ lv : X_L, x_lget lv 0 = some (.ref r0) → x_lget lv 1 = some (.int (Int32.ofInt i1)) → Y o d 130 0 lv [] (q_y s) (fun s1 r1 => s1 = q_y s9 ∧ r1 = some (.int (Int32.ofInt r)))) := by
  intro n
  induction n with
  | zero => exact fun d hd s _ _ s9 r h => (by simp only [g_130] at h; cases h)
  | succ n ih =>
    intro d hd s r0 i1 s9 r h lv lk0 lk1
    simp only [g_130] at h
    refine Van rfl lk0 rfl rfl ?_
    have hz := y_bind h
    clear h
    obtain ⟨v1, h2, h⟩ := hz
    have wv1 := (y_gv_ok h2).2
    refine Vgv h2 rfl rfl rfl ?_
    refine Vsp (v := Int32.ofInt 500) rfl (by decide) rfl ?_
    refine Van rfl lk0 rfl rfl ?_
    have hz := y_bind h
    clear h
    obtain ⟨v3, h4, h⟩ := hz
    refine Zgi (q_gi_y h4) rfl rfl rfl ?_
    refine Umul rfl rfl ?_
    refine Vin rfl lk1 rfl ?_
    refine Uadd rfl rfl ?_
    have hz := y_bind h
    clear h
    obtain ⟨v5, h6, h⟩ := hz
    refine Zia (q_ia_y h6) rfl rfl ?_
    cases h
    exact Yret rfl rfl rfl rfl rfl rfl rfl ⟨rfl, rfl⟩

/-- StepRowsModel.isPhase -/
def g_131 (o : X_O) : Nat → Nat → Q_S → Nat → Int → Int → Int → Option (Q_S × Int)
  | 0, _, _, _, _, _, _ => none
  | n + 1, 0, s, r0, i1, i2, ti0 => (q_rcv s 7 (.ref r0)).bind fun b5 => (g_130 o n 0 s b5 (i1)).bind fun q4 => g_131 o n 1 q4.1 r0 (i1) (q4.2) 0
  | n + 1, 1, s, r0, i1, i2, ti0 => (q_g (q_in i2)).bind fun _ => if i2 = (-1) then g_131 o n 2 s r0 (i1) (i2) 0 else (q_rcv s 7 (.ref r0)).bind fun b8 => (g_111 o n 0 s b8 (i2)).bind fun q7 => (q_g (q_in q7.2)).bind fun _ => if ¬ q7.2 = 14 then g_131 o n 2 q7.1 r0 (i1) (i2) 0 else (q_rcv q7.1 7 (.ref r0)).bind fun b19 => (g_130 o n 0 q7.1 b19 (i2)).bind fun q18 => g_131 o n 1 q18.1 r0 (i1) (q18.2) 0
  | n + 1, 2, s, r0, i1, i2, ti0 => (q_rcv s 7 (.ref r0)).bind fun b5 => (g_111 o n 0 s b5 (i1)).bind fun q4 => (q_g (q_in q4.2)).bind fun _ => if ¬ q4.2 = 21 then g_131 o n 3 q4.1 0 0 0 0 else (q_g (q_in i2)).bind fun _ => if ¬ i2 = (-1) then g_131 o n 3 q4.1 0 0 0 0 else g_131 o n 4 q4.1 0 0 0 (1)
  | n + 1, 3, s, r0, i1, i2, ti0 => g_131 o n 4 s 0 0 0 (0)
  | n + 1, 4, s, r0, i1, i2, ti0 => (q_g (ti0 = 0 ∨ ti0 = 1)).bind fun _ => some (s, ti0)
  | _ + 1, _, _, _, _, _, _ => none
set_option maxRecDepth 100000 in
set_option maxHeartbeats 4000000 in
theorem c_131 (o : X_O) : ∀ n, (∀ (d : Nat) (hd : 1 ≤ d) (s : Q_S) (r0 : Nat) (i1 : Int) (i2 : Int) (ti0 : Int) (s9 : Q_S) (r : Int), g_131 o n 0 s r0 i1 i2 ti0 = some (s9, r) → ∀ lv : X_L, x_lget lv 0 = some (.ref r0) → x_lget lv 1 = some (.int (Int32.ofInt i1)) → Y o d 131 0 lv [] (q_y s) (fun s1 r1 => s1 = q_y s9 ∧ r1 = some (.int (Int32.ofInt r)))) ∧
    (∀ (d : Nat) (hd : 1 ≤ d) (s : Q_S) (r0 : Nat) (i1 : Int) (i2 : Int) (ti0 : Int) (s9 : Q_S) (r : Int), g_131 o n 1 s r0 i1 i2 ti0 = some (s9, r) → ∀ lv : X_L, x_lget lv 0 = some (.ref r0) → x_lget lv 1 = some (.int (Int32.ofInt i1)) → x_lget lv 2 = some (.int (Int32.ofInt i2)) → Y o d 131 6 lv [] (q_y s) (fun s1 r1 => s1 = q_y s9 ∧ r1 = some (.int (Int32.ofInt r)))) ∧
    (∀ (d : Nat) (hd : 1 ≤ d) (s : Q_S) (r0 : Nat) (i1 : Int) (i2 : Int) (ti0 : Int) (s9 : Q_S) (r : Int), g_131 o n 2 s r0 i1 i2 ti0 = some (s9, r) → ∀ lv : X_L, x_lget lv 0 = some (.ref r0) → x_lget lv 1 = some (.int (Int32.ofInt i1)) → x_lget lv 2 = some (.int (Int32.ofInt i2)) → Y o d 131 30 lv [] (q_y s) (fun s1 r1 => s1 = q_y s9 ∧ r1 = some (.int (Int32.ofInt r)))) ∧
    (∀ (d : Nat) (hd : 1 ≤ d) (s : Q_S) (r0 : Nat) (i1 : Int) (i2 : Int) (ti0 : Int) (s9 : Q_S) (r : Int), g_131 o n 3 s r0 i1 i2 ti0 = some (s9, r) → ∀ lv : X_L, True → Y o d 131 49 lv [] (q_y s) (fun s1 r1 => s1 = q_y s9 ∧ r1 = some (.int (Int32.ofInt r)))) ∧
    (∀ (d : Nat) (hd : 1 ≤ d) (s : Q_S) (r0 : Nat) (i1 : Int) (i2 : Int) (ti0 : Int) (s9 : Q_S) (r : Int), g_131 o n 4 s r0 i1 i2 ti0 = some (s9, r) → ∀ lv : X_L, True → Y o d 131 50 lv [.int (Int32.ofInt ti0)] (q_y s) (fun s1 r1 => s1 = q_y s9 ∧ r1 = some (.int (Int32.ofInt r)))) := by
  intro n
  induction n with
  | zero => exact ⟨fun d hd s _ _ _ _ s9 r h => (by simp only [g_131] at h; cases h), fun d hd s _ _ _ _ s9 r h => (by simp only [g_131] at h; cases h), fun d hd s _ _ _ _ s9 r h => (by simp only [g_131] at h; cases h), fun d hd s _ _ _ _ s9 r h => (by simp only [g_131] at h; cases h), fun d hd s _ _ _ _ s9 r h => (by simp only [g_131] at h; cases h)⟩
  | succ n ih =>
    refine ⟨?_, ?_, ?_, ?_, ?_⟩
    · intro d hd s r0 i1 i2 ti0 s9 r h lv lk0 lk1
      obtain ⟨d, rfl⟩ : ∃ x, d = x + 1 := ⟨d - 1, by omega⟩
      simp only [g_131] at h
      refine Van rfl lk0 rfl rfl ?_
      refine Vin rfl lk1 rfl ?_
      have hz := y_bind h
      clear h
      obtain ⟨b5, h6, h⟩ := hz
      obtain ⟨eh6, fh6, wh6⟩ := y_rcv_ok h6
      cases eh6
      have hz := y_bind h
      clear h
      obtain ⟨⟨s1, r2⟩, h3, h⟩ := hz
      try dsimp only at h
      refine Vcv rfl rfl rfl wh6 rfl rfl ⟨(Nat.le_of_ble_eq_true rfl), (Nat.le_of_ble_eq_true rfl)⟩ rfl ((c_130 o n) _ (by omega) _ _ _ _ _ h3 _ rfl rfl) (fun z1 z2 zq => ?_)
      obtain ⟨rfl, rfl⟩ := zq
      try dsimp only [Option.toList, HAppend.hAppend, Append.append, List.append]
      refine Vsin rfl rfl (fun lv lk2 hk => ?_)
      have lk0 := hk 0 _ lk0 (by decide) (by decide) (Or.inl (by decide))
      have lk1 := hk 1 _ lk1 (by decide) (by decide) (Or.inr rfl)
      exact ih.2.1 _ hd _ _ _ _ _ _ _ h lv lk0 lk1 lk2
    · intro d hd s r0 i1 i2 ti0 s9 r h lv lk0 lk1 lk2
      obtain ⟨d, rfl⟩ : ∃ x, d = x + 1 := ⟨d - 1, by omega⟩
      simp only [g_131] at h
      refine Vin rfl lk2 rfl ?_
      refine Vic (v := Int32.ofInt (-1)) rfl rfl rfl ?_
      have hz := y_bind h
      clear h
      obtain ⟨_, h2, h⟩ := hz
      have c1 := q_g_ok h2
      refine Uif (q_eq c1 (by decide)) rfl rfl rfl rfl rfl rfl rfl (fun c3 => ?_) (fun c3 => ?_)
      · rw [if_pos c3] at h
        exact ih.2.2.1 _ hd _ _ _ _ _ _ _ h lv lk0 lk1 lk2
      · rw [if_neg c3] at h
        refine Van rfl lk0 rfl rfl ?_
        refine Vin rfl lk2 rfl ?_
        have hz := y_bind h
        clear h
        obtain ⟨b8, h9, h⟩ := hz
        obtain ⟨eh9, fh9, wh9⟩ := y_rcv_ok h9
        cases eh9
        have hz := y_bind h
        clear h
        obtain ⟨⟨s4, r5⟩, h6, h⟩ := hz
        try dsimp only at h
        refine Vcv rfl rfl rfl wh9 rfl rfl ⟨(Nat.le_of_ble_eq_true rfl), (Nat.le_of_ble_eq_true rfl)⟩ rfl ((c_111 o n) _ (by omega) _ _ _ _ _ h6 _ rfl rfl) (fun z1 z2 zq => ?_)
        obtain ⟨rfl, rfl⟩ := zq
        try dsimp only [Option.toList, HAppend.hAppend, Append.append, List.append]
        refine Vbp (v := Int32.ofInt 14) rfl (by decide) rfl ?_
        have hz := y_bind h
        clear h
        obtain ⟨_, h13, h⟩ := hz
        have c12 := q_g_ok h13
        refine Uif (not_congr (q_eq c12 (by decide))) rfl rfl rfl rfl rfl rfl rfl (fun c14 => ?_) (fun c14 => ?_)
        · rw [if_pos c14] at h
          exact ih.2.2.1 _ hd _ _ _ _ _ _ _ h lv lk0 lk1 lk2
        · rw [if_neg c14] at h
          refine Van rfl lk0 rfl rfl ?_
          refine Vin rfl lk2 rfl ?_
          have hz := y_bind h
          clear h
          obtain ⟨b19, h20, h⟩ := hz
          obtain ⟨eh20, fh20, wh20⟩ := y_rcv_ok h20
          cases eh20
          have hz := y_bind h
          clear h
          obtain ⟨⟨s15, r16⟩, h17, h⟩ := hz
          try dsimp only at h
          refine Vcv rfl rfl rfl wh20 rfl rfl ⟨(Nat.le_of_ble_eq_true rfl), (Nat.le_of_ble_eq_true rfl)⟩ rfl ((c_130 o n) _ (by omega) _ _ _ _ _ h17 _ rfl rfl) (fun z1 z2 zq => ?_)
          obtain ⟨rfl, rfl⟩ := zq
          try dsimp only [Option.toList, HAppend.hAppend, Append.append, List.append]
          refine Vsin rfl rfl (fun lv lk2 hk => ?_)
          have lk0 := hk 0 _ lk0 (by decide) (by decide) (Or.inl (by decide))
          have lk1 := hk 1 _ lk1 (by decide) (by decide) (Or.inr rfl)
          refine Ygo rfl rfl rfl rfl rfl rfl ?_
          exact ih.2.1 _ hd _ _ _ _ _ _ _ h lv lk0 lk1 lk2
    · intro d hd s r0 i1 i2 ti0 s9 r h lv lk0 lk1 lk2
      obtain ⟨d, rfl⟩ : ∃ x, d = x + 1 := ⟨d - 1, by omega⟩
      simp only [g_131] at h
      refine Van rfl lk0 rfl rfl ?_
      refine Vin rfl lk1 rfl ?_
      have hz := y_bind h
      clear h
      obtain ⟨b5, h6, h⟩ := hz
      obtain ⟨eh6, fh6, wh6⟩ := y_rcv_ok h6
      cases eh6
      have hz := y_bind h
      clear h
      obtain ⟨⟨s1, r2⟩, h3, h⟩ := hz
      try dsimp only at h
      refine Vcv rfl rfl rfl wh6 rfl rfl ⟨(Nat.le_of_ble_eq_true rfl), (Nat.le_of_ble_eq_true rfl)⟩ rfl ((c_111 o n) _ (by omega) _ _ _ _ _ h3 _ rfl rfl) (fun z1 z2 zq => ?_)
      obtain ⟨rfl, rfl⟩ := zq
      try dsimp only [Option.toList, HAppend.hAppend, Append.append, List.append]
      refine Vbp (v := Int32.ofInt 21) rfl (by decide) rfl ?_
      have hz := y_bind h
      clear h
      obtain ⟨_, h10, h⟩ := hz
      have c9 := q_g_ok h10
      refine Uif (not_congr (q_eq c9 (by decide))) rfl rfl rfl rfl rfl rfl rfl (fun c11 => ?_) (fun c11 => ?_)
      · rw [if_pos c11] at h
        exact ih.2.2.2.1 _ hd _ _ _ _ _ _ _ h lv trivial
      · rw [if_neg c11] at h
        refine Vin rfl lk2 rfl ?_
        refine Vic (v := Int32.ofInt (-1)) rfl rfl rfl ?_
        have hz := y_bind h
        clear h
        obtain ⟨_, h13, h⟩ := hz
        have c12 := q_g_ok h13
        refine Uif (not_congr (q_eq c12 (by decide))) rfl rfl rfl rfl rfl rfl rfl (fun c14 => ?_) (fun c14 => ?_)
        · rw [if_pos c14] at h
          exact ih.2.2.2.1 _ hd _ _ _ _ _ _ _ h lv trivial
        · rw [if_neg c14] at h
          refine Vic (v := Int32.ofInt 1) rfl rfl rfl ?_
          refine Ygo rfl rfl rfl rfl rfl rfl ?_
          exact ih.2.2.2.2 _ hd _ _ _ _ _ _ _ h lv trivial
    · intro d hd s r0 i1 i2 ti0 s9 r h lv _
      obtain ⟨d, rfl⟩ : ∃ x, d = x + 1 := ⟨d - 1, by omega⟩
      simp only [g_131] at h
      refine Vic (v := Int32.ofInt 0) rfl rfl rfl ?_
      exact ih.2.2.2.2 _ hd _ _ _ _ _ _ _ h lv trivial
    · intro d hd s r0 i1 i2 ti0 s9 r h lv _
      obtain ⟨d, rfl⟩ : ∃ x, d = x + 1 := ⟨d - 1, by omega⟩
      simp only [g_131] at h
      have hz := y_bind h
      clear h
      obtain ⟨_, h2, h⟩ := hz
      have c1 := q_g_ok h2
      cases h
      exact Yret rfl rfl rfl rfl rfl rfl (if_pos (q_bool c1)) ⟨rfl, rfl⟩

/-- StepRowsModel.phase -/
def g_133 (o : X_O) : Nat → Nat → Q_S → Nat → Int → Int → Int → Int → Int → Option (Q_S × Int)
  | 0, _, _, _, _, _, _, _, _ => none
  | n + 1, 0, s, r0, i1, i2, i3, ti0, ti1 => g_133 o n 1 s r0 0 (i1) (0) 0 0
  | n + 1, 1, s, r0, i1, i2, i3, ti0, ti1 => (q_gv s 7 (.ref r0) 9).bind fun v1 => (q_gi s 7 (.ref r0) 18).bind fun v3 => (q_ia o s v1 v3).bind fun v5 => (q_g (q_in i3 ∧ q_in v5)).bind fun _ => if v5 ≤ i3 then some (s, (-1)) else (q_rcv s 7 (.ref r0)).bind fun b14 => (g_131 o n 0 s b14 (i3) 0 0).bind fun q13 => (q_g (q_in q13.2)).bind fun _ => if q13.2 = 0 then g_133 o n 2 q13.1 r0 0 0 (i3) (i2) (0) else g_133 o n 2 q13.1 r0 0 0 (i3) (i2) (1)
  | n + 1, 2, s, r0, i1, i2, i3, ti0, ti1 => (q_g (q_in (ti0 - ti1))).bind fun _ => if ¬ (ti0 - ti1) = 0 then g_133 o n 3 s r0 0 ((ti0 - ti1)) (i3) 0 0 else (q_rcv s 7 (.ref r0)).bind fun b8 => (g_131 o n 0 s b8 (i3) 0 0).bind fun q7 => (q_g (q_in q7.2)).bind fun _ => if q7.2 = 0 then g_133 o n 3 q7.1 r0 0 ((ti0 - ti1)) (i3) 0 0 else some (q7.1, i3)
  | n + 1, 3, s, r0, i1, i2, i3, ti0, ti1 => g_133 o n 1 s r0 0 (i2) ((i3 + 1)) 0 0
  | _ + 1, _, _, _, _, _, _, _, _ => none
set_option maxRecDepth 100000 in
set_option maxHeartbeats 4000000 in
theorem c_133 (o : X_O) : ∀ n, (∀ (d : Nat) (hd : 2 ≤ d) (s : Q_S) (r0 : Nat) (i1 : Int) (i2 : Int) (i3 : Int) (ti0 : Int) (ti1 : Int) (s9 : Q_S) (r : Int), g_133 o n 0 s r0 i1 i2 i3 ti0 ti1 = some (s9, r) → ∀ lv : X_L, x_lget lv 0 = some (.ref r0) → x_lget lv 1 = some (.int (Int32.ofInt i1)) → Y o d 133 0 lv [] (q_y s) (fun s1 r1 => s1 = q_y s9 ∧ r1 = some (.int (Int32.ofInt r)))) ∧
    (∀ (d : Nat) (hd : 2 ≤ d) (s : Q_S) (r0 : Nat) (i1 : Int) (i2 : Int) (i3 : Int) (ti0 : Int) (ti1 : Int) (s9 : Q_S) (r : Int), g_133 o n 1 s r0 i1 i2 i3 ti0 ti1 = some (s9, r) → ∀ lv : X_L, x_lget lv 0 = some (.ref r0) → x_lget lv 2 = some (.int (Int32.ofInt i2)) → x_lget lv 3 = some (.int (Int32.ofInt i3)) → Y o d 133 4 lv [] (q_y s) (fun s1 r1 => s1 = q_y s9 ∧ r1 = some (.int (Int32.ofInt r)))) ∧
    (∀ (d : Nat) (hd : 2 ≤ d) (s : Q_S) (r0 : Nat) (i1 : Int) (i2 : Int) (i3 : Int) (ti0 : Int) (ti1 : Int) (s9 : Q_S) (r : Int), g_133 o n 2 s r0 i1 i2 i3 ti0 ti1 = some (s9, r) → ∀ lv : X_L, x_lget lv 0 = some (.ref r0) → x_lget lv 3 = some (.int (Int32.ofInt i3)) → Y o d 133 31 lv [.int (Int32.ofInt ti1), .int (Int32.ofInt ti0)] (q_y s) (fun s1 r1 => s1 = q_y s9 ∧ r1 = some (.int (Int32.ofInt r)))) ∧
    (∀ (d : Nat) (hd : 2 ≤ d) (s : Q_S) (r0 : Nat) (i1 : Int) (i2 : Int) (i3 : Int) (ti0 : Int) (ti1 : Int) (s9 : Q_S) (r : Int), g_133 o n 3 s r0 i1 i2 i3 ti0 ti1 = some (s9, r) → ∀ lv : X_L, x_lget lv 0 = some (.ref r0) → x_lget lv 2 = some (.int (Int32.ofInt i2)) → x_lget lv 3 = some (.int (Int32.ofInt i3)) → Y o d 133 47 lv [] (q_y s) (fun s1 r1 => s1 = q_y s9 ∧ r1 = some (.int (Int32.ofInt r)))) := by
  intro n
  induction n with
  | zero => exact ⟨fun d hd s _ _ _ _ _ _ s9 r h => (by simp only [g_133] at h; cases h), fun d hd s _ _ _ _ _ _ s9 r h => (by simp only [g_133] at h; cases h), fun d hd s _ _ _ _ _ _ s9 r h => (by simp only [g_133] at h; cases h), fun d hd s _ _ _ _ _ _ s9 r h => (by simp only [g_133] at h; cases h)⟩
  | succ n ih =>
    refine ⟨?_, ?_, ?_, ?_⟩
    · intro d hd s r0 i1 i2 i3 ti0 ti1 s9 r h lv lk0 lk1
      obtain ⟨d, rfl⟩ : ∃ x, d = x + 1 := ⟨d - 1, by omega⟩
      simp only [g_133] at h
      refine Vin rfl lk1 rfl ?_
      refine Vsin rfl rfl (fun lv lk2 hk => ?_)
      have lk0 := hk 0 _ lk0 (by decide) (by decide) (Or.inl (by decide))
      refine Vic (v := Int32.ofInt 0) rfl rfl rfl ?_
      refine Vsin rfl rfl (fun lv lk3 hk => ?_)
      have lk0 := hk 0 _ lk0 (by decide) (by decide) (Or.inl (by decide))
      have lk2 := hk 2 _ lk2 (by decide) (by decide) (Or.inr rfl)
      exact ih.2.1 _ hd _ _ _ _ _ _ _ _ _ h lv lk0 lk2 lk3
    · intro d hd s r0 i1 i2 i3 ti0 ti1 s9 r h lv lk0 lk2 lk3
      obtain ⟨d, rfl⟩ : ∃ x, d = x + 1 := ⟨d - 1, by omega⟩
      simp only [g_133] at h
      refine Vin rfl lk3 rfl ?_
      refine Van rfl lk0 rfl rfl ?_
      have hz := y_bind h
      clear h
      obtain ⟨v1, h2, h⟩ := hz
      have wv1 := (y_gv_ok h2).2
      refine Vgv h2 rfl rfl rfl ?_
      refine Van rfl lk0 rfl rfl ?_
      have hz := y_bind h
      clear h
      obtain ⟨v3, h4, h⟩ := hz
      refine Zgi (q_gi_y h4) rfl rfl rfl ?_
      have hz := y_bind h
      clear h
      obtain ⟨v5, h6, h⟩ := hz
      refine Zia (q_ia_y h6) rfl rfl ?_
      have hz := y_bind h
      clear h
      obtain ⟨_, h8, h⟩ := hz
      have c7 := q_g_ok h8
      refine Uif (q_le c7.2 c7.1) rfl rfl rfl rfl rfl rfl rfl (fun c9 => ?_) (fun c9 => ?_)
      · rw [if_pos c9] at h
        refine Vic (v := Int32.ofInt (-1)) rfl rfl rfl ?_
        cases h
        exact Yret rfl rfl rfl rfl rfl rfl rfl ⟨rfl, rfl⟩
      · rw [if_neg c9] at h
        refine Vin rfl lk2 rfl ?_
        refine Van rfl lk0 rfl rfl ?_
        refine Vin rfl lk3 rfl ?_
        have hz := y_bind h
        clear h
        obtain ⟨b14, h15, h⟩ := hz
        obtain ⟨eh15, fh15, wh15⟩ := y_rcv_ok h15
        cases eh15
        have hz := y_bind h
        clear h
        obtain ⟨⟨s10, r11⟩, h12, h⟩ := hz
        try dsimp only at h
        refine Vcv rfl rfl rfl wh15 rfl rfl ⟨(Nat.le_of_ble_eq_true rfl), (Nat.le_of_ble_eq_true rfl)⟩ rfl ((c_131 o n).1 _ (by omega) _ _ _ _ _ _ _ h12 _ rfl rfl) (fun z1 z2 zq => ?_)
        obtain ⟨rfl, rfl⟩ := zq
        try dsimp only [Option.toList, HAppend.hAppend, Append.append, List.append]
        have hz := y_bind h
        clear h
        obtain ⟨_, h19, h⟩ := hz
        have c18 := q_g_ok h19
        refine Uif (q_eq0 c18) rfl rfl rfl rfl rfl rfl rfl (fun c20 => ?_) (fun c20 => ?_)
        · rw [if_pos c20] at h
          refine Vic (v := Int32.ofInt 0) rfl rfl rfl ?_
          exact ih.2.2.1 _ hd _ _ _ _ _ _ _ _ _ h lv lk0 lk3
        · rw [if_neg c20] at h
          refine Vic (v := Int32.ofInt 1) rfl rfl rfl ?_
          refine Ygo rfl rfl rfl rfl rfl rfl ?_
          exact ih.2.2.1 _ hd _ _ _ _ _ _ _ _ _ h lv lk0 lk3
    · intro d hd s r0 i1 i2 i3 ti0 ti1 s9 r h lv lk0 lk3
      obtain ⟨d, rfl⟩ : ∃ x, d = x + 1 := ⟨d - 1, by omega⟩
      simp only [g_133] at h
      refine Usub rfl rfl ?_
      refine Vsin rfl rfl (fun lv lk2 hk => ?_)
      have lk0 := hk 0 _ lk0 (by decide) (by decide) (Or.inl (by decide))
      have lk3 := hk 3 _ lk3 (by decide) (by decide) (Or.inl (by decide))
      refine Vin rfl lk2 rfl ?_
      have hz := y_bind h
      clear h
      obtain ⟨_, h2, h⟩ := hz
      have c1 := q_g_ok h2
      refine Uif (not_congr (q_eq0 c1)) rfl rfl rfl rfl rfl rfl rfl (fun c3 => ?_) (fun c3 => ?_)
      · rw [if_pos c3] at h
        exact ih.2.2.2 _ hd _ _ _ _ _ _ _ _ _ h lv lk0 lk2 lk3
      · rw [if_neg c3] at h
        refine Van rfl lk0 rfl rfl ?_
        refine Vin rfl lk3 rfl ?_
        have hz := y_bind h
        clear h
        obtain ⟨b8, h9, h⟩ := hz
        obtain ⟨eh9, fh9, wh9⟩ := y_rcv_ok h9
        cases eh9
        have hz := y_bind h
        clear h
        obtain ⟨⟨s4, r5⟩, h6, h⟩ := hz
        try dsimp only at h
        refine Vcv rfl rfl rfl wh9 rfl rfl ⟨(Nat.le_of_ble_eq_true rfl), (Nat.le_of_ble_eq_true rfl)⟩ rfl ((c_131 o n).1 _ (by omega) _ _ _ _ _ _ _ h6 _ rfl rfl) (fun z1 z2 zq => ?_)
        obtain ⟨rfl, rfl⟩ := zq
        try dsimp only [Option.toList, HAppend.hAppend, Append.append, List.append]
        have hz := y_bind h
        clear h
        obtain ⟨_, h13, h⟩ := hz
        have c12 := q_g_ok h13
        refine Uif (q_eq0 c12) rfl rfl rfl rfl rfl rfl rfl (fun c14 => ?_) (fun c14 => ?_)
        · rw [if_pos c14] at h
          exact ih.2.2.2 _ hd _ _ _ _ _ _ _ _ _ h lv lk0 lk2 lk3
        · rw [if_neg c14] at h
          refine Vin rfl lk3 rfl ?_
          cases h
          exact Yret rfl rfl rfl rfl rfl rfl rfl ⟨rfl, rfl⟩
    · intro d hd s r0 i1 i2 i3 ti0 ti1 s9 r h lv lk0 lk2 lk3
      obtain ⟨d, rfl⟩ : ∃ x, d = x + 1 := ⟨d - 1, by omega⟩
      simp only [g_133] at h
      refine Uinc rfl lk3 rfl (fun lv lk3 hk => ?_)
      have lk0 := hk 0 _ lk0 (by decide) (by decide) (Or.inl (by decide))
      have lk2 := hk 2 _ lk2 (by decide) (by decide) (Or.inr rfl)
      refine Ygo rfl rfl rfl rfl rfl rfl ?_
      exact ih.2.1 _ hd _ _ _ _ _ _ _ _ _ h lv lk0 lk2 lk3

/-- StepRowsModel.phaseOver -/
def g_132 (o : X_O) : Nat → Nat → Q_S → Nat → Int → Int → Option (Q_S × Unit)
  | 0, _, _, _, _, _ => none
  | n + 1, 0, s, r0, i1, i2 => (q_gi s 7 (.ref r0) 20).bind fun v1 => (q_pi s 7 (.ref r0) 20 (v1 + 1)).bind fun s3 => (q_gi s3 7 (.ref r0) 21).bind fun v5 => (q_g (q_in v5)).bind fun _ => if ¬ v5 = (-1) then (q_gi s3 7 (.ref r0) 21).bind fun v10 => (q_pi s3 7 (.ref r0) 18 v10).bind fun s12 => (q_pi s12 7 (.ref r0) 21 (-1)).bind fun s14 => g_132 o n 1 s14 r0 (i1) (0) else some (s3, ())
  | n + 1, 1, s, r0, i1, i2 => (q_g (q_in i2)).bind fun _ => if 8 ≤ i2 then (q_gi s 7 (.ref r0) 20).bind fun v4 => (q_rcv s 7 (.ref r0)).bind fun b10 => (g_133 o n 0 s b10 (v4) 0 0 0 0).bind fun q9 => (q_g (q_in q9.2)).bind fun _ => if ¬ q9.2 = (-1) then (q_rcv q9.1 7 (.ref r0)).bind fun b21 => (g_120 o n 0 q9.1 b21 (i1) (3) (q9.2)).bind fun q20 => g_132 o n 2 q20.1 0 0 0 else (q_gv q9.1 7 (.ref r0) 37).bind fun v25 => (q_is q9.1 v25 i1 0).bind fun s27 => g_132 o n 2 s27 0 0 0 else (q_gv s 7 (.ref r0) 28).bind fun v29 => (q_is s v29 i2 (-1)).bind fun s31 => g_132 o n 1 s31 r0 (i1) ((i2 + 1))
  | n + 1, 2, s, r0, i1, i2 => some (s, ())
  | _ + 1, _, _, _, _, _ => none
set_option maxRecDepth 100000 in
set_option maxHeartbeats 4000000 in
theorem c_132 (o : X_O) : ∀ n, (∀ (d : Nat) (hd : 3 ≤ d) (s : Q_S) (r0 : Nat) (i1 : Int) (i2 : Int) (s9 : Q_S) (r : Unit), g_132 o n 0 s r0 i1 i2 = some (s9, r) → ∀ lv : X_L, x_lget lv 0 = some (.ref r0) → x_lget lv 1 = some (.int (Int32.ofInt i1)) → Y o d 132 0 lv [] (q_y s) (fun s1 r1 => s1 = q_y s9 ∧ r1 = none)) ∧
    (∀ (d : Nat) (hd : 3 ≤ d) (s : Q_S) (r0 : Nat) (i1 : Int) (i2 : Int) (s9 : Q_S) (r : Unit), g_132 o n 1 s r0 i1 i2 = some (s9, r) → ∀ lv : X_L, x_lget lv 0 = some (.ref r0) → x_lget lv 1 = some (.int (Int32.ofInt i1)) → x_lget lv 2 = some (.int (Int32.ofInt i2)) → Y o d 132 34 lv [] (q_y s) (fun s1 r1 => s1 = q_y s9 ∧ r1 = none)) ∧
    (∀ (d : Nat) (hd : 3 ≤ d) (s : Q_S) (r0 : Nat) (i1 : Int) (i2 : Int) (s9 : Q_S) (r : Unit), g_132 o n 2 s r0 i1 i2 = some (s9, r) → ∀ lv : X_L, True → Y o d 132 84 lv [] (q_y s) (fun s1 r1 => s1 = q_y s9 ∧ r1 = none)) := by
  intro n
  induction n with
  | zero => exact ⟨fun d hd s _ _ _ s9 r h => (by simp only [g_132] at h; cases h), fun d hd s _ _ _ s9 r h => (by simp only [g_132] at h; cases h), fun d hd s _ _ _ s9 r h => (by simp only [g_132] at h; cases h)⟩
  | succ n ih =>
    refine ⟨?_, ?_, ?_⟩
    · intro d hd s r0 i1 i2 s9 r h lv lk0 lk1
      obtain ⟨d, rfl⟩ : ∃ x, d = x + 1 := ⟨d - 1, by omega⟩
      simp only [g_132] at h
      refine Van rfl lk0 rfl rfl ?_
      refine Vdup rfl rfl rfl ?_
      have hz := y_bind h
      clear h
      obtain ⟨v1, h2, h⟩ := hz
      refine Zgi (q_gi_y h2) rfl rfl rfl ?_
      refine Vic (v := Int32.ofInt 1) rfl rfl rfl ?_
      refine Uadd rfl rfl ?_
      have hz := y_bind h
      clear h
      obtain ⟨s3, h4, h⟩ := hz
      refine Zpi (q_pi_y h4) rfl rfl rfl rfl ?_
      refine Van rfl lk0 rfl rfl ?_
      have hz := y_bind h
      clear h
      obtain ⟨v5, h6, h⟩ := hz
      refine Zgi (q_gi_y h6) rfl rfl rfl ?_
      refine Vic (v := Int32.ofInt (-1)) rfl rfl rfl ?_
      have hz := y_bind h
      clear h
      obtain ⟨_, h8, h⟩ := hz
      have c7 := q_g_ok h8
      refine Uif (not_congr (q_eq c7 (by decide))) rfl rfl rfl rfl rfl rfl rfl (fun c9 => ?_) (fun c9 => ?_)
      · rw [if_pos c9] at h
        refine Van rfl lk0 rfl rfl ?_
        refine Van rfl lk0 rfl rfl ?_
        have hz := y_bind h
        clear h
        obtain ⟨v10, h11, h⟩ := hz
        refine Zgi (q_gi_y h11) rfl rfl rfl ?_
        have hz := y_bind h
        clear h
        obtain ⟨s12, h13, h⟩ := hz
        refine Zpi (q_pi_y h13) rfl rfl rfl rfl ?_
        refine Van rfl lk0 rfl rfl ?_
        refine Vic (v := Int32.ofInt (-1)) rfl rfl rfl ?_
        have hz := y_bind h
        clear h
        obtain ⟨s14, h15, h⟩ := hz
        refine Zpi (q_pi_y h15) rfl rfl rfl rfl ?_
        refine Vic (v := Int32.ofInt 0) rfl rfl rfl ?_
        refine Vsin rfl rfl (fun lv lk2 hk => ?_)
        have lk0 := hk 0 _ lk0 (by decide) (by decide) (Or.inl (by decide))
        have lk1 := hk 1 _ lk1 (by decide) (by decide) (Or.inr rfl)
        exact ih.2.1 _ hd _ _ _ _ _ _ h lv lk0 lk1 lk2
      · rw [if_neg c9] at h
        cases h
        exact Yret rfl rfl rfl rfl rfl rfl rfl ⟨rfl, rfl⟩
    · intro d hd s r0 i1 i2 s9 r h lv lk0 lk1 lk2
      obtain ⟨d, rfl⟩ : ∃ x, d = x + 1 := ⟨d - 1, by omega⟩
      simp only [g_132] at h
      refine Vin rfl lk2 rfl ?_
      refine Vbp (v := Int32.ofInt 8) rfl (by decide) rfl ?_
      have hz := y_bind h
      clear h
      obtain ⟨_, h2, h⟩ := hz
      have c1 := q_g_ok h2
      refine Uif (q_le (by decide) c1) rfl rfl rfl rfl rfl rfl rfl (fun c3 => ?_) (fun c3 => ?_)
      · rw [if_pos c3] at h
        refine Van rfl lk0 rfl rfl ?_
        refine Van rfl lk0 rfl rfl ?_
        have hz := y_bind h
        clear h
        obtain ⟨v4, h5, h⟩ := hz
        refine Zgi (q_gi_y h5) rfl rfl rfl ?_
        have hz := y_bind h
        clear h
        obtain ⟨b10, h11, h⟩ := hz
        obtain ⟨eh11, fh11, wh11⟩ := y_rcv_ok h11
        cases eh11
        have hz := y_bind h
        clear h
        obtain ⟨⟨s6, r7⟩, h8, h⟩ := hz
        try dsimp only at h
        refine Vcv rfl rfl rfl wh11 rfl rfl ⟨(Nat.le_of_ble_eq_true rfl), (Nat.le_of_ble_eq_true rfl)⟩ rfl ((c_133 o n).1 _ (by omega) _ _ _ _ _ _ _ _ _ h8 _ rfl rfl) (fun z1 z2 zq => ?_)
        obtain ⟨rfl, rfl⟩ := zq
        try dsimp only [Option.toList, HAppend.hAppend, Append.append, List.append]
        refine Vsin rfl rfl (fun lv lk2 hk => ?_)
        have lk0 := hk 0 _ lk0 (by decide) (by decide) (Or.inl (by decide))
        have lk1 := hk 1 _ lk1 (by decide) (by decide) (Or.inr rfl)
        refine Vin rfl lk2 rfl ?_
        refine Vic (v := Int32.ofInt (-1)) rfl rfl rfl ?_
        have hz := y_bind h
        clear h
        obtain ⟨_, h15, h⟩ := hz
        have c14 := q_g_ok h15
        refine Uif (not_congr (q_eq c14 (by decide))) rfl rfl rfl rfl rfl rfl rfl (fun c16 => ?_) (fun c16 => ?_)
        · rw [if_pos c16] at h
          refine Van rfl lk0 rfl rfl ?_
          refine Vin rfl lk1 rfl ?_
          refine Vic (v := Int32.ofInt 3) rfl rfl rfl ?_
          refine Vin rfl lk2 rfl ?_
          have hz := y_bind h
          clear h
          obtain ⟨b21, h22, h⟩ := hz
          obtain ⟨eh22, fh22, wh22⟩ := y_rcv_ok h22
          cases eh22
          have hz := y_bind h
          clear h
          obtain ⟨⟨s17, r18⟩, h19, h⟩ := hz
          try dsimp only at h
          refine Vcv rfl rfl rfl wh22 rfl rfl ⟨(Nat.le_of_ble_eq_true rfl), (Nat.le_of_ble_eq_true rfl)⟩ rfl ((c_120 o n) _ (by omega) _ _ _ _ _ _ _ h19 _ rfl rfl rfl rfl) (fun z1 z2 zq => ?_)
          obtain ⟨rfl, rfl⟩ := zq
          try dsimp only [Option.toList, HAppend.hAppend, Append.append, List.append]
          exact ih.2.2 _ hd _ _ _ _ _ _ h lv trivial
        · rw [if_neg c16] at h
          refine Van rfl lk0 rfl rfl ?_
          have hz := y_bind h
          clear h
          obtain ⟨v25, h26, h⟩ := hz
          have wv25 := (y_gv_ok h26).2
          refine Vgv h26 rfl rfl rfl ?_
          refine Vin rfl lk1 rfl ?_
          refine Vic (v := Int32.ofInt 0) rfl rfl rfl ?_
          have hz := y_bind h
          clear h
          obtain ⟨s27, h28, h⟩ := hz
          refine Zis (q_is_y h28) rfl rfl ?_
          refine Ygo rfl rfl rfl rfl rfl rfl ?_
          exact ih.2.2 _ hd _ _ _ _ _ _ h lv trivial
      · rw [if_neg c3] at h
        refine Van rfl lk0 rfl rfl ?_
        have hz := y_bind h
        clear h
        obtain ⟨v29, h30, h⟩ := hz
        have wv29 := (y_gv_ok h30).2
        refine Vgv h30 rfl rfl rfl ?_
        refine Vin rfl lk2 rfl ?_
        refine Vic (v := Int32.ofInt (-1)) rfl rfl rfl ?_
        have hz := y_bind h
        clear h
        obtain ⟨s31, h32, h⟩ := hz
        refine Zis (q_is_y h32) rfl rfl ?_
        refine Uinc rfl lk2 rfl (fun lv lk2 hk => ?_)
        have lk0 := hk 0 _ lk0 (by decide) (by decide) (Or.inl (by decide))
        have lk1 := hk 1 _ lk1 (by decide) (by decide) (Or.inr rfl)
        refine Ygo rfl rfl rfl rfl rfl rfl ?_
        exact ih.2.1 _ hd _ _ _ _ _ _ h lv lk0 lk1 lk2
    · intro d hd s r0 i1 i2 s9 r h lv _
      obtain ⟨d, rfl⟩ : ∃ x, d = x + 1 := ⟨d - 1, by omega⟩
      simp only [g_132] at h
      cases h
      exact Yret rfl rfl rfl rfl rfl rfl rfl ⟨rfl, rfl⟩

/-- StepRowsModel.behind -/
def g_129 (o : X_O) : Nat → Nat → Q_S → Nat → Int → Int → Int → Value → Int → Int → Int → Option (Q_S × Unit)
  | 0, _, _, _, _, _, _, _, _, _, _ => none
  | n + 1, 0, s, r0, i1, i2, i3, ta0, ti1, ti2, ti3 => (q_gv s 7 (.ref r0) 38).bind fun v1 => (q_ia o s v1 i1).bind fun v3 => (q_rcv s 7 (.ref r0)).bind fun b9 => (g_130 o n 0 s b9 (v3)).bind fun q8 => (q_g (q_in q8.2)).bind fun _ => if ¬ q8.2 = (-1) then (q_rcv q8.1 7 (.ref r0)).bind fun b20 => (g_111 o n 0 q8.1 b20 (q8.2)).bind fun q19 => (q_g (q_in q19.2)).bind fun _ => if q19.2 < 14 ∨ 21 < q19.2 then (q_rcv q19.1 7 (.ref r0)).bind fun b30 => (g_120 o n 0 q19.1 b30 (i1) (3) (q8.2)).bind fun q29 => g_129 o n 4 q29.1 0 0 0 0 .null 0 0 0 else if q19.2 = 14 then (q_rcv q19.1 7 (.ref r0)).bind fun b39 => (g_112 o n 0 q19.1 b39 (q8.2)).bind fun q38 => (q_g (q_in v3 ∧ q_in q38.2)).bind fun _ => if ¬ v3 = q38.2 then g_129 o n 1 q38.1 r0 0 (v3) (q8.2) ((.ref r0)) (i1) (3) 0 else g_129 o n 1 q38.1 r0 0 (v3) (q8.2) ((.ref r0)) (i1) (2) 0 else if q19.2 = 15 then (q_rcv q19.1 7 (.ref r0)).bind fun b51 => (g_120 o n 0 q19.1 b51 (i1) (3) (q8.2)).bind fun q50 => g_129 o n 4 q50.1 0 0 0 0 .null 0 0 0 else if q19.2 = 16 then (q_rcv q19.1 7 (.ref r0)).bind fun b60 => (g_116 o n 0 q19.1 b60 (q8.2)).bind fun q59 => (q_g (q_in v3 ∧ q_in q59.2)).bind fun _ => if ¬ v3 = q59.2 then g_129 o n 3 q59.1 r0 (i1) 0 (q8.2) .null 0 0 0 else (q_rcv q59.1 7 (.ref r0)).bind fun b71 => (g_118 o n 0 q59.1 b71 (i1)).bind fun q70 => g_129 o n 3 q70.1 r0 (i1) 0 (q8.2) .null 0 0 0 else if q19.2 = 17 then (q_gv q19.1 7 (.ref r0) 32).bind fun v76 => (q_gv q19.1 7 (.ref r0) 39).bind fun v78 => (q_ia o q19.1 v78 i1).bind fun v80 => (q_la q19.1 v76 v80).bind fun v82 => (q_ls q19.1 v76 v80 (v82 - 1)).bind fun s84 => (q_gv s84 7 (.ref r0) 32).bind fun v86 => (q_gv s84 7 (.ref r0) 39).bind fun v88 => (q_ia o s84 v88 i1).bind fun v90 => (q_la s84 v86 v90).bind fun v92 => if v92 ≤ 0 then (q_rcv s84 7 (.ref r0)).bind fun b99 => (g_118 o n 0 s84 b99 (i1)).bind fun q98 => (q_rcv q98.1 7 (.ref r0)).bind fun b107 => (g_120 o n 0 q98.1 b107 (i1) (3) (q8.2)).bind fun q106 => g_129 o n 4 q106.1 0 0 0 0 .null 0 0 0 else (q_rcv s84 7 (.ref r0)).bind fun b115 => (g_120 o n 0 s84 b115 (i1) (2) (v3)).bind fun q114 => g_129 o n 4 q114.1 0 0 0 0 .null 0 0 0 else if q19.2 = 18 then (q_gv q19.1 7 (.ref r0) 37).bind fun v120 => (q_is q19.1 v120 i1 0).bind fun s122 => g_129 o n 4 s122 0 0 0 0 .null 0 0 0 else if q19.2 = 19 then (q_rcv q19.1 7 (.ref r0)).bind fun b129 => (g_120 o n 0 q19.1 b129 (i1) (3) (q8.2)).bind fun q128 => g_129 o n 4 q128.1 0 0 0 0 .null 0 0 0 else if q19.2 = 20 then (q_gv q19.1 7 (.ref r0) 29).bind fun v134 => (q_gv q19.1 7 (.ref r0) 39).bind fun v136 => (q_ia o q19.1 v136 i1).bind fun v138 => (q_ia o q19.1 v134 v138).bind fun v140 => (q_rcv q19.1 7 (.ref r0)).bind fun b146 => (g_118 o n 0 q19.1 b146 (i1)).bind fun q145 => (q_rcv q145.1 7 (.ref r0)).bind fun b154 => (g_120 o n 0 q145.1 b154 (i1) (3) (v140)).bind fun q153 => g_129 o n 4 q153.1 0 0 0 0 .null 0 0 0 else if q19.2 = 21 then (q_rcv q19.1 7 (.ref r0)).bind fun b163 => (g_120 o n 0 q19.1 b163 (i1) (3) (q8.2)).bind fun q162 => (q_rcv q162.1 7 (.ref r0)).bind fun b171 => (g_131 o n 0 q162.1 b171 (q8.2) 0 0).bind fun q170 => (q_g (q_in q170.2)).bind fun _ => if q170.2 = 0 then g_129 o n 4 q170.1 0 0 0 0 .null 0 0 0 else (q_rcv q170.1 7 (.ref r0)).bind fun b182 => (g_132 o n 0 q170.1 b182 (i1) 0).bind fun q181 => g_129 o n 4 q181.1 0 0 0 0 .null 0 0 0 else none else (q_gv q8.1 7 (.ref r0) 37).bind fun v187 => (q_is q8.1 v187 i1 0).bind fun s189 => some (s189, ())
  | n + 1, 1, s, r0, i1, i2, i3, ta0, ti1, ti2, ti3 => (q_rcv s 7 (.ref r0)).bind fun b5 => (g_112 o n 0 s b5 (i3)).bind fun q4 => (q_g (q_in i2 ∧ q_in q4.2)).bind fun _ => if ¬ i2 = q4.2 then g_129 o n 2 q4.1 0 0 0 0 (ta0) (ti1) (ti2) (i3) else (q_rcv q4.1 7 (.ref r0)).bind fun b16 => (g_116 o n 0 q4.1 b16 (i3)).bind fun q15 => g_129 o n 2 q15.1 0 0 0 0 (ta0) (ti1) (ti2) (q15.2)
  | n + 1, 2, s, r0, i1, i2, i3, ta0, ti1, ti2, ti3 => (q_rcv s 7 ta0).bind fun b5 => (g_120 o n 0 s b5 (ti1) (ti2) (ti3)).bind fun q4 => g_129 o n 4 q4.1 0 0 0 0 .null 0 0 0
  | n + 1, 3, s, r0, i1, i2, i3, ta0, ti1, ti2, ti3 => (q_rcv s 7 (.ref r0)).bind fun b5 => (g_120 o n 0 s b5 (i1) (3) (i3)).bind fun q4 => g_129 o n 4 q4.1 0 0 0 0 .null 0 0 0
  | n + 1, 4, s, r0, i1, i2, i3, ta0, ti1, ti2, ti3 => some (s, ())
  | _ + 1, _, _, _, _, _, _, _, _, _, _ => none
set_option maxRecDepth 100000 in
set_option maxHeartbeats 4000000 in
theorem c_129 (o : X_O) : ∀ n, (∀ (d : Nat) (hd : 4 ≤ d) (s : Q_S) (r0 : Nat) (i1 : Int) (i2 : Int) (i3 : Int) (ta0 : Value) (ti1 : Int) (ti2 : Int) (ti3 : Int) (s9 : Q_S) (r : Unit), g_129 o n 0 s r0 i1 i2 i3 ta0 ti1 ti2 ti3 = some (s9, r) → ∀ lv : X_L, x_lget lv 0 = some (.ref r0) → x_lget lv 1 = some (.int (Int32.ofInt i1)) → Y o d 129 0 lv [] (q_y s) (fun s1 r1 => s1 = q_y s9 ∧ r1 = none)) ∧
    (∀ (d : Nat) (hd : 4 ≤ d) (s : Q_S) (r0 : Nat) (i1 : Int) (i2 : Int) (i3 : Int) (ta0 : Value) (ti1 : Int) (ti2 : Int) (ti3 : Int) (s9 : Q_S) (r : Unit), g_129 o n 1 s r0 i1 i2 i3 ta0 ti1 ti2 ti3 = some (s9, r) → ∀ lv : X_L, x_lget lv 0 = some (.ref r0) → x_lget lv 2 = some (.int (Int32.ofInt i2)) → x_lget lv 3 = some (.int (Int32.ofInt i3)) → y_rv ta0 = true → Y o d 129 92 lv [.int (Int32.ofInt ti2), .int (Int32.ofInt ti1), ta0] (q_y s) (fun s1 r1 => s1 = q_y s9 ∧ r1 = none)) ∧
    (∀ (d : Nat) (hd : 4 ≤ d) (s : Q_S) (r0 : Nat) (i1 : Int) (i2 : Int) (i3 : Int) (ta0 : Value) (ti1 : Int) (ti2 : Int) (ti3 : Int) (s9 : Q_S) (r : Unit), g_129 o n 2 s r0 i1 i2 i3 ta0 ti1 ti2 ti3 = some (s9, r) → ∀ lv : X_L, y_rv ta0 = true → Y o d 129 110 lv [.int (Int32.ofInt ti3), .int (Int32.ofInt ti2), .int (Int32.ofInt ti1), ta0] (q_y s) (fun s1 r1 => s1 = q_y s9 ∧ r1 = none)) ∧
    (∀ (d : Nat) (hd : 4 ≤ d) (s : Q_S) (r0 : Nat) (i1 : Int) (i2 : Int) (i3 : Int) (ta0 : Value) (ti1 : Int) (ti2 : Int) (ti3 : Int) (s9 : Q_S) (r : Unit), g_129 o n 3 s r0 i1 i2 i3 ta0 ti1 ti2 ti3 = some (s9, r) → ∀ lv : X_L, x_lget lv 0 = some (.ref r0) → x_lget lv 1 = some (.int (Int32.ofInt i1)) → x_lget lv 3 = some (.int (Int32.ofInt i3)) → Y o d 129 130 lv [] (q_y s) (fun s1 r1 => s1 = q_y s9 ∧ r1 = none)) ∧
    (∀ (d : Nat) (hd : 4 ≤ d) (s : Q_S) (r0 : Nat) (i1 : Int) (i2 : Int) (i3 : Int) (ta0 : Value) (ti1 : Int) (ti2 : Int) (ti3 : Int) (s9 : Q_S) (r : Unit), g_129 o n 4 s r0 i1 i2 i3 ta0 ti1 ti2 ti3 = some (s9, r) → ∀ lv : X_L, True → Y o d 129 265 lv [] (q_y s) (fun s1 r1 => s1 = q_y s9 ∧ r1 = none)) := by
  intro n
  induction n with
  | zero => exact ⟨fun d hd s _ _ _ _ _ _ _ _ s9 r h => (by simp only [g_129] at h; cases h), fun d hd s _ _ _ _ _ _ _ _ s9 r h => (by simp only [g_129] at h; cases h), fun d hd s _ _ _ _ _ _ _ _ s9 r h => (by simp only [g_129] at h; cases h), fun d hd s _ _ _ _ _ _ _ _ s9 r h => (by simp only [g_129] at h; cases h), fun d hd s _ _ _ _ _ _ _ _ s9 r h => (by simp only [g_129] at h; cases h)⟩
  | succ n ih =>
    refine ⟨?_, ?_, ?_, ?_, ?_⟩
    · intro d hd s r0 i1 i2 i3 ta0 ti1 ti2 ti3 s9 r h lv lk0 lk1
      obtain ⟨d, rfl⟩ : ∃ x, d = x + 1 := ⟨d - 1, by omega⟩
      simp only [g_129] at h
      refine Van rfl lk0 rfl rfl ?_
      have hz := y_bind h
      clear h
      obtain ⟨v1, h2, h⟩ := hz
      have wv1 := (y_gv_ok h2).2
      refine Vgv h2 rfl rfl rfl ?_
      refine Vin rfl lk1 rfl ?_
      have hz := y_bind h
      clear h
      obtain ⟨v3, h4, h⟩ := hz
      refine Zia (q_ia_y h4) rfl rfl ?_
      refine Vsin rfl rfl (fun lv lk2 hk => ?_)
      have lk0 := hk 0 _ lk0 (by decide) (by decide) (Or.inl (by decide))
      have lk1 := hk 1 _ lk1 (by decide) (by decide) (Or.inr rfl)
      refine Van rfl lk0 rfl rfl ?_
      refine Vin rfl lk2 rfl ?_
      have hz := y_bind h
      clear h
      obtain ⟨b9, h10, h⟩ := hz
      obtain ⟨eh10, fh10, wh10⟩ := y_rcv_ok h10
      cases eh10
      have hz := y_bind h
      clear h
      obtain ⟨⟨s5, r6⟩, h7, h⟩ := hz
      try dsimp only at h
      refine Vcv rfl rfl rfl wh10 rfl rfl ⟨(Nat.le_of_ble_eq_true rfl), (Nat.le_of_ble_eq_true rfl)⟩ rfl ((c_130 o n) _ (by omega) _ _ _ _ _ h7 _ rfl rfl) (fun z1 z2 zq => ?_)
      obtain ⟨rfl, rfl⟩ := zq
      try dsimp only [Option.toList, HAppend.hAppend, Append.append, List.append]
      refine Vsin rfl rfl (fun lv lk3 hk => ?_)
      have lk0 := hk 0 _ lk0 (by decide) (by decide) (Or.inl (by decide))
      have lk1 := hk 1 _ lk1 (by decide) (by decide) (Or.inl (by decide))
      have lk2 := hk 2 _ lk2 (by decide) (by decide) (Or.inr rfl)
      refine Vin rfl lk3 rfl ?_
      refine Vic (v := Int32.ofInt (-1)) rfl rfl rfl ?_
      have hz := y_bind h
      clear h
      obtain ⟨_, h14, h⟩ := hz
      have c13 := q_g_ok h14
      refine Uif (not_congr (q_eq c13 (by decide))) rfl rfl rfl rfl rfl rfl rfl (fun c15 => ?_) (fun c15 => ?_)
      · rw [if_pos c15] at h
        refine Van rfl lk0 rfl rfl ?_
        refine Vin rfl lk3 rfl ?_
        have hz := y_bind h
        clear h
        obtain ⟨b20, h21, h⟩ := hz
        obtain ⟨eh21, fh21, wh21⟩ := y_rcv_ok h21
        cases eh21
        have hz := y_bind h
        clear h
        obtain ⟨⟨s16, r17⟩, h18, h⟩ := hz
        try dsimp only at h
        refine Vcv rfl rfl rfl wh21 rfl rfl ⟨(Nat.le_of_ble_eq_true rfl), (Nat.le_of_ble_eq_true rfl)⟩ rfl ((c_111 o n) _ (by omega) _ _ _ _ _ h18 _ rfl rfl) (fun z1 z2 zq => ?_)
        obtain ⟨rfl, rfl⟩ := zq
        try dsimp only [Option.toList, HAppend.hAppend, Append.append, List.append]
        have hz := y_bind h
        clear h
        obtain ⟨_, h25, h⟩ := hz
        have c24 := q_g_ok h25
        by_cases c34 : r17 < 14 ∨ 21 < r17
        · rw [if_pos c34] at h
          refine Ysw rfl rfl rfl rfl rfl (if_pos (by rw [q_ti c24]; exact c34)) rfl ?_
          refine Van rfl lk0 rfl rfl ?_
          refine Vin rfl lk1 rfl ?_
          refine Vic (v := Int32.ofInt 3) rfl rfl rfl ?_
          refine Vin rfl lk3 rfl ?_
          have hz := y_bind h
          clear h
          obtain ⟨b30, h31, h⟩ := hz
          obtain ⟨eh31, fh31, wh31⟩ := y_rcv_ok h31
          cases eh31
          have hz := y_bind h
          clear h
          obtain ⟨⟨s26, r27⟩, h28, h⟩ := hz
          try dsimp only at h
          refine Vcv rfl rfl rfl wh31 rfl rfl ⟨(Nat.le_of_ble_eq_true rfl), (Nat.le_of_ble_eq_true rfl)⟩ rfl ((c_120 o n) _ (by omega) _ _ _ _ _ _ _ h28 _ rfl rfl rfl rfl) (fun z1 z2 zq => ?_)
          obtain ⟨rfl, rfl⟩ := zq
          try dsimp only [Option.toList, HAppend.hAppend, Append.append, List.append]
          exact ih.2.2.2.2 _ hd _ _ _ _ _ _ _ _ _ _ _ h lv trivial
        rw [if_neg c34] at h
        by_cases c46 : r17 = 14
        · rw [if_pos c46] at h
          refine Vts (k := 14) (congrArg Int32.ofInt c46) rfl rfl rfl rfl rfl rfl rfl ?_
          refine Van rfl lk0 rfl rfl ?_
          refine Vin rfl lk1 rfl ?_
          refine Vin rfl lk2 rfl ?_
          refine Van rfl lk0 rfl rfl ?_
          refine Vin rfl lk3 rfl ?_
          have hz := y_bind h
          clear h
          obtain ⟨b39, h40, h⟩ := hz
          obtain ⟨eh40, fh40, wh40⟩ := y_rcv_ok h40
          cases eh40
          have hz := y_bind h
          clear h
          obtain ⟨⟨s35, r36⟩, h37, h⟩ := hz
          try dsimp only at h
          refine Vcv rfl rfl rfl wh40 rfl rfl ⟨(Nat.le_of_ble_eq_true rfl), (Nat.le_of_ble_eq_true rfl)⟩ rfl ((c_112 o n) _ (by omega) _ _ _ _ _ h37 _ rfl rfl) (fun z1 z2 zq => ?_)
          obtain ⟨rfl, rfl⟩ := zq
          try dsimp only [Option.toList, HAppend.hAppend, Append.append, List.append]
          have hz := y_bind h
          clear h
          obtain ⟨_, h44, h⟩ := hz
          have c43 := q_g_ok h44
          refine Uif (not_congr (q_eq c43.1 c43.2)) rfl rfl rfl rfl rfl rfl rfl (fun c45 => ?_) (fun c45 => ?_)
          · rw [if_pos c45] at h
            refine Vic (v := Int32.ofInt 3) rfl rfl rfl ?_
            exact ih.2.1 _ hd _ _ _ _ _ _ _ _ _ _ _ h lv lk0 lk2 lk3 rfl
          · rw [if_neg c45] at h
            refine Vic (v := Int32.ofInt 2) rfl rfl rfl ?_
            refine Ygo rfl rfl rfl rfl rfl rfl ?_
            exact ih.2.1 _ hd _ _ _ _ _ _ _ _ _ _ _ h lv lk0 lk2 lk3 rfl
        rw [if_neg c46] at h
        by_cases c55 : r17 = 15
        · rw [if_pos c55] at h
          refine Vts (k := 15) (congrArg Int32.ofInt c55) rfl rfl rfl rfl rfl rfl rfl ?_
          refine Van rfl lk0 rfl rfl ?_
          refine Vin rfl lk1 rfl ?_
          refine Vic (v := Int32.ofInt 3) rfl rfl rfl ?_
          refine Vin rfl lk3 rfl ?_
          have hz := y_bind h
          clear h
          obtain ⟨b51, h52, h⟩ := hz
          obtain ⟨eh52, fh52, wh52⟩ := y_rcv_ok h52
          cases eh52
          have hz := y_bind h
          clear h
          obtain ⟨⟨s47, r48⟩, h49, h⟩ := hz
          try dsimp only at h
          refine Vcv rfl rfl rfl wh52 rfl rfl ⟨(Nat.le_of_ble_eq_true rfl), (Nat.le_of_ble_eq_true rfl)⟩ rfl ((c_120 o n) _ (by omega) _ _ _ _ _ _ _ h49 _ rfl rfl rfl rfl) (fun z1 z2 zq => ?_)
          obtain ⟨rfl, rfl⟩ := zq
          try dsimp only [Option.toList, HAppend.hAppend, Append.append, List.append]
          exact ih.2.2.2.2 _ hd _ _ _ _ _ _ _ _ _ _ _ h lv trivial
        rw [if_neg c55] at h
        by_cases c75 : r17 = 16
        · rw [if_pos c75] at h
          refine Vts (k := 16) (congrArg Int32.ofInt c75) rfl rfl rfl rfl rfl rfl rfl ?_
          refine Vin rfl lk2 rfl ?_
          refine Van rfl lk0 rfl rfl ?_
          refine Vin rfl lk3 rfl ?_
          have hz := y_bind h
          clear h
          obtain ⟨b60, h61, h⟩ := hz
          obtain ⟨eh61, fh61, wh61⟩ := y_rcv_ok h61
          cases eh61
          have hz := y_bind h
          clear h
          obtain ⟨⟨s56, r57⟩, h58, h⟩ := hz
          try dsimp only at h
          refine Vcv rfl rfl rfl wh61 rfl rfl ⟨(Nat.le_of_ble_eq_true rfl), (Nat.le_of_ble_eq_true rfl)⟩ rfl ((c_116 o n) _ (by omega) _ _ _ _ _ h58 _ rfl rfl) (fun z1 z2 zq => ?_)
          obtain ⟨rfl, rfl⟩ := zq
          try dsimp only [Option.toList, HAppend.hAppend, Append.append, List.append]
          have hz := y_bind h
          clear h
          obtain ⟨_, h65, h⟩ := hz
          have c64 := q_g_ok h65
          refine Uif (not_congr (q_eq c64.1 c64.2)) rfl rfl rfl rfl rfl rfl rfl (fun c66 => ?_) (fun c66 => ?_)
          · rw [if_pos c66] at h
            exact ih.2.2.2.1 _ hd _ _ _ _ _ _ _ _ _ _ _ h lv lk0 lk1 lk3
          · rw [if_neg c66] at h
            refine Van rfl lk0 rfl rfl ?_
            refine Vin rfl lk1 rfl ?_
            have hz := y_bind h
            clear h
            obtain ⟨b71, h72, h⟩ := hz
            obtain ⟨eh72, fh72, wh72⟩ := y_rcv_ok h72
            cases eh72
            have hz := y_bind h
            clear h
            obtain ⟨⟨s67, r68⟩, h69, h⟩ := hz
            try dsimp only at h
            refine Vcv rfl rfl rfl wh72 rfl rfl ⟨(Nat.le_of_ble_eq_true rfl), (Nat.le_of_ble_eq_true rfl)⟩ rfl ((c_118 o n) _ (by omega) _ _ _ _ _ h69 _ rfl rfl) (fun z1 z2 zq => ?_)
            obtain ⟨rfl, rfl⟩ := zq
            try dsimp only [Option.toList, HAppend.hAppend, Append.append, List.append]
            exact ih.2.2.2.1 _ hd _ _ _ _ _ _ _ _ _ _ _ h lv lk0 lk1 lk3
        rw [if_neg c75] at h
        by_cases c119 : r17 = 17
        · rw [if_pos c119] at h
          refine Vts (k := 17) (congrArg Int32.ofInt c119) rfl rfl rfl rfl rfl rfl rfl ?_
          refine Van rfl lk0 rfl rfl ?_
          have hz := y_bind h
          clear h
          obtain ⟨v76, h77, h⟩ := hz
          have wv76 := (y_gv_ok h77).2
          refine Vgv h77 rfl rfl rfl ?_
          refine Van rfl lk0 rfl rfl ?_
          have hz := y_bind h
          clear h
          obtain ⟨v78, h79, h⟩ := hz
          have wv78 := (y_gv_ok h79).2
          refine Vgv h79 rfl rfl rfl ?_
          refine Vin rfl lk1 rfl ?_
          have hz := y_bind h
          clear h
          obtain ⟨v80, h81, h⟩ := hz
          refine Zia (q_ia_y h81) rfl rfl ?_
          refine Vdup2 rfl rfl (y_rv_cat wv76) rfl ?_
          have hz := y_bind h
          clear h
          obtain ⟨v82, h83, h⟩ := hz
          refine Zla (q_la_y h83) rfl rfl ?_
          refine Vlc (v := 1) rfl (by decide) rfl ?_
          refine Ya rfl rfl rfl ?_
          have hz := y_bind h
          clear h
          obtain ⟨s84, h85, h⟩ := hz
          refine Zls (q_ls_y h85) rfl rfl ?_
          refine Van rfl lk0 rfl rfl ?_
          have hz := y_bind h
          clear h
          obtain ⟨v86, h87, h⟩ := hz
          have wv86 := (y_gv_ok h87).2
          refine Vgv h87 rfl rfl rfl ?_
          refine Van rfl lk0 rfl rfl ?_
          have hz := y_bind h
          clear h
          obtain ⟨v88, h89, h⟩ := hz
          have wv88 := (y_gv_ok h89).2
          refine Vgv h89 rfl rfl rfl ?_
          refine Vin rfl lk1 rfl ?_
          have hz := y_bind h
          clear h
          obtain ⟨v90, h91, h⟩ := hz
          refine Zia (q_ia_y h91) rfl rfl ?_
          have hz := y_bind h
          clear h
          obtain ⟨v92, h93, h⟩ := hz
          refine Zla (q_la_y h93) rfl rfl ?_
          refine Vlc (v := 0) rfl (by decide) rfl ?_
          refine Ya rfl rfl rfl ?_
          refine Uif (lg_cmp_le _ _) rfl rfl rfl rfl rfl rfl rfl (fun c94 => ?_) (fun c94 => ?_)
          · rw [if_pos c94] at h
            refine Van rfl lk0 rfl rfl ?_
            refine Vin rfl lk1 rfl ?_
            have hz := y_bind h
            clear h
            obtain ⟨b99, h100, h⟩ := hz
            obtain ⟨eh100, fh100, wh100⟩ := y_rcv_ok h100
            cases eh100
            have hz := y_bind h
            clear h
            obtain ⟨⟨s95, r96⟩, h97, h⟩ := hz
            try dsimp only at h
            refine Vcv rfl rfl rfl wh100 rfl rfl ⟨(Nat.le_of_ble_eq_true rfl), (Nat.le_of_ble_eq_true rfl)⟩ rfl ((c_118 o n) _ (by omega) _ _ _ _ _ h97 _ rfl rfl) (fun z1 z2 zq => ?_)
            obtain ⟨rfl, rfl⟩ := zq
            try dsimp only [Option.toList, HAppend.hAppend, Append.append, List.append]
            refine Van rfl lk0 rfl rfl ?_
            refine Vin rfl lk1 rfl ?_
            refine Vic (v := Int32.ofInt 3) rfl rfl rfl ?_
            refine Vin rfl lk3 rfl ?_
            have hz := y_bind h
            clear h
            obtain ⟨b107, h108, h⟩ := hz
            obtain ⟨eh108, fh108, wh108⟩ := y_rcv_ok h108
            cases eh108
            have hz := y_bind h
            clear h
            obtain ⟨⟨s103, r104⟩, h105, h⟩ := hz
            try dsimp only at h
            refine Vcv rfl rfl rfl wh108 rfl rfl ⟨(Nat.le_of_ble_eq_true rfl), (Nat.le_of_ble_eq_true rfl)⟩ rfl ((c_120 o n) _ (by omega) _ _ _ _ _ _ _ h105 _ rfl rfl rfl rfl) (fun z1 z2 zq => ?_)
            obtain ⟨rfl, rfl⟩ := zq
            try dsimp only [Option.toList, HAppend.hAppend, Append.append, List.append]
            refine Ygo rfl rfl rfl rfl rfl rfl ?_
            exact ih.2.2.2.2 _ hd _ _ _ _ _ _ _ _ _ _ _ h lv trivial
          · rw [if_neg c94] at h
            refine Van rfl lk0 rfl rfl ?_
            refine Vin rfl lk1 rfl ?_
            refine Vic (v := Int32.ofInt 2) rfl rfl rfl ?_
            refine Vin rfl lk2 rfl ?_
            have hz := y_bind h
            clear h
            obtain ⟨b115, h116, h⟩ := hz
            obtain ⟨eh116, fh116, wh116⟩ := y_rcv_ok h116
            cases eh116
            have hz := y_bind h
            clear h
            obtain ⟨⟨s111, r112⟩, h113, h⟩ := hz
            try dsimp only at h
            refine Vcv rfl rfl rfl wh116 rfl rfl ⟨(Nat.le_of_ble_eq_true rfl), (Nat.le_of_ble_eq_true rfl)⟩ rfl ((c_120 o n) _ (by omega) _ _ _ _ _ _ _ h113 _ rfl rfl rfl rfl) (fun z1 z2 zq => ?_)
            obtain ⟨rfl, rfl⟩ := zq
            try dsimp only [Option.toList, HAppend.hAppend, Append.append, List.append]
            refine Ygo rfl rfl rfl rfl rfl rfl ?_
            exact ih.2.2.2.2 _ hd _ _ _ _ _ _ _ _ _ _ _ h lv trivial
        rw [if_neg c119] at h
        by_cases c124 : r17 = 18
        · rw [if_pos c124] at h
          refine Vts (k := 18) (congrArg Int32.ofInt c124) rfl rfl rfl rfl rfl rfl rfl ?_
          refine Van rfl lk0 rfl rfl ?_
          have hz := y_bind h
          clear h
          obtain ⟨v120, h121, h⟩ := hz
          have wv120 := (y_gv_ok h121).2
          refine Vgv h121 rfl rfl rfl ?_
          refine Vin rfl lk1 rfl ?_
          refine Vic (v := Int32.ofInt 0) rfl rfl rfl ?_
          have hz := y_bind h
          clear h
          obtain ⟨s122, h123, h⟩ := hz
          refine Zis (q_is_y h123) rfl rfl ?_
          refine Ygo rfl rfl rfl rfl rfl rfl ?_
          exact ih.2.2.2.2 _ hd _ _ _ _ _ _ _ _ _ _ _ h lv trivial
        rw [if_neg c124] at h
        by_cases c133 : r17 = 19
        · rw [if_pos c133] at h
          refine Vts (k := 19) (congrArg Int32.ofInt c133) rfl rfl rfl rfl rfl rfl rfl ?_
          refine Van rfl lk0 rfl rfl ?_
          refine Vin rfl lk1 rfl ?_
          refine Vic (v := Int32.ofInt 3) rfl rfl rfl ?_
          refine Vin rfl lk3 rfl ?_
          have hz := y_bind h
          clear h
          obtain ⟨b129, h130, h⟩ := hz
          obtain ⟨eh130, fh130, wh130⟩ := y_rcv_ok h130
          cases eh130
          have hz := y_bind h
          clear h
          obtain ⟨⟨s125, r126⟩, h127, h⟩ := hz
          try dsimp only at h
          refine Vcv rfl rfl rfl wh130 rfl rfl ⟨(Nat.le_of_ble_eq_true rfl), (Nat.le_of_ble_eq_true rfl)⟩ rfl ((c_120 o n) _ (by omega) _ _ _ _ _ _ _ h127 _ rfl rfl rfl rfl) (fun z1 z2 zq => ?_)
          obtain ⟨rfl, rfl⟩ := zq
          try dsimp only [Option.toList, HAppend.hAppend, Append.append, List.append]
          exact ih.2.2.2.2 _ hd _ _ _ _ _ _ _ _ _ _ _ h lv trivial
        rw [if_neg c133] at h
        by_cases c158 : r17 = 20
        · rw [if_pos c158] at h
          refine Vts (k := 20) (congrArg Int32.ofInt c158) rfl rfl rfl rfl rfl rfl rfl ?_
          refine Van rfl lk0 rfl rfl ?_
          have hz := y_bind h
          clear h
          obtain ⟨v134, h135, h⟩ := hz
          have wv134 := (y_gv_ok h135).2
          refine Vgv h135 rfl rfl rfl ?_
          refine Van rfl lk0 rfl rfl ?_
          have hz := y_bind h
          clear h
          obtain ⟨v136, h137, h⟩ := hz
          have wv136 := (y_gv_ok h137).2
          refine Vgv h137 rfl rfl rfl ?_
          refine Vin rfl lk1 rfl ?_
          have hz := y_bind h
          clear h
          obtain ⟨v138, h139, h⟩ := hz
          refine Zia (q_ia_y h139) rfl rfl ?_
          have hz := y_bind h
          clear h
          obtain ⟨v140, h141, h⟩ := hz
          refine Zia (q_ia_y h141) rfl rfl ?_
          refine Vsi rfl rfl (fun lv lk4 hk => ?_)
          have lk0 := hk 0 _ lk0 (by decide) (by decide) (Or.inl (by decide))
          have lk1 := hk 1 _ lk1 (by decide) (by decide) (Or.inl (by decide))
          refine Van rfl lk0 rfl rfl ?_
          refine Vin rfl lk1 rfl ?_
          have hz := y_bind h
          clear h
          obtain ⟨b146, h147, h⟩ := hz
          obtain ⟨eh147, fh147, wh147⟩ := y_rcv_ok h147
          cases eh147
          have hz := y_bind h
          clear h
          obtain ⟨⟨s142, r143⟩, h144, h⟩ := hz
          try dsimp only at h
          refine Vcv rfl rfl rfl wh147 rfl rfl ⟨(Nat.le_of_ble_eq_true rfl), (Nat.le_of_ble_eq_true rfl)⟩ rfl ((c_118 o n) _ (by omega) _ _ _ _ _ h144 _ rfl rfl) (fun z1 z2 zq => ?_)
          obtain ⟨rfl, rfl⟩ := zq
          try dsimp only [Option.toList, HAppend.hAppend, Append.append, List.append]
          refine Van rfl lk0 rfl rfl ?_
          refine Vin rfl lk1 rfl ?_
          refine Vic (v := Int32.ofInt 3) rfl rfl rfl ?_
          refine Vi rfl lk4 rfl ?_
          have hz := y_bind h
          clear h
          obtain ⟨b154, h155, h⟩ := hz
          obtain ⟨eh155, fh155, wh155⟩ := y_rcv_ok h155
          cases eh155
          have hz := y_bind h
          clear h
          obtain ⟨⟨s150, r151⟩, h152, h⟩ := hz
          try dsimp only at h
          refine Vcv rfl rfl rfl wh155 rfl rfl ⟨(Nat.le_of_ble_eq_true rfl), (Nat.le_of_ble_eq_true rfl)⟩ rfl ((c_120 o n) _ (by omega) _ _ _ _ _ _ _ h152 _ rfl rfl rfl rfl) (fun z1 z2 zq => ?_)
          obtain ⟨rfl, rfl⟩ := zq
          try dsimp only [Option.toList, HAppend.hAppend, Append.append, List.append]
          refine Ygo rfl rfl rfl rfl rfl rfl ?_
          exact ih.2.2.2.2 _ hd _ _ _ _ _ _ _ _ _ _ _ h lv trivial
        rw [if_neg c158] at h
        by_cases c186 : r17 = 21
        · rw [if_pos c186] at h
          refine Vts (k := 21) (congrArg Int32.ofInt c186) rfl rfl rfl rfl rfl rfl rfl ?_
          refine Van rfl lk0 rfl rfl ?_
          refine Vin rfl lk1 rfl ?_
          refine Vic (v := Int32.ofInt 3) rfl rfl rfl ?_
          refine Vin rfl lk3 rfl ?_
          have hz := y_bind h
          clear h
          obtain ⟨b163, h164, h⟩ := hz
          obtain ⟨eh164, fh164, wh164⟩ := y_rcv_ok h164
          cases eh164
          have hz := y_bind h
          clear h
          obtain ⟨⟨s159, r160⟩, h161, h⟩ := hz
          try dsimp only at h
          refine Vcv rfl rfl rfl wh164 rfl rfl ⟨(Nat.le_of_ble_eq_true rfl), (Nat.le_of_ble_eq_true rfl)⟩ rfl ((c_120 o n) _ (by omega) _ _ _ _ _ _ _ h161 _ rfl rfl rfl rfl) (fun z1 z2 zq => ?_)
          obtain ⟨rfl, rfl⟩ := zq
          try dsimp only [Option.toList, HAppend.hAppend, Append.append, List.append]
          refine Van rfl lk0 rfl rfl ?_
          refine Vin rfl lk3 rfl ?_
          have hz := y_bind h
          clear h
          obtain ⟨b171, h172, h⟩ := hz
          obtain ⟨eh172, fh172, wh172⟩ := y_rcv_ok h172
          cases eh172
          have hz := y_bind h
          clear h
          obtain ⟨⟨s167, r168⟩, h169, h⟩ := hz
          try dsimp only at h
          refine Vcv rfl rfl rfl wh172 rfl rfl ⟨(Nat.le_of_ble_eq_true rfl), (Nat.le_of_ble_eq_true rfl)⟩ rfl ((c_131 o n).1 _ (by omega) _ _ _ _ _ _ _ h169 _ rfl rfl) (fun z1 z2 zq => ?_)
          obtain ⟨rfl, rfl⟩ := zq
          try dsimp only [Option.toList, HAppend.hAppend, Append.append, List.append]
          have hz := y_bind h
          clear h
          obtain ⟨_, h176, h⟩ := hz
          have c175 := q_g_ok h176
          refine Uif (q_eq0 c175) rfl rfl rfl rfl rfl rfl rfl (fun c177 => ?_) (fun c177 => ?_)
          · rw [if_pos c177] at h
            exact ih.2.2.2.2 _ hd _ _ _ _ _ _ _ _ _ _ _ h lv trivial
          · rw [if_neg c177] at h
            refine Van rfl lk0 rfl rfl ?_
            refine Vin rfl lk1 rfl ?_
            have hz := y_bind h
            clear h
            obtain ⟨b182, h183, h⟩ := hz
            obtain ⟨eh183, fh183, wh183⟩ := y_rcv_ok h183
            cases eh183
            have hz := y_bind h
            clear h
            obtain ⟨⟨s178, r179⟩, h180, h⟩ := hz
            try dsimp only at h
            refine Vcv rfl rfl rfl wh183 rfl rfl ⟨(Nat.le_of_ble_eq_true rfl), (Nat.le_of_ble_eq_true rfl)⟩ rfl ((c_132 o n).1 _ (by omega) _ _ _ _ _ _ h180 _ rfl rfl) (fun z1 z2 zq => ?_)
            obtain ⟨rfl, rfl⟩ := zq
            try dsimp only [Option.toList, HAppend.hAppend, Append.append, List.append]
            refine Ygo rfl rfl rfl rfl rfl rfl ?_
            exact ih.2.2.2.2 _ hd _ _ _ _ _ _ _ _ _ _ _ h lv trivial
        rw [if_neg c186] at h
        cases h
      · rw [if_neg c15] at h
        refine Van rfl lk0 rfl rfl ?_
        have hz := y_bind h
        clear h
        obtain ⟨v187, h188, h⟩ := hz
        have wv187 := (y_gv_ok h188).2
        refine Vgv h188 rfl rfl rfl ?_
        refine Vin rfl lk1 rfl ?_
        refine Vic (v := Int32.ofInt 0) rfl rfl rfl ?_
        have hz := y_bind h
        clear h
        obtain ⟨s189, h190, h⟩ := hz
        refine Zis (q_is_y h190) rfl rfl ?_
        cases h
        exact Yret rfl rfl rfl rfl rfl rfl rfl ⟨rfl, rfl⟩
    · intro d hd s r0 i1 i2 i3 ta0 ti1 ti2 ti3 s9 r h lv lk0 lk2 lk3 rs0
      obtain ⟨d, rfl⟩ : ∃ x, d = x + 1 := ⟨d - 1, by omega⟩
      simp only [g_129] at h
      refine Vin rfl lk2 rfl ?_
      refine Van rfl lk0 rfl rfl ?_
      refine Vin rfl lk3 rfl ?_
      have hz := y_bind h
      clear h
      obtain ⟨b5, h6, h⟩ := hz
      obtain ⟨eh6, fh6, wh6⟩ := y_rcv_ok h6
      cases eh6
      have hz := y_bind h
      clear h
      obtain ⟨⟨s1, r2⟩, h3, h⟩ := hz
      try dsimp only at h
      refine Vcv rfl rfl rfl wh6 rfl rfl ⟨(by simp only [List.take, List.reverse_cons, List.reverse_nil, List.nil_append, List.cons_append, List.map_cons, List.map_nil, y_cati, y_catl, y_catr, y_catn, y_cata, y_rv_cat rs0, List.sum_cons, List.sum_nil]; decide +kernel), (Nat.le_of_ble_eq_true rfl)⟩ rfl ((c_112 o n) _ (by omega) _ _ _ _ _ h3 _ rfl rfl) (fun z1 z2 zq => ?_)
      obtain ⟨rfl, rfl⟩ := zq
      try dsimp only [Option.toList, HAppend.hAppend, Append.append, List.append]
      have hz := y_bind h
      clear h
      obtain ⟨_, h10, h⟩ := hz
      have c9 := q_g_ok h10
      refine Uif (not_congr (q_eq c9.1 c9.2)) rfl rfl rfl rfl rfl rfl rfl (fun c11 => ?_) (fun c11 => ?_)
      · rw [if_pos c11] at h
        refine Vin rfl lk3 rfl ?_
        exact ih.2.2.1 _ hd _ _ _ _ _ _ _ _ _ _ _ h lv rs0
      · rw [if_neg c11] at h
        refine Van rfl lk0 rfl rfl ?_
        refine Vin rfl lk3 rfl ?_
        have hz := y_bind h
        clear h
        obtain ⟨b16, h17, h⟩ := hz
        obtain ⟨eh17, fh17, wh17⟩ := y_rcv_ok h17
        cases eh17
        have hz := y_bind h
        clear h
        obtain ⟨⟨s12, r13⟩, h14, h⟩ := hz
        try dsimp only at h
        refine Vcv rfl rfl rfl wh17 rfl rfl ⟨(by simp only [List.take, List.reverse_cons, List.reverse_nil, List.nil_append, List.cons_append, List.map_cons, List.map_nil, y_cati, y_catl, y_catr, y_catn, y_cata, y_rv_cat rs0, List.sum_cons, List.sum_nil]; decide +kernel), (Nat.le_of_ble_eq_true rfl)⟩ rfl ((c_116 o n) _ (by omega) _ _ _ _ _ h14 _ rfl rfl) (fun z1 z2 zq => ?_)
        obtain ⟨rfl, rfl⟩ := zq
        try dsimp only [Option.toList, HAppend.hAppend, Append.append, List.append]
        refine Ygo rfl rfl rfl rfl rfl rfl ?_
        exact ih.2.2.1 _ hd _ _ _ _ _ _ _ _ _ _ _ h lv rs0
    · intro d hd s r0 i1 i2 i3 ta0 ti1 ti2 ti3 s9 r h lv rs0
      obtain ⟨d, rfl⟩ : ∃ x, d = x + 1 := ⟨d - 1, by omega⟩
      simp only [g_129] at h
      have hz := y_bind h
      clear h
      obtain ⟨b5, h6, h⟩ := hz
      obtain ⟨eh6, fh6, wh6⟩ := y_rcv_ok h6
      cases eh6
      have hz := y_bind h
      clear h
      obtain ⟨⟨s1, r2⟩, h3, h⟩ := hz
      try dsimp only at h
      refine Vcv rfl rfl rfl wh6 rfl rfl ⟨(Nat.le_of_ble_eq_true rfl), (Nat.le_of_ble_eq_true rfl)⟩ rfl ((c_120 o n) _ (by omega) _ _ _ _ _ _ _ h3 _ rfl rfl rfl rfl) (fun z1 z2 zq => ?_)
      obtain ⟨rfl, rfl⟩ := zq
      try dsimp only [Option.toList, HAppend.hAppend, Append.append, List.append]
      refine Ygo rfl rfl rfl rfl rfl rfl ?_
      exact ih.2.2.2.2 _ hd _ _ _ _ _ _ _ _ _ _ _ h lv trivial
    · intro d hd s r0 i1 i2 i3 ta0 ti1 ti2 ti3 s9 r h lv lk0 lk1 lk3
      obtain ⟨d, rfl⟩ : ∃ x, d = x + 1 := ⟨d - 1, by omega⟩
      simp only [g_129] at h
      refine Van rfl lk0 rfl rfl ?_
      refine Vin rfl lk1 rfl ?_
      refine Vic (v := Int32.ofInt 3) rfl rfl rfl ?_
      refine Vin rfl lk3 rfl ?_
      have hz := y_bind h
      clear h
      obtain ⟨b5, h6, h⟩ := hz
      obtain ⟨eh6, fh6, wh6⟩ := y_rcv_ok h6
      cases eh6
      have hz := y_bind h
      clear h
      obtain ⟨⟨s1, r2⟩, h3, h⟩ := hz
      try dsimp only at h
      refine Vcv rfl rfl rfl wh6 rfl rfl ⟨(Nat.le_of_ble_eq_true rfl), (Nat.le_of_ble_eq_true rfl)⟩ rfl ((c_120 o n) _ (by omega) _ _ _ _ _ _ _ h3 _ rfl rfl rfl rfl) (fun z1 z2 zq => ?_)
      obtain ⟨rfl, rfl⟩ := zq
      try dsimp only [Option.toList, HAppend.hAppend, Append.append, List.append]
      refine Ygo rfl rfl rfl rfl rfl rfl ?_
      exact ih.2.2.2.2 _ hd _ _ _ _ _ _ _ _ _ _ _ h lv trivial
    · intro d hd s r0 i1 i2 i3 ta0 ti1 ti2 ti3 s9 r h lv _
      obtain ⟨d, rfl⟩ : ∃ x, d = x + 1 := ⟨d - 1, by omega⟩
      simp only [g_129] at h
      cases h
      exact Yret rfl rfl rfl rfl rfl rfl rfl ⟨rfl, rfl⟩

