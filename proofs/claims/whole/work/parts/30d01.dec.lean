/-- StepRows$Layout.tieParts -/
def g_34 (o : X_O) : Nat → Nat → Q_S → Nat → Int → Value → Int → Int → Option (Q_S × Unit)
  | 0, _, _, _, _, _, _, _ => none
  | n + 1, 0, s, r0, i1, ta0, ti1, ti2 => (q_gv s 2 (.ref r0) 1).bind fun v1 => (q_gv s 3 v1 3).bind fun v3 => (q_gv s 2 (.ref r0) 1).bind fun v5 => (q_gv s 3 v5 0).bind fun v7 => (q_ia o s v7 i1).bind fun v9 => (q_g (q_in v9)).bind fun _ => if v9 < 14 ∨ 21 < v9 then g_34 o n 2 s 0 0 .null 0 0 else if v9 = 14 then (q_gv s 2 (.ref r0) 1).bind fun v14 => (q_rcv s 3 v14).bind fun b20 => (g_37 o n 0 s b20 (i1)).bind fun q19 => (q_is q19.1 v3 (i1 + 1) q19.2).bind fun s24 => (q_gv s24 2 (.ref r0) 1).bind fun v26 => (q_rcv s24 3 v26).bind fun b32 => (g_37 o n 0 s24 b32 (i1)).bind fun q31 => (q_ia o q31.1 v3 i1).bind fun v36 => (q_is q31.1 v3 q31.2 v36).bind fun s38 => (q_gv s38 2 (.ref r0) 4).bind fun v40 => (q_gv s38 2 (.ref r0) 4).bind fun v42 => (q_ba s38 v42 i1).bind fun v44 => (q_bs s38 v40 (i1 + 1) v44).bind fun s46 => (q_gv s46 2 (.ref r0) 4).bind fun v48 => (q_gv s46 2 (.ref r0) 1).bind fun v50 => (q_rcv s46 3 v50).bind fun b56 => (g_37 o n 0 s46 b56 (i1)).bind fun q55 => (q_gv q55.1 2 (.ref r0) 4).bind fun v60 => (q_ba q55.1 v60 i1).bind fun v62 => (q_bs q55.1 v48 q55.2 v62).bind fun s64 => g_34 o n 2 s64 0 0 .null 0 0 else if v9 = 15 then (q_gv s 2 (.ref r0) 1).bind fun v67 => (q_rcv s 3 v67).bind fun b73 => (g_37 o n 0 s b73 (i1)).bind fun q72 => (q_ia o q72.1 v3 i1).bind fun v77 => (q_is q72.1 v3 q72.2 v77).bind fun s79 => (q_gv s79 2 (.ref r0) 1).bind fun v81 => (q_gv s79 3 v81 1).bind fun v83 => (q_la s79 v83 i1).bind fun v85 => if v85 = 0 then g_34 o n 2 s79 0 0 .null 0 0 else (q_gv s79 2 (.ref r0) 1).bind fun v88 => (q_rcv s79 3 v88).bind fun b94 => (g_38 o n 0 s79 b94 (i1)).bind fun q93 => (q_ia o q93.1 v3 i1).bind fun v98 => (q_is q93.1 v3 q93.2 v98).bind fun s100 => g_34 o n 2 s100 0 0 .null 0 0 else if v9 = 16 then (q_gv s 2 (.ref r0) 1).bind fun v103 => (q_rcv s 3 v103).bind fun b109 => (g_37 o n 0 s b109 (i1)).bind fun q108 => (q_is q108.1 v3 q108.2 (-1 - i1)).bind fun s113 => (q_gv s113 2 (.ref r0) 1).bind fun v115 => (q_rcv s113 3 v115).bind fun b121 => (g_38 o n 0 s113 b121 (i1)).bind fun q120 => (q_ia o q120.1 v3 i1).bind fun v125 => (q_is q120.1 v3 q120.2 v125).bind fun s127 => g_34 o n 2 s127 0 0 .null 0 0 else if v9 = 17 then (q_gv s 2 (.ref r0) 1).bind fun v130 => (q_rcv s 3 v130).bind fun b136 => (g_37 o n 0 s b136 (i1)).bind fun q135 => (q_is q135.1 v3 q135.2 (-1 - i1)).bind fun s140 => g_34 o n 2 s140 0 0 .null 0 0 else if v9 = 18 then (q_is s v3 (i1 + 1) (-1 - i1)).bind fun s143 => (q_gv s143 2 (.ref r0) 1).bind fun v145 => (q_rcv s143 3 v145).bind fun b151 => (g_37 o n 0 s143 b151 (i1)).bind fun q150 => (q_is q150.1 v3 q150.2 (-1 - i1)).bind fun s155 => g_34 o n 2 s155 0 0 .null 0 0 else if v9 = 19 then g_34 o n 2 s 0 0 .null 0 0 else if v9 = 20 then (q_is s v3 (i1 + 1) (-1 - i1)).bind fun s159 => g_34 o n 2 s159 0 0 .null 0 0 else if v9 = 21 then (q_gv s 2 (.ref r0) 4).bind fun v162 => (q_ba s v162 i1).bind fun v164 => (q_g (q_in v164)).bind fun _ => if v164 = 0 then (q_ia o s v3 i1).bind fun v169 => g_34 o n 1 s r0 (i1) (v3) ((i1 + 1)) (v169) else g_34 o n 1 s r0 (i1) (v3) ((i1 + 1)) ((-1 - i1)) else none
  | n + 1, 1, s, r0, i1, ta0, ti1, ti2 => (q_is s ta0 ti1 ti2).bind fun s1 => (q_rcv s1 2 (.ref r0)).bind fun b7 => (g_35 o n 0 s1 b7 (i1)).bind fun q6 => g_34 o n 2 q6.1 0 0 .null 0 0
  | n + 1, 2, s, r0, i1, ta0, ti1, ti2 => some (s, ())
  | _ + 1, _, _, _, _, _, _, _ => none
set_option maxRecDepth 100000 in
set_option maxHeartbeats 4000000 in
theorem c_34 (o : X_O) : ∀ n, (∀ (d : Nat) (hd : 2 ≤ d) (s : Q_S) (r0 : Nat) (i1 : Int) (ta0 : Value) (ti1 : Int) (ti2 : Int) (s9 : Q_S) (r : Unit), g_34 o n 0 s r0 i1 ta0 ti1 ti2 = some (s9, r) → ∀ lv : X_L, x_lget lv 0 = some (.ref r0) → x_lget lv 1 = some (.int (Int32.ofInt i1)) → Y o d 34 0 lv [] (q_y s) (fun s1 r1 => s1 = q_y s9 ∧ r1 = none)) ∧
    (∀ (d : Nat) (hd : 2 ≤ d) (s : Q_S) (r0 : Nat) (i1 : Int) (ta0 : Value) (ti1 : Int) (ti2 : Int) (s9 : Q_S) (r : Unit), g_34 o n 1 s r0 i1 ta0 ti1 ti2 = some (s9, r) → ∀ lv : X_L, x_lget lv 0 = some (.ref r0) → x_lget lv 1 = some (.int (Int32.ofInt i1)) → y_rv ta0 = true → Y o d 34 271 lv [.int (Int32.ofInt ti2), .int (Int32.ofInt ti1), ta0] (q_y s) (fun s1 r1 => s1 = q_y s9 ∧ r1 = none)) ∧
    (∀ (d : Nat) (hd : 2 ≤ d) (s : Q_S) (r0 : Nat) (i1 : Int) (ta0 : Value) (ti1 : Int) (ti2 : Int) (s9 : Q_S) (r : Unit), g_34 o n 2 s r0 i1 ta0 ti1 ti2 = some (s9, r) → ∀ lv : X_L, True → Y o d 34 280 lv [] (q_y s) (fun s1 r1 => s1 = q_y s9 ∧ r1 = none)) := by
  intro n
  induction n with
  | zero => exact ⟨fun d hd s _ _ _ _ _ s9 r h => (by simp only [g_34] at h; cases h), fun d hd s _ _ _ _ _ s9 r h => (by simp only [g_34] at h; cases h), fun d hd s _ _ _ _ _ s9 r h => (by simp only [g_34] at h; cases h)⟩
  | succ n ih =>
    refine ⟨?_, ?_, ?_⟩
    · intro d hd s r0 i1 ta0 ti1 ti2 s9 r h lv lk0 lk1
      obtain ⟨d, rfl⟩ : ∃ x, d = x + 1 := ⟨d - 1, by omega⟩
      simp only [g_34] at h
      refine Van rfl lk0 rfl rfl ?_
      have hz := y_bind h
      clear h
      obtain ⟨v1, h2, h⟩ := hz
      have wv1 := (y_gv_ok h2).2
      refine Vgv h2 rfl rfl rfl ?_
      have hz := y_bind h
      clear h
      obtain ⟨v3, h4, h⟩ := hz
      have wv3 := (y_gv_ok h4).2
      refine Vgv h4 rfl rfl rfl ?_
      refine Vsan rfl wv3 rfl (fun lv lk2 hk => ?_)
      have lk0 := hk 0 _ lk0 (by decide) (by decide) (Or.inl (by decide))
      have lk1 := hk 1 _ lk1 (by decide) (by decide) (Or.inr rfl)
      refine Van rfl lk0 rfl rfl ?_
      have hz := y_bind h
      clear h
      obtain ⟨v5, h6, h⟩ := hz
      have wv5 := (y_gv_ok h6).2
      refine Vgv h6 rfl rfl rfl ?_
      have hz := y_bind h
      clear h
      obtain ⟨v7, h8, h⟩ := hz
      have wv7 := (y_gv_ok h8).2
      refine Vgv h8 rfl rfl rfl ?_
      refine Vin rfl lk1 rfl ?_
      have hz := y_bind h
      clear h
      obtain ⟨v9, h10, h⟩ := hz
      refine Zia (q_ia_y h10) rfl rfl ?_
      have hz := y_bind h
      clear h
      obtain ⟨_, h12, h⟩ := hz
      have c11 := q_g_ok h12
      by_cases c13 : v9 < 14 ∨ 21 < v9
      · rw [if_pos c13] at h
        refine Ysw rfl rfl rfl rfl rfl (if_pos (by rw [q_ti c11]; exact c13)) rfl ?_
        exact ih.2.2 _ hd _ _ _ _ _ _ _ _ h lv trivial
      rw [if_neg c13] at h
      by_cases c66 : v9 = 14
      · rw [if_pos c66] at h
        refine Vts (k := 14) (congrArg Int32.ofInt c66) rfl rfl rfl rfl rfl rfl rfl ?_
        refine Van rfl lk2 wv3 rfl ?_
        refine Vin rfl lk1 rfl ?_
        refine Vic (v := Int32.ofInt 1) rfl rfl rfl ?_
        refine Uadd rfl rfl ?_
        refine Van rfl lk0 rfl rfl ?_
        have hz := y_bind h
        clear h
        obtain ⟨v14, h15, h⟩ := hz
        have wv14 := (y_gv_ok h15).2
        refine Vgv h15 rfl rfl rfl ?_
        refine Vin rfl lk1 rfl ?_
        have hz := y_bind h
        clear h
        obtain ⟨b20, h21, h⟩ := hz
        obtain ⟨eh21, fh21, wh21⟩ := y_rcv_ok h21
        cases eh21
        have hz := y_bind h
        clear h
        obtain ⟨⟨s16, r17⟩, h18, h⟩ := hz
        try dsimp only at h
        refine Vcv rfl rfl rfl wh21 rfl rfl ⟨(by simp only [List.take, List.reverse_cons, List.reverse_nil, List.nil_append, List.cons_append, List.map_cons, List.map_nil, y_cati, y_catl, y_catr, y_catn, y_cata, y_rv_cat wv3, List.sum_cons, List.sum_nil]; decide +kernel), (Nat.le_of_ble_eq_true rfl)⟩ rfl ((c_37 o n) _ (by omega) _ _ _ _ _ h18 _ rfl rfl) (fun z1 z2 zq => ?_)
        obtain ⟨rfl, rfl⟩ := zq
        try dsimp only [Option.toList, HAppend.hAppend, Append.append, List.append]
        have hz := y_bind h
        clear h
        obtain ⟨s24, h25, h⟩ := hz
        refine Zis (q_is_y h25) rfl rfl ?_
        refine Van rfl lk2 wv3 rfl ?_
        refine Van rfl lk0 rfl rfl ?_
        have hz := y_bind h
        clear h
        obtain ⟨v26, h27, h⟩ := hz
        have wv26 := (y_gv_ok h27).2
        refine Vgv h27 rfl rfl rfl ?_
        refine Vin rfl lk1 rfl ?_
        have hz := y_bind h
        clear h
        obtain ⟨b32, h33, h⟩ := hz
        obtain ⟨eh33, fh33, wh33⟩ := y_rcv_ok h33
        cases eh33
        have hz := y_bind h
        clear h
        obtain ⟨⟨s28, r29⟩, h30, h⟩ := hz
        try dsimp only at h
        refine Vcv rfl rfl rfl wh33 rfl rfl ⟨(by simp only [List.take, List.reverse_cons, List.reverse_nil, List.nil_append, List.cons_append, List.map_cons, List.map_nil, y_cati, y_catl, y_catr, y_catn, y_cata, y_rv_cat wv3, List.sum_cons, List.sum_nil]; decide +kernel), (Nat.le_of_ble_eq_true rfl)⟩ rfl ((c_37 o n) _ (by omega) _ _ _ _ _ h30 _ rfl rfl) (fun z1 z2 zq => ?_)
        obtain ⟨rfl, rfl⟩ := zq
        try dsimp only [Option.toList, HAppend.hAppend, Append.append, List.append]
        refine Van rfl lk2 wv3 rfl ?_
        refine Vin rfl lk1 rfl ?_
        have hz := y_bind h
        clear h
        obtain ⟨v36, h37, h⟩ := hz
        refine Zia (q_ia_y h37) rfl rfl ?_
        have hz := y_bind h
        clear h
        obtain ⟨s38, h39, h⟩ := hz
        refine Zis (q_is_y h39) rfl rfl ?_
        refine Van rfl lk0 rfl rfl ?_
        have hz := y_bind h
        clear h
        obtain ⟨v40, h41, h⟩ := hz
        have wv40 := (y_gv_ok h41).2
        refine Vgv h41 rfl rfl rfl ?_
        refine Vin rfl lk1 rfl ?_
        refine Vic (v := Int32.ofInt 1) rfl rfl rfl ?_
        refine Uadd rfl rfl ?_
        refine Van rfl lk0 rfl rfl ?_
        have hz := y_bind h
        clear h
        obtain ⟨v42, h43, h⟩ := hz
        have wv42 := (y_gv_ok h43).2
        refine Vgv h43 rfl rfl rfl ?_
        refine Vin rfl lk1 rfl ?_
        have hz := y_bind h
        clear h
        obtain ⟨v44, h45, h⟩ := hz
        refine Zba (q_ba_y h45) rfl rfl ?_
        have hz := y_bind h
        clear h
        obtain ⟨s46, h47, h⟩ := hz
        refine Zbs (q_bs_y h47) rfl rfl ?_
        refine Van rfl lk0 rfl rfl ?_
        have hz := y_bind h
        clear h
        obtain ⟨v48, h49, h⟩ := hz
        have wv48 := (y_gv_ok h49).2
        refine Vgv h49 rfl rfl rfl ?_
        refine Van rfl lk0 rfl rfl ?_
        have hz := y_bind h
        clear h
        obtain ⟨v50, h51, h⟩ := hz
        have wv50 := (y_gv_ok h51).2
        refine Vgv h51 rfl rfl rfl ?_
        refine Vin rfl lk1 rfl ?_
        have hz := y_bind h
        clear h
        obtain ⟨b56, h57, h⟩ := hz
        obtain ⟨eh57, fh57, wh57⟩ := y_rcv_ok h57
        cases eh57
        have hz := y_bind h
        clear h
        obtain ⟨⟨s52, r53⟩, h54, h⟩ := hz
        try dsimp only at h
        refine Vcv rfl rfl rfl wh57 rfl rfl ⟨(by simp only [List.take, List.reverse_cons, List.reverse_nil, List.nil_append, List.cons_append, List.map_cons, List.map_nil, y_cati, y_catl, y_catr, y_catn, y_cata, y_rv_cat wv48, List.sum_cons, List.sum_nil]; decide +kernel), (Nat.le_of_ble_eq_true rfl)⟩ rfl ((c_37 o n) _ (by omega) _ _ _ _ _ h54 _ rfl rfl) (fun z1 z2 zq => ?_)
        obtain ⟨rfl, rfl⟩ := zq
        try dsimp only [Option.toList, HAppend.hAppend, Append.append, List.append]
        refine Van rfl lk0 rfl rfl ?_
        have hz := y_bind h
        clear h
        obtain ⟨v60, h61, h⟩ := hz
        have wv60 := (y_gv_ok h61).2
        refine Vgv h61 rfl rfl rfl ?_
        refine Vin rfl lk1 rfl ?_
        have hz := y_bind h
        clear h
        obtain ⟨v62, h63, h⟩ := hz
        refine Zba (q_ba_y h63) rfl rfl ?_
        have hz := y_bind h
        clear h
        obtain ⟨s64, h65, h⟩ := hz
        refine Zbs (q_bs_y h65) rfl rfl ?_
        refine Ygo rfl rfl rfl rfl rfl rfl ?_
        exact ih.2.2 _ hd _ _ _ _ _ _ _ _ h lv trivial
      rw [if_neg c66] at h
      by_cases c102 : v9 = 15
      · rw [if_pos c102] at h
        refine Vts (k := 15) (congrArg Int32.ofInt c102) rfl rfl rfl rfl rfl rfl rfl ?_
        refine Van rfl lk2 wv3 rfl ?_
        refine Van rfl lk0 rfl rfl ?_
        have hz := y_bind h
        clear h
        obtain ⟨v67, h68, h⟩ := hz
        have wv67 := (y_gv_ok h68).2
        refine Vgv h68 rfl rfl rfl ?_
        refine Vin rfl lk1 rfl ?_
        have hz := y_bind h
        clear h
        obtain ⟨b73, h74, h⟩ := hz
        obtain ⟨eh74, fh74, wh74⟩ := y_rcv_ok h74
        cases eh74
        have hz := y_bind h
        clear h
        obtain ⟨⟨s69, r70⟩, h71, h⟩ := hz
        try dsimp only at h
        refine Vcv rfl rfl rfl wh74 rfl rfl ⟨(by simp only [List.take, List.reverse_cons, List.reverse_nil, List.nil_append, List.cons_append, List.map_cons, List.map_nil, y_cati, y_catl, y_catr, y_catn, y_cata, y_rv_cat wv3, List.sum_cons, List.sum_nil]; decide +kernel), (Nat.le_of_ble_eq_true rfl)⟩ rfl ((c_37 o n) _ (by omega) _ _ _ _ _ h71 _ rfl rfl) (fun z1 z2 zq => ?_)
        obtain ⟨rfl, rfl⟩ := zq
        try dsimp only [Option.toList, HAppend.hAppend, Append.append, List.append]
        refine Van rfl lk2 wv3 rfl ?_
        refine Vin rfl lk1 rfl ?_
        have hz := y_bind h
        clear h
        obtain ⟨v77, h78, h⟩ := hz
        refine Zia (q_ia_y h78) rfl rfl ?_
        have hz := y_bind h
        clear h
        obtain ⟨s79, h80, h⟩ := hz
        refine Zis (q_is_y h80) rfl rfl ?_
        refine Van rfl lk0 rfl rfl ?_
        have hz := y_bind h
        clear h
        obtain ⟨v81, h82, h⟩ := hz
        have wv81 := (y_gv_ok h82).2
        refine Vgv h82 rfl rfl rfl ?_
        have hz := y_bind h
        clear h
        obtain ⟨v83, h84, h⟩ := hz
        have wv83 := (y_gv_ok h84).2
        refine Vgv h84 rfl rfl rfl ?_
        refine Vin rfl lk1 rfl ?_
        have hz := y_bind h
        clear h
        obtain ⟨v85, h86, h⟩ := hz
        refine Zla (q_la_y h86) rfl rfl ?_
        refine Vlc (v := 0) rfl (by decide) rfl ?_
        refine Ya rfl rfl rfl ?_
        refine Uif (lg_cmp_eq _ _) rfl rfl rfl rfl rfl rfl rfl (fun c87 => ?_) (fun c87 => ?_)
        · rw [if_pos c87] at h
          exact ih.2.2 _ hd _ _ _ _ _ _ _ _ h lv trivial
        · rw [if_neg c87] at h
          refine Van rfl lk2 wv3 rfl ?_
          refine Van rfl lk0 rfl rfl ?_
          have hz := y_bind h
          clear h
          obtain ⟨v88, h89, h⟩ := hz
          have wv88 := (y_gv_ok h89).2
          refine Vgv h89 rfl rfl rfl ?_
          refine Vin rfl lk1 rfl ?_
          have hz := y_bind h
          clear h
          obtain ⟨b94, h95, h⟩ := hz
          obtain ⟨eh95, fh95, wh95⟩ := y_rcv_ok h95
          cases eh95
          have hz := y_bind h
          clear h
          obtain ⟨⟨s90, r91⟩, h92, h⟩ := hz
          try dsimp only at h
          refine Vcv rfl rfl rfl wh95 rfl rfl ⟨(by simp only [List.take, List.reverse_cons, List.reverse_nil, List.nil_append, List.cons_append, List.map_cons, List.map_nil, y_cati, y_catl, y_catr, y_catn, y_cata, y_rv_cat wv3, List.sum_cons, List.sum_nil]; decide +kernel), (Nat.le_of_ble_eq_true rfl)⟩ rfl ((c_38 o n) _ (by omega) _ _ _ _ _ h92 _ rfl rfl) (fun z1 z2 zq => ?_)
          obtain ⟨rfl, rfl⟩ := zq
          try dsimp only [Option.toList, HAppend.hAppend, Append.append, List.append]
          refine Van rfl lk2 wv3 rfl ?_
          refine Vin rfl lk1 rfl ?_
          have hz := y_bind h
          clear h
          obtain ⟨v98, h99, h⟩ := hz
          refine Zia (q_ia_y h99) rfl rfl ?_
          have hz := y_bind h
          clear h
          obtain ⟨s100, h101, h⟩ := hz
          refine Zis (q_is_y h101) rfl rfl ?_
          refine Ygo rfl rfl rfl rfl rfl rfl ?_
          exact ih.2.2 _ hd _ _ _ _ _ _ _ _ h lv trivial
      rw [if_neg c102] at h
      by_cases c129 : v9 = 16
      · rw [if_pos c129] at h
        refine Vts (k := 16) (congrArg Int32.ofInt c129) rfl rfl rfl rfl rfl rfl rfl ?_
        refine Van rfl lk2 wv3 rfl ?_
        refine Van rfl lk0 rfl rfl ?_
        have hz := y_bind h
        clear h
        obtain ⟨v103, h104, h⟩ := hz
        have wv103 := (y_gv_ok h104).2
        refine Vgv h104 rfl rfl rfl ?_
        refine Vin rfl lk1 rfl ?_
        have hz := y_bind h
        clear h
        obtain ⟨b109, h110, h⟩ := hz
        obtain ⟨eh110, fh110, wh110⟩ := y_rcv_ok h110
        cases eh110
        have hz := y_bind h
        clear h
        obtain ⟨⟨s105, r106⟩, h107, h⟩ := hz
        try dsimp only at h
        refine Vcv rfl rfl rfl wh110 rfl rfl ⟨(by simp only [List.take, List.reverse_cons, List.reverse_nil, List.nil_append, List.cons_append, List.map_cons, List.map_nil, y_cati, y_catl, y_catr, y_catn, y_cata, y_rv_cat wv3, List.sum_cons, List.sum_nil]; decide +kernel), (Nat.le_of_ble_eq_true rfl)⟩ rfl ((c_37 o n) _ (by omega) _ _ _ _ _ h107 _ rfl rfl) (fun z1 z2 zq => ?_)
        obtain ⟨rfl, rfl⟩ := zq
        try dsimp only [Option.toList, HAppend.hAppend, Append.append, List.append]
        refine Vin rfl lk1 rfl ?_
        refine Vic (v := Int32.ofInt (-1)) rfl rfl rfl ?_
        refine Unot rfl rfl ?_
        have hz := y_bind h
        clear h
        obtain ⟨s113, h114, h⟩ := hz
        refine Zis (q_is_y h114) rfl rfl ?_
        refine Van rfl lk2 wv3 rfl ?_
        refine Van rfl lk0 rfl rfl ?_
        have hz := y_bind h
        clear h
        obtain ⟨v115, h116, h⟩ := hz
        have wv115 := (y_gv_ok h116).2
        refine Vgv h116 rfl rfl rfl ?_
        refine Vin rfl lk1 rfl ?_
        have hz := y_bind h
        clear h
        obtain ⟨b121, h122, h⟩ := hz
        obtain ⟨eh122, fh122, wh122⟩ := y_rcv_ok h122
        cases eh122
        have hz := y_bind h
        clear h
        obtain ⟨⟨s117, r118⟩, h119, h⟩ := hz
        try dsimp only at h
        refine Vcv rfl rfl rfl wh122 rfl rfl ⟨(by simp only [List.take, List.reverse_cons, List.reverse_nil, List.nil_append, List.cons_append, List.map_cons, List.map_nil, y_cati, y_catl, y_catr, y_catn, y_cata, y_rv_cat wv3, List.sum_cons, List.sum_nil]; decide +kernel), (Nat.le_of_ble_eq_true rfl)⟩ rfl ((c_38 o n) _ (by omega) _ _ _ _ _ h119 _ rfl rfl) (fun z1 z2 zq => ?_)
        obtain ⟨rfl, rfl⟩ := zq
        try dsimp only [Option.toList, HAppend.hAppend, Append.append, List.append]
        refine Van rfl lk2 wv3 rfl ?_
        refine Vin rfl lk1 rfl ?_
        have hz := y_bind h
        clear h
        obtain ⟨v125, h126, h⟩ := hz
        refine Zia (q_ia_y h126) rfl rfl ?_
        have hz := y_bind h
        clear h
        obtain ⟨s127, h128, h⟩ := hz
        refine Zis (q_is_y h128) rfl rfl ?_
        refine Ygo rfl rfl rfl rfl rfl rfl ?_
        exact ih.2.2 _ hd _ _ _ _ _ _ _ _ h lv trivial
      rw [if_neg c129] at h
      by_cases c142 : v9 = 17
      · rw [if_pos c142] at h
        refine Vts (k := 17) (congrArg Int32.ofInt c142) rfl rfl rfl rfl rfl rfl rfl ?_
        refine Van rfl lk2 wv3 rfl ?_
        refine Van rfl lk0 rfl rfl ?_
        have hz := y_bind h
        clear h
        obtain ⟨v130, h131, h⟩ := hz
        have wv130 := (y_gv_ok h131).2
        refine Vgv h131 rfl rfl rfl ?_
        refine Vin rfl lk1 rfl ?_
        have hz := y_bind h
        clear h
        obtain ⟨b136, h137, h⟩ := hz
        obtain ⟨eh137, fh137, wh137⟩ := y_rcv_ok h137
        cases eh137
        have hz := y_bind h
        clear h
        obtain ⟨⟨s132, r133⟩, h134, h⟩ := hz
        try dsimp only at h
        refine Vcv rfl rfl rfl wh137 rfl rfl ⟨(by simp only [List.take, List.reverse_cons, List.reverse_nil, List.nil_append, List.cons_append, List.map_cons, List.map_nil, y_cati, y_catl, y_catr, y_catn, y_cata, y_rv_cat wv3, List.sum_cons, List.sum_nil]; decide +kernel), (Nat.le_of_ble_eq_true rfl)⟩ rfl ((c_37 o n) _ (by omega) _ _ _ _ _ h134 _ rfl rfl) (fun z1 z2 zq => ?_)
        obtain ⟨rfl, rfl⟩ := zq
        try dsimp only [Option.toList, HAppend.hAppend, Append.append, List.append]
        refine Vin rfl lk1 rfl ?_
        refine Vic (v := Int32.ofInt (-1)) rfl rfl rfl ?_
        refine Unot rfl rfl ?_
        have hz := y_bind h
        clear h
        obtain ⟨s140, h141, h⟩ := hz
        refine Zis (q_is_y h141) rfl rfl ?_
        refine Ygo rfl rfl rfl rfl rfl rfl ?_
        exact ih.2.2 _ hd _ _ _ _ _ _ _ _ h lv trivial
      rw [if_neg c142] at h
      by_cases c157 : v9 = 18
      · rw [if_pos c157] at h
        refine Vts (k := 18) (congrArg Int32.ofInt c157) rfl rfl rfl rfl rfl rfl rfl ?_
        refine Van rfl lk2 wv3 rfl ?_
        refine Vin rfl lk1 rfl ?_
        refine Vic (v := Int32.ofInt 1) rfl rfl rfl ?_
        refine Uadd rfl rfl ?_
        refine Vin rfl lk1 rfl ?_
        refine Vic (v := Int32.ofInt (-1)) rfl rfl rfl ?_
        refine Unot rfl rfl ?_
        have hz := y_bind h
        clear h
        obtain ⟨s143, h144, h⟩ := hz
        refine Zis (q_is_y h144) rfl rfl ?_
        refine Van rfl lk2 wv3 rfl ?_
        refine Van rfl lk0 rfl rfl ?_
        have hz := y_bind h
        clear h
        obtain ⟨v145, h146, h⟩ := hz
        have wv145 := (y_gv_ok h146).2
        refine Vgv h146 rfl rfl rfl ?_
        refine Vin rfl lk1 rfl ?_
        have hz := y_bind h
        clear h
        obtain ⟨b151, h152, h⟩ := hz
        obtain ⟨eh152, fh152, wh152⟩ := y_rcv_ok h152
        cases eh152
        have hz := y_bind h
        clear h
        obtain ⟨⟨s147, r148⟩, h149, h⟩ := hz
        try dsimp only at h
        refine Vcv rfl rfl rfl wh152 rfl rfl ⟨(by simp only [List.take, List.reverse_cons, List.reverse_nil, List.nil_append, List.cons_append, List.map_cons, List.map_nil, y_cati, y_catl, y_catr, y_catn, y_cata, y_rv_cat wv3, List.sum_cons, List.sum_nil]; decide +kernel), (Nat.le_of_ble_eq_true rfl)⟩ rfl ((c_37 o n) _ (by omega) _ _ _ _ _ h149 _ rfl rfl) (fun z1 z2 zq => ?_)
        obtain ⟨rfl, rfl⟩ := zq
        try dsimp only [Option.toList, HAppend.hAppend, Append.append, List.append]
        refine Vin rfl lk1 rfl ?_
        refine Vic (v := Int32.ofInt (-1)) rfl rfl rfl ?_
        refine Unot rfl rfl ?_
        have hz := y_bind h
        clear h
        obtain ⟨s155, h156, h⟩ := hz
        refine Zis (q_is_y h156) rfl rfl ?_
        refine Ygo rfl rfl rfl rfl rfl rfl ?_
        exact ih.2.2 _ hd _ _ _ _ _ _ _ _ h lv trivial
      rw [if_neg c157] at h
      by_cases c158 : v9 = 19
      · rw [if_pos c158] at h
        refine Vts (k := 19) (congrArg Int32.ofInt c158) rfl rfl rfl rfl rfl rfl rfl ?_
        exact ih.2.2 _ hd _ _ _ _ _ _ _ _ h lv trivial
      rw [if_neg c158] at h
      by_cases c161 : v9 = 20
      · rw [if_pos c161] at h
        refine Vts (k := 20) (congrArg Int32.ofInt c161) rfl rfl rfl rfl rfl rfl rfl ?_
        refine Van rfl lk2 wv3 rfl ?_
        refine Vin rfl lk1 rfl ?_
        refine Vic (v := Int32.ofInt 1) rfl rfl rfl ?_
        refine Uadd rfl rfl ?_
        refine Vin rfl lk1 rfl ?_
        refine Vic (v := Int32.ofInt (-1)) rfl rfl rfl ?_
        refine Unot rfl rfl ?_
        have hz := y_bind h
        clear h
        obtain ⟨s159, h160, h⟩ := hz
        refine Zis (q_is_y h160) rfl rfl ?_
        refine Ygo rfl rfl rfl rfl rfl rfl ?_
        exact ih.2.2 _ hd _ _ _ _ _ _ _ _ h lv trivial
      rw [if_neg c161] at h
      by_cases c171 : v9 = 21
      · rw [if_pos c171] at h
        refine Vts (k := 21) (congrArg Int32.ofInt c171) rfl rfl rfl rfl rfl rfl rfl ?_
        refine Van rfl lk2 wv3 rfl ?_
        refine Vin rfl lk1 rfl ?_
        refine Vic (v := Int32.ofInt 1) rfl rfl rfl ?_
        refine Uadd rfl rfl ?_
        refine Van rfl lk0 rfl rfl ?_
        have hz := y_bind h
        clear h
        obtain ⟨v162, h163, h⟩ := hz
        have wv162 := (y_gv_ok h163).2
        refine Vgv h163 rfl rfl rfl ?_
        refine Vin rfl lk1 rfl ?_
        have hz := y_bind h
        clear h
        obtain ⟨v164, h165, h⟩ := hz
        refine Zba (q_ba_y h165) rfl rfl ?_
        have hz := y_bind h
        clear h
        obtain ⟨_, h167, h⟩ := hz
        have c166 := q_g_ok h167
        refine Uif (q_eq0 c166) rfl rfl rfl rfl rfl rfl rfl (fun c168 => ?_) (fun c168 => ?_)
        · rw [if_pos c168] at h
          refine Van rfl lk2 wv3 rfl ?_
          refine Vin rfl lk1 rfl ?_
          have hz := y_bind h
          clear h
          obtain ⟨v169, h170, h⟩ := hz
          refine Zia (q_ia_y h170) rfl rfl ?_
          exact ih.2.1 _ hd _ _ _ _ _ _ _ _ h lv lk0 lk1 wv3
        · rw [if_neg c168] at h
          refine Vin rfl lk1 rfl ?_
          refine Vic (v := Int32.ofInt (-1)) rfl rfl rfl ?_
          refine Unot rfl rfl ?_
          refine Ygo rfl rfl rfl rfl rfl rfl ?_
          exact ih.2.1 _ hd _ _ _ _ _ _ _ _ h lv lk0 lk1 wv3
      rw [if_neg c171] at h
      cases h
    · intro d hd s r0 i1 ta0 ti1 ti2 s9 r h lv lk0 lk1 rs0
      obtain ⟨d, rfl⟩ : ∃ x, d = x + 1 := ⟨d - 1, by omega⟩
      simp only [g_34] at h
      have hz := y_bind h
      clear h
      obtain ⟨s1, h2, h⟩ := hz
      refine Zis (q_is_y h2) rfl rfl ?_
      refine Van rfl lk0 rfl rfl ?_
      refine Vin rfl lk1 rfl ?_
      have hz := y_bind h
      clear h
      obtain ⟨b7, h8, h⟩ := hz
      obtain ⟨eh8, fh8, wh8⟩ := y_rcv_ok h8
      cases eh8
      have hz := y_bind h
      clear h
      obtain ⟨⟨s3, r4⟩, h5, h⟩ := hz
      try dsimp only at h
      refine Vcv rfl rfl rfl wh8 rfl rfl ⟨(Nat.le_of_ble_eq_true rfl), (Nat.le_of_ble_eq_true rfl)⟩ rfl ((c_35 o n).1 _ (by omega) _ _ _ _ _ h5 _ rfl rfl) (fun z1 z2 zq => ?_)
      obtain ⟨rfl, rfl⟩ := zq
      try dsimp only [Option.toList, HAppend.hAppend, Append.append, List.append]
      refine Ygo rfl rfl rfl rfl rfl rfl ?_
      exact ih.2.2 _ hd _ _ _ _ _ _ _ _ h lv trivial
    · intro d hd s r0 i1 ta0 ti1 ti2 s9 r h lv _
      obtain ⟨d, rfl⟩ : ∃ x, d = x + 1 := ⟨d - 1, by omega⟩
      simp only [g_34] at h
      cases h
      exact Yret rfl rfl rfl rfl rfl rfl rfl ⟨rfl, rfl⟩

/-- StepRows$Layout.layOut -/
def g_31 (o : X_O) : Nat → Nat → Q_S → Nat → Int → Int → Option (Q_S × Unit)
  | 0, _, _, _, _, _ => none
  | n + 1, 0, s, r0, i1, i2 => (q_gv s 2 (.ref r0) 1).bind fun v1 => (q_pi s 3 v1 7 0).bind fun s3 => (q_pi s3 2 (.ref r0) 5 0).bind fun s5 => (q_rcv s5 2 (.ref r0)).bind fun b11 => (g_32 o n 0 s5 b11 (i1) (0)).bind fun q10 => g_31 o n 1 q10.1 r0 0 (0)
  | n + 1, 1, s, r0, i1, i2 => (q_g (q_in i2)).bind fun _ => if 500 ≤ i2 then g_31 o n 2 s r0 0 0 else (q_gi s 2 (.ref r0) 5).bind fun v4 => (q_g (q_in v4)).bind fun _ => if v4 ≤ 0 then g_31 o n 2 s r0 0 0 else (q_gi s 2 (.ref r0) 5).bind fun v9 => (q_pi s 2 (.ref r0) 5 (v9 - 1)).bind fun s11 => (q_gv s11 2 (.ref r0) 2).bind fun v13 => (q_gi s11 2 (.ref r0) 5).bind fun v15 => (q_ia o s11 v13 v15).bind fun v17 => (q_gv s11 2 (.ref r0) 3).bind fun v19 => (q_gi s11 2 (.ref r0) 5).bind fun v21 => (q_ia o s11 v19 v21).bind fun v23 => (q_rcv s11 2 (.ref r0)).bind fun b29 => (g_33 o n 0 s11 b29 (v17) (v23) 0 .null 0 0).bind fun q28 => g_31 o n 1 q28.1 r0 0 ((i2 + 1))
  | n + 1, 2, s, r0, i1, i2 => (q_gv s 2 (.ref r0) 1).bind fun v1 => (q_pi s 3 v1 8 0).bind fun s3 => (q_gv s3 2 (.ref r0) 1).bind fun v5 => (q_gv s3 3 v5 3).bind fun v7 => (q_gv s3 2 (.ref r0) 1).bind fun v9 => (q_gi s3 3 v9 7).bind fun v11 => (q_is s3 v7 0 (-1 - v11)).bind fun s13 => g_31 o n 3 s13 r0 0 (0)
  | n + 1, 3, s, r0, i1, i2 => (q_gv s 2 (.ref r0) 1).bind fun v1 => (q_gi s 3 v1 7).bind fun v3 => (q_g (q_in i2 ∧ q_in v3)).bind fun _ => if v3 ≤ i2 then some (s, ()) else (q_rcv s 2 (.ref r0)).bind fun b12 => (g_34 o n 0 s b12 (i2) .null 0 0).bind fun q11 => g_31 o n 3 q11.1 r0 0 ((i2 + 1))
  | _ + 1, _, _, _, _, _ => none
set_option maxRecDepth 100000 in
set_option maxHeartbeats 4000000 in
theorem c_31 (o : X_O) : ∀ n, (∀ (d : Nat) (hd : 4 ≤ d) (s : Q_S) (r0 : Nat) (i1 : Int) (i2 : Int) (s9 : Q_S) (r : Unit), g_31 o n 0 s r0 i1 i2 = some (s9, r) → ∀ lv : X_L, x_lget lv 0 = some (.ref r0) → x_lget lv 1 = some (.int (Int32.ofInt i1)) → Y o d 31 0 lv [] (q_y s) (fun s1 r1 => s1 = q_y s9 ∧ r1 = none)) ∧
    (∀ (d : Nat) (hd : 4 ≤ d) (s : Q_S) (r0 : Nat) (i1 : Int) (i2 : Int) (s9 : Q_S) (r : Unit), g_31 o n 1 s r0 i1 i2 = some (s9, r) → ∀ lv : X_L, x_lget lv 0 = some (.ref r0) → x_lget lv 2 = some (.int (Int32.ofInt i2)) → Y o d 31 21 lv [] (q_y s) (fun s1 r1 => s1 = q_y s9 ∧ r1 = none)) ∧
    (∀ (d : Nat) (hd : 4 ≤ d) (s : Q_S) (r0 : Nat) (i1 : Int) (i2 : Int) (s9 : Q_S) (r : Unit), g_31 o n 2 s r0 i1 i2 = some (s9, r) → ∀ lv : X_L, x_lget lv 0 = some (.ref r0) → Y o d 31 73 lv [] (q_y s) (fun s1 r1 => s1 = q_y s9 ∧ r1 = none)) ∧
    (∀ (d : Nat) (hd : 4 ≤ d) (s : Q_S) (r0 : Nat) (i1 : Int) (i2 : Int) (s9 : Q_S) (r : Unit), g_31 o n 3 s r0 i1 i2 = some (s9, r) → ∀ lv : X_L, x_lget lv 0 = some (.ref r0) → x_lget lv 2 = some (.int (Int32.ofInt i2)) → Y o d 31 101 lv [] (q_y s) (fun s1 r1 => s1 = q_y s9 ∧ r1 = none)) := by
  intro n
  induction n with
  | zero => exact ⟨fun d hd s _ _ _ s9 r h => (by simp only [g_31] at h; cases h), fun d hd s _ _ _ s9 r h => (by simp only [g_31] at h; cases h), fun d hd s _ _ _ s9 r h => (by simp only [g_31] at h; cases h), fun d hd s _ _ _ s9 r h => (by simp only [g_31] at h; cases h)⟩
  | succ n ih =>
    refine ⟨?_, ?_, ?_, ?_⟩
    · intro d hd s r0 i1 i2 s9 r h lv lk0 lk1
      obtain ⟨d, rfl⟩ : ∃ x, d = x + 1 := ⟨d - 1, by omega⟩
      simp only [g_31] at h
      refine Van rfl lk0 rfl rfl ?_
      have hz := y_bind h
      clear h
      obtain ⟨v1, h2, h⟩ := hz
      have wv1 := (y_gv_ok h2).2
      refine Vgv h2 rfl rfl rfl ?_
      refine Vic (v := Int32.ofInt 0) rfl rfl rfl ?_
      have hz := y_bind h
      clear h
      obtain ⟨s3, h4, h⟩ := hz
      refine Zpi (q_pi_y h4) rfl rfl rfl rfl ?_
      refine Van rfl lk0 rfl rfl ?_
      refine Vic (v := Int32.ofInt 0) rfl rfl rfl ?_
      have hz := y_bind h
      clear h
      obtain ⟨s5, h6, h⟩ := hz
      refine Zpi (q_pi_y h6) rfl rfl rfl rfl ?_
      refine Van rfl lk0 rfl rfl ?_
      refine Vin rfl lk1 rfl ?_
      refine Vic (v := Int32.ofInt 0) rfl rfl rfl ?_
      have hz := y_bind h
      clear h
      obtain ⟨b11, h12, h⟩ := hz
      obtain ⟨eh12, fh12, wh12⟩ := y_rcv_ok h12
      cases eh12
      have hz := y_bind h
      clear h
      obtain ⟨⟨s7, r8⟩, h9, h⟩ := hz
      try dsimp only at h
      refine Vcv rfl rfl rfl wh12 rfl rfl ⟨(Nat.le_of_ble_eq_true rfl), (Nat.le_of_ble_eq_true rfl)⟩ rfl ((c_32 o n).1 _ (by omega) _ _ _ _ _ _ h9 _ rfl rfl rfl) (fun z1 z2 zq => ?_)
      obtain ⟨rfl, rfl⟩ := zq
      try dsimp only [Option.toList, HAppend.hAppend, Append.append, List.append]
      refine Vic (v := Int32.ofInt 0) rfl rfl rfl ?_
      refine Vsin rfl rfl (fun lv lk2 hk => ?_)
      have lk0 := hk 0 _ lk0 (by decide) (by decide) (Or.inl (by decide))
      exact ih.2.1 _ hd _ _ _ _ _ _ h lv lk0 lk2
    · intro d hd s r0 i1 i2 s9 r h lv lk0 lk2
      obtain ⟨d, rfl⟩ : ∃ x, d = x + 1 := ⟨d - 1, by omega⟩
      simp only [g_31] at h
      refine Vin rfl lk2 rfl ?_
      refine Vsp (v := Int32.ofInt 500) rfl (by decide) rfl ?_
      have hz := y_bind h
      clear h
      obtain ⟨_, h2, h⟩ := hz
      have c1 := q_g_ok h2
      refine Uif (q_le (by decide) c1) rfl rfl rfl rfl rfl rfl rfl (fun c3 => ?_) (fun c3 => ?_)
      · rw [if_pos c3] at h
        exact ih.2.2.1 _ hd _ _ _ _ _ _ h lv lk0
      · rw [if_neg c3] at h
        refine Van rfl lk0 rfl rfl ?_
        have hz := y_bind h
        clear h
        obtain ⟨v4, h5, h⟩ := hz
        refine Zgi (q_gi_y h5) rfl rfl rfl ?_
        have hz := y_bind h
        clear h
        obtain ⟨_, h7, h⟩ := hz
        have c6 := q_g_ok h7
        refine Uif (q_le0 c6) rfl rfl rfl rfl rfl rfl rfl (fun c8 => ?_) (fun c8 => ?_)
        · rw [if_pos c8] at h
          exact ih.2.2.1 _ hd _ _ _ _ _ _ h lv lk0
        · rw [if_neg c8] at h
          refine Van rfl lk0 rfl rfl ?_
          refine Vdup rfl rfl rfl ?_
          have hz := y_bind h
          clear h
          obtain ⟨v9, h10, h⟩ := hz
          refine Zgi (q_gi_y h10) rfl rfl rfl ?_
          refine Vic (v := Int32.ofInt 1) rfl rfl rfl ?_
          refine Usub rfl rfl ?_
          have hz := y_bind h
          clear h
          obtain ⟨s11, h12, h⟩ := hz
          refine Zpi (q_pi_y h12) rfl rfl rfl rfl ?_
          refine Van rfl lk0 rfl rfl ?_
          refine Van rfl lk0 rfl rfl ?_
          have hz := y_bind h
          clear h
          obtain ⟨v13, h14, h⟩ := hz
          have wv13 := (y_gv_ok h14).2
          refine Vgv h14 rfl rfl rfl ?_
          refine Van rfl lk0 rfl rfl ?_
          have hz := y_bind h
          clear h
          obtain ⟨v15, h16, h⟩ := hz
          refine Zgi (q_gi_y h16) rfl rfl rfl ?_
          have hz := y_bind h
          clear h
          obtain ⟨v17, h18, h⟩ := hz
          refine Zia (q_ia_y h18) rfl rfl ?_
          refine Van rfl lk0 rfl rfl ?_
          have hz := y_bind h
          clear h
          obtain ⟨v19, h20, h⟩ := hz
          have wv19 := (y_gv_ok h20).2
          refine Vgv h20 rfl rfl rfl ?_
          refine Van rfl lk0 rfl rfl ?_
          have hz := y_bind h
          clear h
          obtain ⟨v21, h22, h⟩ := hz
          refine Zgi (q_gi_y h22) rfl rfl rfl ?_
          have hz := y_bind h
          clear h
          obtain ⟨v23, h24, h⟩ := hz
          refine Zia (q_ia_y h24) rfl rfl ?_
          have hz := y_bind h
          clear h
          obtain ⟨b29, h30, h⟩ := hz
          obtain ⟨eh30, fh30, wh30⟩ := y_rcv_ok h30
          cases eh30
          have hz := y_bind h
          clear h
          obtain ⟨⟨s25, r26⟩, h27, h⟩ := hz
          try dsimp only at h
          refine Vcv rfl rfl rfl wh30 rfl rfl ⟨(Nat.le_of_ble_eq_true rfl), (Nat.le_of_ble_eq_true rfl)⟩ rfl ((c_33 o n).1 _ (by omega) _ _ _ _ _ _ _ _ _ _ h27 _ rfl rfl rfl) (fun z1 z2 zq => ?_)
          obtain ⟨rfl, rfl⟩ := zq
          try dsimp only [Option.toList, HAppend.hAppend, Append.append, List.append]
          refine Uinc rfl lk2 rfl (fun lv lk2 hk => ?_)
          have lk0 := hk 0 _ lk0 (by decide) (by decide) (Or.inl (by decide))
          refine Ygo rfl rfl rfl rfl rfl rfl ?_
          exact ih.2.1 _ hd _ _ _ _ _ _ h lv lk0 lk2
    · intro d hd s r0 i1 i2 s9 r h lv lk0
      obtain ⟨d, rfl⟩ : ∃ x, d = x + 1 := ⟨d - 1, by omega⟩
      simp only [g_31] at h
      refine Van rfl lk0 rfl rfl ?_
      have hz := y_bind h
      clear h
      obtain ⟨v1, h2, h⟩ := hz
      have wv1 := (y_gv_ok h2).2
      refine Vgv h2 rfl rfl rfl ?_
      refine Vic (v := Int32.ofInt 0) rfl rfl rfl ?_
      have hz := y_bind h
      clear h
      obtain ⟨s3, h4, h⟩ := hz
      refine Zpi (q_pi_y h4) rfl rfl rfl rfl ?_
      refine Van rfl lk0 rfl rfl ?_
      have hz := y_bind h
      clear h
      obtain ⟨v5, h6, h⟩ := hz
      have wv5 := (y_gv_ok h6).2
      refine Vgv h6 rfl rfl rfl ?_
      have hz := y_bind h
      clear h
      obtain ⟨v7, h8, h⟩ := hz
      have wv7 := (y_gv_ok h8).2
      refine Vgv h8 rfl rfl rfl ?_
      refine Vic (v := Int32.ofInt 0) rfl rfl rfl ?_
      refine Van rfl lk0 rfl rfl ?_
      have hz := y_bind h
      clear h
      obtain ⟨v9, h10, h⟩ := hz
      have wv9 := (y_gv_ok h10).2
      refine Vgv h10 rfl rfl rfl ?_
      have hz := y_bind h
      clear h
      obtain ⟨v11, h12, h⟩ := hz
      refine Zgi (q_gi_y h12) rfl rfl rfl ?_
      refine Vic (v := Int32.ofInt (-1)) rfl rfl rfl ?_
      refine Unot rfl rfl ?_
      have hz := y_bind h
      clear h
      obtain ⟨s13, h14, h⟩ := hz
      refine Zis (q_is_y h14) rfl rfl ?_
      refine Vic (v := Int32.ofInt 0) rfl rfl rfl ?_
      refine Vsin rfl rfl (fun lv lk2 hk => ?_)
      have lk0 := hk 0 _ lk0 (by decide) (by decide) (Or.inl (by decide))
      exact ih.2.2.2 _ hd _ _ _ _ _ _ h lv lk0 lk2
    · intro d hd s r0 i1 i2 s9 r h lv lk0 lk2
      obtain ⟨d, rfl⟩ : ∃ x, d = x + 1 := ⟨d - 1, by omega⟩
      simp only [g_31] at h
      refine Vin rfl lk2 rfl ?_
      refine Van rfl lk0 rfl rfl ?_
      have hz := y_bind h
      clear h
      obtain ⟨v1, h2, h⟩ := hz
      have wv1 := (y_gv_ok h2).2
      refine Vgv h2 rfl rfl rfl ?_
      have hz := y_bind h
      clear h
      obtain ⟨v3, h4, h⟩ := hz
      refine Zgi (q_gi_y h4) rfl rfl rfl ?_
      have hz := y_bind h
      clear h
      obtain ⟨_, h6, h⟩ := hz
      have c5 := q_g_ok h6
      refine Uif (q_le c5.2 c5.1) rfl rfl rfl rfl rfl rfl rfl (fun c7 => ?_) (fun c7 => ?_)
      · rw [if_pos c7] at h
        cases h
        exact Yret rfl rfl rfl rfl rfl rfl rfl ⟨rfl, rfl⟩
      · rw [if_neg c7] at h
        refine Van rfl lk0 rfl rfl ?_
        refine Vin rfl lk2 rfl ?_
        have hz := y_bind h
        clear h
        obtain ⟨b12, h13, h⟩ := hz
        obtain ⟨eh13, fh13, wh13⟩ := y_rcv_ok h13
        cases eh13
        have hz := y_bind h
        clear h
        obtain ⟨⟨s8, r9⟩, h10, h⟩ := hz
        try dsimp only at h
        refine Vcv rfl rfl rfl wh13 rfl rfl ⟨(Nat.le_of_ble_eq_true rfl), (Nat.le_of_ble_eq_true rfl)⟩ rfl ((c_34 o n).1 _ (by omega) _ _ _ _ _ _ _ _ h10 _ rfl rfl) (fun z1 z2 zq => ?_)
        obtain ⟨rfl, rfl⟩ := zq
        try dsimp only [Option.toList, HAppend.hAppend, Append.append, List.append]
        refine Uinc rfl lk2 rfl (fun lv lk2 hk => ?_)
        have lk0 := hk 0 _ lk0 (by decide) (by decide) (Or.inl (by decide))
        refine Ygo rfl rfl rfl rfl rfl rfl ?_
        exact ih.2.2.2 _ hd _ _ _ _ _ _ h lv lk0 lk2

/-- StepRows$Rows.isSameAs -/
def g_39 (o : X_O) : Nat → Nat → Q_S → Nat → Value → Int → Option (Q_S × Int)
  | 0, _, _, _, _, _ => none
  | n + 1, 0, s, r0, a1, i2 => (q_gi s 3 (.ref r0) 7).bind fun v1 => (q_gi s 3 a1 7).bind fun v3 => (q_g (q_in v1 ∧ q_in v3)).bind fun _ => if v1 = v3 then g_39 o n 1 s r0 (a1) (0) else some (s, 0)
  | n + 1, 1, s, r0, a1, i2 => (q_gi s 3 (.ref r0) 7).bind fun v1 => (q_g (q_in i2 ∧ q_in v1)).bind fun _ => if v1 ≤ i2 then some (s, 1) else (q_gv s 3 (.ref r0) 0).bind fun v6 => (q_ia o s v6 i2).bind fun v8 => (q_gv s 3 a1 0).bind fun v10 => (q_ia o s v10 i2).bind fun v12 => (q_g (q_in v8 ∧ q_in v12)).bind fun _ => if ¬ v8 = v12 then g_39 o n 2 s 0 .null 0 else (q_gv s 3 (.ref r0) 1).bind fun v17 => (q_la s v17 i2).bind fun v19 => (q_gv s 3 a1 1).bind fun v21 => (q_la s v21 i2).bind fun v23 => if v19 = v23 then g_39 o n 1 s r0 (a1) ((i2 + 1)) else g_39 o n 2 s 0 .null 0
  | n + 1, 2, s, r0, a1, i2 => some (s, 0)
  | _ + 1, _, _, _, _, _ => none
set_option maxRecDepth 100000 in
set_option maxHeartbeats 4000000 in
theorem c_39 (o : X_O) : ∀ n, (∀ (d : Nat) (hd : 0 ≤ d) (s : Q_S) (r0 : Nat) (a1 : Value) (i2 : Int) (s9 : Q_S) (r : Int), g_39 o n 0 s r0 a1 i2 = some (s9, r) → ∀ lv : X_L, x_lget lv 0 = some (.ref r0) → x_lget lv 1 = some a1 → y_rv a1 = true → Y o d 39 0 lv [] (q_y s) (fun s1 r1 => s1 = q_y s9 ∧ r1 = some (.int (Int32.ofInt r)))) ∧
    (∀ (d : Nat) (hd : 0 ≤ d) (s : Q_S) (r0 : Nat) (a1 : Value) (i2 : Int) (s9 : Q_S) (r : Int), g_39 o n 1 s r0 a1 i2 = some (s9, r) → ∀ lv : X_L, x_lget lv 0 = some (.ref r0) → x_lget lv 1 = some a1 → x_lget lv 2 = some (.int (Int32.ofInt i2)) → y_rv a1 = true → Y o d 39 15 lv [] (q_y s) (fun s1 r1 => s1 = q_y s9 ∧ r1 = some (.int (Int32.ofInt r)))) ∧
    (∀ (d : Nat) (hd : 0 ≤ d) (s : Q_S) (r0 : Nat) (a1 : Value) (i2 : Int) (s9 : Q_S) (r : Int), g_39 o n 2 s r0 a1 i2 = some (s9, r) → ∀ lv : X_L, True → Y o d 39 54 lv [] (q_y s) (fun s1 r1 => s1 = q_y s9 ∧ r1 = some (.int (Int32.ofInt r)))) := by
  intro n
  induction n with
  | zero => exact ⟨fun d hd s _ _ _ s9 r h => (by simp only [g_39] at h; cases h), fun d hd s _ _ _ s9 r h => (by simp only [g_39] at h; cases h), fun d hd s _ _ _ s9 r h => (by simp only [g_39] at h; cases h)⟩
  | succ n ih =>
    refine ⟨?_, ?_, ?_⟩
    · intro d hd s r0 a1 i2 s9 r h lv lk0 lk1 rv1
      simp only [g_39] at h
      refine Van rfl lk0 rfl rfl ?_
      have hz := y_bind h
      clear h
      obtain ⟨v1, h2, h⟩ := hz
      refine Zgi (q_gi_y h2) rfl rfl rfl ?_
      refine Van rfl lk1 rv1 rfl ?_
      have hz := y_bind h
      clear h
      obtain ⟨v3, h4, h⟩ := hz
      refine Zgi (q_gi_y h4) rfl rfl rfl ?_
      have hz := y_bind h
      clear h
      obtain ⟨_, h6, h⟩ := hz
      have c5 := q_g_ok h6
      refine Uif (q_eq c5.1 c5.2) rfl rfl rfl rfl rfl rfl rfl (fun c7 => ?_) (fun c7 => ?_)
      · rw [if_pos c7] at h
        refine Vic (v := Int32.ofInt 0) rfl rfl rfl ?_
        refine Vsin rfl rfl (fun lv lk2 hk => ?_)
        have lk0 := hk 0 _ lk0 (by decide) (by decide) (Or.inl (by decide))
        have lk1 := hk 1 _ lk1 (by decide) (by decide) (Or.inr (y_rv_cat rv1))
        exact ih.2.1 _ hd _ _ _ _ _ _ h lv lk0 lk1 lk2 rv1
      · rw [if_neg c7] at h
        refine Vic (v := Int32.ofInt 0) rfl rfl rfl ?_
        cases h
        exact Yret rfl rfl rfl rfl rfl rfl rfl ⟨rfl, rfl⟩
    · intro d hd s r0 a1 i2 s9 r h lv lk0 lk1 lk2 rv1
      simp only [g_39] at h
      refine Vin rfl lk2 rfl ?_
      refine Van rfl lk0 rfl rfl ?_
      have hz := y_bind h
      clear h
      obtain ⟨v1, h2, h⟩ := hz
      refine Zgi (q_gi_y h2) rfl rfl rfl ?_
      have hz := y_bind h
      clear h
      obtain ⟨_, h4, h⟩ := hz
      have c3 := q_g_ok h4
      refine Uif (q_le c3.2 c3.1) rfl rfl rfl rfl rfl rfl rfl (fun c5 => ?_) (fun c5 => ?_)
      · rw [if_pos c5] at h
        refine Vic (v := Int32.ofInt 1) rfl rfl rfl ?_
        cases h
        exact Yret rfl rfl rfl rfl rfl rfl rfl ⟨rfl, rfl⟩
      · rw [if_neg c5] at h
        refine Van rfl lk0 rfl rfl ?_
        have hz := y_bind h
        clear h
        obtain ⟨v6, h7, h⟩ := hz
        have wv6 := (y_gv_ok h7).2
        refine Vgv h7 rfl rfl rfl ?_
        refine Vin rfl lk2 rfl ?_
        have hz := y_bind h
        clear h
        obtain ⟨v8, h9, h⟩ := hz
        refine Zia (q_ia_y h9) rfl rfl ?_
        refine Van rfl lk1 rv1 rfl ?_
        have hz := y_bind h
        clear h
        obtain ⟨v10, h11, h⟩ := hz
        have wv10 := (y_gv_ok h11).2
        refine Vgv h11 rfl rfl rfl ?_
        refine Vin rfl lk2 rfl ?_
        have hz := y_bind h
        clear h
        obtain ⟨v12, h13, h⟩ := hz
        refine Zia (q_ia_y h13) rfl rfl ?_
        have hz := y_bind h
        clear h
        obtain ⟨_, h15, h⟩ := hz
        have c14 := q_g_ok h15
        refine Uif (not_congr (q_eq c14.1 c14.2)) rfl rfl rfl rfl rfl rfl rfl (fun c16 => ?_) (fun c16 => ?_)
        · rw [if_pos c16] at h
          exact ih.2.2 _ hd _ _ _ _ _ _ h lv trivial
        · rw [if_neg c16] at h
          refine Van rfl lk0 rfl rfl ?_
          have hz := y_bind h
          clear h
          obtain ⟨v17, h18, h⟩ := hz
          have wv17 := (y_gv_ok h18).2
          refine Vgv h18 rfl rfl rfl ?_
          refine Vin rfl lk2 rfl ?_
          have hz := y_bind h
          clear h
          obtain ⟨v19, h20, h⟩ := hz
          refine Zla (q_la_y h20) rfl rfl ?_
          refine Van rfl lk1 rv1 rfl ?_
          have hz := y_bind h
          clear h
          obtain ⟨v21, h22, h⟩ := hz
          have wv21 := (y_gv_ok h22).2
          refine Vgv h22 rfl rfl rfl ?_
          refine Vin rfl lk2 rfl ?_
          have hz := y_bind h
          clear h
          obtain ⟨v23, h24, h⟩ := hz
          refine Zla (q_la_y h24) rfl rfl ?_
          refine Ya rfl rfl rfl ?_
          refine Uif (lg_cmp_eq _ _) rfl rfl rfl rfl rfl rfl rfl (fun c25 => ?_) (fun c25 => ?_)
          · rw [if_pos c25] at h
            refine Uinc rfl lk2 rfl (fun lv lk2 hk => ?_)
            have lk0 := hk 0 _ lk0 (by decide) (by decide) (Or.inl (by decide))
            have lk1 := hk 1 _ lk1 (by decide) (by decide) (Or.inr (y_rv_cat rv1))
            refine Ygo rfl rfl rfl rfl rfl rfl ?_
            exact ih.2.1 _ hd _ _ _ _ _ _ h lv lk0 lk1 lk2 rv1
          · rw [if_neg c25] at h
            exact ih.2.2 _ hd _ _ _ _ _ _ h lv trivial
    · intro d hd s r0 a1 i2 s9 r h lv _
      simp only [g_39] at h
      refine Vic (v := Int32.ofInt 0) rfl rfl rfl ?_
      cases h
      exact Yret rfl rfl rfl rfl rfl rfl rfl ⟨rfl, rfl⟩

/-- StepRows$Rows.copyFor -/
def g_40 (o : X_O) : Nat → Nat → Q_S → Nat → Int → Option (Q_S × Value)
  | 0, _, _, _, _ => none
  | n + 1, 0, s, r0, i1 => (q_no s 3).bind fun s1 => (q_gi s1 3 (.ref r0) 7).bind fun v3 => (q_gi s1 3 (.ref r0) 8).bind fun v5 => (g_36 o n 0 s1 (s.1) (v3) (v5)).bind fun q10 => (q_gv q10.1 3 (.ref r0) 0).bind fun v13 => (q_gv q10.1 3 (.ref s.1) 0).bind fun v15 => (q_gi q10.1 3 (.ref r0) 7).bind fun v17 => (q_cp q10.1 v13 0 v15 0 v17).bind fun s19 => (q_gv s19 3 (.ref r0) 1).bind fun v21 => (q_gv s19 3 (.ref s.1) 1).bind fun v23 => (q_gi s19 3 (.ref r0) 7).bind fun v25 => (q_cp s19 v21 0 v23 0 v25).bind fun s27 => (q_gv s27 3 (.ref r0) 2).bind fun v29 => (q_gv s27 3 (.ref s.1) 2).bind fun v31 => (q_gi s27 3 (.ref r0) 7).bind fun v33 => (q_cp s27 v29 0 v31 0 v33).bind fun s35 => (q_gv s35 3 (.ref r0) 3).bind fun v37 => (q_gv s35 3 (.ref s.1) 3).bind fun v39 => (q_gi s35 3 (.ref r0) 7).bind fun v41 => (q_cp s35 v37 0 v39 0 v41).bind fun s43 => (q_gv s43 3 (.ref r0) 4).bind fun v45 => (q_gv s43 3 (.ref s.1) 4).bind fun v47 => (q_gi s43 3 (.ref r0) 7).bind fun v49 => (q_cp s43 v45 0 v47 0 v49).bind fun s51 => (q_gv s51 3 (.ref r0) 5).bind fun v53 => (q_gv s51 3 (.ref s.1) 5).bind fun v55 => (q_gi s51 3 (.ref r0) 7).bind fun v57 => (q_cp s51 v53 0 v55 0 v57).bind fun s59 => (q_gv s59 3 (.ref r0) 6).bind fun v61 => (q_gv s59 3 (.ref s.1) 6).bind fun v63 => (q_gi s59 3 (.ref r0) 8).bind fun v65 => (q_cp s59 v61 0 v63 0 v65).bind fun s67 => (q_gi s67 3 (.ref r0) 7).bind fun v69 => (q_pi s67 3 (.ref s.1) 7 v69).bind fun s71 => (q_gi s71 3 (.ref r0) 8).bind fun v73 => (q_pi s71 3 (.ref s.1) 8 v73).bind fun s75 => (q_pi s75 3 (.ref s.1) 9 i1).bind fun s77 => (y_isr (.ref s.1)).bind fun b79 => some (s77, .ref b79)
  | _ + 1, _, _, _, _ => none
set_option maxRecDepth 100000 in
set_option maxHeartbeats 4000000 in
theorem c_40 (o : X_O) : ∀ n, (∀ (d : Nat) (hd : 2 ≤ d) (s : Q_S) (r0 : Nat) (i1 : Int) (s9 : Q_S) (r : Value), g_40 o n 0 s r0 i1 = some (s9, r) → ∀ lv : X_L, x_lget lv 0 = some (.ref r0) → x_lget lv 1 = some (.int (Int32.ofInt i1)) → Y o d 40 0 lv [] (q_y s) (fun s1 r1 => s1 = q_y s9 ∧ r1 = some r)) := by
  intro n
  induction n with
  | zero => exact fun d hd s _ _ s9 r h => (by simp only [g_40] at h; cases h)
  | succ n ih =>
    intro d hd s r0 i1 s9 r h lv lk0 lk1
    obtain ⟨d, rfl⟩ : ∃ x, d = x + 1 := ⟨d - 1, by omega⟩
    simp only [g_40] at h
    have hz := y_bind h
    clear h
    obtain ⟨s1, h2, h⟩ := hz
    refine Zno (q_no_y h2) rfl rfl (by decide +kernel) rfl ?_
    refine Vdup rfl rfl rfl ?_
    refine Van rfl lk0 rfl rfl ?_
    have hz := y_bind h
    clear h
    obtain ⟨v3, h4, h⟩ := hz
    refine Zgi (q_gi_y h4) rfl rfl rfl ?_
    refine Van rfl lk0 rfl rfl ?_
    have hz := y_bind h
    clear h
    obtain ⟨v5, h6, h⟩ := hz
    refine Zgi (q_gi_y h6) rfl rfl rfl ?_
    have hz := y_bind h
    clear h
    obtain ⟨⟨s7, r8⟩, h9, h⟩ := hz
    try dsimp only at h
    refine Vci rfl rfl (Or.inl rfl) rfl rfl ⟨(Nat.le_of_ble_eq_true rfl), (Nat.le_of_ble_eq_true rfl)⟩ rfl ((c_36 o n) _ (by omega) _ _ _ _ _ _ h9 _ rfl rfl rfl) (fun z1 z2 zq => ?_)
    obtain ⟨rfl, rfl⟩ := zq
    try dsimp only [Option.toList, HAppend.hAppend, Append.append, List.append]
    refine Vsan rfl rfl rfl (fun lv lk2 hk => ?_)
    have lk0 := hk 0 _ lk0 (by decide) (by decide) (Or.inl (by decide))
    have lk1 := hk 1 _ lk1 (by decide) (by decide) (Or.inr rfl)
    refine Van rfl lk0 rfl rfl ?_
    have hz := y_bind h
    clear h
    obtain ⟨v13, h14, h⟩ := hz
    have wv13 := (y_gv_ok h14).2
    refine Vgv h14 rfl rfl rfl ?_
    refine Vic (v := Int32.ofInt 0) rfl rfl rfl ?_
    refine Van rfl lk2 rfl rfl ?_
    have hz := y_bind h
    clear h
    obtain ⟨v15, h16, h⟩ := hz
    have wv15 := (y_gv_ok h16).2
    refine Vgv h16 rfl rfl rfl ?_
    refine Vic (v := Int32.ofInt 0) rfl rfl rfl ?_
    refine Van rfl lk0 rfl rfl ?_
    have hz := y_bind h
    clear h
    obtain ⟨v17, h18, h⟩ := hz
    refine Zgi (q_gi_y h18) rfl rfl rfl ?_
    have hz := y_bind h
    clear h
    obtain ⟨s19, h20, h⟩ := hz
    refine Zcp (q_cp_y h20) rfl rfl (Nat.le_of_ble_eq_true rfl) rfl ?_
    refine Van rfl lk0 rfl rfl ?_
    have hz := y_bind h
    clear h
    obtain ⟨v21, h22, h⟩ := hz
    have wv21 := (y_gv_ok h22).2
    refine Vgv h22 rfl rfl rfl ?_
    refine Vic (v := Int32.ofInt 0) rfl rfl rfl ?_
    refine Van rfl lk2 rfl rfl ?_
    have hz := y_bind h
    clear h
    obtain ⟨v23, h24, h⟩ := hz
    have wv23 := (y_gv_ok h24).2
    refine Vgv h24 rfl rfl rfl ?_
    refine Vic (v := Int32.ofInt 0) rfl rfl rfl ?_
    refine Van rfl lk0 rfl rfl ?_
    have hz := y_bind h
    clear h
    obtain ⟨v25, h26, h⟩ := hz
    refine Zgi (q_gi_y h26) rfl rfl rfl ?_
    have hz := y_bind h
    clear h
    obtain ⟨s27, h28, h⟩ := hz
    refine Zcp (q_cp_y h28) rfl rfl (Nat.le_of_ble_eq_true rfl) rfl ?_
    refine Van rfl lk0 rfl rfl ?_
    have hz := y_bind h
    clear h
    obtain ⟨v29, h30, h⟩ := hz
    have wv29 := (y_gv_ok h30).2
    refine Vgv h30 rfl rfl rfl ?_
    refine Vic (v := Int32.ofInt 0) rfl rfl rfl ?_
    refine Van rfl lk2 rfl rfl ?_
    have hz := y_bind h
    clear h
    obtain ⟨v31, h32, h⟩ := hz
    have wv31 := (y_gv_ok h32).2
    refine Vgv h32 rfl rfl rfl ?_
    refine Vic (v := Int32.ofInt 0) rfl rfl rfl ?_
    refine Van rfl lk0 rfl rfl ?_
    have hz := y_bind h
    clear h
    obtain ⟨v33, h34, h⟩ := hz
    refine Zgi (q_gi_y h34) rfl rfl rfl ?_
    have hz := y_bind h
    clear h
    obtain ⟨s35, h36, h⟩ := hz
    refine Zcp (q_cp_y h36) rfl rfl (Nat.le_of_ble_eq_true rfl) rfl ?_
    refine Van rfl lk0 rfl rfl ?_
    have hz := y_bind h
    clear h
    obtain ⟨v37, h38, h⟩ := hz
    have wv37 := (y_gv_ok h38).2
    refine Vgv h38 rfl rfl rfl ?_
    refine Vic (v := Int32.ofInt 0) rfl rfl rfl ?_
    refine Van rfl lk2 rfl rfl ?_
    have hz := y_bind h
    clear h
    obtain ⟨v39, h40, h⟩ := hz
    have wv39 := (y_gv_ok h40).2
    refine Vgv h40 rfl rfl rfl ?_
    refine Vic (v := Int32.ofInt 0) rfl rfl rfl ?_
    refine Van rfl lk0 rfl rfl ?_
    have hz := y_bind h
    clear h
    obtain ⟨v41, h42, h⟩ := hz
    refine Zgi (q_gi_y h42) rfl rfl rfl ?_
    have hz := y_bind h
    clear h
    obtain ⟨s43, h44, h⟩ := hz
    refine Zcp (q_cp_y h44) rfl rfl (Nat.le_of_ble_eq_true rfl) rfl ?_
    refine Van rfl lk0 rfl rfl ?_
    have hz := y_bind h
    clear h
    obtain ⟨v45, h46, h⟩ := hz
    have wv45 := (y_gv_ok h46).2
    refine Vgv h46 rfl rfl rfl ?_
    refine Vic (v := Int32.ofInt 0) rfl rfl rfl ?_
    refine Van rfl lk2 rfl rfl ?_
    have hz := y_bind h
    clear h
    obtain ⟨v47, h48, h⟩ := hz
    have wv47 := (y_gv_ok h48).2
    refine Vgv h48 rfl rfl rfl ?_
    refine Vic (v := Int32.ofInt 0) rfl rfl rfl ?_
    refine Van rfl lk0 rfl rfl ?_
    have hz := y_bind h
    clear h
    obtain ⟨v49, h50, h⟩ := hz
    refine Zgi (q_gi_y h50) rfl rfl rfl ?_
    have hz := y_bind h
    clear h
    obtain ⟨s51, h52, h⟩ := hz
    refine Zcp (q_cp_y h52) rfl rfl (Nat.le_of_ble_eq_true rfl) rfl ?_
    refine Van rfl lk0 rfl rfl ?_
    have hz := y_bind h
    clear h
    obtain ⟨v53, h54, h⟩ := hz
    have wv53 := (y_gv_ok h54).2
    refine Vgv h54 rfl rfl rfl ?_
    refine Vic (v := Int32.ofInt 0) rfl rfl rfl ?_
    refine Van rfl lk2 rfl rfl ?_
    have hz := y_bind h
    clear h
    obtain ⟨v55, h56, h⟩ := hz
    have wv55 := (y_gv_ok h56).2
    refine Vgv h56 rfl rfl rfl ?_
    refine Vic (v := Int32.ofInt 0) rfl rfl rfl ?_
    refine Van rfl lk0 rfl rfl ?_
    have hz := y_bind h
    clear h
    obtain ⟨v57, h58, h⟩ := hz
    refine Zgi (q_gi_y h58) rfl rfl rfl ?_
    have hz := y_bind h
    clear h
    obtain ⟨s59, h60, h⟩ := hz
    refine Zcp (q_cp_y h60) rfl rfl (Nat.le_of_ble_eq_true rfl) rfl ?_
    refine Van rfl lk0 rfl rfl ?_
    have hz := y_bind h
    clear h
    obtain ⟨v61, h62, h⟩ := hz
    have wv61 := (y_gv_ok h62).2
    refine Vgv h62 rfl rfl rfl ?_
    refine Vic (v := Int32.ofInt 0) rfl rfl rfl ?_
    refine Van rfl lk2 rfl rfl ?_
    have hz := y_bind h
    clear h
    obtain ⟨v63, h64, h⟩ := hz
    have wv63 := (y_gv_ok h64).2
    refine Vgv h64 rfl rfl rfl ?_
    refine Vic (v := Int32.ofInt 0) rfl rfl rfl ?_
    refine Van rfl lk0 rfl rfl ?_
    have hz := y_bind h
    clear h
    obtain ⟨v65, h66, h⟩ := hz
    refine Zgi (q_gi_y h66) rfl rfl rfl ?_
    have hz := y_bind h
    clear h
    obtain ⟨s67, h68, h⟩ := hz
    refine Zcp (q_cp_y h68) rfl rfl (Nat.le_of_ble_eq_true rfl) rfl ?_
    refine Van rfl lk2 rfl rfl ?_
    refine Van rfl lk0 rfl rfl ?_
    have hz := y_bind h
    clear h
    obtain ⟨v69, h70, h⟩ := hz
    refine Zgi (q_gi_y h70) rfl rfl rfl ?_
    have hz := y_bind h
    clear h
    obtain ⟨s71, h72, h⟩ := hz
    refine Zpi (q_pi_y h72) rfl rfl rfl rfl ?_
    refine Van rfl lk2 rfl rfl ?_
    refine Van rfl lk0 rfl rfl ?_
    have hz := y_bind h
    clear h
    obtain ⟨v73, h74, h⟩ := hz
    refine Zgi (q_gi_y h74) rfl rfl rfl ?_
    have hz := y_bind h
    clear h
    obtain ⟨s75, h76, h⟩ := hz
    refine Zpi (q_pi_y h76) rfl rfl rfl rfl ?_
    refine Van rfl lk2 rfl rfl ?_
    refine Vin rfl lk1 rfl ?_
    have hz := y_bind h
    clear h
    obtain ⟨s77, h78, h⟩ := hz
    refine Zpi (q_pi_y h78) rfl rfl rfl rfl ?_
    refine Van rfl lk2 rfl rfl ?_
    have hz := y_bind h
    clear h
    obtain ⟨b79, h80, h⟩ := hz
    cases h
    cases y_isr_ok h80
    exact Yret rfl rfl rfl rfl rfl rfl rfl ⟨rfl, rfl⟩

/-- StepRows.keptRows -/
def g_4 (o : X_O) : Nat → Nat → Q_S → Nat → Value → Int → Option (Q_S × Value)
  | 0, _, _, _, _, _ => none
  | n + 1, 0, s, r0, a1, i2 => g_4 o n 1 s r0 (a1) (0)
  | n + 1, 1, s, r0, a1, i2 => (q_gi s 0 (.ref r0) 3).bind fun v1 => (q_g (q_in i2 ∧ q_in v1)).bind fun _ => if v1 ≤ i2 then (q_gi s 0 (.ref r0) 3).bind fun v6 => (q_rcv s 3 a1).bind fun b12 => (g_40 o n 0 s b12 (v6)).bind fun q11 => (y_isr q11.2).bind fun b14 => (y_isr (.ref b14)).bind fun b16 => some (q11.1, .ref b16) else (q_gv s 0 (.ref r0) 2).bind fun v18 => (q_aa s v18 i2).bind fun v20 => (q_rcv s 3 v20).bind fun b26 => (g_39 o n 0 s b26 (a1) 0).bind fun q25 => (q_g (q_in q25.2)).bind fun _ => if q25.2 = 0 then g_4 o n 1 q25.1 r0 (a1) ((i2 + 1)) else (q_gv q25.1 0 (.ref r0) 2).bind fun v33 => (q_aa q25.1 v33 i2).bind fun v35 => (y_isr v35).bind fun b37 => some (q25.1, .ref b37)
  | _ + 1, _, _, _, _, _ => none
set_option maxRecDepth 100000 in
set_option maxHeartbeats 4000000 in
theorem c_4 (o : X_O) : ∀ n, (∀ (d : Nat) (hd : 3 ≤ d) (s : Q_S) (r0 : Nat) (a1 : Value) (i2 : Int) (s9 : Q_S) (r : Value), g_4 o n 0 s r0 a1 i2 = some (s9, r) → ∀ lv : X_L, x_lget lv 0 = some (.ref r0) → x_lget lv 1 = some a1 → y_rv a1 = true → Y o d 4 0 lv [] (q_y s) (fun s1 r1 => s1 = q_y s9 ∧ r1 = some r)) ∧
    (∀ (d : Nat) (hd : 3 ≤ d) (s : Q_S) (r0 : Nat) (a1 : Value) (i2 : Int) (s9 : Q_S) (r : Value), g_4 o n 1 s r0 a1 i2 = some (s9, r) → ∀ lv : X_L, x_lget lv 0 = some (.ref r0) → x_lget lv 1 = some a1 → x_lget lv 2 = some (.int (Int32.ofInt i2)) → y_rv a1 = true → Y o d 4 2 lv [] (q_y s) (fun s1 r1 => s1 = q_y s9 ∧ r1 = some r)) := by
  intro n
  induction n with
  | zero => exact ⟨fun d hd s _ _ _ s9 r h => (by simp only [g_4] at h; cases h), fun d hd s _ _ _ s9 r h => (by simp only [g_4] at h; cases h)⟩
  | succ n ih =>
    refine ⟨?_, ?_⟩
    · intro d hd s r0 a1 i2 s9 r h lv lk0 lk1 rv1
      obtain ⟨d, rfl⟩ : ∃ x, d = x + 1 := ⟨d - 1, by omega⟩
      simp only [g_4] at h
      refine Vic (v := Int32.ofInt 0) rfl rfl rfl ?_
      refine Vsin rfl rfl (fun lv lk2 hk => ?_)
      have lk0 := hk 0 _ lk0 (by decide) (by decide) (Or.inl (by decide))
      have lk1 := hk 1 _ lk1 (by decide) (by decide) (Or.inr (y_rv_cat rv1))
      exact ih.2 _ hd _ _ _ _ _ _ h lv lk0 lk1 lk2 rv1
    · intro d hd s r0 a1 i2 s9 r h lv lk0 lk1 lk2 rv1
      obtain ⟨d, rfl⟩ : ∃ x, d = x + 1 := ⟨d - 1, by omega⟩
      simp only [g_4] at h
      refine Vin rfl lk2 rfl ?_
      refine Van rfl lk0 rfl rfl ?_
      have hz := y_bind h
      clear h
      obtain ⟨v1, h2, h⟩ := hz
      refine Zgi (q_gi_y h2) rfl rfl rfl ?_
      have hz := y_bind h
      clear h
      obtain ⟨_, h4, h⟩ := hz
      have c3 := q_g_ok h4
      refine Uif (q_le c3.2 c3.1) rfl rfl rfl rfl rfl rfl rfl (fun c5 => ?_) (fun c5 => ?_)
      · rw [if_pos c5] at h
        refine Van rfl lk1 rv1 rfl ?_
        refine Van rfl lk0 rfl rfl ?_
        have hz := y_bind h
        clear h
        obtain ⟨v6, h7, h⟩ := hz
        refine Zgi (q_gi_y h7) rfl rfl rfl ?_
        have hz := y_bind h
        clear h
        obtain ⟨b12, h13, h⟩ := hz
        obtain ⟨eh13, fh13, wh13⟩ := y_rcv_ok h13
        cases eh13
        have hz := y_bind h
        clear h
        obtain ⟨⟨s8, r9⟩, h10, h⟩ := hz
        try dsimp only at h
        have hz := y_bind h
        clear h
        obtain ⟨b14, h15, h⟩ := hz
        cases y_isr_ok h15
        refine Vcv rfl rfl rfl wh13 rfl rfl ⟨(Nat.le_of_ble_eq_true rfl), (Nat.le_of_ble_eq_true rfl)⟩ rfl ((c_40 o n) _ (by omega) _ _ _ _ _ h10 _ rfl rfl) (fun z1 z2 zq => ?_)
        obtain ⟨rfl, rfl⟩ := zq
        try dsimp only [Option.toList, HAppend.hAppend, Append.append, List.append]
        have hz := y_bind h
        clear h
        obtain ⟨b16, h17, h⟩ := hz
        cases h
        cases y_isr_ok h17
        exact Yret rfl rfl rfl rfl rfl rfl rfl ⟨rfl, rfl⟩
      · rw [if_neg c5] at h
        refine Van rfl lk0 rfl rfl ?_
        have hz := y_bind h
        clear h
        obtain ⟨v18, h19, h⟩ := hz
        have wv18 := (y_gv_ok h19).2
        refine Vgv h19 rfl rfl rfl ?_
        refine Vin rfl lk2 rfl ?_
        have hz := y_bind h
        clear h
        obtain ⟨v20, h21, h⟩ := hz
        have wv20 := y_aa_rv (q_aa_y h21)
        refine Zaa (q_aa_y h21) rfl rfl ?_
        refine Van rfl lk1 rv1 rfl ?_
        have hz := y_bind h
        clear h
        obtain ⟨b26, h27, h⟩ := hz
        obtain ⟨eh27, fh27, wh27⟩ := y_rcv_ok h27
        cases eh27
        have hz := y_bind h
        clear h
        obtain ⟨⟨s22, r23⟩, h24, h⟩ := hz
        try dsimp only at h
        refine Vcv rfl rfl rfl wh27 rfl rfl ⟨(Nat.le_of_ble_eq_true rfl), (by simp only [List.take, List.reverse_cons, List.reverse_nil, List.nil_append, List.cons_append, List.map_cons, List.map_nil, y_cati, y_catl, y_catr, y_catn, y_cata, y_rv_cat rv1, List.sum_cons, List.sum_nil]; decide +kernel)⟩ rfl ((c_39 o n).1 _ (by omega) _ _ _ _ _ _ h24 _ (by simp [lv_args, x_lget, q_y1, y_cati, y_catl, y_catr, y_rv_cat rv1]) (by simp [lv_args, x_lget, q_y1, y_cati, y_catl, y_catr, y_rv_cat rv1]) rv1) (fun z1 z2 zq => ?_)
        obtain ⟨rfl, rfl⟩ := zq
        try dsimp only [Option.toList, HAppend.hAppend, Append.append, List.append]
        have hz := y_bind h
        clear h
        obtain ⟨_, h31, h⟩ := hz
        have c30 := q_g_ok h31
        refine Uif (q_eq0 c30) rfl rfl rfl rfl rfl rfl rfl (fun c32 => ?_) (fun c32 => ?_)
        · rw [if_pos c32] at h
          refine Uinc rfl lk2 rfl (fun lv lk2 hk => ?_)
          have lk0 := hk 0 _ lk0 (by decide) (by decide) (Or.inl (by decide))
          have lk1 := hk 1 _ lk1 (by decide) (by decide) (Or.inr (y_rv_cat rv1))
          refine Ygo rfl rfl rfl rfl rfl rfl ?_
          exact ih.2 _ hd _ _ _ _ _ _ h lv lk0 lk1 lk2 rv1
        · rw [if_neg c32] at h
          refine Van rfl lk0 rfl rfl ?_
          have hz := y_bind h
          clear h
          obtain ⟨v33, h34, h⟩ := hz
          have wv33 := (y_gv_ok h34).2
          refine Vgv h34 rfl rfl rfl ?_
          refine Vin rfl lk2 rfl ?_
          have hz := y_bind h
          clear h
          obtain ⟨v35, h36, h⟩ := hz
          have wv35 := y_aa_rv (q_aa_y h36)
          refine Zaa (q_aa_y h36) rfl rfl ?_
          have hz := y_bind h
          clear h
          obtain ⟨b37, h38, h⟩ := hz
          cases h
          cases y_isr_ok h38
          exact Yret rfl rfl rfl rfl rfl rfl rfl ⟨rfl, rfl⟩

/-- StepRows.make -/
def g_3 (o : X_O) : Nat → Nat → Q_S → Nat → Int → Option (Q_S × Int)
  | 0, _, _, _, _ => none
  | n + 1, 0, s, r0, i1 => (q_gv s 0 (.ref r0) 0).bind fun v1 => (q_rcv s 1 v1).bind fun b7 => (g_26 o n 0 s b7 (i1) 0).bind fun q6 => (q_g (q_in q6.2)).bind fun _ => if q6.2 = 0 then g_3 o n 1 q6.1 0 0 else (q_gv q6.1 0 (.ref r0) 0).bind fun v14 => (q_gv q6.1 1 v14 3).bind fun v16 => (q_ia o q6.1 v16 i1).bind fun v18 => (q_g (q_in v18)).bind fun _ => if v18 ≤ 500 then (q_gi q6.1 0 (.ref r0) 3).bind fun v23 => (q_g (q_in v23)).bind fun _ => if v23 < 20 then (q_gv q6.1 0 (.ref r0) 1).bind fun v28 => (q_rcv q6.1 2 v28).bind fun b34 => (g_31 o n 0 q6.1 b34 (i1) 0).bind fun q33 => (q_gv q33.1 0 (.ref r0) 2).bind fun v38 => (q_gi q33.1 0 (.ref r0) 3).bind fun v40 => (q_gv q33.1 0 (.ref r0) 1).bind fun v42 => (q_gv q33.1 2 v42 1).bind fun v44 => (q_rcv q33.1 0 (.ref r0)).bind fun b50 => (g_4 o n 0 q33.1 b50 (v44) 0).bind fun q49 => (y_isr q49.2).bind fun b52 => (q_as q49.1 v38 v40 (.ref b52)).bind fun s54 => (q_gi s54 0 (.ref r0) 3).bind fun v56 => (q_pi s54 0 (.ref r0) 3 (v56 + 1)).bind fun s58 => (q_gi s58 0 (.ref r0) 3).bind fun v60 => some (s58, (v60 - 1)) else some (q6.1, (-2)) else g_3 o n 1 q6.1 0 0
  | n + 1, 1, s, r0, i1 => some (s, (-1))
  | _ + 1, _, _, _, _ => none
set_option maxRecDepth 100000 in
set_option maxHeartbeats 4000000 in
theorem c_3 (o : X_O) : ∀ n, (∀ (d : Nat) (hd : 5 ≤ d) (s : Q_S) (r0 : Nat) (i1 : Int) (s9 : Q_S) (r : Int), g_3 o n 0 s r0 i1 = some (s9, r) → ∀ lv : X_L, x_lget lv 0 = some (.ref r0) → x_lget lv 1 = some (.int (Int32.ofInt i1)) → Y o d 3 0 lv [] (q_y s) (fun s1 r1 => s1 = q_y s9 ∧ r1 = some (.int (Int32.ofInt r)))) ∧
    (∀ (d : Nat) (hd : 5 ≤ d) (s : Q_S) (r0 : Nat) (i1 : Int) (s9 : Q_S) (r : Int), g_3 o n 1 s r0 i1 = some (s9, r) → ∀ lv : X_L, True → Y o d 3 26 lv [] (q_y s) (fun s1 r1 => s1 = q_y s9 ∧ r1 = some (.int (Int32.ofInt r)))) := by
  intro n
  induction n with
  | zero => exact ⟨fun d hd s _ _ s9 r h => (by simp only [g_3] at h; cases h), fun d hd s _ _ s9 r h => (by simp only [g_3] at h; cases h)⟩
  | succ n ih =>
    refine ⟨?_, ?_⟩
    · intro d hd s r0 i1 s9 r h lv lk0 lk1
      obtain ⟨d, rfl⟩ : ∃ x, d = x + 1 := ⟨d - 1, by omega⟩
      simp only [g_3] at h
      refine Van rfl lk0 rfl rfl ?_
      have hz := y_bind h
      clear h
      obtain ⟨v1, h2, h⟩ := hz
      have wv1 := (y_gv_ok h2).2
      refine Vgv h2 rfl rfl rfl ?_
      refine Vin rfl lk1 rfl ?_
      have hz := y_bind h
      clear h
      obtain ⟨b7, h8, h⟩ := hz
      obtain ⟨eh8, fh8, wh8⟩ := y_rcv_ok h8
      cases eh8
      have hz := y_bind h
      clear h
      obtain ⟨⟨s3, r4⟩, h5, h⟩ := hz
      try dsimp only at h
      refine Vcv rfl rfl rfl wh8 rfl rfl ⟨(Nat.le_of_ble_eq_true rfl), (Nat.le_of_ble_eq_true rfl)⟩ rfl ((c_26 o n).1 _ (by omega) _ _ _ _ _ _ h5 _ rfl rfl) (fun z1 z2 zq => ?_)
      obtain ⟨rfl, rfl⟩ := zq
      try dsimp only [Option.toList, HAppend.hAppend, Append.append, List.append]
      have hz := y_bind h
      clear h
      obtain ⟨_, h12, h⟩ := hz
      have c11 := q_g_ok h12
      refine Uif (q_eq0 c11) rfl rfl rfl rfl rfl rfl rfl (fun c13 => ?_) (fun c13 => ?_)
      · rw [if_pos c13] at h
        exact ih.2 _ hd _ _ _ _ _ h lv trivial
      · rw [if_neg c13] at h
        refine Van rfl lk0 rfl rfl ?_
        have hz := y_bind h
        clear h
        obtain ⟨v14, h15, h⟩ := hz
        have wv14 := (y_gv_ok h15).2
        refine Vgv h15 rfl rfl rfl ?_
        have hz := y_bind h
        clear h
        obtain ⟨v16, h17, h⟩ := hz
        have wv16 := (y_gv_ok h17).2
        refine Vgv h17 rfl rfl rfl ?_
        refine Vin rfl lk1 rfl ?_
        have hz := y_bind h
        clear h
        obtain ⟨v18, h19, h⟩ := hz
        refine Zia (q_ia_y h19) rfl rfl ?_
        refine Vsp (v := Int32.ofInt 500) rfl (by decide) rfl ?_
        have hz := y_bind h
        clear h
        obtain ⟨_, h21, h⟩ := hz
        have c20 := q_g_ok h21
        refine Uif (q_le c20 (by decide)) rfl rfl rfl rfl rfl rfl rfl (fun c22 => ?_) (fun c22 => ?_)
        · rw [if_pos c22] at h
          refine Van rfl lk0 rfl rfl ?_
          have hz := y_bind h
          clear h
          obtain ⟨v23, h24, h⟩ := hz
          refine Zgi (q_gi_y h24) rfl rfl rfl ?_
          refine Vbp (v := Int32.ofInt 20) rfl (by decide) rfl ?_
          have hz := y_bind h
          clear h
          obtain ⟨_, h26, h⟩ := hz
          have c25 := q_g_ok h26
          refine Uif (q_lt c25 (by decide)) rfl rfl rfl rfl rfl rfl rfl (fun c27 => ?_) (fun c27 => ?_)
          · rw [if_pos c27] at h
            refine Van rfl lk0 rfl rfl ?_
            have hz := y_bind h
            clear h
            obtain ⟨v28, h29, h⟩ := hz
            have wv28 := (y_gv_ok h29).2
            refine Vgv h29 rfl rfl rfl ?_
            refine Vin rfl lk1 rfl ?_
            have hz := y_bind h
            clear h
            obtain ⟨b34, h35, h⟩ := hz
            obtain ⟨eh35, fh35, wh35⟩ := y_rcv_ok h35
            cases eh35
            have hz := y_bind h
            clear h
            obtain ⟨⟨s30, r31⟩, h32, h⟩ := hz
            try dsimp only at h
            refine Vcv rfl rfl rfl wh35 rfl rfl ⟨(Nat.le_of_ble_eq_true rfl), (Nat.le_of_ble_eq_true rfl)⟩ rfl ((c_31 o n).1 _ (by omega) _ _ _ _ _ _ h32 _ rfl rfl) (fun z1 z2 zq => ?_)
            obtain ⟨rfl, rfl⟩ := zq
            try dsimp only [Option.toList, HAppend.hAppend, Append.append, List.append]
            refine Van rfl lk0 rfl rfl ?_
            have hz := y_bind h
            clear h
            obtain ⟨v38, h39, h⟩ := hz
            have wv38 := (y_gv_ok h39).2
            refine Vgv h39 rfl rfl rfl ?_
            refine Van rfl lk0 rfl rfl ?_
            have hz := y_bind h
            clear h
            obtain ⟨v40, h41, h⟩ := hz
            refine Zgi (q_gi_y h41) rfl rfl rfl ?_
            refine Van rfl lk0 rfl rfl ?_
            refine Van rfl lk0 rfl rfl ?_
            have hz := y_bind h
            clear h
            obtain ⟨v42, h43, h⟩ := hz
            have wv42 := (y_gv_ok h43).2
            refine Vgv h43 rfl rfl rfl ?_
            have hz := y_bind h
            clear h
            obtain ⟨v44, h45, h⟩ := hz
            have wv44 := (y_gv_ok h45).2
            refine Vgv h45 rfl rfl rfl ?_
            have hz := y_bind h
            clear h
            obtain ⟨b50, h51, h⟩ := hz
            obtain ⟨eh51, fh51, wh51⟩ := y_rcv_ok h51
            cases eh51
            have hz := y_bind h
            clear h
            obtain ⟨⟨s46, r47⟩, h48, h⟩ := hz
            try dsimp only at h
            have hz := y_bind h
            clear h
            obtain ⟨b52, h53, h⟩ := hz
            cases y_isr_ok h53
            refine Vcv rfl rfl rfl wh51 rfl rfl ⟨(by simp only [List.take, List.reverse_cons, List.reverse_nil, List.nil_append, List.cons_append, List.map_cons, List.map_nil, y_cati, y_catl, y_catr, y_catn, y_cata, y_rv_cat wv38, List.sum_cons, List.sum_nil]; decide +kernel), (by simp only [List.take, List.reverse_cons, List.reverse_nil, List.nil_append, List.cons_append, List.map_cons, List.map_nil, y_cati, y_catl, y_catr, y_catn, y_cata, y_rv_cat wv44, List.sum_cons, List.sum_nil]; decide +kernel)⟩ rfl ((c_4 o n).1 _ (by omega) _ _ _ _ _ _ h48 _ (by simp [lv_args, x_lget, q_y1, y_cati, y_catl, y_catr, y_rv_cat wv44]) (by simp [lv_args, x_lget, q_y1, y_cati, y_catl, y_catr, y_rv_cat wv44]) wv44) (fun z1 z2 zq => ?_)
            obtain ⟨rfl, rfl⟩ := zq
            try dsimp only [Option.toList, HAppend.hAppend, Append.append, List.append]
            have hz := y_bind h
            clear h
            obtain ⟨s54, h55, h⟩ := hz
            refine Zas (q_as_y h55) rfl rfl ?_
            refine Van rfl lk0 rfl rfl ?_
            refine Vdup rfl rfl rfl ?_
            have hz := y_bind h
            clear h
            obtain ⟨v56, h57, h⟩ := hz
            refine Zgi (q_gi_y h57) rfl rfl rfl ?_
            refine Vic (v := Int32.ofInt 1) rfl rfl rfl ?_
            refine Uadd rfl rfl ?_
            have hz := y_bind h
            clear h
            obtain ⟨s58, h59, h⟩ := hz
            refine Zpi (q_pi_y h59) rfl rfl rfl rfl ?_
            refine Van rfl lk0 rfl rfl ?_
            have hz := y_bind h
            clear h
            obtain ⟨v60, h61, h⟩ := hz
            refine Zgi (q_gi_y h61) rfl rfl rfl ?_
            refine Vic (v := Int32.ofInt 1) rfl rfl rfl ?_
            refine Usub rfl rfl ?_
            cases h
            exact Yret rfl rfl rfl rfl rfl rfl rfl ⟨rfl, rfl⟩
          · rw [if_neg c27] at h
            refine Vbp (v := Int32.ofInt (-2)) rfl (by decide) rfl ?_
            cases h
            exact Yret rfl rfl rfl rfl rfl rfl rfl ⟨rfl, rfl⟩
        · rw [if_neg c22] at h
          exact ih.2 _ hd _ _ _ _ _ h lv trivial
    · intro d hd s r0 i1 s9 r h lv _
      obtain ⟨d, rfl⟩ : ∃ x, d = x + 1 := ⟨d - 1, by omega⟩
      simp only [g_3] at h
      refine Vic (v := Int32.ofInt (-1)) rfl rfl rfl ?_
      cases h
      exact Yret rfl rfl rfl rfl rfl rfl rfl ⟨rfl, rfl⟩

/-- StepRows.signal -/
def g_5 (o : X_O) : Nat → Nat → Q_S → Nat → Int → Int64 → Option (Q_S × Int)
  | 0, _, _, _, _, _ => none
  | n + 1, 0, s, r0, i1, l2 => (q_g (q_in i1)).bind fun _ => if i1 < 0 then g_5 o n 1 s 0 0 0 else (q_g (q_in i1)).bind fun _ => if i1 < 16 then (q_gv s 0 (.ref r0) 4).bind fun v7 => (q_ls s v7 i1 l2).bind fun s9 => some (s9, 1) else g_5 o n 1 s 0 0 0
  | n + 1, 1, s, r0, i1, l2 => some (s, 0)
  | _ + 1, _, _, _, _, _ => none
set_option maxRecDepth 100000 in
set_option maxHeartbeats 4000000 in
theorem c_5 (o : X_O) : ∀ n, (∀ (d : Nat) (hd : 0 ≤ d) (s : Q_S) (r0 : Nat) (i1 : Int) (l2 : Int64) (s9 : Q_S) (r : Int), g_5 o n 0 s r0 i1 l2 = some (s9, r) → ∀ lv : X_L, x_lget lv 0 = some (.ref r0) → x_lget lv 1 = some (.int (Int32.ofInt i1)) → x_lget lv 2 = some (.long l2) → Y o d 5 0 lv [] (q_y s) (fun s1 r1 => s1 = q_y s9 ∧ r1 = some (.int (Int32.ofInt r)))) ∧
    (∀ (d : Nat) (hd : 0 ≤ d) (s : Q_S) (r0 : Nat) (i1 : Int) (l2 : Int64) (s9 : Q_S) (r : Int), g_5 o n 1 s r0 i1 l2 = some (s9, r) → ∀ lv : X_L, True → Y o d 5 10 lv [] (q_y s) (fun s1 r1 => s1 = q_y s9 ∧ r1 = some (.int (Int32.ofInt r)))) := by
  intro n
  induction n with
  | zero => exact ⟨fun d hd s _ _ _ s9 r h => (by simp only [g_5] at h; cases h), fun d hd s _ _ _ s9 r h => (by simp only [g_5] at h; cases h)⟩
  | succ n ih =>
    refine ⟨?_, ?_⟩
    · intro d hd s r0 i1 l2 s9 r h lv lk0 lk1 lk2
      simp only [g_5] at h
      refine Vin rfl lk1 rfl ?_
      have hz := y_bind h
      clear h
      obtain ⟨_, h2, h⟩ := hz
      have c1 := q_g_ok h2
      refine Uif (q_lt0 c1) rfl rfl rfl rfl rfl rfl rfl (fun c3 => ?_) (fun c3 => ?_)
      · rw [if_pos c3] at h
        exact ih.2 _ hd _ _ _ _ _ _ h lv trivial
      · rw [if_neg c3] at h
        refine Vin rfl lk1 rfl ?_
        refine Vbp (v := Int32.ofInt 16) rfl (by decide) rfl ?_
        have hz := y_bind h
        clear h
        obtain ⟨_, h5, h⟩ := hz
        have c4 := q_g_ok h5
        refine Uif (q_lt c4 (by decide)) rfl rfl rfl rfl rfl rfl rfl (fun c6 => ?_) (fun c6 => ?_)
        · rw [if_pos c6] at h
          refine Van rfl lk0 rfl rfl ?_
          have hz := y_bind h
          clear h
          obtain ⟨v7, h8, h⟩ := hz
          have wv7 := (y_gv_ok h8).2
          refine Vgv h8 rfl rfl rfl ?_
          refine Vin rfl lk1 rfl ?_
          refine Vln rfl lk2 rfl ?_
          have hz := y_bind h
          clear h
          obtain ⟨s9, h10, h⟩ := hz
          refine Zls (q_ls_y h10) rfl rfl ?_
          refine Vic (v := Int32.ofInt 1) rfl rfl rfl ?_
          cases h
          exact Yret rfl rfl rfl rfl rfl rfl rfl ⟨rfl, rfl⟩
        · rw [if_neg c6] at h
          exact ih.2 _ hd _ _ _ _ _ _ h lv trivial
    · intro d hd s r0 i1 l2 s9 r h lv _
      simp only [g_5] at h
      refine Vic (v := Int32.ofInt 0) rfl rfl rfl ?_
      cases h
      exact Yret rfl rfl rfl rfl rfl rfl rfl ⟨rfl, rfl⟩

/-- StepRows.isProgram -/
def g_7 (o : X_O) : Nat → Nat → Q_S → Nat → Int → Int → Option (Q_S × Int)
  | 0, _, _, _, _, _ => none
  | n + 1, 0, s, r0, i1, ti0 => (q_g (q_in i1)).bind fun _ => if i1 < 0 then g_7 o n 1 s 0 0 0 else (q_gi s 0 (.ref r0) 3).bind fun v4 => (q_g (q_in i1 ∧ q_in v4)).bind fun _ => if v4 ≤ i1 then g_7 o n 1 s 0 0 0 else g_7 o n 2 s 0 0 (1)
  | n + 1, 1, s, r0, i1, ti0 => g_7 o n 2 s 0 0 (0)
  | n + 1, 2, s, r0, i1, ti0 => (q_g (ti0 = 0 ∨ ti0 = 1)).bind fun _ => some (s, ti0)
  | _ + 1, _, _, _, _, _ => none
set_option maxRecDepth 100000 in
set_option maxHeartbeats 4000000 in
theorem c_7 (o : X_O) : ∀ n, (∀ (d : Nat) (hd : 0 ≤ d) (s : Q_S) (r0 : Nat) (i1 : Int) (ti0 : Int) (s9 : Q_S) (r : Int), g_7 o n 0 s r0 i1 ti0 = some (s9, r) → ∀ lv : X_L, x_lget lv 0 = some (.ref r0) → x_lget lv 1 = some (.int (Int32.ofInt i1)) → Y o d 7 0 lv [] (q_y s) (fun s1 r1 => s1 = q_y s9 ∧ r1 = some (.int (Int32.ofInt r)))) ∧
    (∀ (d : Nat) (hd : 0 ≤ d) (s : Q_S) (r0 : Nat) (i1 : Int) (ti0 : Int) (s9 : Q_S) (r : Int), g_7 o n 1 s r0 i1 ti0 = some (s9, r) → ∀ lv : X_L, True → Y o d 7 16 lv [] (q_y s) (fun s1 r1 => s1 = q_y s9 ∧ r1 = some (.int (Int32.ofInt r)))) ∧
    (∀ (d : Nat) (hd : 0 ≤ d) (s : Q_S) (r0 : Nat) (i1 : Int) (ti0 : Int) (s9 : Q_S) (r : Int), g_7 o n 2 s r0 i1 ti0 = some (s9, r) → ∀ lv : X_L, True → Y o d 7 17 lv [.int (Int32.ofInt ti0)] (q_y s) (fun s1 r1 => s1 = q_y s9 ∧ r1 = some (.int (Int32.ofInt r)))) := by
  intro n
  induction n with
  | zero => exact ⟨fun d hd s _ _ _ s9 r h => (by simp only [g_7] at h; cases h), fun d hd s _ _ _ s9 r h => (by simp only [g_7] at h; cases h), fun d hd s _ _ _ s9 r h => (by simp only [g_7] at h; cases h)⟩
  | succ n ih =>
    refine ⟨?_, ?_, ?_⟩
    · intro d hd s r0 i1 ti0 s9 r h lv lk0 lk1
      simp only [g_7] at h
      refine Vin rfl lk1 rfl ?_
      have hz := y_bind h
      clear h
      obtain ⟨_, h2, h⟩ := hz
      have c1 := q_g_ok h2
      refine Uif (q_lt0 c1) rfl rfl rfl rfl rfl rfl rfl (fun c3 => ?_) (fun c3 => ?_)
      · rw [if_pos c3] at h
        exact ih.2.1 _ hd _ _ _ _ _ _ h lv trivial
      · rw [if_neg c3] at h
        refine Vin rfl lk1 rfl ?_
        refine Van rfl lk0 rfl rfl ?_
        have hz := y_bind h
        clear h
        obtain ⟨v4, h5, h⟩ := hz
        refine Zgi (q_gi_y h5) rfl rfl rfl ?_
        have hz := y_bind h
        clear h
        obtain ⟨_, h7, h⟩ := hz
        have c6 := q_g_ok h7
        refine Uif (q_le c6.2 c6.1) rfl rfl rfl rfl rfl rfl rfl (fun c8 => ?_) (fun c8 => ?_)
        · rw [if_pos c8] at h
          exact ih.2.1 _ hd _ _ _ _ _ _ h lv trivial
        · rw [if_neg c8] at h
          refine Vic (v := Int32.ofInt 1) rfl rfl rfl ?_
          refine Ygo rfl rfl rfl rfl rfl rfl ?_
          exact ih.2.2 _ hd _ _ _ _ _ _ h lv trivial
    · intro d hd s r0 i1 ti0 s9 r h lv _
      simp only [g_7] at h
      refine Vic (v := Int32.ofInt 0) rfl rfl rfl ?_
      exact ih.2.2 _ hd _ _ _ _ _ _ h lv trivial
    · intro d hd s r0 i1 ti0 s9 r h lv _
      simp only [g_7] at h
      have hz := y_bind h
      clear h
      obtain ⟨_, h2, h⟩ := hz
      have c1 := q_g_ok h2
      cases h
      exact Yret rfl rfl rfl rfl rfl rfl (if_pos (q_bool c1)) ⟨rfl, rfl⟩

/-- java/util/Arrays.fill -/
def g_148 (o : X_O) : Nat → Nat → Q_S → Value → Int64 → Int → Int → Option (Q_S × Unit)
  | 0, _, _, _, _, _, _ => none
  | n + 1, 0, s, a0, l1, i3, i4 => (q_ln o s a0).bind fun v1 => g_148 o n 1 s (a0) (l1) (0) (v1)
  | n + 1, 1, s, a0, l1, i3, i4 => (q_g (q_in i3 ∧ q_in i4)).bind fun _ => if i4 ≤ i3 then some (s, ()) else (q_ls s a0 i3 l1).bind fun s4 => g_148 o n 1 s4 (a0) (l1) ((i3 + 1)) (i4)
  | _ + 1, _, _, _, _, _, _ => none
set_option maxRecDepth 100000 in
set_option maxHeartbeats 4000000 in
theorem c_148 (o : X_O) : ∀ n, (∀ (d : Nat) (hd : 0 ≤ d) (s : Q_S) (a0 : Value) (l1 : Int64) (i3 : Int) (i4 : Int) (s9 : Q_S) (r : Unit), g_148 o n 0 s a0 l1 i3 i4 = some (s9, r) → ∀ lv : X_L, x_lget lv 0 = some a0 → x_lget lv 1 = some (.long l1) → y_rv a0 = true → Y o d 148 0 lv [] (q_y s) (fun s1 r1 => s1 = q_y s9 ∧ r1 = none)) ∧
    (∀ (d : Nat) (hd : 0 ≤ d) (s : Q_S) (a0 : Value) (l1 : Int64) (i3 : Int) (i4 : Int) (s9 : Q_S) (r : Unit), g_148 o n 1 s a0 l1 i3 i4 = some (s9, r) → ∀ lv : X_L, x_lget lv 0 = some a0 → x_lget lv 1 = some (.long l1) → x_lget lv 3 = some (.int (Int32.ofInt i3)) → x_lget lv 4 = some (.int (Int32.ofInt i4)) → y_rv a0 = true → Y o d 148 6 lv [] (q_y s) (fun s1 r1 => s1 = q_y s9 ∧ r1 = none)) := by
  intro n
  induction n with
  | zero => exact ⟨fun d hd s _ _ _ _ s9 r h => (by simp only [g_148] at h; cases h), fun d hd s _ _ _ _ s9 r h => (by simp only [g_148] at h; cases h)⟩
  | succ n ih =>
    refine ⟨?_, ?_⟩
    · intro d hd s a0 l1 i3 i4 s9 r h lv lk0 lk1 rv0
      simp only [g_148] at h
      refine Vic (v := Int32.ofInt 0) rfl rfl rfl ?_
      refine Vsin rfl rfl (fun lv lk3 hk => ?_)
      have lk0 := hk 0 _ lk0 (by decide) (by decide) (Or.inl (by decide))
      have lk1 := hk 1 _ lk1 (by decide) (by decide) (Or.inl (by decide))
      refine Van rfl lk0 rv0 rfl ?_
      have hz := y_bind h
      clear h
      obtain ⟨v1, h2, h⟩ := hz
      refine Zln (q_ln_y h2) rfl rfl ?_
      refine Vsi rfl rfl (fun lv lk4 hk => ?_)
      have lk0 := hk 0 _ lk0 (by decide) (by decide) (Or.inl (by decide))
      have lk1 := hk 1 _ lk1 (by decide) (by decide) (Or.inl (by decide))
      have lk3 := hk 3 _ lk3 (by decide) (by decide) (Or.inr rfl)
      exact ih.2 _ hd _ _ _ _ _ _ _ h lv lk0 lk1 lk3 lk4 rv0
    · intro d hd s a0 l1 i3 i4 s9 r h lv lk0 lk1 lk3 lk4 rv0
      simp only [g_148] at h
      refine Vin rfl lk3 rfl ?_
      refine Vi rfl lk4 rfl ?_
      have hz := y_bind h
      clear h
      obtain ⟨_, h2, h⟩ := hz
      have c1 := q_g_ok h2
      refine Uif (q_le c1.2 c1.1) rfl rfl rfl rfl rfl rfl rfl (fun c3 => ?_) (fun c3 => ?_)
      · rw [if_pos c3] at h
        cases h
        exact Yret rfl rfl rfl rfl rfl rfl rfl ⟨rfl, rfl⟩
      · rw [if_neg c3] at h
        refine Van rfl lk0 rv0 rfl ?_
        refine Vin rfl lk3 rfl ?_
        refine Vln rfl lk1 rfl ?_
        have hz := y_bind h
        clear h
        obtain ⟨s4, h5, h⟩ := hz
        refine Zls (q_ls_y h5) rfl rfl ?_
        refine Uinc rfl lk3 rfl (fun lv lk3 hk => ?_)
        have lk0 := hk 0 _ lk0 (by decide) (by decide) (Or.inl (by decide))
        have lk1 := hk 1 _ lk1 (by decide) (by decide) (Or.inl (by decide))
        have lk4 := hk 4 _ lk4 (by decide) (by decide) (Or.inl (by decide))
        refine Ygo rfl rfl rfl rfl rfl rfl ?_
        exact ih.2 _ hd _ _ _ _ _ _ _ h lv lk0 lk1 lk3 lk4 rv0

/-- java/util/Arrays.fill -/
def g_149 (o : X_O) : Nat → Nat → Q_S → Value → Int → Int → Int → Option (Q_S × Unit)
  | 0, _, _, _, _, _, _ => none
  | n + 1, 0, s, a0, i1, i2, i3 => (q_ln o s a0).bind fun v1 => g_149 o n 1 s (a0) (i1) (0) (v1)
  | n + 1, 1, s, a0, i1, i2, i3 => (q_g (q_in i2 ∧ q_in i3)).bind fun _ => if i3 ≤ i2 then some (s, ()) else (q_is s a0 i2 i1).bind fun s4 => g_149 o n 1 s4 (a0) (i1) ((i2 + 1)) (i3)
  | _ + 1, _, _, _, _, _, _ => none
set_option maxRecDepth 100000 in
set_option maxHeartbeats 4000000 in
theorem c_149 (o : X_O) : ∀ n, (∀ (d : Nat) (hd : 0 ≤ d) (s : Q_S) (a0 : Value) (i1 : Int) (i2 : Int) (i3 : Int) (s9 : Q_S) (r : Unit), g_149 o n 0 s a0 i1 i2 i3 = some (s9, r) → ∀ lv : X_L, x_lget lv 0 = some a0 → x_lget lv 1 = some (.int (Int32.ofInt i1)) → y_rv a0 = true → Y o d 149 0 lv [] (q_y s) (fun s1 r1 => s1 = q_y s9 ∧ r1 = none)) ∧
    (∀ (d : Nat) (hd : 0 ≤ d) (s : Q_S) (a0 : Value) (i1 : Int) (i2 : Int) (i3 : Int) (s9 : Q_S) (r : Unit), g_149 o n 1 s a0 i1 i2 i3 = some (s9, r) → ∀ lv : X_L, x_lget lv 0 = some a0 → x_lget lv 1 = some (.int (Int32.ofInt i1)) → x_lget lv 2 = some (.int (Int32.ofInt i2)) → x_lget lv 3 = some (.int (Int32.ofInt i3)) → y_rv a0 = true → Y o d 149 5 lv [] (q_y s) (fun s1 r1 => s1 = q_y s9 ∧ r1 = none)) := by
  intro n
  induction n with
  | zero => exact ⟨fun d hd s _ _ _ _ s9 r h => (by simp only [g_149] at h; cases h), fun d hd s _ _ _ _ s9 r h => (by simp only [g_149] at h; cases h)⟩
  | succ n ih =>
    refine ⟨?_, ?_⟩
    · intro d hd s a0 i1 i2 i3 s9 r h lv lk0 lk1 rv0
      simp only [g_149] at h
      refine Vic (v := Int32.ofInt 0) rfl rfl rfl ?_
      refine Vsin rfl rfl (fun lv lk2 hk => ?_)
      have lk0 := hk 0 _ lk0 (by decide) (by decide) (Or.inl (by decide))
      have lk1 := hk 1 _ lk1 (by decide) (by decide) (Or.inr rfl)
      refine Van rfl lk0 rv0 rfl ?_
      have hz := y_bind h
      clear h
      obtain ⟨v1, h2, h⟩ := hz
      refine Zln (q_ln_y h2) rfl rfl ?_
      refine Vsin rfl rfl (fun lv lk3 hk => ?_)
      have lk0 := hk 0 _ lk0 (by decide) (by decide) (Or.inl (by decide))
      have lk1 := hk 1 _ lk1 (by decide) (by decide) (Or.inl (by decide))
      have lk2 := hk 2 _ lk2 (by decide) (by decide) (Or.inr rfl)
      exact ih.2 _ hd _ _ _ _ _ _ _ h lv lk0 lk1 lk2 lk3 rv0
    · intro d hd s a0 i1 i2 i3 s9 r h lv lk0 lk1 lk2 lk3 rv0
      simp only [g_149] at h
      refine Vin rfl lk2 rfl ?_
      refine Vin rfl lk3 rfl ?_
      have hz := y_bind h
      clear h
      obtain ⟨_, h2, h⟩ := hz
      have c1 := q_g_ok h2
      refine Uif (q_le c1.2 c1.1) rfl rfl rfl rfl rfl rfl rfl (fun c3 => ?_) (fun c3 => ?_)
      · rw [if_pos c3] at h
        cases h
        exact Yret rfl rfl rfl rfl rfl rfl rfl ⟨rfl, rfl⟩
      · rw [if_neg c3] at h
        refine Van rfl lk0 rv0 rfl ?_
        refine Vin rfl lk2 rfl ?_
        refine Vin rfl lk1 rfl ?_
        have hz := y_bind h
        clear h
        obtain ⟨s4, h5, h⟩ := hz
        refine Zis (q_is_y h5) rfl rfl ?_
        refine Uinc rfl lk2 rfl (fun lv lk2 hk => ?_)
        have lk0 := hk 0 _ lk0 (by decide) (by decide) (Or.inl (by decide))
        have lk1 := hk 1 _ lk1 (by decide) (by decide) (Or.inr rfl)
        have lk3 := hk 3 _ lk3 (by decide) (by decide) (Or.inl (by decide))
        refine Ygo rfl rfl rfl rfl rfl rfl ?_
        exact ih.2 _ hd _ _ _ _ _ _ _ h lv lk0 lk1 lk2 lk3 rv0

/-- StepRows$Frames.clearAll -/
def g_48 (o : X_O) : Nat → Nat → Q_S → Nat → Option (Q_S × Unit)
  | 0, _, _, _ => none
  | n + 1, 0, s, r0 => (q_pi s 5 (.ref r0) 10 (-1)).bind fun s1 => (q_pi s1 5 (.ref r0) 11 (-1)).bind fun s3 => (q_pi s3 5 (.ref r0) 12 0).bind fun s5 => (q_pi s5 5 (.ref r0) 13 0).bind fun s7 => some (s7, ())
  | _ + 1, _, _, _ => none
set_option maxRecDepth 100000 in
set_option maxHeartbeats 4000000 in
theorem c_48 (o : X_O) : ∀ n, (∀ (d : Nat) (hd : 0 ≤ d) (s : Q_S) (r0 : Nat) (s9 : Q_S) (r : Unit), g_48 o n 0 s r0 = some (s9, r) → ∀ lv : X_L, x_lget lv 0 = some (.ref r0) → Y o d 48 0 lv [] (q_y s) (fun s1 r1 => s1 = q_y s9 ∧ r1 = none)) := by
  intro n
  induction n with
  | zero => exact fun d hd s _ s9 r h => (by simp only [g_48] at h; cases h)
  | succ n ih =>
    intro d hd s r0 s9 r h lv lk0
    simp only [g_48] at h
    refine Van rfl lk0 rfl rfl ?_
    refine Vic (v := Int32.ofInt (-1)) rfl rfl rfl ?_
    have hz := y_bind h
    clear h
    obtain ⟨s1, h2, h⟩ := hz
    refine Zpi (q_pi_y h2) rfl rfl rfl rfl ?_
    refine Van rfl lk0 rfl rfl ?_
    refine Vic (v := Int32.ofInt (-1)) rfl rfl rfl ?_
    have hz := y_bind h
    clear h
    obtain ⟨s3, h4, h⟩ := hz
    refine Zpi (q_pi_y h4) rfl rfl rfl rfl ?_
    refine Van rfl lk0 rfl rfl ?_
    refine Vic (v := Int32.ofInt 0) rfl rfl rfl ?_
    have hz := y_bind h
    clear h
    obtain ⟨s5, h6, h⟩ := hz
    refine Zpi (q_pi_y h6) rfl rfl rfl rfl ?_
    refine Van rfl lk0 rfl rfl ?_
    refine Vic (v := Int32.ofInt 0) rfl rfl rfl ?_
    have hz := y_bind h
    clear h
    obtain ⟨s7, h8, h⟩ := hz
    refine Zpi (q_pi_y h8) rfl rfl rfl rfl ?_
    cases h
    exact Yret rfl rfl rfl rfl rfl rfl rfl ⟨rfl, rfl⟩

/-- java/util/Arrays.copyOf -/
def g_150 (o : X_O) : Nat → Nat → Q_S → Value → Int → Option (Q_S × Value)
  | 0, _, _, _, _ => none
  | n + 1, 0, s, a0, i1 => (q_ln o s a0).bind fun v1 => (q_g (q_in i1 ∧ q_in v1)).bind fun _ => if ¬ i1 = v1 then (q_na s .int i1).bind fun s6 => (q_ln o s6 a0).bind fun v8 => (q_g (q_in v8 ∧ q_in i1)).bind fun _ => (q_cp s6 a0 0 (.ref s.1) 0 (if i1 < v8 then i1 else v8)).bind fun s12 => (y_isr (.ref s.1)).bind fun b14 => some (s12, .ref b14) else none
  | _ + 1, _, _, _, _ => none
set_option maxRecDepth 100000 in
set_option maxHeartbeats 4000000 in
theorem c_150 (o : X_O) : ∀ n, (∀ (d : Nat) (hd : 1 ≤ d) (s : Q_S) (a0 : Value) (i1 : Int) (s9 : Q_S) (r : Value), g_150 o n 0 s a0 i1 = some (s9, r) → ∀ lv : X_L, x_lget lv 0 = some a0 → x_lget lv 1 = some (.int (Int32.ofInt i1)) → y_rv a0 = true → Y o d 150 0 lv [] (q_y s) (fun s1 r1 => s1 = q_y s9 ∧ r1 = some r)) := by
  intro n
  induction n with
  | zero => exact fun d hd s _ _ s9 r h => (by simp only [g_150] at h; cases h)
  | succ n ih =>
    intro d hd s a0 i1 s9 r h lv lk0 lk1 rv0
    obtain ⟨d, rfl⟩ : ∃ x, d = x + 1 := ⟨d - 1, by omega⟩
    simp only [g_150] at h
    refine Vin rfl lk1 rfl ?_
    refine Van rfl lk0 rv0 rfl ?_
    have hz := y_bind h
    clear h
    obtain ⟨v1, h2, h⟩ := hz
    refine Zln (q_ln_y h2) rfl rfl ?_
    have hz := y_bind h
    clear h
    obtain ⟨_, h4, h⟩ := hz
    have c3 := q_g_ok h4
    refine Uif (not_congr (q_eq c3.1 c3.2)) rfl rfl rfl rfl rfl rfl rfl (fun c5 => ?_) (fun c5 => ?_)
    · rw [if_pos c5] at h
      refine Vin rfl lk1 rfl ?_
      have hz := y_bind h
      clear h
      obtain ⟨s6, h7, h⟩ := hz
      refine Zna (q_na_y h7) rfl rfl rfl ?_
      refine Vsan rfl rfl rfl (fun lv lk2 hk => ?_)
      have lk0 := hk 0 _ lk0 (by decide) (by decide) (Or.inl (by decide))
      have lk1 := hk 1 _ lk1 (by decide) (by decide) (Or.inr rfl)
      refine Van rfl lk0 rv0 rfl ?_
      refine Vic (v := Int32.ofInt 0) rfl rfl rfl ?_
      refine Van rfl lk2 rfl rfl ?_
      refine Vic (v := Int32.ofInt 0) rfl rfl rfl ?_
      refine Van rfl lk0 rv0 rfl ?_
      have hz := y_bind h
      clear h
      obtain ⟨v8, h9, h⟩ := hz
      refine Zln (q_ln_y h9) rfl rfl ?_
      refine Vin rfl lk1 rfl ?_
      have hz := y_bind h
      clear h
      obtain ⟨_, h11, h⟩ := hz
      have c10 := q_g_ok h11
      refine Umin c10 rfl rfl (by simp only [List.take, List.reverse_cons, List.reverse_nil, List.nil_append, List.cons_append, List.map_cons, List.map_nil, y_cati, y_catl, y_catr, y_catn, y_cata, y_rv_cat rv0, List.sum_cons, List.sum_nil]; decide +kernel) rfl ?_
      have hz := y_bind h
      clear h
      obtain ⟨s12, h13, h⟩ := hz
      refine Zcp (q_cp_y h13) rfl rfl (Nat.le_of_ble_eq_true rfl) rfl ?_
      refine Van rfl lk2 rfl rfl ?_
      have hz := y_bind h
      clear h
      obtain ⟨b14, h15, h⟩ := hz
      cases h
      cases y_isr_ok h15
      exact Yret rfl rfl rfl rfl rfl rfl rfl ⟨rfl, rfl⟩
    · rw [if_neg c5] at h
      refine Van rfl lk0 rv0 rfl ?_
      cases h

/-- java/util/Arrays.copyOf -/
def g_151 (o : X_O) : Nat → Nat → Q_S → Value → Int → Option (Q_S × Value)
  | 0, _, _, _, _ => none
  | n + 1, 0, s, a0, i1 => (q_ln o s a0).bind fun v1 => (q_g (q_in i1 ∧ q_in v1)).bind fun _ => if ¬ i1 = v1 then (q_na s .long i1).bind fun s6 => (q_ln o s6 a0).bind fun v8 => (q_g (q_in v8 ∧ q_in i1)).bind fun _ => (q_cp s6 a0 0 (.ref s.1) 0 (if i1 < v8 then i1 else v8)).bind fun s12 => (y_isr (.ref s.1)).bind fun b14 => some (s12, .ref b14) else none
  | _ + 1, _, _, _, _ => none
set_option maxRecDepth 100000 in
set_option maxHeartbeats 4000000 in
theorem c_151 (o : X_O) : ∀ n, (∀ (d : Nat) (hd : 1 ≤ d) (s : Q_S) (a0 : Value) (i1 : Int) (s9 : Q_S) (r : Value), g_151 o n 0 s a0 i1 = some (s9, r) → ∀ lv : X_L, x_lget lv 0 = some a0 → x_lget lv 1 = some (.int (Int32.ofInt i1)) → y_rv a0 = true → Y o d 151 0 lv [] (q_y s) (fun s1 r1 => s1 = q_y s9 ∧ r1 = some r)) := by
  intro n
  induction n with
  | zero => exact fun d hd s _ _ s9 r h => (by simp only [g_151] at h; cases h)
  | succ n ih =>
    intro d hd s a0 i1 s9 r h lv lk0 lk1 rv0
    obtain ⟨d, rfl⟩ : ∃ x, d = x + 1 := ⟨d - 1, by omega⟩
    simp only [g_151] at h
    refine Vin rfl lk1 rfl ?_
    refine Van rfl lk0 rv0 rfl ?_
    have hz := y_bind h
    clear h
    obtain ⟨v1, h2, h⟩ := hz
    refine Zln (q_ln_y h2) rfl rfl ?_
    have hz := y_bind h
    clear h
    obtain ⟨_, h4, h⟩ := hz
    have c3 := q_g_ok h4
    refine Uif (not_congr (q_eq c3.1 c3.2)) rfl rfl rfl rfl rfl rfl rfl (fun c5 => ?_) (fun c5 => ?_)
    · rw [if_pos c5] at h
      refine Vin rfl lk1 rfl ?_
      have hz := y_bind h
      clear h
      obtain ⟨s6, h7, h⟩ := hz
      refine Zna (q_na_y h7) rfl rfl rfl ?_
      refine Vsan rfl rfl rfl (fun lv lk2 hk => ?_)
      have lk0 := hk 0 _ lk0 (by decide) (by decide) (Or.inl (by decide))
      have lk1 := hk 1 _ lk1 (by decide) (by decide) (Or.inr rfl)
      refine Van rfl lk0 rv0 rfl ?_
      refine Vic (v := Int32.ofInt 0) rfl rfl rfl ?_
      refine Van rfl lk2 rfl rfl ?_
      refine Vic (v := Int32.ofInt 0) rfl rfl rfl ?_
      refine Van rfl lk0 rv0 rfl ?_
      have hz := y_bind h
      clear h
      obtain ⟨v8, h9, h⟩ := hz
      refine Zln (q_ln_y h9) rfl rfl ?_
      refine Vin rfl lk1 rfl ?_
      have hz := y_bind h
      clear h
      obtain ⟨_, h11, h⟩ := hz
      have c10 := q_g_ok h11
      refine Umin c10 rfl rfl (by simp only [List.take, List.reverse_cons, List.reverse_nil, List.nil_append, List.cons_append, List.map_cons, List.map_nil, y_cati, y_catl, y_catr, y_catn, y_cata, y_rv_cat rv0, List.sum_cons, List.sum_nil]; decide +kernel) rfl ?_
      have hz := y_bind h
      clear h
      obtain ⟨s12, h13, h⟩ := hz
      refine Zcp (q_cp_y h13) rfl rfl (Nat.le_of_ble_eq_true rfl) rfl ?_
      refine Van rfl lk2 rfl rfl ?_
      have hz := y_bind h
      clear h
      obtain ⟨b14, h15, h⟩ := hz
      cases h
      cases y_isr_ok h15
      exact Yret rfl rfl rfl rfl rfl rfl rfl ⟨rfl, rfl⟩
    · rw [if_neg c5] at h
      refine Van rfl lk0 rv0 rfl ?_
      cases h

/-- StepRows$Frames.growTo -/
def g_50 (o : X_O) : Nat → Nat → Q_S → Nat → Int → Option (Q_S × Unit)
  | 0, _, _, _, _ => none
  | n + 1, 0, s, r0, i1 => (q_gv s 5 (.ref r0) 0).bind fun v1 => (g_150 o n 0 s (v1) (i1)).bind fun q6 => (y_isr q6.2).bind fun b7 => (q_pr q6.1 5 (.ref r0) 0 (.ref b7)).bind fun s9 => (q_gv s9 5 (.ref r0) 1).bind fun v11 => (g_150 o n 0 s9 (v11) (i1)).bind fun q16 => (y_isr q16.2).bind fun b17 => (q_pr q16.1 5 (.ref r0) 1 (.ref b17)).bind fun s19 => (q_gv s19 5 (.ref r0) 2).bind fun v21 => (g_150 o n 0 s19 (v21) (i1)).bind fun q26 => (y_isr q26.2).bind fun b27 => (q_pr q26.1 5 (.ref r0) 2 (.ref b27)).bind fun s29 => (q_gv s29 5 (.ref r0) 3).bind fun v31 => (g_150 o n 0 s29 (v31) (i1)).bind fun q36 => (y_isr q36.2).bind fun b37 => (q_pr q36.1 5 (.ref r0) 3 (.ref b37)).bind fun s39 => (q_gv s39 5 (.ref r0) 4).bind fun v41 => (g_150 o n 0 s39 (v41) (i1)).bind fun q46 => (y_isr q46.2).bind fun b47 => (q_pr q46.1 5 (.ref r0) 4 (.ref b47)).bind fun s49 => (q_gv s49 5 (.ref r0) 5).bind fun v51 => (g_150 o n 0 s49 (v51) (i1)).bind fun q56 => (y_isr q56.2).bind fun b57 => (q_pr q56.1 5 (.ref r0) 5 (.ref b57)).bind fun s59 => (q_gv s59 5 (.ref r0) 6).bind fun v61 => (g_150 o n 0 s59 (v61) (i1)).bind fun q66 => (y_isr q66.2).bind fun b67 => (q_pr q66.1 5 (.ref r0) 6 (.ref b67)).bind fun s69 => (q_gv s69 5 (.ref r0) 7).bind fun v71 => (g_151 o n 0 s69 (v71) (i1)).bind fun q76 => (y_isr q76.2).bind fun b77 => (q_pr q76.1 5 (.ref r0) 7 (.ref b77)).bind fun s79 => (q_gv s79 5 (.ref r0) 8).bind fun v81 => (g_151 o n 0 s79 (v81) (i1)).bind fun q86 => (y_isr q86.2).bind fun b87 => (q_pr q86.1 5 (.ref r0) 8 (.ref b87)).bind fun s89 => (q_gv s89 5 (.ref r0) 9).bind fun v91 => (g_151 o n 0 s89 (v91) (i1)).bind fun q96 => (y_isr q96.2).bind fun b97 => (q_pr q96.1 5 (.ref r0) 9 (.ref b97)).bind fun s99 => some (s99, ())
  | _ + 1, _, _, _, _ => none
set_option maxRecDepth 100000 in
set_option maxHeartbeats 4000000 in
theorem c_50 (o : X_O) : ∀ n, (∀ (d : Nat) (hd : 2 ≤ d) (s : Q_S) (r0 : Nat) (i1 : Int) (s9 : Q_S) (r : Unit), g_50 o n 0 s r0 i1 = some (s9, r) → ∀ lv : X_L, x_lget lv 0 = some (.ref r0) → x_lget lv 1 = some (.int (Int32.ofInt i1)) → Y o d 50 0 lv [] (q_y s) (fun s1 r1 => s1 = q_y s9 ∧ r1 = none)) := by
  intro n
  induction n with
  | zero => exact fun d hd s _ _ s9 r h => (by simp only [g_50] at h; cases h)
  | succ n ih =>
    intro d hd s r0 i1 s9 r h lv lk0 lk1
    obtain ⟨d, rfl⟩ : ∃ x, d = x + 1 := ⟨d - 1, by omega⟩
    simp only [g_50] at h
    refine Van rfl lk0 rfl rfl ?_
    refine Van rfl lk0 rfl rfl ?_
    have hz := y_bind h
    clear h
    obtain ⟨v1, h2, h⟩ := hz
    have wv1 := (y_gv_ok h2).2
    refine Vgv h2 rfl rfl rfl ?_
    refine Vin rfl lk1 rfl ?_
    have hz := y_bind h
    clear h
    obtain ⟨⟨s3, r4⟩, h5, h⟩ := hz
    try dsimp only at h
    have hz := y_bind h
    clear h
    obtain ⟨b7, h8, h⟩ := hz
    cases y_isr_ok h8
    refine Vcs rfl rfl (Nat.le_of_ble_eq_true rfl) rfl rfl ⟨(Nat.le_of_ble_eq_true rfl), (by simp only [List.take, List.reverse_cons, List.reverse_nil, List.nil_append, List.cons_append, List.map_cons, List.map_nil, y_cati, y_catl, y_catr, y_catn, y_cata, y_rv_cat wv1, List.sum_cons, List.sum_nil]; decide +kernel)⟩ rfl ((c_150 o n) _ (by omega) _ _ _ _ _ h5 _ (by simp [lv_args, x_lget, q_y1, y_cati, y_catl, y_catr, y_rv_cat wv1]) (by simp [lv_args, x_lget, q_y1, y_cati, y_catl, y_catr, y_rv_cat wv1]) wv1) (fun z1 z2 zq => ?_)
    obtain ⟨rfl, rfl⟩ := zq
    try dsimp only [Option.toList, HAppend.hAppend, Append.append, List.append]
    have hz := y_bind h
    clear h
    obtain ⟨s9, h10, h⟩ := hz
    refine Zpr (q_pr_y h10) rfl rfl rfl rfl ?_
    refine Van rfl lk0 rfl rfl ?_
    refine Van rfl lk0 rfl rfl ?_
    have hz := y_bind h
    clear h
    obtain ⟨v11, h12, h⟩ := hz
    have wv11 := (y_gv_ok h12).2
    refine Vgv h12 rfl rfl rfl ?_
    refine Vin rfl lk1 rfl ?_
    have hz := y_bind h
    clear h
    obtain ⟨⟨s13, r14⟩, h15, h⟩ := hz
    try dsimp only at h
    have hz := y_bind h
    clear h
    obtain ⟨b17, h18, h⟩ := hz
    cases y_isr_ok h18
    refine Vcs rfl rfl (Nat.le_of_ble_eq_true rfl) rfl rfl ⟨(Nat.le_of_ble_eq_true rfl), (by simp only [List.take, List.reverse_cons, List.reverse_nil, List.nil_append, List.cons_append, List.map_cons, List.map_nil, y_cati, y_catl, y_catr, y_catn, y_cata, y_rv_cat wv11, List.sum_cons, List.sum_nil]; decide +kernel)⟩ rfl ((c_150 o n) _ (by omega) _ _ _ _ _ h15 _ (by simp [lv_args, x_lget, q_y1, y_cati, y_catl, y_catr, y_rv_cat wv11]) (by simp [lv_args, x_lget, q_y1, y_cati, y_catl, y_catr, y_rv_cat wv11]) wv11) (fun z1 z2 zq => ?_)
    obtain ⟨rfl, rfl⟩ := zq
    try dsimp only [Option.toList, HAppend.hAppend, Append.append, List.append]
    have hz := y_bind h
    clear h
    obtain ⟨s19, h20, h⟩ := hz
    refine Zpr (q_pr_y h20) rfl rfl rfl rfl ?_
    refine Van rfl lk0 rfl rfl ?_
    refine Van rfl lk0 rfl rfl ?_
    have hz := y_bind h
    clear h
    obtain ⟨v21, h22, h⟩ := hz
    have wv21 := (y_gv_ok h22).2
    refine Vgv h22 rfl rfl rfl ?_
    refine Vin rfl lk1 rfl ?_
    have hz := y_bind h
    clear h
    obtain ⟨⟨s23, r24⟩, h25, h⟩ := hz
    try dsimp only at h
    have hz := y_bind h
    clear h
    obtain ⟨b27, h28, h⟩ := hz
    cases y_isr_ok h28
    refine Vcs rfl rfl (Nat.le_of_ble_eq_true rfl) rfl rfl ⟨(Nat.le_of_ble_eq_true rfl), (by simp only [List.take, List.reverse_cons, List.reverse_nil, List.nil_append, List.cons_append, List.map_cons, List.map_nil, y_cati, y_catl, y_catr, y_catn, y_cata, y_rv_cat wv21, List.sum_cons, List.sum_nil]; decide +kernel)⟩ rfl ((c_150 o n) _ (by omega) _ _ _ _ _ h25 _ (by simp [lv_args, x_lget, q_y1, y_cati, y_catl, y_catr, y_rv_cat wv21]) (by simp [lv_args, x_lget, q_y1, y_cati, y_catl, y_catr, y_rv_cat wv21]) wv21) (fun z1 z2 zq => ?_)
    obtain ⟨rfl, rfl⟩ := zq
    try dsimp only [Option.toList, HAppend.hAppend, Append.append, List.append]
    have hz := y_bind h
    clear h
    obtain ⟨s29, h30, h⟩ := hz
    refine Zpr (q_pr_y h30) rfl rfl rfl rfl ?_
    refine Van rfl lk0 rfl rfl ?_
    refine Van rfl lk0 rfl rfl ?_
    have hz := y_bind h
    clear h
    obtain ⟨v31, h32, h⟩ := hz
    have wv31 := (y_gv_ok h32).2
    refine Vgv h32 rfl rfl rfl ?_
    refine Vin rfl lk1 rfl ?_
    have hz := y_bind h
    clear h
    obtain ⟨⟨s33, r34⟩, h35, h⟩ := hz
    try dsimp only at h
    have hz := y_bind h
    clear h
    obtain ⟨b37, h38, h⟩ := hz
    cases y_isr_ok h38
    refine Vcs rfl rfl (Nat.le_of_ble_eq_true rfl) rfl rfl ⟨(Nat.le_of_ble_eq_true rfl), (by simp only [List.take, List.reverse_cons, List.reverse_nil, List.nil_append, List.cons_append, List.map_cons, List.map_nil, y_cati, y_catl, y_catr, y_catn, y_cata, y_rv_cat wv31, List.sum_cons, List.sum_nil]; decide +kernel)⟩ rfl ((c_150 o n) _ (by omega) _ _ _ _ _ h35 _ (by simp [lv_args, x_lget, q_y1, y_cati, y_catl, y_catr, y_rv_cat wv31]) (by simp [lv_args, x_lget, q_y1, y_cati, y_catl, y_catr, y_rv_cat wv31]) wv31) (fun z1 z2 zq => ?_)
    obtain ⟨rfl, rfl⟩ := zq
    try dsimp only [Option.toList, HAppend.hAppend, Append.append, List.append]
    have hz := y_bind h
    clear h
    obtain ⟨s39, h40, h⟩ := hz
    refine Zpr (q_pr_y h40) rfl rfl rfl rfl ?_
    refine Van rfl lk0 rfl rfl ?_
    refine Van rfl lk0 rfl rfl ?_
    have hz := y_bind h
    clear h
    obtain ⟨v41, h42, h⟩ := hz
    have wv41 := (y_gv_ok h42).2
    refine Vgv h42 rfl rfl rfl ?_
    refine Vin rfl lk1 rfl ?_
    have hz := y_bind h
    clear h
    obtain ⟨⟨s43, r44⟩, h45, h⟩ := hz
    try dsimp only at h
    have hz := y_bind h
    clear h
    obtain ⟨b47, h48, h⟩ := hz
    cases y_isr_ok h48
    refine Vcs rfl rfl (Nat.le_of_ble_eq_true rfl) rfl rfl ⟨(Nat.le_of_ble_eq_true rfl), (by simp only [List.take, List.reverse_cons, List.reverse_nil, List.nil_append, List.cons_append, List.map_cons, List.map_nil, y_cati, y_catl, y_catr, y_catn, y_cata, y_rv_cat wv41, List.sum_cons, List.sum_nil]; decide +kernel)⟩ rfl ((c_150 o n) _ (by omega) _ _ _ _ _ h45 _ (by simp [lv_args, x_lget, q_y1, y_cati, y_catl, y_catr, y_rv_cat wv41]) (by simp [lv_args, x_lget, q_y1, y_cati, y_catl, y_catr, y_rv_cat wv41]) wv41) (fun z1 z2 zq => ?_)
    obtain ⟨rfl, rfl⟩ := zq
    try dsimp only [Option.toList, HAppend.hAppend, Append.append, List.append]
    have hz := y_bind h
    clear h
    obtain ⟨s49, h50, h⟩ := hz
    refine Zpr (q_pr_y h50) rfl rfl rfl rfl ?_
    refine Van rfl lk0 rfl rfl ?_
    refine Van rfl lk0 rfl rfl ?_
    have hz := y_bind h
    clear h
    obtain ⟨v51, h52, h⟩ := hz
    have wv51 := (y_gv_ok h52).2
    refine Vgv h52 rfl rfl rfl ?_
    refine Vin rfl lk1 rfl ?_
    have hz := y_bind h
    clear h
    obtain ⟨⟨s53, r54⟩, h55, h⟩ := hz
    try dsimp only at h
    have hz := y_bind h
    clear h
    obtain ⟨b57, h58, h⟩ := hz
    cases y_isr_ok h58
    refine Vcs rfl rfl (Nat.le_of_ble_eq_true rfl) rfl rfl ⟨(Nat.le_of_ble_eq_true rfl), (by simp only [List.take, List.reverse_cons, List.reverse_nil, List.nil_append, List.cons_append, List.map_cons, List.map_nil, y_cati, y_catl, y_catr, y_catn, y_cata, y_rv_cat wv51, List.sum_cons, List.sum_nil]; decide +kernel)⟩ rfl ((c_150 o n) _ (by omega) _ _ _ _ _ h55 _ (by simp [lv_args, x_lget, q_y1, y_cati, y_catl, y_catr, y_rv_cat wv51]) (by simp [lv_args, x_lget, q_y1, y_cati, y_catl, y_catr, y_rv_cat wv51]) wv51) (fun z1 z2 zq => ?_)
    obtain ⟨rfl, rfl⟩ := zq
    try dsimp only [Option.toList, HAppend.hAppend, Append.append, List.append]
    have hz := y_bind h
    clear h
    obtain ⟨s59, h60, h⟩ := hz
    refine Zpr (q_pr_y h60) rfl rfl rfl rfl ?_
    refine Van rfl lk0 rfl rfl ?_
    refine Van rfl lk0 rfl rfl ?_
    have hz := y_bind h
    clear h
    obtain ⟨v61, h62, h⟩ := hz
    have wv61 := (y_gv_ok h62).2
    refine Vgv h62 rfl rfl rfl ?_
    refine Vin rfl lk1 rfl ?_
    have hz := y_bind h
    clear h
    obtain ⟨⟨s63, r64⟩, h65, h⟩ := hz
    try dsimp only at h
    have hz := y_bind h
    clear h
    obtain ⟨b67, h68, h⟩ := hz
    cases y_isr_ok h68
    refine Vcs rfl rfl (Nat.le_of_ble_eq_true rfl) rfl rfl ⟨(Nat.le_of_ble_eq_true rfl), (by simp only [List.take, List.reverse_cons, List.reverse_nil, List.nil_append, List.cons_append, List.map_cons, List.map_nil, y_cati, y_catl, y_catr, y_catn, y_cata, y_rv_cat wv61, List.sum_cons, List.sum_nil]; decide +kernel)⟩ rfl ((c_150 o n) _ (by omega) _ _ _ _ _ h65 _ (by simp [lv_args, x_lget, q_y1, y_cati, y_catl, y_catr, y_rv_cat wv61]) (by simp [lv_args, x_lget, q_y1, y_cati, y_catl, y_catr, y_rv_cat wv61]) wv61) (fun z1 z2 zq => ?_)
    obtain ⟨rfl, rfl⟩ := zq
    try dsimp only [Option.toList, HAppend.hAppend, Append.append, List.append]
    have hz := y_bind h
    clear h
    obtain ⟨s69, h70, h⟩ := hz
    refine Zpr (q_pr_y h70) rfl rfl rfl rfl ?_
    refine Van rfl lk0 rfl rfl ?_
    refine Van rfl lk0 rfl rfl ?_
    have hz := y_bind h
    clear h
    obtain ⟨v71, h72, h⟩ := hz
    have wv71 := (y_gv_ok h72).2
    refine Vgv h72 rfl rfl rfl ?_
    refine Vin rfl lk1 rfl ?_
    have hz := y_bind h
    clear h
    obtain ⟨⟨s73, r74⟩, h75, h⟩ := hz
    try dsimp only at h
    have hz := y_bind h
    clear h
    obtain ⟨b77, h78, h⟩ := hz
    cases y_isr_ok h78
    refine Vcs rfl rfl (Nat.le_of_ble_eq_true rfl) rfl rfl ⟨(Nat.le_of_ble_eq_true rfl), (by simp only [List.take, List.reverse_cons, List.reverse_nil, List.nil_append, List.cons_append, List.map_cons, List.map_nil, y_cati, y_catl, y_catr, y_catn, y_cata, y_rv_cat wv71, List.sum_cons, List.sum_nil]; decide +kernel)⟩ rfl ((c_151 o n) _ (by omega) _ _ _ _ _ h75 _ (by simp [lv_args, x_lget, q_y1, y_cati, y_catl, y_catr, y_rv_cat wv71]) (by simp [lv_args, x_lget, q_y1, y_cati, y_catl, y_catr, y_rv_cat wv71]) wv71) (fun z1 z2 zq => ?_)
    obtain ⟨rfl, rfl⟩ := zq
    try dsimp only [Option.toList, HAppend.hAppend, Append.append, List.append]
    have hz := y_bind h
    clear h
    obtain ⟨s79, h80, h⟩ := hz
    refine Zpr (q_pr_y h80) rfl rfl rfl rfl ?_
    refine Van rfl lk0 rfl rfl ?_
    refine Van rfl lk0 rfl rfl ?_
    have hz := y_bind h
    clear h
    obtain ⟨v81, h82, h⟩ := hz
    have wv81 := (y_gv_ok h82).2
    refine Vgv h82 rfl rfl rfl ?_
    refine Vin rfl lk1 rfl ?_
    have hz := y_bind h
    clear h
    obtain ⟨⟨s83, r84⟩, h85, h⟩ := hz
    try dsimp only at h
    have hz := y_bind h
    clear h
    obtain ⟨b87, h88, h⟩ := hz
    cases y_isr_ok h88
    refine Vcs rfl rfl (Nat.le_of_ble_eq_true rfl) rfl rfl ⟨(Nat.le_of_ble_eq_true rfl), (by simp only [List.take, List.reverse_cons, List.reverse_nil, List.nil_append, List.cons_append, List.map_cons, List.map_nil, y_cati, y_catl, y_catr, y_catn, y_cata, y_rv_cat wv81, List.sum_cons, List.sum_nil]; decide +kernel)⟩ rfl ((c_151 o n) _ (by omega) _ _ _ _ _ h85 _ (by simp [lv_args, x_lget, q_y1, y_cati, y_catl, y_catr, y_rv_cat wv81]) (by simp [lv_args, x_lget, q_y1, y_cati, y_catl, y_catr, y_rv_cat wv81]) wv81) (fun z1 z2 zq => ?_)
    obtain ⟨rfl, rfl⟩ := zq
    try dsimp only [Option.toList, HAppend.hAppend, Append.append, List.append]
    have hz := y_bind h
    clear h
    obtain ⟨s89, h90, h⟩ := hz
    refine Zpr (q_pr_y h90) rfl rfl rfl rfl ?_
    refine Van rfl lk0 rfl rfl ?_
    refine Van rfl lk0 rfl rfl ?_
    have hz := y_bind h
    clear h
    obtain ⟨v91, h92, h⟩ := hz
    have wv91 := (y_gv_ok h92).2
    refine Vgv h92 rfl rfl rfl ?_
    refine Vin rfl lk1 rfl ?_
    have hz := y_bind h
    clear h
    obtain ⟨⟨s93, r94⟩, h95, h⟩ := hz
    try dsimp only at h
    have hz := y_bind h
    clear h
    obtain ⟨b97, h98, h⟩ := hz
    cases y_isr_ok h98
    refine Vcs rfl rfl (Nat.le_of_ble_eq_true rfl) rfl rfl ⟨(Nat.le_of_ble_eq_true rfl), (by simp only [List.take, List.reverse_cons, List.reverse_nil, List.nil_append, List.cons_append, List.map_cons, List.map_nil, y_cati, y_catl, y_catr, y_catn, y_cata, y_rv_cat wv91, List.sum_cons, List.sum_nil]; decide +kernel)⟩ rfl ((c_151 o n) _ (by omega) _ _ _ _ _ h95 _ (by simp [lv_args, x_lget, q_y1, y_cati, y_catl, y_catr, y_rv_cat wv91]) (by simp [lv_args, x_lget, q_y1, y_cati, y_catl, y_catr, y_rv_cat wv91]) wv91) (fun z1 z2 zq => ?_)
    obtain ⟨rfl, rfl⟩ := zq
    try dsimp only [Option.toList, HAppend.hAppend, Append.append, List.append]
    have hz := y_bind h
    clear h
    obtain ⟨s99, h100, h⟩ := hz
    refine Zpr (q_pr_y h100) rfl rfl rfl rfl ?_
    cases h
    exact Yret rfl rfl rfl rfl rfl rfl rfl ⟨rfl, rfl⟩

/-- StepRows$Frames.depthOf -/
def g_51 (o : X_O) : Nat → Nat → Q_S → Nat → Int → Int → Option (Q_S × Int)
  | 0, _, _, _, _, _ => none
  | n + 1, 0, s, r0, i1, ti0 => (q_g (q_in i1)).bind fun _ => if ¬ i1 = (-1) then (q_gv s 5 (.ref r0) 5).bind fun v4 => (q_ia o s v4 i1).bind fun v6 => g_51 o n 1 s 0 0 (v6) else g_51 o n 1 s 0 0 (0)
  | n + 1, 1, s, r0, i1, ti0 => some (s, ti0)
  | _ + 1, _, _, _, _, _ => none
set_option maxRecDepth 100000 in
set_option maxHeartbeats 4000000 in
theorem c_51 (o : X_O) : ∀ n, (∀ (d : Nat) (hd : 0 ≤ d) (s : Q_S) (r0 : Nat) (i1 : Int) (ti0 : Int) (s9 : Q_S) (r : Int), g_51 o n 0 s r0 i1 ti0 = some (s9, r) → ∀ lv : X_L, x_lget lv 0 = some (.ref r0) → x_lget lv 1 = some (.int (Int32.ofInt i1)) → Y o d 51 0 lv [] (q_y s) (fun s1 r1 => s1 = q_y s9 ∧ r1 = some (.int (Int32.ofInt r)))) ∧
    (∀ (d : Nat) (hd : 0 ≤ d) (s : Q_S) (r0 : Nat) (i1 : Int) (ti0 : Int) (s9 : Q_S) (r : Int), g_51 o n 1 s r0 i1 ti0 = some (s9, r) → ∀ lv : X_L, True → Y o d 51 15 lv [.int (Int32.ofInt ti0)] (q_y s) (fun s1 r1 => s1 = q_y s9 ∧ r1 = some (.int (Int32.ofInt r)))) := by
  intro n
  induction n with
  | zero => exact ⟨fun d hd s _ _ _ s9 r h => (by simp only [g_51] at h; cases h), fun d hd s _ _ _ s9 r h => (by simp only [g_51] at h; cases h)⟩
  | succ n ih =>
    refine ⟨?_, ?_⟩
    · intro d hd s r0 i1 ti0 s9 r h lv lk0 lk1
      simp only [g_51] at h
      refine Vin rfl lk1 rfl ?_
      refine Vic (v := Int32.ofInt (-1)) rfl rfl rfl ?_
      have hz := y_bind h
      clear h
      obtain ⟨_, h2, h⟩ := hz
      have c1 := q_g_ok h2
      refine Uif (not_congr (q_eq c1 (by decide))) rfl rfl rfl rfl rfl rfl rfl (fun c3 => ?_) (fun c3 => ?_)
      · rw [if_pos c3] at h
        refine Van rfl lk0 rfl rfl ?_
        have hz := y_bind h
        clear h
        obtain ⟨v4, h5, h⟩ := hz
        have wv4 := (y_gv_ok h5).2
        refine Vgv h5 rfl rfl rfl ?_
        refine Vin rfl lk1 rfl ?_
        have hz := y_bind h
        clear h
        obtain ⟨v6, h7, h⟩ := hz
        refine Zia (q_ia_y h7) rfl rfl ?_
        exact ih.2 _ hd _ _ _ _ _ _ h lv trivial
      · rw [if_neg c3] at h
        refine Vic (v := Int32.ofInt 0) rfl rfl rfl ?_
        refine Ygo rfl rfl rfl rfl rfl rfl ?_
        exact ih.2 _ hd _ _ _ _ _ _ h lv trivial
    · intro d hd s r0 i1 ti0 s9 r h lv _
      simp only [g_51] at h
      cases h
      exact Yret rfl rfl rfl rfl rfl rfl rfl ⟨rfl, rfl⟩

/-- StepRows$Frames.add -/
def g_49 (o : X_O) : Nat → Nat → Q_S → Nat → Int → Int → Int → Int → Int → Int → Option (Q_S × Int)
  | 0, _, _, _, _, _, _, _, _, _ => none
  | n + 1, 0, s, r0, i1, i2, i3, i4, i5, ti0 => (q_gi s 5 (.ref r0) 11).bind fun v1 => (q_g (q_in v1)).bind fun _ => if ¬ v1 = (-1) then g_49 o n 1 s r0 (i1) (i2) (i3) (i4) 0 0 else (q_gi s 5 (.ref r0) 12).bind fun v6 => (q_gv s 5 (.ref r0) 0).bind fun v8 => (q_ln o s v8).bind fun v10 => (q_g (q_in v6 ∧ q_in v10)).bind fun _ => if v6 < v10 then g_49 o n 1 s r0 (i1) (i2) (i3) (i4) 0 0 else (q_gi s 5 (.ref r0) 12).bind fun v15 => (q_rcv s 5 (.ref r0)).bind fun b21 => (g_50 o n 0 s b21 (((v15 * 2) + 1))).bind fun q20 => g_49 o n 1 q20.1 r0 (i1) (i2) (i3) (i4) 0 0
  | n + 1, 1, s, r0, i1, i2, i3, i4, i5, ti0 => (q_gi s 5 (.ref r0) 11).bind fun v1 => (q_g (q_in v1)).bind fun _ => if ¬ v1 = (-1) then (q_gi s 5 (.ref r0) 11).bind fun v6 => g_49 o n 2 s r0 (i1) (i2) (i3) (i4) 0 (v6) else (q_gi s 5 (.ref r0) 12).bind fun v8 => g_49 o n 2 s r0 (i1) (i2) (i3) (i4) 0 (v8)
  | n + 1, 2, s, r0, i1, i2, i3, i4, i5, ti0 => (q_gi s 5 (.ref r0) 11).bind fun v1 => (q_g (q_in v1)).bind fun _ => if ¬ v1 = (-1) then (q_gv s 5 (.ref r0) 2).bind fun v6 => (q_ia o s v6 ti0).bind fun v8 => (q_pi s 5 (.ref r0) 11 v8).bind fun s10 => g_49 o n 3 s10 r0 (i1) (i2) (i3) (i4) (ti0) 0 else (q_gi s 5 (.ref r0) 12).bind fun v12 => (q_pi s 5 (.ref r0) 12 (v12 + 1)).bind fun s14 => g_49 o n 3 s14 r0 (i1) (i2) (i3) (i4) (ti0) 0
  | n + 1, 3, s, r0, i1, i2, i3, i4, i5, ti0 => (q_gv s 5 (.ref r0) 0).bind fun v1 => (q_is s v1 i5 i1).bind fun s3 => (q_gv s3 5 (.ref r0) 1).bind fun v5 => (q_is s3 v5 i5 i2).bind fun s7 => (q_gv s7 5 (.ref r0) 2).bind fun v9 => (q_is s7 v9 i5 i3).bind fun s11 => (q_gv s11 5 (.ref r0) 3).bind fun v13 => (q_is s11 v13 i5 (-1)).bind fun s15 => (q_gv s15 5 (.ref r0) 4).bind fun v17 => (q_is s15 v17 i5 (-1)).bind fun s19 => (q_gv s19 5 (.ref r0) 5).bind fun v21 => (q_rcv s19 5 (.ref r0)).bind fun b27 => (g_51 o n 0 s19 b27 (i3) 0).bind fun q26 => (q_is q26.1 v21 i5 (q26.2 + 1)).bind fun s31 => (q_g (q_in i1)).bind fun _ => if ¬ i1 = 18 then g_49 o n 4 s31 r0 0 0 (i3) (i4) (i5) 0 else (q_gi s31 5 (.ref r0) 13).bind fun v36 => (q_pi s31 5 (.ref r0) 13 (v36 + 1)).bind fun s38 => g_49 o n 4 s38 r0 0 0 (i3) (i4) (i5) 0
  | n + 1, 4, s, r0, i1, i2, i3, i4, i5, ti0 => (q_g (q_in i3)).bind fun _ => if ¬ i3 = (-1) then (q_g (q_in i4)).bind fun _ => if i4 = 0 then (q_gv s 5 (.ref r0) 3).bind fun v7 => (q_is s v7 i3 i5).bind fun s9 => g_49 o n 5 s9 0 0 0 0 0 (i5) 0 else (q_gv s 5 (.ref r0) 4).bind fun v11 => (q_is s v11 i3 i5).bind fun s13 => g_49 o n 5 s13 0 0 0 0 0 (i5) 0 else (q_pi s 5 (.ref r0) 10 i5).bind fun s15 => g_49 o n 5 s15 0 0 0 0 0 (i5) 0
  | n + 1, 5, s, r0, i1, i2, i3, i4, i5, ti0 => some (s, i5)
  | _ + 1, _, _, _, _, _, _, _, _, _ => none
set_option maxRecDepth 100000 in
set_option maxHeartbeats 4000000 in
theorem c_49 (o : X_O) : ∀ n, (∀ (d : Nat) (hd : 3 ≤ d) (s : Q_S) (r0 : Nat) (i1 : Int) (i2 : Int) (i3 : Int) (i4 : Int) (i5 : Int) (ti0 : Int) (s9 : Q_S) (r : Int), g_49 o n 0 s r0 i1 i2 i3 i4 i5 ti0 = some (s9, r) → ∀ lv : X_L, x_lget lv 0 = some (.ref r0) → x_lget lv 1 = some (.int (Int32.ofInt i1)) → x_lget lv 2 = some (.int (Int32.ofInt i2)) → x_lget lv 3 = some (.int (Int32.ofInt i3)) → x_lget lv 4 = some (.int (Int32.ofInt i4)) → Y o d 49 0 lv [] (q_y s) (fun s1 r1 => s1 = q_y s9 ∧ r1 = some (.int (Int32.ofInt r)))) ∧
    (∀ (d : Nat) (hd : 3 ≤ d) (s : Q_S) (r0 : Nat) (i1 : Int) (i2 : Int) (i3 : Int) (i4 : Int) (i5 : Int) (ti0 : Int) (s9 : Q_S) (r : Int), g_49 o n 1 s r0 i1 i2 i3 i4 i5 ti0 = some (s9, r) → ∀ lv : X_L, x_lget lv 0 = some (.ref r0) → x_lget lv 1 = some (.int (Int32.ofInt i1)) → x_lget lv 2 = some (.int (Int32.ofInt i2)) → x_lget lv 3 = some (.int (Int32.ofInt i3)) → x_lget lv 4 = some (.int (Int32.ofInt i4)) → Y o d 49 32 lv [] (q_y s) (fun s1 r1 => s1 = q_y s9 ∧ r1 = some (.int (Int32.ofInt r)))) ∧
    (∀ (d : Nat) (hd : 3 ≤ d) (s : Q_S) (r0 : Nat) (i1 : Int) (i2 : Int) (i3 : Int) (i4 : Int) (i5 : Int) (ti0 : Int) (s9 : Q_S) (r : Int), g_49 o n 2 s r0 i1 i2 i3 i4 i5 ti0 = some (s9, r) → ∀ lv : X_L, x_lget lv 0 = some (.ref r0) → x_lget lv 1 = some (.int (Int32.ofInt i1)) → x_lget lv 2 = some (.int (Int32.ofInt i2)) → x_lget lv 3 = some (.int (Int32.ofInt i3)) → x_lget lv 4 = some (.int (Int32.ofInt i4)) → Y o d 49 51 lv [.int (Int32.ofInt ti0)] (q_y s) (fun s1 r1 => s1 = q_y s9 ∧ r1 = some (.int (Int32.ofInt r)))) ∧
    (∀ (d : Nat) (hd : 3 ≤ d) (s : Q_S) (r0 : Nat) (i1 : Int) (i2 : Int) (i3 : Int) (i4 : Int) (i5 : Int) (ti0 : Int) (s9 : Q_S) (r : Int), g_49 o n 3 s r0 i1 i2 i3 i4 i5 ti0 = some (s9, r) → ∀ lv : X_L, x_lget lv 0 = some (.ref r0) → x_lget lv 1 = some (.int (Int32.ofInt i1)) → x_lget lv 2 = some (.int (Int32.ofInt i2)) → x_lget lv 3 = some (.int (Int32.ofInt i3)) → x_lget lv 4 = some (.int (Int32.ofInt i4)) → x_lget lv 5 = some (.int (Int32.ofInt i5)) → Y o d 49 85 lv [] (q_y s) (fun s1 r1 => s1 = q_y s9 ∧ r1 = some (.int (Int32.ofInt r)))) ∧
    (∀ (d : Nat) (hd : 3 ≤ d) (s : Q_S) (r0 : Nat) (i1 : Int) (i2 : Int) (i3 : Int) (i4 : Int) (i5 : Int) (ti0 : Int) (s9 : Q_S) (r : Int), g_49 o n 4 s r0 i1 i2 i3 i4 i5 ti0 = some (s9, r) → ∀ lv : X_L, x_lget lv 0 = some (.ref r0) → x_lget lv 3 = some (.int (Int32.ofInt i3)) → x_lget lv 4 = some (.int (Int32.ofInt i4)) → x_lget lv 5 = some (.int (Int32.ofInt i5)) → Y o d 49 155 lv [] (q_y s) (fun s1 r1 => s1 = q_y s9 ∧ r1 = some (.int (Int32.ofInt r)))) ∧
    (∀ (d : Nat) (hd : 3 ≤ d) (s : Q_S) (r0 : Nat) (i1 : Int) (i2 : Int) (i3 : Int) (i4 : Int) (i5 : Int) (ti0 : Int) (s9 : Q_S) (r : Int), g_49 o n 5 s r0 i1 i2 i3 i4 i5 ti0 = some (s9, r) → ∀ lv : X_L, x_lget lv 5 = some (.int (Int32.ofInt i5)) → Y o d 49 193 lv [] (q_y s) (fun s1 r1 => s1 = q_y s9 ∧ r1 = some (.int (Int32.ofInt r)))) := by
  intro n
  induction n with
  | zero => exact ⟨fun d hd s _ _ _ _ _ _ _ s9 r h => (by simp only [g_49] at h; cases h), fun d hd s _ _ _ _ _ _ _ s9 r h => (by simp only [g_49] at h; cases h), fun d hd s _ _ _ _ _ _ _ s9 r h => (by simp only [g_49] at h; cases h), fun d hd s _ _ _ _ _ _ _ s9 r h => (by simp only [g_49] at h; cases h), fun d hd s _ _ _ _ _ _ _ s9 r h => (by simp only [g_49] at h; cases h), fun d hd s _ _ _ _ _ _ _ s9 r h => (by simp only [g_49] at h; cases h)⟩
  | succ n ih =>
    refine ⟨?_, ?_, ?_, ?_, ?_, ?_⟩
    · intro d hd s r0 i1 i2 i3 i4 i5 ti0 s9 r h lv lk0 lk1 lk2 lk3 lk4
      obtain ⟨d, rfl⟩ : ∃ x, d = x + 1 := ⟨d - 1, by omega⟩
      simp only [g_49] at h
      refine Van rfl lk0 rfl rfl ?_
      have hz := y_bind h
      clear h
      obtain ⟨v1, h2, h⟩ := hz
      refine Zgi (q_gi_y h2) rfl rfl rfl ?_
      refine Vic (v := Int32.ofInt (-1)) rfl rfl rfl ?_
      have hz := y_bind h
      clear h
      obtain ⟨_, h4, h⟩ := hz
      have c3 := q_g_ok h4
      refine Uif (not_congr (q_eq c3 (by decide))) rfl rfl rfl rfl rfl rfl rfl (fun c5 => ?_) (fun c5 => ?_)
      · rw [if_pos c5] at h
        exact ih.2.1 _ hd _ _ _ _ _ _ _ _ _ _ h lv lk0 lk1 lk2 lk3 lk4
      · rw [if_neg c5] at h
        refine Van rfl lk0 rfl rfl ?_
        have hz := y_bind h
        clear h
        obtain ⟨v6, h7, h⟩ := hz
        refine Zgi (q_gi_y h7) rfl rfl rfl ?_
        refine Van rfl lk0 rfl rfl ?_
        have hz := y_bind h
        clear h
        obtain ⟨v8, h9, h⟩ := hz
        have wv8 := (y_gv_ok h9).2
        refine Vgv h9 rfl rfl rfl ?_
        have hz := y_bind h
        clear h
        obtain ⟨v10, h11, h⟩ := hz
        refine Zln (q_ln_y h11) rfl rfl ?_
        have hz := y_bind h
        clear h
        obtain ⟨_, h13, h⟩ := hz
        have c12 := q_g_ok h13
        refine Uif (q_lt c12.1 c12.2) rfl rfl rfl rfl rfl rfl rfl (fun c14 => ?_) (fun c14 => ?_)
        · rw [if_pos c14] at h
          exact ih.2.1 _ hd _ _ _ _ _ _ _ _ _ _ h lv lk0 lk1 lk2 lk3 lk4
        · rw [if_neg c14] at h
          refine Van rfl lk0 rfl rfl ?_
          refine Van rfl lk0 rfl rfl ?_
          have hz := y_bind h
          clear h
          obtain ⟨v15, h16, h⟩ := hz
          refine Zgi (q_gi_y h16) rfl rfl rfl ?_
          refine Vic (v := Int32.ofInt 2) rfl rfl rfl ?_
          refine Umul rfl rfl ?_
          refine Vic (v := Int32.ofInt 1) rfl rfl rfl ?_
          refine Uadd rfl rfl ?_
          have hz := y_bind h
          clear h
          obtain ⟨b21, h22, h⟩ := hz
          obtain ⟨eh22, fh22, wh22⟩ := y_rcv_ok h22
          cases eh22
          have hz := y_bind h
          clear h
          obtain ⟨⟨s17, r18⟩, h19, h⟩ := hz
          try dsimp only at h
          refine Vcv rfl rfl rfl wh22 rfl rfl ⟨(Nat.le_of_ble_eq_true rfl), (Nat.le_of_ble_eq_true rfl)⟩ rfl ((c_50 o n) _ (by omega) _ _ _ _ _ h19 _ rfl rfl) (fun z1 z2 zq => ?_)
          obtain ⟨rfl, rfl⟩ := zq
          try dsimp only [Option.toList, HAppend.hAppend, Append.append, List.append]
          exact ih.2.1 _ hd _ _ _ _ _ _ _ _ _ _ h lv lk0 lk1 lk2 lk3 lk4
    · intro d hd s r0 i1 i2 i3 i4 i5 ti0 s9 r h lv lk0 lk1 lk2 lk3 lk4
      obtain ⟨d, rfl⟩ : ∃ x, d = x + 1 := ⟨d - 1, by omega⟩
      simp only [g_49] at h
      refine Van rfl lk0 rfl rfl ?_
      have hz := y_bind h
      clear h
      obtain ⟨v1, h2, h⟩ := hz
      refine Zgi (q_gi_y h2) rfl rfl rfl ?_
      refine Vic (v := Int32.ofInt (-1)) rfl rfl rfl ?_
      have hz := y_bind h
      clear h
      obtain ⟨_, h4, h⟩ := hz
      have c3 := q_g_ok h4
      refine Uif (not_congr (q_eq c3 (by decide))) rfl rfl rfl rfl rfl rfl rfl (fun c5 => ?_) (fun c5 => ?_)
      · rw [if_pos c5] at h
        refine Van rfl lk0 rfl rfl ?_
        have hz := y_bind h
        clear h
        obtain ⟨v6, h7, h⟩ := hz
        refine Zgi (q_gi_y h7) rfl rfl rfl ?_
        exact ih.2.2.1 _ hd _ _ _ _ _ _ _ _ _ _ h lv lk0 lk1 lk2 lk3 lk4
      · rw [if_neg c5] at h
        refine Van rfl lk0 rfl rfl ?_
        have hz := y_bind h
        clear h
        obtain ⟨v8, h9, h⟩ := hz
        refine Zgi (q_gi_y h9) rfl rfl rfl ?_
        refine Ygo rfl rfl rfl rfl rfl rfl ?_
        exact ih.2.2.1 _ hd _ _ _ _ _ _ _ _ _ _ h lv lk0 lk1 lk2 lk3 lk4
    · intro d hd s r0 i1 i2 i3 i4 i5 ti0 s9 r h lv lk0 lk1 lk2 lk3 lk4
      obtain ⟨d, rfl⟩ : ∃ x, d = x + 1 := ⟨d - 1, by omega⟩
      simp only [g_49] at h
      refine Vsi rfl rfl (fun lv lk5 hk => ?_)
      have lk0 := hk 0 _ lk0 (by decide) (by decide) (Or.inl (by decide))
      have lk1 := hk 1 _ lk1 (by decide) (by decide) (Or.inl (by decide))
      have lk2 := hk 2 _ lk2 (by decide) (by decide) (Or.inl (by decide))
      have lk3 := hk 3 _ lk3 (by decide) (by decide) (Or.inl (by decide))
      have lk4 := hk 4 _ lk4 (by decide) (by decide) (Or.inr rfl)
      refine Van rfl lk0 rfl rfl ?_
      have hz := y_bind h
      clear h
      obtain ⟨v1, h2, h⟩ := hz
      refine Zgi (q_gi_y h2) rfl rfl rfl ?_
      refine Vic (v := Int32.ofInt (-1)) rfl rfl rfl ?_
      have hz := y_bind h
      clear h
      obtain ⟨_, h4, h⟩ := hz
      have c3 := q_g_ok h4
      refine Uif (not_congr (q_eq c3 (by decide))) rfl rfl rfl rfl rfl rfl rfl (fun c5 => ?_) (fun c5 => ?_)
      · rw [if_pos c5] at h
        refine Van rfl lk0 rfl rfl ?_
        refine Van rfl lk0 rfl rfl ?_
        have hz := y_bind h
        clear h
        obtain ⟨v6, h7, h⟩ := hz
        have wv6 := (y_gv_ok h7).2
        refine Vgv h7 rfl rfl rfl ?_
        refine Vi rfl lk5 rfl ?_
        have hz := y_bind h
        clear h
        obtain ⟨v8, h9, h⟩ := hz
        refine Zia (q_ia_y h9) rfl rfl ?_
        have hz := y_bind h
        clear h
        obtain ⟨s10, h11, h⟩ := hz
        refine Zpi (q_pi_y h11) rfl rfl rfl rfl ?_
        exact ih.2.2.2.1 _ hd _ _ _ _ _ _ _ _ _ _ h lv lk0 lk1 lk2 lk3 lk4 lk5
      · rw [if_neg c5] at h
        refine Van rfl lk0 rfl rfl ?_
        refine Vdup rfl rfl rfl ?_
        have hz := y_bind h
        clear h
        obtain ⟨v12, h13, h⟩ := hz
        refine Zgi (q_gi_y h13) rfl rfl rfl ?_
        refine Vic (v := Int32.ofInt 1) rfl rfl rfl ?_
        refine Uadd rfl rfl ?_
        have hz := y_bind h
        clear h
        obtain ⟨s14, h15, h⟩ := hz
        refine Zpi (q_pi_y h15) rfl rfl rfl rfl ?_
        refine Ygo rfl rfl rfl rfl rfl rfl ?_
        exact ih.2.2.2.1 _ hd _ _ _ _ _ _ _ _ _ _ h lv lk0 lk1 lk2 lk3 lk4 lk5
    · intro d hd s r0 i1 i2 i3 i4 i5 ti0 s9 r h lv lk0 lk1 lk2 lk3 lk4 lk5
      obtain ⟨d, rfl⟩ : ∃ x, d = x + 1 := ⟨d - 1, by omega⟩
      simp only [g_49] at h
      refine Van rfl lk0 rfl rfl ?_
      have hz := y_bind h
      clear h
      obtain ⟨v1, h2, h⟩ := hz
      have wv1 := (y_gv_ok h2).2
      refine Vgv h2 rfl rfl rfl ?_
      refine Vi rfl lk5 rfl ?_
      refine Vin rfl lk1 rfl ?_
      have hz := y_bind h
      clear h
      obtain ⟨s3, h4, h⟩ := hz
      refine Zis (q_is_y h4) rfl rfl ?_
      refine Van rfl lk0 rfl rfl ?_
      have hz := y_bind h
      clear h
      obtain ⟨v5, h6, h⟩ := hz
      have wv5 := (y_gv_ok h6).2
      refine Vgv h6 rfl rfl rfl ?_
      refine Vi rfl lk5 rfl ?_
      refine Vin rfl lk2 rfl ?_
      have hz := y_bind h
      clear h
      obtain ⟨s7, h8, h⟩ := hz
      refine Zis (q_is_y h8) rfl rfl ?_
      refine Van rfl lk0 rfl rfl ?_
      have hz := y_bind h
      clear h
      obtain ⟨v9, h10, h⟩ := hz
      have wv9 := (y_gv_ok h10).2
      refine Vgv h10 rfl rfl rfl ?_
      refine Vi rfl lk5 rfl ?_
      refine Vin rfl lk3 rfl ?_
      have hz := y_bind h
      clear h
      obtain ⟨s11, h12, h⟩ := hz
      refine Zis (q_is_y h12) rfl rfl ?_
      refine Van rfl lk0 rfl rfl ?_
      have hz := y_bind h
      clear h
      obtain ⟨v13, h14, h⟩ := hz
      have wv13 := (y_gv_ok h14).2
      refine Vgv h14 rfl rfl rfl ?_
      refine Vi rfl lk5 rfl ?_
      refine Vic (v := Int32.ofInt (-1)) rfl rfl rfl ?_
      have hz := y_bind h
      clear h
      obtain ⟨s15, h16, h⟩ := hz
      refine Zis (q_is_y h16) rfl rfl ?_
      refine Van rfl lk0 rfl rfl ?_
      have hz := y_bind h
      clear h
      obtain ⟨v17, h18, h⟩ := hz
      have wv17 := (y_gv_ok h18).2
      refine Vgv h18 rfl rfl rfl ?_
      refine Vi rfl lk5 rfl ?_
      refine Vic (v := Int32.ofInt (-1)) rfl rfl rfl ?_
      have hz := y_bind h
      clear h
      obtain ⟨s19, h20, h⟩ := hz
      refine Zis (q_is_y h20) rfl rfl ?_
      refine Van rfl lk0 rfl rfl ?_
      have hz := y_bind h
      clear h
      obtain ⟨v21, h22, h⟩ := hz
      have wv21 := (y_gv_ok h22).2
      refine Vgv h22 rfl rfl rfl ?_
      refine Vi rfl lk5 rfl ?_
      refine Van rfl lk0 rfl rfl ?_
      refine Vin rfl lk3 rfl ?_
      have hz := y_bind h
      clear h
      obtain ⟨b27, h28, h⟩ := hz
      obtain ⟨eh28, fh28, wh28⟩ := y_rcv_ok h28
      cases eh28
      have hz := y_bind h
      clear h
      obtain ⟨⟨s23, r24⟩, h25, h⟩ := hz
      try dsimp only at h
      refine Vcv rfl rfl rfl wh28 rfl rfl ⟨(by simp only [List.take, List.reverse_cons, List.reverse_nil, List.nil_append, List.cons_append, List.map_cons, List.map_nil, y_cati, y_catl, y_catr, y_catn, y_cata, y_rv_cat wv21, List.sum_cons, List.sum_nil]; decide +kernel), (Nat.le_of_ble_eq_true rfl)⟩ rfl ((c_51 o n).1 _ (by omega) _ _ _ _ _ _ h25 _ rfl rfl) (fun z1 z2 zq => ?_)
      obtain ⟨rfl, rfl⟩ := zq
      try dsimp only [Option.toList, HAppend.hAppend, Append.append, List.append]
      refine Vic (v := Int32.ofInt 1) rfl rfl rfl ?_
      refine Uadd rfl rfl ?_
      have hz := y_bind h
      clear h
      obtain ⟨s31, h32, h⟩ := hz
      refine Zis (q_is_y h32) rfl rfl ?_
      refine Vin rfl lk1 rfl ?_
      refine Vbp (v := Int32.ofInt 18) rfl (by decide) rfl ?_
      have hz := y_bind h
      clear h
      obtain ⟨_, h34, h⟩ := hz
      have c33 := q_g_ok h34
      refine Uif (not_congr (q_eq c33 (by decide))) rfl rfl rfl rfl rfl rfl rfl (fun c35 => ?_) (fun c35 => ?_)
      · rw [if_pos c35] at h
        exact ih.2.2.2.2.1 _ hd _ _ _ _ _ _ _ _ _ _ h lv lk0 lk3 lk4 lk5
      · rw [if_neg c35] at h
        refine Van rfl lk0 rfl rfl ?_
        refine Vdup rfl rfl rfl ?_
        have hz := y_bind h
        clear h
        obtain ⟨v36, h37, h⟩ := hz
        refine Zgi (q_gi_y h37) rfl rfl rfl ?_
        refine Vic (v := Int32.ofInt 1) rfl rfl rfl ?_
        refine Uadd rfl rfl ?_
        have hz := y_bind h
        clear h
        obtain ⟨s38, h39, h⟩ := hz
        refine Zpi (q_pi_y h39) rfl rfl rfl rfl ?_
        exact ih.2.2.2.2.1 _ hd _ _ _ _ _ _ _ _ _ _ h lv lk0 lk3 lk4 lk5
    · intro d hd s r0 i1 i2 i3 i4 i5 ti0 s9 r h lv lk0 lk3 lk4 lk5
      obtain ⟨d, rfl⟩ : ∃ x, d = x + 1 := ⟨d - 1, by omega⟩
      simp only [g_49] at h
      refine Vin rfl lk3 rfl ?_
      refine Vic (v := Int32.ofInt (-1)) rfl rfl rfl ?_
      have hz := y_bind h
      clear h
      obtain ⟨_, h2, h⟩ := hz
      have c1 := q_g_ok h2
      refine Uif (not_congr (q_eq c1 (by decide))) rfl rfl rfl rfl rfl rfl rfl (fun c3 => ?_) (fun c3 => ?_)
      · rw [if_pos c3] at h
        refine Vi rfl lk4 rfl ?_
        have hz := y_bind h
        clear h
        obtain ⟨_, h5, h⟩ := hz
        have c4 := q_g_ok h5
        refine Uif (q_eq0 c4) rfl rfl rfl rfl rfl rfl rfl (fun c6 => ?_) (fun c6 => ?_)
        · rw [if_pos c6] at h
          refine Van rfl lk0 rfl rfl ?_
          have hz := y_bind h
          clear h
          obtain ⟨v7, h8, h⟩ := hz
          have wv7 := (y_gv_ok h8).2
          refine Vgv h8 rfl rfl rfl ?_
          refine Vin rfl lk3 rfl ?_
          refine Vi rfl lk5 rfl ?_
          have hz := y_bind h
          clear h
          obtain ⟨s9, h10, h⟩ := hz
          refine Zis (q_is_y h10) rfl rfl ?_
          exact ih.2.2.2.2.2 _ hd _ _ _ _ _ _ _ _ _ _ h lv lk5
        · rw [if_neg c6] at h
          refine Van rfl lk0 rfl rfl ?_
          have hz := y_bind h
          clear h
          obtain ⟨v11, h12, h⟩ := hz
          have wv11 := (y_gv_ok h12).2
          refine Vgv h12 rfl rfl rfl ?_
          refine Vin rfl lk3 rfl ?_
          refine Vi rfl lk5 rfl ?_
          have hz := y_bind h
          clear h
          obtain ⟨s13, h14, h⟩ := hz
          refine Zis (q_is_y h14) rfl rfl ?_
          refine Ygo rfl rfl rfl rfl rfl rfl ?_
          exact ih.2.2.2.2.2 _ hd _ _ _ _ _ _ _ _ _ _ h lv lk5
      · rw [if_neg c3] at h
        refine Van rfl lk0 rfl rfl ?_
        refine Vi rfl lk5 rfl ?_
        have hz := y_bind h
        clear h
        obtain ⟨s15, h16, h⟩ := hz
        refine Zpi (q_pi_y h16) rfl rfl rfl rfl ?_
        refine Ygo rfl rfl rfl rfl rfl rfl ?_
        exact ih.2.2.2.2.2 _ hd _ _ _ _ _ _ _ _ _ _ h lv lk5
    · intro d hd s r0 i1 i2 i3 i4 i5 ti0 s9 r h lv lk5
      obtain ⟨d, rfl⟩ : ∃ x, d = x + 1 := ⟨d - 1, by omega⟩
      simp only [g_49] at h
      refine Vi rfl lk5 rfl ?_
      cases h
      exact Yret rfl rfl rfl rfl rfl rfl rfl ⟨rfl, rfl⟩

/-- StepRows$Run.beginIn -/
def g_42 (o : X_O) : Nat → Nat → Q_S → Nat → Value → Option (Q_S × Unit)
  | 0, _, _, _, _ => none
  | n + 1, 0, s, r0, a1 => (q_pi s 4 (.ref r0) 0 1).bind fun s1 => (q_pr s1 4 (.ref r0) 1 a1).bind fun s3 => (q_pr s3 4 (.ref r0) 2 .null).bind fun s5 => (q_pi s5 4 (.ref r0) 3 0).bind fun s7 => (q_pi s7 4 (.ref r0) 4 0).bind fun s9 => (q_gv s9 4 (.ref r0) 8).bind fun v11 => (g_148 o n 0 s9 (v11) (0) 0 0).bind fun q16 => (q_gv q16.1 4 (.ref r0) 9).bind fun v19 => (g_148 o n 0 q16.1 (v19) (0) 0 0).bind fun q24 => (q_gv q24.1 4 (.ref r0) 10).bind fun v27 => (g_149 o n 0 q24.1 (v27) ((-1)) 0 0).bind fun q32 => (q_gv q32.1 4 (.ref r0) 11).bind fun v35 => (q_rcv q32.1 5 v35).bind fun b41 => (g_48 o n 0 q32.1 b41).bind fun q40 => (q_gv q40.1 4 (.ref r0) 11).bind fun v45 => (q_rcv q40.1 5 v45).bind fun b51 => (g_49 o n 0 q40.1 b51 (40) (0) ((-1)) (0) 0 0).bind fun q50 => some (q50.1, ())
  | _ + 1, _, _, _, _ => none
set_option maxRecDepth 100000 in
set_option maxHeartbeats 4000000 in
theorem c_42 (o : X_O) : ∀ n, (∀ (d : Nat) (hd : 4 ≤ d) (s : Q_S) (r0 : Nat) (a1 : Value) (s9 : Q_S) (r : Unit), g_42 o n 0 s r0 a1 = some (s9, r) → ∀ lv : X_L, x_lget lv 0 = some (.ref r0) → x_lget lv 1 = some a1 → y_rv a1 = true → Y o d 42 0 lv [] (q_y s) (fun s1 r1 => s1 = q_y s9 ∧ r1 = none)) := by
  intro n
  induction n with
  | zero => exact fun d hd s _ _ s9 r h => (by simp only [g_42] at h; cases h)
  | succ n ih =>
    intro d hd s r0 a1 s9 r h lv lk0 lk1 rv1
    obtain ⟨d, rfl⟩ : ∃ x, d = x + 1 := ⟨d - 1, by omega⟩
    simp only [g_42] at h
    refine Van rfl lk0 rfl rfl ?_
    refine Vic (v := Int32.ofInt 1) rfl rfl rfl ?_
    have hz := y_bind h
    clear h
    obtain ⟨s1, h2, h⟩ := hz
    refine Zpi (q_pi_y h2) rfl rfl rfl rfl ?_
    refine Van rfl lk0 rfl rfl ?_
    refine Van rfl lk1 rv1 rfl ?_
    have hz := y_bind h
    clear h
    obtain ⟨s3, h4, h⟩ := hz
    refine Zpr (q_pr_y h4) rfl rfl rfl rfl ?_
    refine Van rfl lk0 rfl rfl ?_
    refine Ya rfl rfl rfl ?_
    have hz := y_bind h
    clear h
    obtain ⟨s5, h6, h⟩ := hz
    refine Zpr (q_pr_y h6) rfl rfl rfl rfl ?_
    refine Van rfl lk0 rfl rfl ?_
    refine Vic (v := Int32.ofInt 0) rfl rfl rfl ?_
    have hz := y_bind h
    clear h
    obtain ⟨s7, h8, h⟩ := hz
    refine Zpi (q_pi_y h8) rfl rfl rfl rfl ?_
    refine Van rfl lk0 rfl rfl ?_
    refine Vic (v := Int32.ofInt 0) rfl rfl rfl ?_
    have hz := y_bind h
    clear h
    obtain ⟨s9, h10, h⟩ := hz
    refine Zpi (q_pi_y h10) rfl rfl rfl rfl ?_
    refine Van rfl lk0 rfl rfl ?_
    have hz := y_bind h
    clear h
    obtain ⟨v11, h12, h⟩ := hz
    have wv11 := (y_gv_ok h12).2
    refine Vgv h12 rfl rfl rfl ?_
    refine Vlc (v := 0) rfl (by decide) rfl ?_
    have hz := y_bind h
    clear h
    obtain ⟨⟨s13, r14⟩, h15, h⟩ := hz
    try dsimp only at h
    refine Vcs rfl rfl (Nat.le_of_ble_eq_true rfl) rfl rfl ⟨(Nat.le_of_ble_eq_true rfl), (by simp only [List.take, List.reverse_cons, List.reverse_nil, List.nil_append, List.cons_append, List.map_cons, List.map_nil, y_cati, y_catl, y_catr, y_catn, y_cata, y_rv_cat wv11, List.sum_cons, List.sum_nil]; decide +kernel)⟩ rfl ((c_148 o n).1 _ (by omega) _ _ _ _ _ _ _ h15 _ (by simp [lv_args, x_lget, q_y1, y_cati, y_catl, y_catr, y_rv_cat wv11]) (by simp [lv_args, x_lget, q_y1, y_cati, y_catl, y_catr, y_rv_cat wv11]) wv11) (fun z1 z2 zq => ?_)
    obtain ⟨rfl, rfl⟩ := zq
    try dsimp only [Option.toList, HAppend.hAppend, Append.append, List.append]
    refine Van rfl lk0 rfl rfl ?_
    have hz := y_bind h
    clear h
    obtain ⟨v19, h20, h⟩ := hz
    have wv19 := (y_gv_ok h20).2
    refine Vgv h20 rfl rfl rfl ?_
    refine Vlc (v := 0) rfl (by decide) rfl ?_
    have hz := y_bind h
    clear h
    obtain ⟨⟨s21, r22⟩, h23, h⟩ := hz
    try dsimp only at h
    refine Vcs rfl rfl (Nat.le_of_ble_eq_true rfl) rfl rfl ⟨(Nat.le_of_ble_eq_true rfl), (by simp only [List.take, List.reverse_cons, List.reverse_nil, List.nil_append, List.cons_append, List.map_cons, List.map_nil, y_cati, y_catl, y_catr, y_catn, y_cata, y_rv_cat wv19, List.sum_cons, List.sum_nil]; decide +kernel)⟩ rfl ((c_148 o n).1 _ (by omega) _ _ _ _ _ _ _ h23 _ (by simp [lv_args, x_lget, q_y1, y_cati, y_catl, y_catr, y_rv_cat wv19]) (by simp [lv_args, x_lget, q_y1, y_cati, y_catl, y_catr, y_rv_cat wv19]) wv19) (fun z1 z2 zq => ?_)
    obtain ⟨rfl, rfl⟩ := zq
    try dsimp only [Option.toList, HAppend.hAppend, Append.append, List.append]
    refine Van rfl lk0 rfl rfl ?_
    have hz := y_bind h
    clear h
    obtain ⟨v27, h28, h⟩ := hz
    have wv27 := (y_gv_ok h28).2
    refine Vgv h28 rfl rfl rfl ?_
    refine Vic (v := Int32.ofInt (-1)) rfl rfl rfl ?_
    have hz := y_bind h
    clear h
    obtain ⟨⟨s29, r30⟩, h31, h⟩ := hz
    try dsimp only at h
    refine Vcs rfl rfl (Nat.le_of_ble_eq_true rfl) rfl rfl ⟨(Nat.le_of_ble_eq_true rfl), (by simp only [List.take, List.reverse_cons, List.reverse_nil, List.nil_append, List.cons_append, List.map_cons, List.map_nil, y_cati, y_catl, y_catr, y_catn, y_cata, y_rv_cat wv27, List.sum_cons, List.sum_nil]; decide +kernel)⟩ rfl ((c_149 o n).1 _ (by omega) _ _ _ _ _ _ _ h31 _ (by simp [lv_args, x_lget, q_y1, y_cati, y_catl, y_catr, y_rv_cat wv27]) (by simp [lv_args, x_lget, q_y1, y_cati, y_catl, y_catr, y_rv_cat wv27]) wv27) (fun z1 z2 zq => ?_)
    obtain ⟨rfl, rfl⟩ := zq
    try dsimp only [Option.toList, HAppend.hAppend, Append.append, List.append]
    refine Van rfl lk0 rfl rfl ?_
    have hz := y_bind h
    clear h
    obtain ⟨v35, h36, h⟩ := hz
    have wv35 := (y_gv_ok h36).2
    refine Vgv h36 rfl rfl rfl ?_
    have hz := y_bind h
    clear h
    obtain ⟨b41, h42, h⟩ := hz
    obtain ⟨eh42, fh42, wh42⟩ := y_rcv_ok h42
    cases eh42
    have hz := y_bind h
    clear h
    obtain ⟨⟨s37, r38⟩, h39, h⟩ := hz
    try dsimp only at h
    refine Vcv rfl rfl rfl wh42 rfl rfl ⟨(Nat.le_of_ble_eq_true rfl), (Nat.le_of_ble_eq_true rfl)⟩ rfl ((c_48 o n) _ (by omega) _ _ _ _ h39 _ rfl) (fun z1 z2 zq => ?_)
    obtain ⟨rfl, rfl⟩ := zq
    try dsimp only [Option.toList, HAppend.hAppend, Append.append, List.append]
    refine Van rfl lk0 rfl rfl ?_
    have hz := y_bind h
    clear h
    obtain ⟨v45, h46, h⟩ := hz
    have wv45 := (y_gv_ok h46).2
    refine Vgv h46 rfl rfl rfl ?_
    refine Vbp (v := Int32.ofInt 40) rfl (by decide) rfl ?_
    refine Vic (v := Int32.ofInt 0) rfl rfl rfl ?_
    refine Vic (v := Int32.ofInt (-1)) rfl rfl rfl ?_
    refine Vic (v := Int32.ofInt 0) rfl rfl rfl ?_
    have hz := y_bind h
    clear h
    obtain ⟨b51, h52, h⟩ := hz
    obtain ⟨eh52, fh52, wh52⟩ := y_rcv_ok h52
    cases eh52
    have hz := y_bind h
    clear h
    obtain ⟨⟨s47, r48⟩, h49, h⟩ := hz
    try dsimp only at h
    refine Vcv rfl rfl rfl wh52 rfl rfl ⟨(Nat.le_of_ble_eq_true rfl), (Nat.le_of_ble_eq_true rfl)⟩ rfl ((c_49 o n).1 _ (by omega) _ _ _ _ _ _ _ _ _ _ h49 _ rfl rfl rfl rfl rfl) (fun z1 z2 zq => ?_)
    obtain ⟨rfl, rfl⟩ := zq
    try dsimp only [Option.toList, HAppend.hAppend, Append.append, List.append]
    refine Vpop rfl rfl rfl ?_
    cases h
    exact Yret rfl rfl rfl rfl rfl rfl rfl ⟨rfl, rfl⟩

/-- StepRows.start -/
def g_6 (o : X_O) : Nat → Nat → Q_S → Nat → Int → Option (Q_S × Int)
  | 0, _, _, _, _ => none
  | n + 1, 0, s, r0, i1 => (q_rcv s 0 (.ref r0)).bind fun b5 => (g_7 o n 0 s b5 (i1) 0).bind fun q4 => (q_g (q_in q4.2)).bind fun _ => if ¬ q4.2 = 0 then (q_gv q4.1 0 (.ref r0) 5).bind fun v12 => (q_gv q4.1 0 (.ref r0) 2).bind fun v14 => (q_aa q4.1 v14 i1).bind fun v16 => (q_rcv q4.1 4 v12).bind fun b22 => (g_42 o n 0 q4.1 b22 (v16)).bind fun q21 => some (q21.1, 0) else some (q4.1, (-1))
  | _ + 1, _, _, _, _ => none
set_option maxRecDepth 100000 in
set_option maxHeartbeats 4000000 in
theorem c_6 (o : X_O) : ∀ n, (∀ (d : Nat) (hd : 5 ≤ d) (s : Q_S) (r0 : Nat) (i1 : Int) (s9 : Q_S) (r : Int), g_6 o n 0 s r0 i1 = some (s9, r) → ∀ lv : X_L, x_lget lv 0 = some (.ref r0) → x_lget lv 1 = some (.int (Int32.ofInt i1)) → Y o d 6 0 lv [] (q_y s) (fun s1 r1 => s1 = q_y s9 ∧ r1 = some (.int (Int32.ofInt r)))) := by
  intro n
  induction n with
  | zero => exact fun d hd s _ _ s9 r h => (by simp only [g_6] at h; cases h)
  | succ n ih =>
    intro d hd s r0 i1 s9 r h lv lk0 lk1
    obtain ⟨d, rfl⟩ : ∃ x, d = x + 1 := ⟨d - 1, by omega⟩
    simp only [g_6] at h
    refine Van rfl lk0 rfl rfl ?_
    refine Vin rfl lk1 rfl ?_
    have hz := y_bind h
    clear h
    obtain ⟨b5, h6, h⟩ := hz
    obtain ⟨eh6, fh6, wh6⟩ := y_rcv_ok h6
    cases eh6
    have hz := y_bind h
    clear h
    obtain ⟨⟨s1, r2⟩, h3, h⟩ := hz
    try dsimp only at h
    refine Vcv rfl rfl rfl wh6 rfl rfl ⟨(Nat.le_of_ble_eq_true rfl), (Nat.le_of_ble_eq_true rfl)⟩ rfl ((c_7 o n).1 _ (by omega) _ _ _ _ _ _ h3 _ rfl rfl) (fun z1 z2 zq => ?_)
    obtain ⟨rfl, rfl⟩ := zq
    try dsimp only [Option.toList, HAppend.hAppend, Append.append, List.append]
    have hz := y_bind h
    clear h
    obtain ⟨_, h10, h⟩ := hz
    have c9 := q_g_ok h10
    refine Uif (not_congr (q_eq0 c9)) rfl rfl rfl rfl rfl rfl rfl (fun c11 => ?_) (fun c11 => ?_)
    · rw [if_pos c11] at h
      refine Van rfl lk0 rfl rfl ?_
      have hz := y_bind h
      clear h
      obtain ⟨v12, h13, h⟩ := hz
      have wv12 := (y_gv_ok h13).2
      refine Vgv h13 rfl rfl rfl ?_
      refine Van rfl lk0 rfl rfl ?_
      have hz := y_bind h
      clear h
      obtain ⟨v14, h15, h⟩ := hz
      have wv14 := (y_gv_ok h15).2
      refine Vgv h15 rfl rfl rfl ?_
      refine Vin rfl lk1 rfl ?_
      have hz := y_bind h
      clear h
      obtain ⟨v16, h17, h⟩ := hz
      have wv16 := y_aa_rv (q_aa_y h17)
      refine Zaa (q_aa_y h17) rfl rfl ?_
      have hz := y_bind h
      clear h
      obtain ⟨b22, h23, h⟩ := hz
      obtain ⟨eh23, fh23, wh23⟩ := y_rcv_ok h23
      cases eh23
      have hz := y_bind h
      clear h
      obtain ⟨⟨s18, r19⟩, h20, h⟩ := hz
      try dsimp only at h
      refine Vcv rfl rfl rfl wh23 rfl rfl ⟨(Nat.le_of_ble_eq_true rfl), (by simp only [List.take, List.reverse_cons, List.reverse_nil, List.nil_append, List.cons_append, List.map_cons, List.map_nil, y_cati, y_catl, y_catr, y_catn, y_cata, y_rv_cat wv16, List.sum_cons, List.sum_nil]; decide +kernel)⟩ rfl ((c_42 o n) _ (by omega) _ _ _ _ _ h20 _ (by simp [lv_args, x_lget, q_y1, y_cati, y_catl, y_catr, y_rv_cat wv16]) (by simp [lv_args, x_lget, q_y1, y_cati, y_catl, y_catr, y_rv_cat wv16]) wv16) (fun z1 z2 zq => ?_)
      obtain ⟨rfl, rfl⟩ := zq
      try dsimp only [Option.toList, HAppend.hAppend, Append.append, List.append]
      refine Vic (v := Int32.ofInt 0) rfl rfl rfl ?_
      cases h
      exact Yret rfl rfl rfl rfl rfl rfl rfl ⟨rfl, rfl⟩
    · rw [if_neg c11] at h
      refine Vic (v := Int32.ofInt (-1)) rfl rfl rfl ?_
      cases h
      exact Yret rfl rfl rfl rfl rfl rfl rfl ⟨rfl, rfl⟩

/-- StepRows$Run.goesOn -/
def g_43 (o : X_O) : Nat → Nat → Q_S → Nat → Int → Option (Q_S × Int)
  | 0, _, _, _, _ => none
  | n + 1, 0, s, r0, ti0 => (q_gi s 4 (.ref r0) 0).bind fun v1 => (q_g (q_in v1)).bind fun _ => if ¬ v1 = 1 then g_43 o n 1 s 0 (0) else g_43 o n 1 s 0 (1)
  | n + 1, 1, s, r0, ti0 => (q_g (ti0 = 0 ∨ ti0 = 1)).bind fun _ => some (s, ti0)
  | _ + 1, _, _, _, _ => none
set_option maxRecDepth 100000 in
set_option maxHeartbeats 4000000 in
theorem c_43 (o : X_O) : ∀ n, (∀ (d : Nat) (hd : 0 ≤ d) (s : Q_S) (r0 : Nat) (ti0 : Int) (s9 : Q_S) (r : Int), g_43 o n 0 s r0 ti0 = some (s9, r) → ∀ lv : X_L, x_lget lv 0 = some (.ref r0) → Y o d 43 0 lv [] (q_y s) (fun s1 r1 => s1 = q_y s9 ∧ r1 = some (.int (Int32.ofInt r)))) ∧
    (∀ (d : Nat) (hd : 0 ≤ d) (s : Q_S) (r0 : Nat) (ti0 : Int) (s9 : Q_S) (r : Int), g_43 o n 1 s r0 ti0 = some (s9, r) → ∀ lv : X_L, True → Y o d 43 13 lv [.int (Int32.ofInt ti0)] (q_y s) (fun s1 r1 => s1 = q_y s9 ∧ r1 = some (.int (Int32.ofInt r)))) := by
  intro n
  induction n with
  | zero => exact ⟨fun d hd s _ _ s9 r h => (by simp only [g_43] at h; cases h), fun d hd s _ _ s9 r h => (by simp only [g_43] at h; cases h)⟩
  | succ n ih =>
    refine ⟨?_, ?_⟩
    · intro d hd s r0 ti0 s9 r h lv lk0
      simp only [g_43] at h
      refine Van rfl lk0 rfl rfl ?_
      have hz := y_bind h
      clear h
      obtain ⟨v1, h2, h⟩ := hz
      refine Zgi (q_gi_y h2) rfl rfl rfl ?_
      refine Vic (v := Int32.ofInt 1) rfl rfl rfl ?_
      have hz := y_bind h
      clear h
      obtain ⟨_, h4, h⟩ := hz
      have c3 := q_g_ok h4
      refine Uif (not_congr (q_eq c3 (by decide))) rfl rfl rfl rfl rfl rfl rfl (fun c5 => ?_) (fun c5 => ?_)
      · rw [if_pos c5] at h
        refine Vic (v := Int32.ofInt 0) rfl rfl rfl ?_
        exact ih.2 _ hd _ _ _ _ _ h lv trivial
      · rw [if_neg c5] at h
        refine Vic (v := Int32.ofInt 1) rfl rfl rfl ?_
        refine Ygo rfl rfl rfl rfl rfl rfl ?_
        exact ih.2 _ hd _ _ _ _ _ h lv trivial
    · intro d hd s r0 ti0 s9 r h lv _
      simp only [g_43] at h
      have hz := y_bind h
      clear h
      obtain ⟨_, h2, h⟩ := hz
      have c1 := q_g_ok h2
      cases h
      exact Yret rfl rfl rfl rfl rfl rfl (if_pos (q_bool c1)) ⟨rfl, rfl⟩

/-- StepRows$Walker.leafNumber -/
def g_64 (o : X_O) : Nat → Nat → Q_S → Nat → Int → Int64 → Option (Q_S × Int64)
  | 0, _, _, _, _, _ => none
  | n + 1, 0, s, r0, i1, l2 => (q_g (q_in i1)).bind fun _ => if i1 = 31 then (q_gv s 6 (.ref r0) 2).bind fun v3 => (q_la s v3 (l2).toInt).bind fun v5 => some (s, v5) else if i1 = 32 then (q_gv s 6 (.ref r0) 0).bind fun v8 => (q_gv s 4 v8 8).bind fun v10 => (q_la s v10 (l2).toInt).bind fun v12 => some (s, v12) else some (s, l2)
  | _ + 1, _, _, _, _, _ => none
set_option maxRecDepth 100000 in
set_option maxHeartbeats 4000000 in
theorem c_64 (o : X_O) : ∀ n, (∀ (d : Nat) (hd : 0 ≤ d) (s : Q_S) (r0 : Nat) (i1 : Int) (l2 : Int64) (s9 : Q_S) (r : Int64), g_64 o n 0 s r0 i1 l2 = some (s9, r) → ∀ lv : X_L, x_lget lv 0 = some (.ref r0) → x_lget lv 1 = some (.int (Int32.ofInt i1)) → x_lget lv 2 = some (.long l2) → Y o d 64 0 lv [] (q_y s) (fun s1 r1 => s1 = q_y s9 ∧ r1 = some (.long r))) := by
  intro n
  induction n with
  | zero => exact fun d hd s _ _ _ s9 r h => (by simp only [g_64] at h; cases h)
  | succ n ih =>
    intro d hd s r0 i1 l2 s9 r h lv lk0 lk1 lk2
    simp only [g_64] at h
    refine Vin rfl lk1 rfl ?_
    have hz := y_bind h
    clear h
    obtain ⟨_, h2, h⟩ := hz
    have c1 := q_g_ok h2
    by_cases c7 : i1 = 31
    · rw [if_pos c7] at h
      refine Vls rfl (off := 27) (by rw [q_ti c1]; simp [Op.lookupswitch.offset, c7]) rfl ?_
      refine Van rfl lk0 rfl rfl ?_
      have hz := y_bind h
      clear h
      obtain ⟨v3, h4, h⟩ := hz
      have wv3 := (y_gv_ok h4).2
      refine Vgv h4 rfl rfl rfl ?_
      refine Vln rfl lk2 rfl ?_
      refine Ul2i rfl rfl ?_
      have hz := y_bind h
      clear h
      obtain ⟨v5, h6, h⟩ := hz
      refine Zla (q_la_y h6) rfl rfl ?_
      cases h
      exact Yret rfl rfl rfl rfl rfl rfl rfl ⟨rfl, rfl⟩
    rw [if_neg c7] at h
    by_cases c14 : i1 = 32
    · rw [if_pos c14] at h
      refine Vls rfl (off := 35) (by rw [q_ti c1]; simp [Op.lookupswitch.offset, Ne.symm c7, c14]) rfl ?_
      refine Van rfl lk0 rfl rfl ?_
      have hz := y_bind h
      clear h
      obtain ⟨v8, h9, h⟩ := hz
      have wv8 := (y_gv_ok h9).2
      refine Vgv h9 rfl rfl rfl ?_
      have hz := y_bind h
      clear h
      obtain ⟨v10, h11, h⟩ := hz
      have wv10 := (y_gv_ok h11).2
      refine Vgv h11 rfl rfl rfl ?_
      refine Vln rfl lk2 rfl ?_
      refine Ul2i rfl rfl ?_
      have hz := y_bind h
      clear h
      obtain ⟨v12, h13, h⟩ := hz
      refine Zla (q_la_y h13) rfl rfl ?_
      cases h
      exact Yret rfl rfl rfl rfl rfl rfl rfl ⟨rfl, rfl⟩
    rw [if_neg c14] at h
    refine Vls rfl (off := 46) (by rw [q_ti c1]; simp [Op.lookupswitch.offset, Ne.symm c7, Ne.symm c14]) rfl ?_
    refine Vln rfl lk2 rfl ?_
    cases h
    exact Yret rfl rfl rfl rfl rfl rfl rfl ⟨rfl, rfl⟩

/-- StepRows$Run.hold -/
def g_44 (o : X_O) : Nat → Nat → Q_S → Nat → Int → Int → Option (Q_S × Unit)
  | 0, _, _, _, _, _ => none
  | n + 1, 0, s, r0, i1, i2 => (q_pi s 4 (.ref r0) 0 2).bind fun s1 => (q_gi s1 4 (.ref r0) 3).bind fun v3 => (q_pi s1 4 (.ref r0) 5 v3).bind fun s5 => (q_pi s5 4 (.ref r0) 6 i1).bind fun s7 => (q_pi s7 4 (.ref r0) 7 i2).bind fun s9 => some (s9, ())
  | _ + 1, _, _, _, _, _ => none
set_option maxRecDepth 100000 in
set_option maxHeartbeats 4000000 in
theorem c_44 (o : X_O) : ∀ n, (∀ (d : Nat) (hd : 0 ≤ d) (s : Q_S) (r0 : Nat) (i1 : Int) (i2 : Int) (s9 : Q_S) (r : Unit), g_44 o n 0 s r0 i1 i2 = some (s9, r) → ∀ lv : X_L, x_lget lv 0 = some (.ref r0) → x_lget lv 1 = some (.int (Int32.ofInt i1)) → x_lget lv 2 = some (.int (Int32.ofInt i2)) → Y o d 44 0 lv [] (q_y s) (fun s1 r1 => s1 = q_y s9 ∧ r1 = none)) := by
  intro n
  induction n with
  | zero => exact fun d hd s _ _ _ s9 r h => (by simp only [g_44] at h; cases h)
  | succ n ih =>
    intro d hd s r0 i1 i2 s9 r h lv lk0 lk1 lk2
    simp only [g_44] at h
    refine Van rfl lk0 rfl rfl ?_
    refine Vic (v := Int32.ofInt 2) rfl rfl rfl ?_
    have hz := y_bind h
    clear h
    obtain ⟨s1, h2, h⟩ := hz
    refine Zpi (q_pi_y h2) rfl rfl rfl rfl ?_
    refine Van rfl lk0 rfl rfl ?_
    refine Van rfl lk0 rfl rfl ?_
    have hz := y_bind h
    clear h
    obtain ⟨v3, h4, h⟩ := hz
    refine Zgi (q_gi_y h4) rfl rfl rfl ?_
    have hz := y_bind h
    clear h
    obtain ⟨s5, h6, h⟩ := hz
    refine Zpi (q_pi_y h6) rfl rfl rfl rfl ?_
    refine Van rfl lk0 rfl rfl ?_
    refine Vin rfl lk1 rfl ?_
    have hz := y_bind h
    clear h
    obtain ⟨s7, h8, h⟩ := hz
    refine Zpi (q_pi_y h8) rfl rfl rfl rfl ?_
    refine Van rfl lk0 rfl rfl ?_
    refine Vin rfl lk2 rfl ?_
    have hz := y_bind h
    clear h
    obtain ⟨s9, h10, h⟩ := hz
    refine Zpi (q_pi_y h10) rfl rfl rfl rfl ?_
    cases h
    exact Yret rfl rfl rfl rfl rfl rfl rfl ⟨rfl, rfl⟩

/-- StepRows$Walker.lookUp -/
def g_65 (o : X_O) : Nat → Nat → Q_S → Nat → Int64 → Int → Option (Q_S × Int64)
  | 0, _, _, _, _, _ => none
  | n + 1, 0, s, r0, l1, i3 => if l1 < 0 then g_65 o n 1 s r0 0 (i3) else (q_ln o s (.retAddr 2)).bind fun v2 => (q_g (q_in v2)).bind fun _ => if l1 < (Int64.ofInt v2) then (q_ia o s (.retAddr 2) (l1).toInt).bind fun v7 => (q_g (q_in v7)).bind fun _ => some (s, (Int64.ofInt v7)) else g_65 o n 1 s r0 0 (i3)
  | n + 1, 1, s, r0, l1, i3 => (q_gv s 6 (.ref r0) 0).bind fun v1 => (q_rcv s 4 v1).bind fun b7 => (g_44 o n 0 s b7 (2) (i3)).bind fun q6 => some (q6.1, 0)
  | _ + 1, _, _, _, _, _ => none
set_option maxRecDepth 100000 in
set_option maxHeartbeats 4000000 in
theorem c_65 (o : X_O) : ∀ n, (∀ (d : Nat) (hd : 1 ≤ d) (s : Q_S) (r0 : Nat) (l1 : Int64) (i3 : Int) (s9 : Q_S) (r : Int64), g_65 o n 0 s r0 l1 i3 = some (s9, r) → ∀ lv : X_L, x_lget lv 0 = some (.ref r0) → x_lget lv 1 = some (.long l1) → x_lget lv 3 = some (.int (Int32.ofInt i3)) → Y o d 65 0 lv [] (q_y s) (fun s1 r1 => s1 = q_y s9 ∧ r1 = some (.long r))) ∧
    (∀ (d : Nat) (hd : 1 ≤ d) (s : Q_S) (r0 : Nat) (l1 : Int64) (i3 : Int) (s9 : Q_S) (r : Int64), g_65 o n 1 s r0 l1 i3 = some (s9, r) → ∀ lv : X_L, x_lget lv 0 = some (.ref r0) → x_lget lv 3 = some (.int (Int32.ofInt i3)) → Y o d 65 16 lv [] (q_y s) (fun s1 r1 => s1 = q_y s9 ∧ r1 = some (.long r))) := by
  intro n
  induction n with
  | zero => exact ⟨fun d hd s _ _ _ s9 r h => (by simp only [g_65] at h; cases h), fun d hd s _ _ _ s9 r h => (by simp only [g_65] at h; cases h)⟩
  | succ n ih =>
    refine ⟨?_, ?_⟩
    · intro d hd s r0 l1 i3 s9 r h lv lk0 lk1 lk3
      obtain ⟨d, rfl⟩ : ∃ x, d = x + 1 := ⟨d - 1, by omega⟩
      simp only [g_65] at h
      refine Vln rfl lk1 rfl ?_
      refine Vlc (v := 0) rfl (by decide) rfl ?_
      refine Ya rfl rfl rfl ?_
      refine Uif (lg_cmp_lt _ _) rfl rfl rfl rfl rfl rfl rfl (fun c1 => ?_) (fun c1 => ?_)
      · rw [if_pos c1] at h
        exact ih.2 _ hd _ _ _ _ _ _ h lv lk0 lk3
      · rw [if_neg c1] at h
        refine Vln rfl lk1 rfl ?_
        refine Yk (v := .retAddr 2) rfl rfl rfl rfl rfl ?_
        have hz := y_bind h
        clear h
        obtain ⟨v2, h3, h⟩ := hz
        refine Zln (q_ln_y h3) rfl rfl ?_
        have hz := y_bind h
        clear h
        obtain ⟨_, h5, h⟩ := hz
        have c4 := q_g_ok h5
        refine Ui2l c4 rfl rfl ?_
        refine Ya rfl rfl rfl ?_
        refine Uif (lg_cmp_lt _ _) rfl rfl rfl rfl rfl rfl rfl (fun c6 => ?_) (fun c6 => ?_)
        · rw [if_pos c6] at h
          refine Yk (v := .retAddr 2) rfl rfl rfl rfl rfl ?_
          refine Vln rfl lk1 rfl ?_
          refine Ul2i rfl rfl ?_
          have hz := y_bind h
          clear h
          obtain ⟨v7, h8, h⟩ := hz
          refine Zia (q_ia_y h8) rfl rfl ?_
          have hz := y_bind h
          clear h
          obtain ⟨_, h10, h⟩ := hz
          have c9 := q_g_ok h10
          refine Ui2l c9 rfl rfl ?_
          cases h
          exact Yret rfl rfl rfl rfl rfl rfl rfl ⟨rfl, rfl⟩
        · rw [if_neg c6] at h
          exact ih.2 _ hd _ _ _ _ _ _ h lv lk0 lk3
    · intro d hd s r0 l1 i3 s9 r h lv lk0 lk3
      obtain ⟨d, rfl⟩ : ∃ x, d = x + 1 := ⟨d - 1, by omega⟩
      simp only [g_65] at h
      refine Van rfl lk0 rfl rfl ?_
      have hz := y_bind h
      clear h
      obtain ⟨v1, h2, h⟩ := hz
      have wv1 := (y_gv_ok h2).2
      refine Vgv h2 rfl rfl rfl ?_
      refine Vic (v := Int32.ofInt 2) rfl rfl rfl ?_
      refine Vin rfl lk3 rfl ?_
      have hz := y_bind h
      clear h
      obtain ⟨b7, h8, h⟩ := hz
      obtain ⟨eh8, fh8, wh8⟩ := y_rcv_ok h8
      cases eh8
      have hz := y_bind h
      clear h
      obtain ⟨⟨s3, r4⟩, h5, h⟩ := hz
      try dsimp only at h
      refine Vcv rfl rfl rfl wh8 rfl rfl ⟨(Nat.le_of_ble_eq_true rfl), (Nat.le_of_ble_eq_true rfl)⟩ rfl ((c_44 o n) _ (by omega) _ _ _ _ _ _ h5 _ rfl rfl rfl) (fun z1 z2 zq => ?_)
      obtain ⟨rfl, rfl⟩ := zq
      try dsimp only [Option.toList, HAppend.hAppend, Append.append, List.append]
      refine Vlc (v := 0) rfl (by decide) rfl ?_
      cases h
      exact Yret rfl rfl rfl rfl rfl rfl rfl ⟨rfl, rfl⟩

/-- StepRows$Walker.divide -/
def g_67 (o : X_O) : Nat → Nat → Q_S → Nat → Int → Int64 → Int64 → Option (Q_S × Int64)
  | 0, _, _, _, _, _, _ => none
  | n + 1, 0, s, r0, i1, l2, l4 => if ¬ l4 = 0 then (q_g (¬ l4 = 0)).bind fun _ => some (s, (l2 / l4)) else (q_gv s 6 (.ref r0) 0).bind fun v4 => (q_rcv s 4 v4).bind fun b10 => (g_44 o n 0 s b10 (1) (i1)).bind fun q9 => some (q9.1, 0)
  | _ + 1, _, _, _, _, _, _ => none
set_option maxRecDepth 100000 in
set_option maxHeartbeats 4000000 in
theorem c_67 (o : X_O) : ∀ n, (∀ (d : Nat) (hd : 1 ≤ d) (s : Q_S) (r0 : Nat) (i1 : Int) (l2 : Int64) (l4 : Int64) (s9 : Q_S) (r : Int64), g_67 o n 0 s r0 i1 l2 l4 = some (s9, r) → ∀ lv : X_L, x_lget lv 0 = some (.ref r0) → x_lget lv 1 = some (.int (Int32.ofInt i1)) → x_lget lv 2 = some (.long l2) → x_lget lv 4 = some (.long l4) → Y o d 67 0 lv [] (q_y s) (fun s1 r1 => s1 = q_y s9 ∧ r1 = some (.long r))) := by
  intro n
  induction n with
  | zero => exact fun d hd s _ _ _ _ s9 r h => (by simp only [g_67] at h; cases h)
  | succ n ih =>
    intro d hd s r0 i1 l2 l4 s9 r h lv lk0 lk1 lk2 lk4
    obtain ⟨d, rfl⟩ : ∃ x, d = x + 1 := ⟨d - 1, by omega⟩
    simp only [g_67] at h
    refine Vl rfl lk4 rfl ?_
    refine Vlc (v := 0) rfl (by decide) rfl ?_
    refine Ya rfl rfl rfl ?_
    refine Uif (not_congr (lg_cmp_eq _ _)) rfl rfl rfl rfl rfl rfl rfl (fun c1 => ?_) (fun c1 => ?_)
    · rw [if_pos c1] at h
      refine Vln rfl lk2 rfl ?_
      refine Vl rfl lk4 rfl ?_
      have hz := y_bind h
      clear h
      obtain ⟨_, h3, h⟩ := hz
      have c2 := q_g_ok h3
      refine Ya rfl (if_neg c2) rfl ?_
      cases h
      exact Yret rfl rfl rfl rfl rfl rfl rfl ⟨rfl, rfl⟩
    · rw [if_neg c1] at h
      refine Van rfl lk0 rfl rfl ?_
      have hz := y_bind h
      clear h
      obtain ⟨v4, h5, h⟩ := hz
      have wv4 := (y_gv_ok h5).2
      refine Vgv h5 rfl rfl rfl ?_
      refine Vic (v := Int32.ofInt 1) rfl rfl rfl ?_
      refine Vin rfl lk1 rfl ?_
      have hz := y_bind h
      clear h
      obtain ⟨b10, h11, h⟩ := hz
      obtain ⟨eh11, fh11, wh11⟩ := y_rcv_ok h11
      cases eh11
      have hz := y_bind h
      clear h
      obtain ⟨⟨s6, r7⟩, h8, h⟩ := hz
      try dsimp only at h
      refine Vcv rfl rfl rfl wh11 rfl rfl ⟨(Nat.le_of_ble_eq_true rfl), (Nat.le_of_ble_eq_true rfl)⟩ rfl ((c_44 o n) _ (by omega) _ _ _ _ _ _ h8 _ rfl rfl rfl) (fun z1 z2 zq => ?_)
      obtain ⟨rfl, rfl⟩ := zq
      try dsimp only [Option.toList, HAppend.hAppend, Append.append, List.append]
      refine Vlc (v := 0) rfl (by decide) rfl ?_
      cases h
      exact Yret rfl rfl rfl rfl rfl rfl rfl ⟨rfl, rfl⟩

