/-- StepRows$Layout.tieParts -/
def g_34 (o : X_O) : Nat → Nat → Y_S → Nat → Int32 → Value → Int32 → Int32 → Option (Y_S × Unit)
  | 0, _, _, _, _, _, _, _ => none
  | n + 1, 0, s, r0, i1, ta0, ti1, ti2 => (y_gv s 2 (.ref r0) 1).bind fun v1 => (y_gv s 3 v1 3).bind fun v3 => (y_gv s 2 (.ref r0) 1).bind fun v5 => (y_gv s 3 v5 0).bind fun v7 => (y_ia o s v7 i1).bind fun v9 => if (v9).toInt < 14 ∨ 21 < (v9).toInt then g_34 o n 2 s 0 0 .null 0 0 else if v9 = 14 then (y_gv s 2 (.ref r0) 1).bind fun v12 => (y_rcv s 3 v12).bind fun b18 => (g_37 o n 0 s b18 (i1)).bind fun q17 => (y_is q17.1 v3 (i1 + 1) q17.2).bind fun s22 => (y_gv s22 2 (.ref r0) 1).bind fun v24 => (y_rcv s22 3 v24).bind fun b30 => (g_37 o n 0 s22 b30 (i1)).bind fun q29 => (y_ia o q29.1 v3 i1).bind fun v34 => (y_is q29.1 v3 q29.2 v34).bind fun s36 => (y_gv s36 2 (.ref r0) 4).bind fun v38 => (y_gv s36 2 (.ref r0) 4).bind fun v40 => (y_ba s36 v40 i1).bind fun v42 => (y_bs s36 v38 (i1 + 1) v42).bind fun s44 => (y_gv s44 2 (.ref r0) 4).bind fun v46 => (y_gv s44 2 (.ref r0) 1).bind fun v48 => (y_rcv s44 3 v48).bind fun b54 => (g_37 o n 0 s44 b54 (i1)).bind fun q53 => (y_gv q53.1 2 (.ref r0) 4).bind fun v58 => (y_ba q53.1 v58 i1).bind fun v60 => (y_bs q53.1 v46 q53.2 v60).bind fun s62 => g_34 o n 2 s62 0 0 .null 0 0 else if v9 = 15 then (y_gv s 2 (.ref r0) 1).bind fun v65 => (y_rcv s 3 v65).bind fun b71 => (g_37 o n 0 s b71 (i1)).bind fun q70 => (y_ia o q70.1 v3 i1).bind fun v75 => (y_is q70.1 v3 q70.2 v75).bind fun s77 => (y_gv s77 2 (.ref r0) 1).bind fun v79 => (y_gv s77 3 v79 1).bind fun v81 => (y_la s77 v81 i1).bind fun v83 => if (lg_cmp v83 0) = 0 then g_34 o n 2 s77 0 0 .null 0 0 else (y_gv s77 2 (.ref r0) 1).bind fun v86 => (y_rcv s77 3 v86).bind fun b92 => (g_38 o n 0 s77 b92 (i1)).bind fun q91 => (y_ia o q91.1 v3 i1).bind fun v96 => (y_is q91.1 v3 q91.2 v96).bind fun s98 => g_34 o n 2 s98 0 0 .null 0 0 else if v9 = 16 then (y_gv s 2 (.ref r0) 1).bind fun v101 => (y_rcv s 3 v101).bind fun b107 => (g_37 o n 0 s b107 (i1)).bind fun q106 => (y_is q106.1 v3 q106.2 (i1 ^^^ (-1))).bind fun s111 => (y_gv s111 2 (.ref r0) 1).bind fun v113 => (y_rcv s111 3 v113).bind fun b119 => (g_38 o n 0 s111 b119 (i1)).bind fun q118 => (y_ia o q118.1 v3 i1).bind fun v123 => (y_is q118.1 v3 q118.2 v123).bind fun s125 => g_34 o n 2 s125 0 0 .null 0 0 else if v9 = 17 then (y_gv s 2 (.ref r0) 1).bind fun v128 => (y_rcv s 3 v128).bind fun b134 => (g_37 o n 0 s b134 (i1)).bind fun q133 => (y_is q133.1 v3 q133.2 (i1 ^^^ (-1))).bind fun s138 => g_34 o n 2 s138 0 0 .null 0 0 else if v9 = 18 then (y_is s v3 (i1 + 1) (i1 ^^^ (-1))).bind fun s141 => (y_gv s141 2 (.ref r0) 1).bind fun v143 => (y_rcv s141 3 v143).bind fun b149 => (g_37 o n 0 s141 b149 (i1)).bind fun q148 => (y_is q148.1 v3 q148.2 (i1 ^^^ (-1))).bind fun s153 => g_34 o n 2 s153 0 0 .null 0 0 else if v9 = 19 then g_34 o n 2 s 0 0 .null 0 0 else if v9 = 20 then (y_is s v3 (i1 + 1) (i1 ^^^ (-1))).bind fun s157 => g_34 o n 2 s157 0 0 .null 0 0 else if v9 = 21 then (y_gv s 2 (.ref r0) 4).bind fun v160 => (y_ba s v160 i1).bind fun v162 => if v162 = 0 then (y_ia o s v3 i1).bind fun v165 => g_34 o n 1 s r0 (i1) (v3) ((i1 + 1)) (v165) else g_34 o n 1 s r0 (i1) (v3) ((i1 + 1)) ((i1 ^^^ (-1))) else none
  | n + 1, 1, s, r0, i1, ta0, ti1, ti2 => (y_is s ta0 ti1 ti2).bind fun s1 => (y_rcv s1 2 (.ref r0)).bind fun b7 => (g_35 o n 0 s1 b7 (i1)).bind fun q6 => g_34 o n 2 q6.1 0 0 .null 0 0
  | n + 1, 2, s, r0, i1, ta0, ti1, ti2 => some (s, ())
  | _ + 1, _, _, _, _, _, _, _ => none
set_option maxRecDepth 100000 in
set_option maxHeartbeats 4000000 in
theorem c_34 (o : X_O) : ∀ n, (∀ (d : Nat) (s : Y_S) (r0 : Nat) (i1 : Int32) (ta0 : Value) (ti1 : Int32) (ti2 : Int32) (s9 : Y_S) (r : Unit), g_34 o n 0 s r0 i1 ta0 ti1 ti2 = some (s9, r) → ∀ lv : X_L, x_lget lv 0 = some (.ref r0) → x_lget lv 1 = some (.int i1) → Y o (d + 2) 34 0 lv [] s (fun s1 r1 => s1 = s9 ∧ r1 = none)) ∧
    (∀ (d : Nat) (s : Y_S) (r0 : Nat) (i1 : Int32) (ta0 : Value) (ti1 : Int32) (ti2 : Int32) (s9 : Y_S) (r : Unit), g_34 o n 1 s r0 i1 ta0 ti1 ti2 = some (s9, r) → ∀ lv : X_L, x_lget lv 0 = some (.ref r0) → x_lget lv 1 = some (.int i1) → y_rv ta0 = true → Y o (d + 2) 34 271 lv [.int ti2, .int ti1, ta0] s (fun s1 r1 => s1 = s9 ∧ r1 = none)) ∧
    (∀ (d : Nat) (s : Y_S) (r0 : Nat) (i1 : Int32) (ta0 : Value) (ti1 : Int32) (ti2 : Int32) (s9 : Y_S) (r : Unit), g_34 o n 2 s r0 i1 ta0 ti1 ti2 = some (s9, r) → ∀ lv : X_L, True → Y o (d + 2) 34 280 lv [] s (fun s1 r1 => s1 = s9 ∧ r1 = none)) := by
  intro n
  induction n with
  | zero => exact ⟨fun d s _ _ _ _ _ s9 r h => (by simp only [g_34] at h; cases h), fun d s _ _ _ _ _ s9 r h => (by simp only [g_34] at h; cases h), fun d s _ _ _ _ _ s9 r h => (by simp only [g_34] at h; cases h)⟩
  | succ n ih =>
    refine ⟨?_, ?_, ?_⟩
    · intro d s r0 i1 ta0 ti1 ti2 s9 r h lv lk0 lk1
      simp only [g_34] at h
      refine Van rfl lk0 rfl rfl ?_
      have hz := y_bind h
      clear h
      obtain ⟨v1, h2, h⟩ := hz
      have wv1 := (y_gv_ok h2).2
      refine Vgv h2 rfl rfl rfl ?_
      have hz := y_bind h
      clear h
      obtain ⟨v3, h4, h⟩ := hz
      have wv3 := (y_gv_ok h4).2
      refine Vgv h4 rfl rfl rfl ?_
      refine Vsan rfl wv3 rfl (fun lv lk2 hk => ?_)
      have lk0 := hk 0 _ lk0 (by decide) (by decide) (Or.inl (by decide))
      have lk1 := hk 1 _ lk1 (by decide) (by decide) (Or.inr rfl)
      refine Van rfl lk0 rfl rfl ?_
      have hz := y_bind h
      clear h
      obtain ⟨v5, h6, h⟩ := hz
      have wv5 := (y_gv_ok h6).2
      refine Vgv h6 rfl rfl rfl ?_
      have hz := y_bind h
      clear h
      obtain ⟨v7, h8, h⟩ := hz
      have wv7 := (y_gv_ok h8).2
      refine Vgv h8 rfl rfl rfl ?_
      refine Vin rfl lk1 rfl ?_
      have hz := y_bind h
      clear h
      obtain ⟨v9, h10, h⟩ := hz
      refine Zia h10 rfl rfl ?_
      by_cases c11 : (v9).toInt < 14 ∨ 21 < (v9).toInt
      · rw [if_pos c11] at h
        refine Ysw rfl rfl rfl rfl rfl (if_pos c11) rfl ?_
        exact ih.2.2 _ _ _ _ _ _ _ _ _ h lv trivial
      rw [if_neg c11] at h
      by_cases c64 : v9 = 14
      · rw [if_pos c64] at h
        refine Vts c64 rfl rfl rfl rfl rfl rfl rfl ?_
        refine Van rfl lk2 wv3 rfl ?_
        refine Vin rfl lk1 rfl ?_
        refine Vic (v := 1) rfl (by decide) rfl ?_
        refine Ya rfl rfl rfl ?_
        refine Van rfl lk0 rfl rfl ?_
        have hz := y_bind h
        clear h
        obtain ⟨v12, h13, h⟩ := hz
        have wv12 := (y_gv_ok h13).2
        refine Vgv h13 rfl rfl rfl ?_
        refine Vin rfl lk1 rfl ?_
        have hz := y_bind h
        clear h
        obtain ⟨b18, h19, h⟩ := hz
        obtain ⟨eh19, fh19, wh19⟩ := y_rcv_ok h19
        cases eh19
        have hz := y_bind h
        clear h
        obtain ⟨⟨s14, r15⟩, h16, h⟩ := hz
        try dsimp only at h
        refine Vcv rfl rfl rfl wh19 rfl rfl ⟨(by simp only [List.take, List.reverse_cons, List.reverse_nil, List.nil_append, List.cons_append, List.map_cons, List.map_nil, y_cati, y_catl, y_catr, y_catn, y_cata, y_rv_cat wv3, List.sum_cons, List.sum_nil]; decide +kernel), (Nat.le_of_ble_eq_true rfl)⟩ rfl ((c_37 o n) _ _ _ _ _ _ h16 _ rfl rfl) (fun z1 z2 zq => ?_)
        obtain ⟨rfl, rfl⟩ := zq
        try dsimp only [Option.toList, HAppend.hAppend, Append.append, List.append]
        have hz := y_bind h
        clear h
        obtain ⟨s22, h23, h⟩ := hz
        refine Zis h23 rfl rfl ?_
        refine Van rfl lk2 wv3 rfl ?_
        refine Van rfl lk0 rfl rfl ?_
        have hz := y_bind h
        clear h
        obtain ⟨v24, h25, h⟩ := hz
        have wv24 := (y_gv_ok h25).2
        refine Vgv h25 rfl rfl rfl ?_
        refine Vin rfl lk1 rfl ?_
        have hz := y_bind h
        clear h
        obtain ⟨b30, h31, h⟩ := hz
        obtain ⟨eh31, fh31, wh31⟩ := y_rcv_ok h31
        cases eh31
        have hz := y_bind h
        clear h
        obtain ⟨⟨s26, r27⟩, h28, h⟩ := hz
        try dsimp only at h
        refine Vcv rfl rfl rfl wh31 rfl rfl ⟨(by simp only [List.take, List.reverse_cons, List.reverse_nil, List.nil_append, List.cons_append, List.map_cons, List.map_nil, y_cati, y_catl, y_catr, y_catn, y_cata, y_rv_cat wv3, List.sum_cons, List.sum_nil]; decide +kernel), (Nat.le_of_ble_eq_true rfl)⟩ rfl ((c_37 o n) _ _ _ _ _ _ h28 _ rfl rfl) (fun z1 z2 zq => ?_)
        obtain ⟨rfl, rfl⟩ := zq
        try dsimp only [Option.toList, HAppend.hAppend, Append.append, List.append]
        refine Van rfl lk2 wv3 rfl ?_
        refine Vin rfl lk1 rfl ?_
        have hz := y_bind h
        clear h
        obtain ⟨v34, h35, h⟩ := hz
        refine Zia h35 rfl rfl ?_
        have hz := y_bind h
        clear h
        obtain ⟨s36, h37, h⟩ := hz
        refine Zis h37 rfl rfl ?_
        refine Van rfl lk0 rfl rfl ?_
        have hz := y_bind h
        clear h
        obtain ⟨v38, h39, h⟩ := hz
        have wv38 := (y_gv_ok h39).2
        refine Vgv h39 rfl rfl rfl ?_
        refine Vin rfl lk1 rfl ?_
        refine Vic (v := 1) rfl (by decide) rfl ?_
        refine Ya rfl rfl rfl ?_
        refine Van rfl lk0 rfl rfl ?_
        have hz := y_bind h
        clear h
        obtain ⟨v40, h41, h⟩ := hz
        have wv40 := (y_gv_ok h41).2
        refine Vgv h41 rfl rfl rfl ?_
        refine Vin rfl lk1 rfl ?_
        have hz := y_bind h
        clear h
        obtain ⟨v42, h43, h⟩ := hz
        refine Zba h43 rfl rfl ?_
        have hz := y_bind h
        clear h
        obtain ⟨s44, h45, h⟩ := hz
        refine Zbs h45 rfl rfl ?_
        refine Van rfl lk0 rfl rfl ?_
        have hz := y_bind h
        clear h
        obtain ⟨v46, h47, h⟩ := hz
        have wv46 := (y_gv_ok h47).2
        refine Vgv h47 rfl rfl rfl ?_
        refine Van rfl lk0 rfl rfl ?_
        have hz := y_bind h
        clear h
        obtain ⟨v48, h49, h⟩ := hz
        have wv48 := (y_gv_ok h49).2
        refine Vgv h49 rfl rfl rfl ?_
        refine Vin rfl lk1 rfl ?_
        have hz := y_bind h
        clear h
        obtain ⟨b54, h55, h⟩ := hz
        obtain ⟨eh55, fh55, wh55⟩ := y_rcv_ok h55
        cases eh55
        have hz := y_bind h
        clear h
        obtain ⟨⟨s50, r51⟩, h52, h⟩ := hz
        try dsimp only at h
        refine Vcv rfl rfl rfl wh55 rfl rfl ⟨(by simp only [List.take, List.reverse_cons, List.reverse_nil, List.nil_append, List.cons_append, List.map_cons, List.map_nil, y_cati, y_catl, y_catr, y_catn, y_cata, y_rv_cat wv46, List.sum_cons, List.sum_nil]; decide +kernel), (Nat.le_of_ble_eq_true rfl)⟩ rfl ((c_37 o n) _ _ _ _ _ _ h52 _ rfl rfl) (fun z1 z2 zq => ?_)
        obtain ⟨rfl, rfl⟩ := zq
        try dsimp only [Option.toList, HAppend.hAppend, Append.append, List.append]
        refine Van rfl lk0 rfl rfl ?_
        have hz := y_bind h
        clear h
        obtain ⟨v58, h59, h⟩ := hz
        have wv58 := (y_gv_ok h59).2
        refine Vgv h59 rfl rfl rfl ?_
        refine Vin rfl lk1 rfl ?_
        have hz := y_bind h
        clear h
        obtain ⟨v60, h61, h⟩ := hz
        refine Zba h61 rfl rfl ?_
        have hz := y_bind h
        clear h
        obtain ⟨s62, h63, h⟩ := hz
        refine Zbs h63 rfl rfl ?_
        refine Ygo rfl rfl rfl rfl rfl rfl ?_
        exact ih.2.2 _ _ _ _ _ _ _ _ _ h lv trivial
      rw [if_neg c64] at h
      by_cases c100 : v9 = 15
      · rw [if_pos c100] at h
        refine Vts c100 rfl rfl rfl rfl rfl rfl rfl ?_
        refine Van rfl lk2 wv3 rfl ?_
        refine Van rfl lk0 rfl rfl ?_
        have hz := y_bind h
        clear h
        obtain ⟨v65, h66, h⟩ := hz
        have wv65 := (y_gv_ok h66).2
        refine Vgv h66 rfl rfl rfl ?_
        refine Vin rfl lk1 rfl ?_
        have hz := y_bind h
        clear h
        obtain ⟨b71, h72, h⟩ := hz
        obtain ⟨eh72, fh72, wh72⟩ := y_rcv_ok h72
        cases eh72
        have hz := y_bind h
        clear h
        obtain ⟨⟨s67, r68⟩, h69, h⟩ := hz
        try dsimp only at h
        refine Vcv rfl rfl rfl wh72 rfl rfl ⟨(by simp only [List.take, List.reverse_cons, List.reverse_nil, List.nil_append, List.cons_append, List.map_cons, List.map_nil, y_cati, y_catl, y_catr, y_catn, y_cata, y_rv_cat wv3, List.sum_cons, List.sum_nil]; decide +kernel), (Nat.le_of_ble_eq_true rfl)⟩ rfl ((c_37 o n) _ _ _ _ _ _ h69 _ rfl rfl) (fun z1 z2 zq => ?_)
        obtain ⟨rfl, rfl⟩ := zq
        try dsimp only [Option.toList, HAppend.hAppend, Append.append, List.append]
        refine Van rfl lk2 wv3 rfl ?_
        refine Vin rfl lk1 rfl ?_
        have hz := y_bind h
        clear h
        obtain ⟨v75, h76, h⟩ := hz
        refine Zia h76 rfl rfl ?_
        have hz := y_bind h
        clear h
        obtain ⟨s77, h78, h⟩ := hz
        refine Zis h78 rfl rfl ?_
        refine Van rfl lk0 rfl rfl ?_
        have hz := y_bind h
        clear h
        obtain ⟨v79, h80, h⟩ := hz
        have wv79 := (y_gv_ok h80).2
        refine Vgv h80 rfl rfl rfl ?_
        have hz := y_bind h
        clear h
        obtain ⟨v81, h82, h⟩ := hz
        have wv81 := (y_gv_ok h82).2
        refine Vgv h82 rfl rfl rfl ?_
        refine Vin rfl lk1 rfl ?_
        have hz := y_bind h
        clear h
        obtain ⟨v83, h84, h⟩ := hz
        refine Zla h84 rfl rfl ?_
        refine Vlc (v := 0) rfl (by decide) rfl ?_
        refine Ya rfl rfl rfl ?_
        refine Yif rfl rfl rfl rfl rfl rfl rfl (fun c85 => ?_) (fun c85 => ?_)
        · rw [if_pos c85] at h
          exact ih.2.2 _ _ _ _ _ _ _ _ _ h lv trivial
        · rw [if_neg c85] at h
          refine Van rfl lk2 wv3 rfl ?_
          refine Van rfl lk0 rfl rfl ?_
          have hz := y_bind h
          clear h
          obtain ⟨v86, h87, h⟩ := hz
          have wv86 := (y_gv_ok h87).2
          refine Vgv h87 rfl rfl rfl ?_
          refine Vin rfl lk1 rfl ?_
          have hz := y_bind h
          clear h
          obtain ⟨b92, h93, h⟩ := hz
          obtain ⟨eh93, fh93, wh93⟩ := y_rcv_ok h93
          cases eh93
          have hz := y_bind h
          clear h
          obtain ⟨⟨s88, r89⟩, h90, h⟩ := hz
          try dsimp only at h
          refine Vcv rfl rfl rfl wh93 rfl rfl ⟨(by simp only [List.take, List.reverse_cons, List.reverse_nil, List.nil_append, List.cons_append, List.map_cons, List.map_nil, y_cati, y_catl, y_catr, y_catn, y_cata, y_rv_cat wv3, List.sum_cons, List.sum_nil]; decide +kernel), (Nat.le_of_ble_eq_true rfl)⟩ rfl ((c_38 o n) _ _ _ _ _ _ h90 _ rfl rfl) (fun z1 z2 zq => ?_)
          obtain ⟨rfl, rfl⟩ := zq
          try dsimp only [Option.toList, HAppend.hAppend, Append.append, List.append]
          refine Van rfl lk2 wv3 rfl ?_
          refine Vin rfl lk1 rfl ?_
          have hz := y_bind h
          clear h
          obtain ⟨v96, h97, h⟩ := hz
          refine Zia h97 rfl rfl ?_
          have hz := y_bind h
          clear h
          obtain ⟨s98, h99, h⟩ := hz
          refine Zis h99 rfl rfl ?_
          refine Ygo rfl rfl rfl rfl rfl rfl ?_
          exact ih.2.2 _ _ _ _ _ _ _ _ _ h lv trivial
      rw [if_neg c100] at h
      by_cases c127 : v9 = 16
      · rw [if_pos c127] at h
        refine Vts c127 rfl rfl rfl rfl rfl rfl rfl ?_
        refine Van rfl lk2 wv3 rfl ?_
        refine Van rfl lk0 rfl rfl ?_
        have hz := y_bind h
        clear h
        obtain ⟨v101, h102, h⟩ := hz
        have wv101 := (y_gv_ok h102).2
        refine Vgv h102 rfl rfl rfl ?_
        refine Vin rfl lk1 rfl ?_
        have hz := y_bind h
        clear h
        obtain ⟨b107, h108, h⟩ := hz
        obtain ⟨eh108, fh108, wh108⟩ := y_rcv_ok h108
        cases eh108
        have hz := y_bind h
        clear h
        obtain ⟨⟨s103, r104⟩, h105, h⟩ := hz
        try dsimp only at h
        refine Vcv rfl rfl rfl wh108 rfl rfl ⟨(by simp only [List.take, List.reverse_cons, List.reverse_nil, List.nil_append, List.cons_append, List.map_cons, List.map_nil, y_cati, y_catl, y_catr, y_catn, y_cata, y_rv_cat wv3, List.sum_cons, List.sum_nil]; decide +kernel), (Nat.le_of_ble_eq_true rfl)⟩ rfl ((c_37 o n) _ _ _ _ _ _ h105 _ rfl rfl) (fun z1 z2 zq => ?_)
        obtain ⟨rfl, rfl⟩ := zq
        try dsimp only [Option.toList, HAppend.hAppend, Append.append, List.append]
        refine Vin rfl lk1 rfl ?_
        refine Vic (v := (-1)) rfl (by decide) rfl ?_
        refine Ya rfl rfl rfl ?_
        have hz := y_bind h
        clear h
        obtain ⟨s111, h112, h⟩ := hz
        refine Zis h112 rfl rfl ?_
        refine Van rfl lk2 wv3 rfl ?_
        refine Van rfl lk0 rfl rfl ?_
        have hz := y_bind h
        clear h
        obtain ⟨v113, h114, h⟩ := hz
        have wv113 := (y_gv_ok h114).2
        refine Vgv h114 rfl rfl rfl ?_
        refine Vin rfl lk1 rfl ?_
        have hz := y_bind h
        clear h
        obtain ⟨b119, h120, h⟩ := hz
        obtain ⟨eh120, fh120, wh120⟩ := y_rcv_ok h120
        cases eh120
        have hz := y_bind h
        clear h
        obtain ⟨⟨s115, r116⟩, h117, h⟩ := hz
        try dsimp only at h
        refine Vcv rfl rfl rfl wh120 rfl rfl ⟨(by simp only [List.take, List.reverse_cons, List.reverse_nil, List.nil_append, List.cons_append, List.map_cons, List.map_nil, y_cati, y_catl, y_catr, y_catn, y_cata, y_rv_cat wv3, List.sum_cons, List.sum_nil]; decide +kernel), (Nat.le_of_ble_eq_true rfl)⟩ rfl ((c_38 o n) _ _ _ _ _ _ h117 _ rfl rfl) (fun z1 z2 zq => ?_)
        obtain ⟨rfl, rfl⟩ := zq
        try dsimp only [Option.toList, HAppend.hAppend, Append.append, List.append]
        refine Van rfl lk2 wv3 rfl ?_
        refine Vin rfl lk1 rfl ?_
        have hz := y_bind h
        clear h
        obtain ⟨v123, h124, h⟩ := hz
        refine Zia h124 rfl rfl ?_
        have hz := y_bind h
        clear h
        obtain ⟨s125, h126, h⟩ := hz
        refine Zis h126 rfl rfl ?_
        refine Ygo rfl rfl rfl rfl rfl rfl ?_
        exact ih.2.2 _ _ _ _ _ _ _ _ _ h lv trivial
      rw [if_neg c127] at h
      by_cases c140 : v9 = 17
      · rw [if_pos c140] at h
        refine Vts c140 rfl rfl rfl rfl rfl rfl rfl ?_
        refine Van rfl lk2 wv3 rfl ?_
        refine Van rfl lk0 rfl rfl ?_
        have hz := y_bind h
        clear h
        obtain ⟨v128, h129, h⟩ := hz
        have wv128 := (y_gv_ok h129).2
        refine Vgv h129 rfl rfl rfl ?_
        refine Vin rfl lk1 rfl ?_
        have hz := y_bind h
        clear h
        obtain ⟨b134, h135, h⟩ := hz
        obtain ⟨eh135, fh135, wh135⟩ := y_rcv_ok h135
        cases eh135
        have hz := y_bind h
        clear h
        obtain ⟨⟨s130, r131⟩, h132, h⟩ := hz
        try dsimp only at h
        refine Vcv rfl rfl rfl wh135 rfl rfl ⟨(by simp only [List.take, List.reverse_cons, List.reverse_nil, List.nil_append, List.cons_append, List.map_cons, List.map_nil, y_cati, y_catl, y_catr, y_catn, y_cata, y_rv_cat wv3, List.sum_cons, List.sum_nil]; decide +kernel), (Nat.le_of_ble_eq_true rfl)⟩ rfl ((c_37 o n) _ _ _ _ _ _ h132 _ rfl rfl) (fun z1 z2 zq => ?_)
        obtain ⟨rfl, rfl⟩ := zq
        try dsimp only [Option.toList, HAppend.hAppend, Append.append, List.append]
        refine Vin rfl lk1 rfl ?_
        refine Vic (v := (-1)) rfl (by decide) rfl ?_
        refine Ya rfl rfl rfl ?_
        have hz := y_bind h
        clear h
        obtain ⟨s138, h139, h⟩ := hz
        refine Zis h139 rfl rfl ?_
        refine Ygo rfl rfl rfl rfl rfl rfl ?_
        exact ih.2.2 _ _ _ _ _ _ _ _ _ h lv trivial
      rw [if_neg c140] at h
      by_cases c155 : v9 = 18
      · rw [if_pos c155] at h
        refine Vts c155 rfl rfl rfl rfl rfl rfl rfl ?_
        refine Van rfl lk2 wv3 rfl ?_
        refine Vin rfl lk1 rfl ?_
        refine Vic (v := 1) rfl (by decide) rfl ?_
        refine Ya rfl rfl rfl ?_
        refine Vin rfl lk1 rfl ?_
        refine Vic (v := (-1)) rfl (by decide) rfl ?_
        refine Ya rfl rfl rfl ?_
        have hz := y_bind h
        clear h
        obtain ⟨s141, h142, h⟩ := hz
        refine Zis h142 rfl rfl ?_
        refine Van rfl lk2 wv3 rfl ?_
        refine Van rfl lk0 rfl rfl ?_
        have hz := y_bind h
        clear h
        obtain ⟨v143, h144, h⟩ := hz
        have wv143 := (y_gv_ok h144).2
        refine Vgv h144 rfl rfl rfl ?_
        refine Vin rfl lk1 rfl ?_
        have hz := y_bind h
        clear h
        obtain ⟨b149, h150, h⟩ := hz
        obtain ⟨eh150, fh150, wh150⟩ := y_rcv_ok h150
        cases eh150
        have hz := y_bind h
        clear h
        obtain ⟨⟨s145, r146⟩, h147, h⟩ := hz
        try dsimp only at h
        refine Vcv rfl rfl rfl wh150 rfl rfl ⟨(by simp only [List.take, List.reverse_cons, List.reverse_nil, List.nil_append, List.cons_append, List.map_cons, List.map_nil, y_cati, y_catl, y_catr, y_catn, y_cata, y_rv_cat wv3, List.sum_cons, List.sum_nil]; decide +kernel), (Nat.le_of_ble_eq_true rfl)⟩ rfl ((c_37 o n) _ _ _ _ _ _ h147 _ rfl rfl) (fun z1 z2 zq => ?_)
        obtain ⟨rfl, rfl⟩ := zq
        try dsimp only [Option.toList, HAppend.hAppend, Append.append, List.append]
        refine Vin rfl lk1 rfl ?_
        refine Vic (v := (-1)) rfl (by decide) rfl ?_
        refine Ya rfl rfl rfl ?_
        have hz := y_bind h
        clear h
        obtain ⟨s153, h154, h⟩ := hz
        refine Zis h154 rfl rfl ?_
        refine Ygo rfl rfl rfl rfl rfl rfl ?_
        exact ih.2.2 _ _ _ _ _ _ _ _ _ h lv trivial
      rw [if_neg c155] at h
      by_cases c156 : v9 = 19
      · rw [if_pos c156] at h
        refine Vts c156 rfl rfl rfl rfl rfl rfl rfl ?_
        exact ih.2.2 _ _ _ _ _ _ _ _ _ h lv trivial
      rw [if_neg c156] at h
      by_cases c159 : v9 = 20
      · rw [if_pos c159] at h
        refine Vts c159 rfl rfl rfl rfl rfl rfl rfl ?_
        refine Van rfl lk2 wv3 rfl ?_
        refine Vin rfl lk1 rfl ?_
        refine Vic (v := 1) rfl (by decide) rfl ?_
        refine Ya rfl rfl rfl ?_
        refine Vin rfl lk1 rfl ?_
        refine Vic (v := (-1)) rfl (by decide) rfl ?_
        refine Ya rfl rfl rfl ?_
        have hz := y_bind h
        clear h
        obtain ⟨s157, h158, h⟩ := hz
        refine Zis h158 rfl rfl ?_
        refine Ygo rfl rfl rfl rfl rfl rfl ?_
        exact ih.2.2 _ _ _ _ _ _ _ _ _ h lv trivial
      rw [if_neg c159] at h
      by_cases c167 : v9 = 21
      · rw [if_pos c167] at h
        refine Vts c167 rfl rfl rfl rfl rfl rfl rfl ?_
        refine Van rfl lk2 wv3 rfl ?_
        refine Vin rfl lk1 rfl ?_
        refine Vic (v := 1) rfl (by decide) rfl ?_
        refine Ya rfl rfl rfl ?_
        refine Van rfl lk0 rfl rfl ?_
        have hz := y_bind h
        clear h
        obtain ⟨v160, h161, h⟩ := hz
        have wv160 := (y_gv_ok h161).2
        refine Vgv h161 rfl rfl rfl ?_
        refine Vin rfl lk1 rfl ?_
        have hz := y_bind h
        clear h
        obtain ⟨v162, h163, h⟩ := hz
        refine Zba h163 rfl rfl ?_
        refine Yif rfl rfl rfl rfl rfl rfl rfl (fun c164 => ?_) (fun c164 => ?_)
        · rw [if_pos c164] at h
          refine Van rfl lk2 wv3 rfl ?_
          refine Vin rfl lk1 rfl ?_
          have hz := y_bind h
          clear h
          obtain ⟨v165, h166, h⟩ := hz
          refine Zia h166 rfl rfl ?_
          exact ih.2.1 _ _ _ _ _ _ _ _ _ h lv lk0 lk1 wv3
        · rw [if_neg c164] at h
          refine Vin rfl lk1 rfl ?_
          refine Vic (v := (-1)) rfl (by decide) rfl ?_
          refine Ya rfl rfl rfl ?_
          refine Ygo rfl rfl rfl rfl rfl rfl ?_
          exact ih.2.1 _ _ _ _ _ _ _ _ _ h lv lk0 lk1 wv3
      rw [if_neg c167] at h
      cases h
    · intro d s r0 i1 ta0 ti1 ti2 s9 r h lv lk0 lk1 rs0
      simp only [g_34] at h
      have hz := y_bind h
      clear h
      obtain ⟨s1, h2, h⟩ := hz
      refine Zis h2 rfl rfl ?_
      refine Van rfl lk0 rfl rfl ?_
      refine Vin rfl lk1 rfl ?_
      have hz := y_bind h
      clear h
      obtain ⟨b7, h8, h⟩ := hz
      obtain ⟨eh8, fh8, wh8⟩ := y_rcv_ok h8
      cases eh8
      have hz := y_bind h
      clear h
      obtain ⟨⟨s3, r4⟩, h5, h⟩ := hz
      try dsimp only at h
      refine Vcv rfl rfl rfl wh8 rfl rfl ⟨(Nat.le_of_ble_eq_true rfl), (Nat.le_of_ble_eq_true rfl)⟩ rfl ((c_35 o n).1 _ _ _ _ _ _ h5 _ rfl rfl) (fun z1 z2 zq => ?_)
      obtain ⟨rfl, rfl⟩ := zq
      try dsimp only [Option.toList, HAppend.hAppend, Append.append, List.append]
      refine Ygo rfl rfl rfl rfl rfl rfl ?_
      exact ih.2.2 _ _ _ _ _ _ _ _ _ h lv trivial
    · intro d s r0 i1 ta0 ti1 ti2 s9 r h lv _
      simp only [g_34] at h
      cases h
      exact Yret rfl rfl rfl rfl rfl rfl rfl ⟨rfl, rfl⟩

/-- StepRows$Layout.layOut -/
def g_31 (o : X_O) : Nat → Nat → Y_S → Nat → Int32 → Int32 → Option (Y_S × Unit)
  | 0, _, _, _, _, _ => none
  | n + 1, 0, s, r0, i1, i2 => (y_gv s 2 (.ref r0) 1).bind fun v1 => (y_pi s 3 v1 7 0).bind fun s3 => (y_pi s3 2 (.ref r0) 5 0).bind fun s5 => (y_rcv s5 2 (.ref r0)).bind fun b11 => (g_32 o n 0 s5 b11 (i1) (0)).bind fun q10 => g_31 o n 1 q10.1 r0 0 (0)
  | n + 1, 1, s, r0, i1, i2 => if 500 ≤ i2 then g_31 o n 2 s r0 0 0 else (y_gi s 2 (.ref r0) 5).bind fun v2 => if v2 ≤ 0 then g_31 o n 2 s r0 0 0 else (y_gi s 2 (.ref r0) 5).bind fun v5 => (y_pi s 2 (.ref r0) 5 (v5 - 1)).bind fun s7 => (y_gv s7 2 (.ref r0) 2).bind fun v9 => (y_gi s7 2 (.ref r0) 5).bind fun v11 => (y_ia o s7 v9 v11).bind fun v13 => (y_gv s7 2 (.ref r0) 3).bind fun v15 => (y_gi s7 2 (.ref r0) 5).bind fun v17 => (y_ia o s7 v15 v17).bind fun v19 => (y_rcv s7 2 (.ref r0)).bind fun b25 => (g_33 o n 0 s7 b25 (v13) (v19) 0 .null 0 0).bind fun q24 => g_31 o n 1 q24.1 r0 0 ((i2 + Int32.ofInt 1))
  | n + 1, 2, s, r0, i1, i2 => (y_gv s 2 (.ref r0) 1).bind fun v1 => (y_pi s 3 v1 8 0).bind fun s3 => (y_gv s3 2 (.ref r0) 1).bind fun v5 => (y_gv s3 3 v5 3).bind fun v7 => (y_gv s3 2 (.ref r0) 1).bind fun v9 => (y_gi s3 3 v9 7).bind fun v11 => (y_is s3 v7 0 (v11 ^^^ (-1))).bind fun s13 => g_31 o n 3 s13 r0 0 (0)
  | n + 1, 3, s, r0, i1, i2 => (y_gv s 2 (.ref r0) 1).bind fun v1 => (y_gi s 3 v1 7).bind fun v3 => if v3 ≤ i2 then some (s, ()) else (y_rcv s 2 (.ref r0)).bind fun b10 => (g_34 o n 0 s b10 (i2) .null 0 0).bind fun q9 => g_31 o n 3 q9.1 r0 0 ((i2 + Int32.ofInt 1))
  | _ + 1, _, _, _, _, _ => none
set_option maxRecDepth 100000 in
set_option maxHeartbeats 4000000 in
theorem c_31 (o : X_O) : ∀ n, (∀ (d : Nat) (s : Y_S) (r0 : Nat) (i1 : Int32) (i2 : Int32) (s9 : Y_S) (r : Unit), g_31 o n 0 s r0 i1 i2 = some (s9, r) → ∀ lv : X_L, x_lget lv 0 = some (.ref r0) → x_lget lv 1 = some (.int i1) → Y o (d + 4) 31 0 lv [] s (fun s1 r1 => s1 = s9 ∧ r1 = none)) ∧
    (∀ (d : Nat) (s : Y_S) (r0 : Nat) (i1 : Int32) (i2 : Int32) (s9 : Y_S) (r : Unit), g_31 o n 1 s r0 i1 i2 = some (s9, r) → ∀ lv : X_L, x_lget lv 0 = some (.ref r0) → x_lget lv 2 = some (.int i2) → Y o (d + 4) 31 21 lv [] s (fun s1 r1 => s1 = s9 ∧ r1 = none)) ∧
    (∀ (d : Nat) (s : Y_S) (r0 : Nat) (i1 : Int32) (i2 : Int32) (s9 : Y_S) (r : Unit), g_31 o n 2 s r0 i1 i2 = some (s9, r) → ∀ lv : X_L, x_lget lv 0 = some (.ref r0) → Y o (d + 4) 31 73 lv [] s (fun s1 r1 => s1 = s9 ∧ r1 = none)) ∧
    (∀ (d : Nat) (s : Y_S) (r0 : Nat) (i1 : Int32) (i2 : Int32) (s9 : Y_S) (r : Unit), g_31 o n 3 s r0 i1 i2 = some (s9, r) → ∀ lv : X_L, x_lget lv 0 = some (.ref r0) → x_lget lv 2 = some (.int i2) → Y o (d + 4) 31 101 lv [] s (fun s1 r1 => s1 = s9 ∧ r1 = none)) := by
  intro n
  induction n with
  | zero => exact ⟨fun d s _ _ _ s9 r h => (by simp only [g_31] at h; cases h), fun d s _ _ _ s9 r h => (by simp only [g_31] at h; cases h), fun d s _ _ _ s9 r h => (by simp only [g_31] at h; cases h), fun d s _ _ _ s9 r h => (by simp only [g_31] at h; cases h)⟩
  | succ n ih =>
    refine ⟨?_, ?_, ?_, ?_⟩
    · intro d s r0 i1 i2 s9 r h lv lk0 lk1
      simp only [g_31] at h
      refine Van rfl lk0 rfl rfl ?_
      have hz := y_bind h
      clear h
      obtain ⟨v1, h2, h⟩ := hz
      have wv1 := (y_gv_ok h2).2
      refine Vgv h2 rfl rfl rfl ?_
      refine Vic (v := 0) rfl (by decide) rfl ?_
      have hz := y_bind h
      clear h
      obtain ⟨s3, h4, h⟩ := hz
      refine Zpi h4 rfl rfl rfl rfl ?_
      refine Van rfl lk0 rfl rfl ?_
      refine Vic (v := 0) rfl (by decide) rfl ?_
      have hz := y_bind h
      clear h
      obtain ⟨s5, h6, h⟩ := hz
      refine Zpi h6 rfl rfl rfl rfl ?_
      refine Van rfl lk0 rfl rfl ?_
      refine Vin rfl lk1 rfl ?_
      refine Vic (v := 0) rfl (by decide) rfl ?_
      have hz := y_bind h
      clear h
      obtain ⟨b11, h12, h⟩ := hz
      obtain ⟨eh12, fh12, wh12⟩ := y_rcv_ok h12
      cases eh12
      have hz := y_bind h
      clear h
      obtain ⟨⟨s7, r8⟩, h9, h⟩ := hz
      try dsimp only at h
      refine Vcv rfl rfl rfl wh12 rfl rfl ⟨(Nat.le_of_ble_eq_true rfl), (Nat.le_of_ble_eq_true rfl)⟩ rfl ((c_32 o n).1 _ _ _ _ _ _ _ h9 _ rfl rfl rfl) (fun z1 z2 zq => ?_)
      obtain ⟨rfl, rfl⟩ := zq
      try dsimp only [Option.toList, HAppend.hAppend, Append.append, List.append]
      refine Vic (v := 0) rfl (by decide) rfl ?_
      refine Vsin rfl rfl (fun lv lk2 hk => ?_)
      have lk0 := hk 0 _ lk0 (by decide) (by decide) (Or.inl (by decide))
      exact ih.2.1 _ _ _ _ _ _ _ h lv lk0 lk2
    · intro d s r0 i1 i2 s9 r h lv lk0 lk2
      simp only [g_31] at h
      refine Vin rfl lk2 rfl ?_
      refine Vsp (v := 500) rfl (by decide) rfl ?_
      refine Yif rfl rfl rfl rfl rfl rfl rfl (fun c1 => ?_) (fun c1 => ?_)
      · rw [if_pos c1] at h
        exact ih.2.2.1 _ _ _ _ _ _ _ h lv lk0
      · rw [if_neg c1] at h
        refine Van rfl lk0 rfl rfl ?_
        have hz := y_bind h
        clear h
        obtain ⟨v2, h3, h⟩ := hz
        refine Zgi h3 rfl rfl rfl ?_
        refine Yif rfl rfl rfl rfl rfl rfl rfl (fun c4 => ?_) (fun c4 => ?_)
        · rw [if_pos c4] at h
          exact ih.2.2.1 _ _ _ _ _ _ _ h lv lk0
        · rw [if_neg c4] at h
          refine Van rfl lk0 rfl rfl ?_
          refine Vdup rfl rfl rfl ?_
          have hz := y_bind h
          clear h
          obtain ⟨v5, h6, h⟩ := hz
          refine Zgi h6 rfl rfl rfl ?_
          refine Vic (v := 1) rfl (by decide) rfl ?_
          refine Ya rfl rfl rfl ?_
          have hz := y_bind h
          clear h
          obtain ⟨s7, h8, h⟩ := hz
          refine Zpi h8 rfl rfl rfl rfl ?_
          refine Van rfl lk0 rfl rfl ?_
          refine Van rfl lk0 rfl rfl ?_
          have hz := y_bind h
          clear h
          obtain ⟨v9, h10, h⟩ := hz
          have wv9 := (y_gv_ok h10).2
          refine Vgv h10 rfl rfl rfl ?_
          refine Van rfl lk0 rfl rfl ?_
          have hz := y_bind h
          clear h
          obtain ⟨v11, h12, h⟩ := hz
          refine Zgi h12 rfl rfl rfl ?_
          have hz := y_bind h
          clear h
          obtain ⟨v13, h14, h⟩ := hz
          refine Zia h14 rfl rfl ?_
          refine Van rfl lk0 rfl rfl ?_
          have hz := y_bind h
          clear h
          obtain ⟨v15, h16, h⟩ := hz
          have wv15 := (y_gv_ok h16).2
          refine Vgv h16 rfl rfl rfl ?_
          refine Van rfl lk0 rfl rfl ?_
          have hz := y_bind h
          clear h
          obtain ⟨v17, h18, h⟩ := hz
          refine Zgi h18 rfl rfl rfl ?_
          have hz := y_bind h
          clear h
          obtain ⟨v19, h20, h⟩ := hz
          refine Zia h20 rfl rfl ?_
          have hz := y_bind h
          clear h
          obtain ⟨b25, h26, h⟩ := hz
          obtain ⟨eh26, fh26, wh26⟩ := y_rcv_ok h26
          cases eh26
          have hz := y_bind h
          clear h
          obtain ⟨⟨s21, r22⟩, h23, h⟩ := hz
          try dsimp only at h
          refine Vcv rfl rfl rfl wh26 rfl rfl ⟨(Nat.le_of_ble_eq_true rfl), (Nat.le_of_ble_eq_true rfl)⟩ rfl ((c_33 o n).1 _ _ _ _ _ _ _ _ _ _ _ h23 _ rfl rfl rfl) (fun z1 z2 zq => ?_)
          obtain ⟨rfl, rfl⟩ := zq
          try dsimp only [Option.toList, HAppend.hAppend, Append.append, List.append]
          refine Vinc rfl lk2 rfl (fun lv lk2 hk => ?_)
          have lk0 := hk 0 _ lk0 (by decide) (by decide) (Or.inl (by decide))
          refine Ygo rfl rfl rfl rfl rfl rfl ?_
          exact ih.2.1 _ _ _ _ _ _ _ h lv lk0 lk2
    · intro d s r0 i1 i2 s9 r h lv lk0
      simp only [g_31] at h
      refine Van rfl lk0 rfl rfl ?_
      have hz := y_bind h
      clear h
      obtain ⟨v1, h2, h⟩ := hz
      have wv1 := (y_gv_ok h2).2
      refine Vgv h2 rfl rfl rfl ?_
      refine Vic (v := 0) rfl (by decide) rfl ?_
      have hz := y_bind h
      clear h
      obtain ⟨s3, h4, h⟩ := hz
      refine Zpi h4 rfl rfl rfl rfl ?_
      refine Van rfl lk0 rfl rfl ?_
      have hz := y_bind h
      clear h
      obtain ⟨v5, h6, h⟩ := hz
      have wv5 := (y_gv_ok h6).2
      refine Vgv h6 rfl rfl rfl ?_
      have hz := y_bind h
      clear h
      obtain ⟨v7, h8, h⟩ := hz
      have wv7 := (y_gv_ok h8).2
      refine Vgv h8 rfl rfl rfl ?_
      refine Vic (v := 0) rfl (by decide) rfl ?_
      refine Van rfl lk0 rfl rfl ?_
      have hz := y_bind h
      clear h
      obtain ⟨v9, h10, h⟩ := hz
      have wv9 := (y_gv_ok h10).2
      refine Vgv h10 rfl rfl rfl ?_
      have hz := y_bind h
      clear h
      obtain ⟨v11, h12, h⟩ := hz
      refine Zgi h12 rfl rfl rfl ?_
      refine Vic (v := (-1)) rfl (by decide) rfl ?_
      refine Ya rfl rfl rfl ?_
      have hz := y_bind h
      clear h
      obtain ⟨s13, h14, h⟩ := hz
      refine Zis h14 rfl rfl ?_
      refine Vic (v := 0) rfl (by decide) rfl ?_
      refine Vsin rfl rfl (fun lv lk2 hk => ?_)
      have lk0 := hk 0 _ lk0 (by decide) (by decide) (Or.inl (by decide))
      exact ih.2.2.2 _ _ _ _ _ _ _ h lv lk0 lk2
    · intro d s r0 i1 i2 s9 r h lv lk0 lk2
      simp only [g_31] at h
      refine Vin rfl lk2 rfl ?_
      refine Van rfl lk0 rfl rfl ?_
      have hz := y_bind h
      clear h
      obtain ⟨v1, h2, h⟩ := hz
      have wv1 := (y_gv_ok h2).2
      refine Vgv h2 rfl rfl rfl ?_
      have hz := y_bind h
      clear h
      obtain ⟨v3, h4, h⟩ := hz
      refine Zgi h4 rfl rfl rfl ?_
      refine Yif rfl rfl rfl rfl rfl rfl rfl (fun c5 => ?_) (fun c5 => ?_)
      · rw [if_pos c5] at h
        cases h
        exact Yret rfl rfl rfl rfl rfl rfl rfl ⟨rfl, rfl⟩
      · rw [if_neg c5] at h
        refine Van rfl lk0 rfl rfl ?_
        refine Vin rfl lk2 rfl ?_
        have hz := y_bind h
        clear h
        obtain ⟨b10, h11, h⟩ := hz
        obtain ⟨eh11, fh11, wh11⟩ := y_rcv_ok h11
        cases eh11
        have hz := y_bind h
        clear h
        obtain ⟨⟨s6, r7⟩, h8, h⟩ := hz
        try dsimp only at h
        refine Vcv rfl rfl rfl wh11 rfl rfl ⟨(Nat.le_of_ble_eq_true rfl), (Nat.le_of_ble_eq_true rfl)⟩ rfl ((c_34 o n).1 _ _ _ _ _ _ _ _ _ h8 _ rfl rfl) (fun z1 z2 zq => ?_)
        obtain ⟨rfl, rfl⟩ := zq
        try dsimp only [Option.toList, HAppend.hAppend, Append.append, List.append]
        refine Vinc rfl lk2 rfl (fun lv lk2 hk => ?_)
        have lk0 := hk 0 _ lk0 (by decide) (by decide) (Or.inl (by decide))
        refine Ygo rfl rfl rfl rfl rfl rfl ?_
        exact ih.2.2.2 _ _ _ _ _ _ _ h lv lk0 lk2

/-- StepRows$Rows.isSameAs -/
def g_39 (o : X_O) : Nat → Nat → Y_S → Nat → Value → Int32 → Option (Y_S × Int32)
  | 0, _, _, _, _, _ => none
  | n + 1, 0, s, r0, a1, i2 => (y_gi s 3 (.ref r0) 7).bind fun v1 => (y_gi s 3 a1 7).bind fun v3 => if v1 = v3 then g_39 o n 1 s r0 (a1) (0) else some (s, 0)
  | n + 1, 1, s, r0, a1, i2 => (y_gi s 3 (.ref r0) 7).bind fun v1 => if v1 ≤ i2 then some (s, 1) else (y_gv s 3 (.ref r0) 0).bind fun v4 => (y_ia o s v4 i2).bind fun v6 => (y_gv s 3 a1 0).bind fun v8 => (y_ia o s v8 i2).bind fun v10 => if ¬ v6 = v10 then g_39 o n 2 s 0 .null 0 else (y_gv s 3 (.ref r0) 1).bind fun v13 => (y_la s v13 i2).bind fun v15 => (y_gv s 3 a1 1).bind fun v17 => (y_la s v17 i2).bind fun v19 => if (lg_cmp v15 v19) = 0 then g_39 o n 1 s r0 (a1) ((i2 + Int32.ofInt 1)) else g_39 o n 2 s 0 .null 0
  | n + 1, 2, s, r0, a1, i2 => some (s, 0)
  | _ + 1, _, _, _, _, _ => none
set_option maxRecDepth 100000 in
set_option maxHeartbeats 4000000 in
theorem c_39 (o : X_O) : ∀ n, (∀ (d : Nat) (s : Y_S) (r0 : Nat) (a1 : Value) (i2 : Int32) (s9 : Y_S) (r : Int32), g_39 o n 0 s r0 a1 i2 = some (s9, r) → ∀ lv : X_L, x_lget lv 0 = some (.ref r0) → x_lget lv 1 = some a1 → y_rv a1 = true → Y o (d + 0) 39 0 lv [] s (fun s1 r1 => s1 = s9 ∧ r1 = some (.int r))) ∧
    (∀ (d : Nat) (s : Y_S) (r0 : Nat) (a1 : Value) (i2 : Int32) (s9 : Y_S) (r : Int32), g_39 o n 1 s r0 a1 i2 = some (s9, r) → ∀ lv : X_L, x_lget lv 0 = some (.ref r0) → x_lget lv 1 = some a1 → x_lget lv 2 = some (.int i2) → y_rv a1 = true → Y o (d + 0) 39 15 lv [] s (fun s1 r1 => s1 = s9 ∧ r1 = some (.int r))) ∧
    (∀ (d : Nat) (s : Y_S) (r0 : Nat) (a1 : Value) (i2 : Int32) (s9 : Y_S) (r : Int32), g_39 o n 2 s r0 a1 i2 = some (s9, r) → ∀ lv : X_L, True → Y o (d + 0) 39 54 lv [] s (fun s1 r1 => s1 = s9 ∧ r1 = some (.int r))) := by
  intro n
  induction n with
  | zero => exact ⟨fun d s _ _ _ s9 r h => (by simp only [g_39] at h; cases h), fun d s _ _ _ s9 r h => (by simp only [g_39] at h; cases h), fun d s _ _ _ s9 r h => (by simp only [g_39] at h; cases h)⟩
  | succ n ih =>
    refine ⟨?_, ?_, ?_⟩
    · intro d s r0 a1 i2 s9 r h lv lk0 lk1 rv1
      simp only [g_39] at h
      refine Van rfl lk0 rfl rfl ?_
      have hz := y_bind h
      clear h
      obtain ⟨v1, h2, h⟩ := hz
      refine Zgi h2 rfl rfl rfl ?_
      refine Van rfl lk1 rv1 rfl ?_
      have hz := y_bind h
      clear h
      obtain ⟨v3, h4, h⟩ := hz
      refine Zgi h4 rfl rfl rfl ?_
      refine Yif rfl rfl rfl rfl rfl rfl rfl (fun c5 => ?_) (fun c5 => ?_)
      · rw [if_pos c5] at h
        refine Vic (v := 0) rfl (by decide) rfl ?_
        refine Vsin rfl rfl (fun lv lk2 hk => ?_)
        have lk0 := hk 0 _ lk0 (by decide) (by decide) (Or.inl (by decide))
        have lk1 := hk 1 _ lk1 (by decide) (by decide) (Or.inr (y_rv_cat rv1))
        exact ih.2.1 _ _ _ _ _ _ _ h lv lk0 lk1 lk2 rv1
      · rw [if_neg c5] at h
        refine Vic (v := 0) rfl (by decide) rfl ?_
        cases h
        exact Yret rfl rfl rfl rfl rfl rfl rfl ⟨rfl, rfl⟩
    · intro d s r0 a1 i2 s9 r h lv lk0 lk1 lk2 rv1
      simp only [g_39] at h
      refine Vin rfl lk2 rfl ?_
      refine Van rfl lk0 rfl rfl ?_
      have hz := y_bind h
      clear h
      obtain ⟨v1, h2, h⟩ := hz
      refine Zgi h2 rfl rfl rfl ?_
      refine Yif rfl rfl rfl rfl rfl rfl rfl (fun c3 => ?_) (fun c3 => ?_)
      · rw [if_pos c3] at h
        refine Vic (v := 1) rfl (by decide) rfl ?_
        cases h
        exact Yret rfl rfl rfl rfl rfl rfl rfl ⟨rfl, rfl⟩
      · rw [if_neg c3] at h
        refine Van rfl lk0 rfl rfl ?_
        have hz := y_bind h
        clear h
        obtain ⟨v4, h5, h⟩ := hz
        have wv4 := (y_gv_ok h5).2
        refine Vgv h5 rfl rfl rfl ?_
        refine Vin rfl lk2 rfl ?_
        have hz := y_bind h
        clear h
        obtain ⟨v6, h7, h⟩ := hz
        refine Zia h7 rfl rfl ?_
        refine Van rfl lk1 rv1 rfl ?_
        have hz := y_bind h
        clear h
        obtain ⟨v8, h9, h⟩ := hz
        have wv8 := (y_gv_ok h9).2
        refine Vgv h9 rfl rfl rfl ?_
        refine Vin rfl lk2 rfl ?_
        have hz := y_bind h
        clear h
        obtain ⟨v10, h11, h⟩ := hz
        refine Zia h11 rfl rfl ?_
        refine Yif rfl rfl rfl rfl rfl rfl rfl (fun c12 => ?_) (fun c12 => ?_)
        · rw [if_pos c12] at h
          exact ih.2.2 _ _ _ _ _ _ _ h lv trivial
        · rw [if_neg c12] at h
          refine Van rfl lk0 rfl rfl ?_
          have hz := y_bind h
          clear h
          obtain ⟨v13, h14, h⟩ := hz
          have wv13 := (y_gv_ok h14).2
          refine Vgv h14 rfl rfl rfl ?_
          refine Vin rfl lk2 rfl ?_
          have hz := y_bind h
          clear h
          obtain ⟨v15, h16, h⟩ := hz
          refine Zla h16 rfl rfl ?_
          refine Van rfl lk1 rv1 rfl ?_
          have hz := y_bind h
          clear h
          obtain ⟨v17, h18, h⟩ := hz
          have wv17 := (y_gv_ok h18).2
          refine Vgv h18 rfl rfl rfl ?_
          refine Vin rfl lk2 rfl ?_
          have hz := y_bind h
          clear h
          obtain ⟨v19, h20, h⟩ := hz
          refine Zla h20 rfl rfl ?_
          refine Ya rfl rfl rfl ?_
          refine Yif rfl rfl rfl rfl rfl rfl rfl (fun c21 => ?_) (fun c21 => ?_)
          · rw [if_pos c21] at h
            refine Vinc rfl lk2 rfl (fun lv lk2 hk => ?_)
            have lk0 := hk 0 _ lk0 (by decide) (by decide) (Or.inl (by decide))
            have lk1 := hk 1 _ lk1 (by decide) (by decide) (Or.inr (y_rv_cat rv1))
            refine Ygo rfl rfl rfl rfl rfl rfl ?_
            exact ih.2.1 _ _ _ _ _ _ _ h lv lk0 lk1 lk2 rv1
          · rw [if_neg c21] at h
            exact ih.2.2 _ _ _ _ _ _ _ h lv trivial
    · intro d s r0 a1 i2 s9 r h lv _
      simp only [g_39] at h
      refine Vic (v := 0) rfl (by decide) rfl ?_
      cases h
      exact Yret rfl rfl rfl rfl rfl rfl rfl ⟨rfl, rfl⟩

/-- StepRows$Rows.copyFor -/
def g_40 (o : X_O) : Nat → Nat → Y_S → Nat → Int32 → Option (Y_S × Value)
  | 0, _, _, _, _ => none
  | n + 1, 0, s, r0, i1 => (y_no s 3).bind fun s1 => (y_gi s1 3 (.ref r0) 7).bind fun v3 => (y_gi s1 3 (.ref r0) 8).bind fun v5 => (g_36 o n 0 s1 (s.1) (v3) (v5)).bind fun q10 => (y_gv q10.1 3 (.ref r0) 0).bind fun v13 => (y_gv q10.1 3 (.ref s.1) 0).bind fun v15 => (y_gi q10.1 3 (.ref r0) 7).bind fun v17 => (y_cp q10.1 v13 0 v15 0 v17).bind fun s19 => (y_gv s19 3 (.ref r0) 1).bind fun v21 => (y_gv s19 3 (.ref s.1) 1).bind fun v23 => (y_gi s19 3 (.ref r0) 7).bind fun v25 => (y_cp s19 v21 0 v23 0 v25).bind fun s27 => (y_gv s27 3 (.ref r0) 2).bind fun v29 => (y_gv s27 3 (.ref s.1) 2).bind fun v31 => (y_gi s27 3 (.ref r0) 7).bind fun v33 => (y_cp s27 v29 0 v31 0 v33).bind fun s35 => (y_gv s35 3 (.ref r0) 3).bind fun v37 => (y_gv s35 3 (.ref s.1) 3).bind fun v39 => (y_gi s35 3 (.ref r0) 7).bind fun v41 => (y_cp s35 v37 0 v39 0 v41).bind fun s43 => (y_gv s43 3 (.ref r0) 4).bind fun v45 => (y_gv s43 3 (.ref s.1) 4).bind fun v47 => (y_gi s43 3 (.ref r0) 7).bind fun v49 => (y_cp s43 v45 0 v47 0 v49).bind fun s51 => (y_gv s51 3 (.ref r0) 5).bind fun v53 => (y_gv s51 3 (.ref s.1) 5).bind fun v55 => (y_gi s51 3 (.ref r0) 7).bind fun v57 => (y_cp s51 v53 0 v55 0 v57).bind fun s59 => (y_gv s59 3 (.ref r0) 6).bind fun v61 => (y_gv s59 3 (.ref s.1) 6).bind fun v63 => (y_gi s59 3 (.ref r0) 8).bind fun v65 => (y_cp s59 v61 0 v63 0 v65).bind fun s67 => (y_gi s67 3 (.ref r0) 7).bind fun v69 => (y_pi s67 3 (.ref s.1) 7 v69).bind fun s71 => (y_gi s71 3 (.ref r0) 8).bind fun v73 => (y_pi s71 3 (.ref s.1) 8 v73).bind fun s75 => (y_pi s75 3 (.ref s.1) 9 i1).bind fun s77 => (y_isr (.ref s.1)).bind fun b79 => some (s77, .ref b79)
  | _ + 1, _, _, _, _ => none
set_option maxRecDepth 100000 in
set_option maxHeartbeats 4000000 in
theorem c_40 (o : X_O) : ∀ n, (∀ (d : Nat) (s : Y_S) (r0 : Nat) (i1 : Int32) (s9 : Y_S) (r : Value), g_40 o n 0 s r0 i1 = some (s9, r) → ∀ lv : X_L, x_lget lv 0 = some (.ref r0) → x_lget lv 1 = some (.int i1) → Y o (d + 2) 40 0 lv [] s (fun s1 r1 => s1 = s9 ∧ r1 = some r)) := by
  intro n
  induction n with
  | zero => exact fun d s _ _ s9 r h => (by simp only [g_40] at h; cases h)
  | succ n ih =>
    intro d s r0 i1 s9 r h lv lk0 lk1
    simp only [g_40] at h
    have hz := y_bind h
    clear h
    obtain ⟨s1, h2, h⟩ := hz
    refine Zno h2 rfl rfl (by decide +kernel) rfl ?_
    refine Vdup rfl rfl rfl ?_
    refine Van rfl lk0 rfl rfl ?_
    have hz := y_bind h
    clear h
    obtain ⟨v3, h4, h⟩ := hz
    refine Zgi h4 rfl rfl rfl ?_
    refine Van rfl lk0 rfl rfl ?_
    have hz := y_bind h
    clear h
    obtain ⟨v5, h6, h⟩ := hz
    refine Zgi h6 rfl rfl rfl ?_
    have hz := y_bind h
    clear h
    obtain ⟨⟨s7, r8⟩, h9, h⟩ := hz
    try dsimp only at h
    refine Vci rfl rfl (Or.inl rfl) rfl rfl ⟨(Nat.le_of_ble_eq_true rfl), (Nat.le_of_ble_eq_true rfl)⟩ rfl ((c_36 o n) _ _ _ _ _ _ _ h9 _ rfl rfl rfl) (fun z1 z2 zq => ?_)
    obtain ⟨rfl, rfl⟩ := zq
    try dsimp only [Option.toList, HAppend.hAppend, Append.append, List.append]
    refine Vsan rfl rfl rfl (fun lv lk2 hk => ?_)
    have lk0 := hk 0 _ lk0 (by decide) (by decide) (Or.inl (by decide))
    have lk1 := hk 1 _ lk1 (by decide) (by decide) (Or.inr rfl)
    refine Van rfl lk0 rfl rfl ?_
    have hz := y_bind h
    clear h
    obtain ⟨v13, h14, h⟩ := hz
    have wv13 := (y_gv_ok h14).2
    refine Vgv h14 rfl rfl rfl ?_
    refine Vic (v := 0) rfl (by decide) rfl ?_
    refine Van rfl lk2 rfl rfl ?_
    have hz := y_bind h
    clear h
    obtain ⟨v15, h16, h⟩ := hz
    have wv15 := (y_gv_ok h16).2
    refine Vgv h16 rfl rfl rfl ?_
    refine Vic (v := 0) rfl (by decide) rfl ?_
    refine Van rfl lk0 rfl rfl ?_
    have hz := y_bind h
    clear h
    obtain ⟨v17, h18, h⟩ := hz
    refine Zgi h18 rfl rfl rfl ?_
    have hz := y_bind h
    clear h
    obtain ⟨s19, h20, h⟩ := hz
    refine Zcp h20 rfl rfl (Nat.le_of_ble_eq_true rfl) rfl ?_
    refine Van rfl lk0 rfl rfl ?_
    have hz := y_bind h
    clear h
    obtain ⟨v21, h22, h⟩ := hz
    have wv21 := (y_gv_ok h22).2
    refine Vgv h22 rfl rfl rfl ?_
    refine Vic (v := 0) rfl (by decide) rfl ?_
    refine Van rfl lk2 rfl rfl ?_
    have hz := y_bind h
    clear h
    obtain ⟨v23, h24, h⟩ := hz
    have wv23 := (y_gv_ok h24).2
    refine Vgv h24 rfl rfl rfl ?_
    refine Vic (v := 0) rfl (by decide) rfl ?_
    refine Van rfl lk0 rfl rfl ?_
    have hz := y_bind h
    clear h
    obtain ⟨v25, h26, h⟩ := hz
    refine Zgi h26 rfl rfl rfl ?_
    have hz := y_bind h
    clear h
    obtain ⟨s27, h28, h⟩ := hz
    refine Zcp h28 rfl rfl (Nat.le_of_ble_eq_true rfl) rfl ?_
    refine Van rfl lk0 rfl rfl ?_
    have hz := y_bind h
    clear h
    obtain ⟨v29, h30, h⟩ := hz
    have wv29 := (y_gv_ok h30).2
    refine Vgv h30 rfl rfl rfl ?_
    refine Vic (v := 0) rfl (by decide) rfl ?_
    refine Van rfl lk2 rfl rfl ?_
    have hz := y_bind h
    clear h
    obtain ⟨v31, h32, h⟩ := hz
    have wv31 := (y_gv_ok h32).2
    refine Vgv h32 rfl rfl rfl ?_
    refine Vic (v := 0) rfl (by decide) rfl ?_
    refine Van rfl lk0 rfl rfl ?_
    have hz := y_bind h
    clear h
    obtain ⟨v33, h34, h⟩ := hz
    refine Zgi h34 rfl rfl rfl ?_
    have hz := y_bind h
    clear h
    obtain ⟨s35, h36, h⟩ := hz
    refine Zcp h36 rfl rfl (Nat.le_of_ble_eq_true rfl) rfl ?_
    refine Van rfl lk0 rfl rfl ?_
    have hz := y_bind h
    clear h
    obtain ⟨v37, h38, h⟩ := hz
    have wv37 := (y_gv_ok h38).2
    refine Vgv h38 rfl rfl rfl ?_
    refine Vic (v := 0) rfl (by decide) rfl ?_
    refine Van rfl lk2 rfl rfl ?_
    have hz := y_bind h
    clear h
    obtain ⟨v39, h40, h⟩ := hz
    have wv39 := (y_gv_ok h40).2
    refine Vgv h40 rfl rfl rfl ?_
    refine Vic (v := 0) rfl (by decide) rfl ?_
    refine Van rfl lk0 rfl rfl ?_
    have hz := y_bind h
    clear h
    obtain ⟨v41, h42, h⟩ := hz
    refine Zgi h42 rfl rfl rfl ?_
    have hz := y_bind h
    clear h
    obtain ⟨s43, h44, h⟩ := hz
    refine Zcp h44 rfl rfl (Nat.le_of_ble_eq_true rfl) rfl ?_
    refine Van rfl lk0 rfl rfl ?_
    have hz := y_bind h
    clear h
    obtain ⟨v45, h46, h⟩ := hz
    have wv45 := (y_gv_ok h46).2
    refine Vgv h46 rfl rfl rfl ?_
    refine Vic (v := 0) rfl (by decide) rfl ?_
    refine Van rfl lk2 rfl rfl ?_
    have hz := y_bind h
    clear h
    obtain ⟨v47, h48, h⟩ := hz
    have wv47 := (y_gv_ok h48).2
    refine Vgv h48 rfl rfl rfl ?_
    refine Vic (v := 0) rfl (by decide) rfl ?_
    refine Van rfl lk0 rfl rfl ?_
    have hz := y_bind h
    clear h
    obtain ⟨v49, h50, h⟩ := hz
    refine Zgi h50 rfl rfl rfl ?_
    have hz := y_bind h
    clear h
    obtain ⟨s51, h52, h⟩ := hz
    refine Zcp h52 rfl rfl (Nat.le_of_ble_eq_true rfl) rfl ?_
    refine Van rfl lk0 rfl rfl ?_
    have hz := y_bind h
    clear h
    obtain ⟨v53, h54, h⟩ := hz
    have wv53 := (y_gv_ok h54).2
    refine Vgv h54 rfl rfl rfl ?_
    refine Vic (v := 0) rfl (by decide) rfl ?_
    refine Van rfl lk2 rfl rfl ?_
    have hz := y_bind h
    clear h
    obtain ⟨v55, h56, h⟩ := hz
    have wv55 := (y_gv_ok h56).2
    refine Vgv h56 rfl rfl rfl ?_
    refine Vic (v := 0) rfl (by decide) rfl ?_
    refine Van rfl lk0 rfl rfl ?_
    have hz := y_bind h
    clear h
    obtain ⟨v57, h58, h⟩ := hz
    refine Zgi h58 rfl rfl rfl ?_
    have hz := y_bind h
    clear h
    obtain ⟨s59, h60, h⟩ := hz
    refine Zcp h60 rfl rfl (Nat.le_of_ble_eq_true rfl) rfl ?_
    refine Van rfl lk0 rfl rfl ?_
    have hz := y_bind h
    clear h
    obtain ⟨v61, h62, h⟩ := hz
    have wv61 := (y_gv_ok h62).2
    refine Vgv h62 rfl rfl rfl ?_
    refine Vic (v := 0) rfl (by decide) rfl ?_
    refine Van rfl lk2 rfl rfl ?_
    have hz := y_bind h
    clear h
    obtain ⟨v63, h64, h⟩ := hz
    have wv63 := (y_gv_ok h64).2
    refine Vgv h64 rfl rfl rfl ?_
    refine Vic (v := 0) rfl (by decide) rfl ?_
    refine Van rfl lk0 rfl rfl ?_
    have hz := y_bind h
    clear h
    obtain ⟨v65, h66, h⟩ := hz
    refine Zgi h66 rfl rfl rfl ?_
    have hz := y_bind h
    clear h
    obtain ⟨s67, h68, h⟩ := hz
    refine Zcp h68 rfl rfl (Nat.le_of_ble_eq_true rfl) rfl ?_
    refine Van rfl lk2 rfl rfl ?_
    refine Van rfl lk0 rfl rfl ?_
    have hz := y_bind h
    clear h
    obtain ⟨v69, h70, h⟩ := hz
    refine Zgi h70 rfl rfl rfl ?_
    have hz := y_bind h
    clear h
    obtain ⟨s71, h72, h⟩ := hz
    refine Zpi h72 rfl rfl rfl rfl ?_
    refine Van rfl lk2 rfl rfl ?_
    refine Van rfl lk0 rfl rfl ?_
    have hz := y_bind h
    clear h
    obtain ⟨v73, h74, h⟩ := hz
    refine Zgi h74 rfl rfl rfl ?_
    have hz := y_bind h
    clear h
    obtain ⟨s75, h76, h⟩ := hz
    refine Zpi h76 rfl rfl rfl rfl ?_
    refine Van rfl lk2 rfl rfl ?_
    refine Vin rfl lk1 rfl ?_
    have hz := y_bind h
    clear h
    obtain ⟨s77, h78, h⟩ := hz
    refine Zpi h78 rfl rfl rfl rfl ?_
    refine Van rfl lk2 rfl rfl ?_
    have hz := y_bind h
    clear h
    obtain ⟨b79, h80, h⟩ := hz
    cases h
    cases y_isr_ok h80
    exact Yret rfl rfl rfl rfl rfl rfl rfl ⟨rfl, rfl⟩

/-- StepRows.keptRows -/
def g_4 (o : X_O) : Nat → Nat → Y_S → Nat → Value → Int32 → Option (Y_S × Value)
  | 0, _, _, _, _, _ => none
  | n + 1, 0, s, r0, a1, i2 => g_4 o n 1 s r0 (a1) (0)
  | n + 1, 1, s, r0, a1, i2 => (y_gi s 0 (.ref r0) 3).bind fun v1 => if v1 ≤ i2 then (y_gi s 0 (.ref r0) 3).bind fun v4 => (y_rcv s 3 a1).bind fun b10 => (g_40 o n 0 s b10 (v4)).bind fun q9 => (y_isr q9.2).bind fun b12 => (y_isr (.ref b12)).bind fun b14 => some (q9.1, .ref b14) else (y_gv s 0 (.ref r0) 2).bind fun v16 => (y_aa s v16 i2).bind fun v18 => (y_rcv s 3 v18).bind fun b24 => (g_39 o n 0 s b24 (a1) 0).bind fun q23 => if q23.2 = 0 then g_4 o n 1 q23.1 r0 (a1) ((i2 + Int32.ofInt 1)) else (y_gv q23.1 0 (.ref r0) 2).bind fun v29 => (y_aa q23.1 v29 i2).bind fun v31 => (y_isr v31).bind fun b33 => some (q23.1, .ref b33)
  | _ + 1, _, _, _, _, _ => none
set_option maxRecDepth 100000 in
set_option maxHeartbeats 4000000 in
theorem c_4 (o : X_O) : ∀ n, (∀ (d : Nat) (s : Y_S) (r0 : Nat) (a1 : Value) (i2 : Int32) (s9 : Y_S) (r : Value), g_4 o n 0 s r0 a1 i2 = some (s9, r) → ∀ lv : X_L, x_lget lv 0 = some (.ref r0) → x_lget lv 1 = some a1 → y_rv a1 = true → Y o (d + 3) 4 0 lv [] s (fun s1 r1 => s1 = s9 ∧ r1 = some r)) ∧
    (∀ (d : Nat) (s : Y_S) (r0 : Nat) (a1 : Value) (i2 : Int32) (s9 : Y_S) (r : Value), g_4 o n 1 s r0 a1 i2 = some (s9, r) → ∀ lv : X_L, x_lget lv 0 = some (.ref r0) → x_lget lv 1 = some a1 → x_lget lv 2 = some (.int i2) → y_rv a1 = true → Y o (d + 3) 4 2 lv [] s (fun s1 r1 => s1 = s9 ∧ r1 = some r)) := by
  intro n
  induction n with
  | zero => exact ⟨fun d s _ _ _ s9 r h => (by simp only [g_4] at h; cases h), fun d s _ _ _ s9 r h => (by simp only [g_4] at h; cases h)⟩
  | succ n ih =>
    refine ⟨?_, ?_⟩
    · intro d s r0 a1 i2 s9 r h lv lk0 lk1 rv1
      simp only [g_4] at h
      refine Vic (v := 0) rfl (by decide) rfl ?_
      refine Vsin rfl rfl (fun lv lk2 hk => ?_)
      have lk0 := hk 0 _ lk0 (by decide) (by decide) (Or.inl (by decide))
      have lk1 := hk 1 _ lk1 (by decide) (by decide) (Or.inr (y_rv_cat rv1))
      exact ih.2 _ _ _ _ _ _ _ h lv lk0 lk1 lk2 rv1
    · intro d s r0 a1 i2 s9 r h lv lk0 lk1 lk2 rv1
      simp only [g_4] at h
      refine Vin rfl lk2 rfl ?_
      refine Van rfl lk0 rfl rfl ?_
      have hz := y_bind h
      clear h
      obtain ⟨v1, h2, h⟩ := hz
      refine Zgi h2 rfl rfl rfl ?_
      refine Yif rfl rfl rfl rfl rfl rfl rfl (fun c3 => ?_) (fun c3 => ?_)
      · rw [if_pos c3] at h
        refine Van rfl lk1 rv1 rfl ?_
        refine Van rfl lk0 rfl rfl ?_
        have hz := y_bind h
        clear h
        obtain ⟨v4, h5, h⟩ := hz
        refine Zgi h5 rfl rfl rfl ?_
        have hz := y_bind h
        clear h
        obtain ⟨b10, h11, h⟩ := hz
        obtain ⟨eh11, fh11, wh11⟩ := y_rcv_ok h11
        cases eh11
        have hz := y_bind h
        clear h
        obtain ⟨⟨s6, r7⟩, h8, h⟩ := hz
        try dsimp only at h
        have hz := y_bind h
        clear h
        obtain ⟨b12, h13, h⟩ := hz
        cases y_isr_ok h13
        refine Vcv rfl rfl rfl wh11 rfl rfl ⟨(Nat.le_of_ble_eq_true rfl), (Nat.le_of_ble_eq_true rfl)⟩ rfl ((c_40 o n) _ _ _ _ _ _ h8 _ rfl rfl) (fun z1 z2 zq => ?_)
        obtain ⟨rfl, rfl⟩ := zq
        try dsimp only [Option.toList, HAppend.hAppend, Append.append, List.append]
        have hz := y_bind h
        clear h
        obtain ⟨b14, h15, h⟩ := hz
        cases h
        cases y_isr_ok h15
        exact Yret rfl rfl rfl rfl rfl rfl rfl ⟨rfl, rfl⟩
      · rw [if_neg c3] at h
        refine Van rfl lk0 rfl rfl ?_
        have hz := y_bind h
        clear h
        obtain ⟨v16, h17, h⟩ := hz
        have wv16 := (y_gv_ok h17).2
        refine Vgv h17 rfl rfl rfl ?_
        refine Vin rfl lk2 rfl ?_
        have hz := y_bind h
        clear h
        obtain ⟨v18, h19, h⟩ := hz
        have wv18 := y_aa_rv h19
        refine Zaa h19 rfl rfl ?_
        refine Van rfl lk1 rv1 rfl ?_
        have hz := y_bind h
        clear h
        obtain ⟨b24, h25, h⟩ := hz
        obtain ⟨eh25, fh25, wh25⟩ := y_rcv_ok h25
        cases eh25
        have hz := y_bind h
        clear h
        obtain ⟨⟨s20, r21⟩, h22, h⟩ := hz
        try dsimp only at h
        refine Vcv rfl rfl rfl wh25 rfl rfl ⟨(Nat.le_of_ble_eq_true rfl), (by simp only [List.take, List.reverse_cons, List.reverse_nil, List.nil_append, List.cons_append, List.map_cons, List.map_nil, y_cati, y_catl, y_catr, y_catn, y_cata, y_rv_cat rv1, List.sum_cons, List.sum_nil]; decide +kernel)⟩ rfl ((c_39 o n).1 _ _ _ _ _ _ _ h22 _ (by simp [lv_args, x_lget, y_cati, y_catl, y_catr, y_rv_cat rv1]) (by simp [lv_args, x_lget, y_cati, y_catl, y_catr, y_rv_cat rv1]) rv1) (fun z1 z2 zq => ?_)
        obtain ⟨rfl, rfl⟩ := zq
        try dsimp only [Option.toList, HAppend.hAppend, Append.append, List.append]
        refine Yif rfl rfl rfl rfl rfl rfl rfl (fun c28 => ?_) (fun c28 => ?_)
        · rw [if_pos c28] at h
          refine Vinc rfl lk2 rfl (fun lv lk2 hk => ?_)
          have lk0 := hk 0 _ lk0 (by decide) (by decide) (Or.inl (by decide))
          have lk1 := hk 1 _ lk1 (by decide) (by decide) (Or.inr (y_rv_cat rv1))
          refine Ygo rfl rfl rfl rfl rfl rfl ?_
          exact ih.2 _ _ _ _ _ _ _ h lv lk0 lk1 lk2 rv1
        · rw [if_neg c28] at h
          refine Van rfl lk0 rfl rfl ?_
          have hz := y_bind h
          clear h
          obtain ⟨v29, h30, h⟩ := hz
          have wv29 := (y_gv_ok h30).2
          refine Vgv h30 rfl rfl rfl ?_
          refine Vin rfl lk2 rfl ?_
          have hz := y_bind h
          clear h
          obtain ⟨v31, h32, h⟩ := hz
          have wv31 := y_aa_rv h32
          refine Zaa h32 rfl rfl ?_
          have hz := y_bind h
          clear h
          obtain ⟨b33, h34, h⟩ := hz
          cases h
          cases y_isr_ok h34
          exact Yret rfl rfl rfl rfl rfl rfl rfl ⟨rfl, rfl⟩

/-- StepRows.make -/
def g_3 (o : X_O) : Nat → Nat → Y_S → Nat → Int32 → Option (Y_S × Int32)
  | 0, _, _, _, _ => none
  | n + 1, 0, s, r0, i1 => (y_gv s 0 (.ref r0) 0).bind fun v1 => (y_rcv s 1 v1).bind fun b7 => (g_26 o n 0 s b7 (i1) 0).bind fun q6 => if q6.2 = 0 then g_3 o n 1 q6.1 0 0 else (y_gv q6.1 0 (.ref r0) 0).bind fun v12 => (y_gv q6.1 1 v12 3).bind fun v14 => (y_ia o q6.1 v14 i1).bind fun v16 => if v16 ≤ 500 then (y_gi q6.1 0 (.ref r0) 3).bind fun v19 => if v19 < 20 then (y_gv q6.1 0 (.ref r0) 1).bind fun v22 => (y_rcv q6.1 2 v22).bind fun b28 => (g_31 o n 0 q6.1 b28 (i1) 0).bind fun q27 => (y_gv q27.1 0 (.ref r0) 2).bind fun v32 => (y_gi q27.1 0 (.ref r0) 3).bind fun v34 => (y_gv q27.1 0 (.ref r0) 1).bind fun v36 => (y_gv q27.1 2 v36 1).bind fun v38 => (y_rcv q27.1 0 (.ref r0)).bind fun b44 => (g_4 o n 0 q27.1 b44 (v38) 0).bind fun q43 => (y_isr q43.2).bind fun b46 => (y_as q43.1 v32 v34 (.ref b46)).bind fun s48 => (y_gi s48 0 (.ref r0) 3).bind fun v50 => (y_pi s48 0 (.ref r0) 3 (v50 + 1)).bind fun s52 => (y_gi s52 0 (.ref r0) 3).bind fun v54 => some (s52, (v54 - 1)) else some (q6.1, (-2)) else g_3 o n 1 q6.1 0 0
  | n + 1, 1, s, r0, i1 => some (s, (-1))
  | _ + 1, _, _, _, _ => none
set_option maxRecDepth 100000 in
set_option maxHeartbeats 4000000 in
theorem c_3 (o : X_O) : ∀ n, (∀ (d : Nat) (s : Y_S) (r0 : Nat) (i1 : Int32) (s9 : Y_S) (r : Int32), g_3 o n 0 s r0 i1 = some (s9, r) → ∀ lv : X_L, x_lget lv 0 = some (.ref r0) → x_lget lv 1 = some (.int i1) → Y o (d + 5) 3 0 lv [] s (fun s1 r1 => s1 = s9 ∧ r1 = some (.int r))) ∧
    (∀ (d : Nat) (s : Y_S) (r0 : Nat) (i1 : Int32) (s9 : Y_S) (r : Int32), g_3 o n 1 s r0 i1 = some (s9, r) → ∀ lv : X_L, True → Y o (d + 5) 3 26 lv [] s (fun s1 r1 => s1 = s9 ∧ r1 = some (.int r))) := by
  intro n
  induction n with
  | zero => exact ⟨fun d s _ _ s9 r h => (by simp only [g_3] at h; cases h), fun d s _ _ s9 r h => (by simp only [g_3] at h; cases h)⟩
  | succ n ih =>
    refine ⟨?_, ?_⟩
    · intro d s r0 i1 s9 r h lv lk0 lk1
      simp only [g_3] at h
      refine Van rfl lk0 rfl rfl ?_
      have hz := y_bind h
      clear h
      obtain ⟨v1, h2, h⟩ := hz
      have wv1 := (y_gv_ok h2).2
      refine Vgv h2 rfl rfl rfl ?_
      refine Vin rfl lk1 rfl ?_
      have hz := y_bind h
      clear h
      obtain ⟨b7, h8, h⟩ := hz
      obtain ⟨eh8, fh8, wh8⟩ := y_rcv_ok h8
      cases eh8
      have hz := y_bind h
      clear h
      obtain ⟨⟨s3, r4⟩, h5, h⟩ := hz
      try dsimp only at h
      refine Vcv rfl rfl rfl wh8 rfl rfl ⟨(Nat.le_of_ble_eq_true rfl), (Nat.le_of_ble_eq_true rfl)⟩ rfl ((c_26 o n).1 _ _ _ _ _ _ _ h5 _ rfl rfl) (fun z1 z2 zq => ?_)
      obtain ⟨rfl, rfl⟩ := zq
      try dsimp only [Option.toList, HAppend.hAppend, Append.append, List.append]
      refine Yif rfl rfl rfl rfl rfl rfl rfl (fun c11 => ?_) (fun c11 => ?_)
      · rw [if_pos c11] at h
        exact ih.2 _ _ _ _ _ _ h lv trivial
      · rw [if_neg c11] at h
        refine Van rfl lk0 rfl rfl ?_
        have hz := y_bind h
        clear h
        obtain ⟨v12, h13, h⟩ := hz
        have wv12 := (y_gv_ok h13).2
        refine Vgv h13 rfl rfl rfl ?_
        have hz := y_bind h
        clear h
        obtain ⟨v14, h15, h⟩ := hz
        have wv14 := (y_gv_ok h15).2
        refine Vgv h15 rfl rfl rfl ?_
        refine Vin rfl lk1 rfl ?_
        have hz := y_bind h
        clear h
        obtain ⟨v16, h17, h⟩ := hz
        refine Zia h17 rfl rfl ?_
        refine Vsp (v := 500) rfl (by decide) rfl ?_
        refine Yif rfl rfl rfl rfl rfl rfl rfl (fun c18 => ?_) (fun c18 => ?_)
        · rw [if_pos c18] at h
          refine Van rfl lk0 rfl rfl ?_
          have hz := y_bind h
          clear h
          obtain ⟨v19, h20, h⟩ := hz
          refine Zgi h20 rfl rfl rfl ?_
          refine Vbp (v := 20) rfl (by decide) rfl ?_
          refine Yif rfl rfl rfl rfl rfl rfl rfl (fun c21 => ?_) (fun c21 => ?_)
          · rw [if_pos c21] at h
            refine Van rfl lk0 rfl rfl ?_
            have hz := y_bind h
            clear h
            obtain ⟨v22, h23, h⟩ := hz
            have wv22 := (y_gv_ok h23).2
            refine Vgv h23 rfl rfl rfl ?_
            refine Vin rfl lk1 rfl ?_
            have hz := y_bind h
            clear h
            obtain ⟨b28, h29, h⟩ := hz
            obtain ⟨eh29, fh29, wh29⟩ := y_rcv_ok h29
            cases eh29
            have hz := y_bind h
            clear h
            obtain ⟨⟨s24, r25⟩, h26, h⟩ := hz
            try dsimp only at h
            refine Vcv rfl rfl rfl wh29 rfl rfl ⟨(Nat.le_of_ble_eq_true rfl), (Nat.le_of_ble_eq_true rfl)⟩ rfl ((c_31 o n).1 _ _ _ _ _ _ _ h26 _ rfl rfl) (fun z1 z2 zq => ?_)
            obtain ⟨rfl, rfl⟩ := zq
            try dsimp only [Option.toList, HAppend.hAppend, Append.append, List.append]
            refine Van rfl lk0 rfl rfl ?_
            have hz := y_bind h
            clear h
            obtain ⟨v32, h33, h⟩ := hz
            have wv32 := (y_gv_ok h33).2
            refine Vgv h33 rfl rfl rfl ?_
            refine Van rfl lk0 rfl rfl ?_
            have hz := y_bind h
            clear h
            obtain ⟨v34, h35, h⟩ := hz
            refine Zgi h35 rfl rfl rfl ?_
            refine Van rfl lk0 rfl rfl ?_
            refine Van rfl lk0 rfl rfl ?_
            have hz := y_bind h
            clear h
            obtain ⟨v36, h37, h⟩ := hz
            have wv36 := (y_gv_ok h37).2
            refine Vgv h37 rfl rfl rfl ?_
            have hz := y_bind h
            clear h
            obtain ⟨v38, h39, h⟩ := hz
            have wv38 := (y_gv_ok h39).2
            refine Vgv h39 rfl rfl rfl ?_
            have hz := y_bind h
            clear h
            obtain ⟨b44, h45, h⟩ := hz
            obtain ⟨eh45, fh45, wh45⟩ := y_rcv_ok h45
            cases eh45
            have hz := y_bind h
            clear h
            obtain ⟨⟨s40, r41⟩, h42, h⟩ := hz
            try dsimp only at h
            have hz := y_bind h
            clear h
            obtain ⟨b46, h47, h⟩ := hz
            cases y_isr_ok h47
            refine Vcv rfl rfl rfl wh45 rfl rfl ⟨(by simp only [List.take, List.reverse_cons, List.reverse_nil, List.nil_append, List.cons_append, List.map_cons, List.map_nil, y_cati, y_catl, y_catr, y_catn, y_cata, y_rv_cat wv32, List.sum_cons, List.sum_nil]; decide +kernel), (by simp only [List.take, List.reverse_cons, List.reverse_nil, List.nil_append, List.cons_append, List.map_cons, List.map_nil, y_cati, y_catl, y_catr, y_catn, y_cata, y_rv_cat wv38, List.sum_cons, List.sum_nil]; decide +kernel)⟩ rfl ((c_4 o n).1 _ _ _ _ _ _ _ h42 _ (by simp [lv_args, x_lget, y_cati, y_catl, y_catr, y_rv_cat wv38]) (by simp [lv_args, x_lget, y_cati, y_catl, y_catr, y_rv_cat wv38]) wv38) (fun z1 z2 zq => ?_)
            obtain ⟨rfl, rfl⟩ := zq
            try dsimp only [Option.toList, HAppend.hAppend, Append.append, List.append]
            have hz := y_bind h
            clear h
            obtain ⟨s48, h49, h⟩ := hz
            refine Zas h49 rfl rfl ?_
            refine Van rfl lk0 rfl rfl ?_
            refine Vdup rfl rfl rfl ?_
            have hz := y_bind h
            clear h
            obtain ⟨v50, h51, h⟩ := hz
            refine Zgi h51 rfl rfl rfl ?_
            refine Vic (v := 1) rfl (by decide) rfl ?_
            refine Ya rfl rfl rfl ?_
            have hz := y_bind h
            clear h
            obtain ⟨s52, h53, h⟩ := hz
            refine Zpi h53 rfl rfl rfl rfl ?_
            refine Van rfl lk0 rfl rfl ?_
            have hz := y_bind h
            clear h
            obtain ⟨v54, h55, h⟩ := hz
            refine Zgi h55 rfl rfl rfl ?_
            refine Vic (v := 1) rfl (by decide) rfl ?_
            refine Ya rfl rfl rfl ?_
            cases h
            exact Yret rfl rfl rfl rfl rfl rfl rfl ⟨rfl, rfl⟩
          · rw [if_neg c21] at h
            refine Vbp (v := (-2)) rfl (by decide) rfl ?_
            cases h
            exact Yret rfl rfl rfl rfl rfl rfl rfl ⟨rfl, rfl⟩
        · rw [if_neg c18] at h
          exact ih.2 _ _ _ _ _ _ h lv trivial
    · intro d s r0 i1 s9 r h lv _
      simp only [g_3] at h
      refine Vic (v := (-1)) rfl (by decide) rfl ?_
      cases h
      exact Yret rfl rfl rfl rfl rfl rfl rfl ⟨rfl, rfl⟩

/-- StepRows.signal -/
def g_5 (o : X_O) : Nat → Nat → Y_S → Nat → Int32 → Int64 → Option (Y_S × Int32)
  | 0, _, _, _, _, _ => none
  | n + 1, 0, s, r0, i1, l2 => if i1 < 0 then g_5 o n 1 s 0 0 0 else if i1 < 16 then (y_gv s 0 (.ref r0) 4).bind fun v3 => (y_ls s v3 i1 l2).bind fun s5 => some (s5, 1) else g_5 o n 1 s 0 0 0
  | n + 1, 1, s, r0, i1, l2 => some (s, 0)
  | _ + 1, _, _, _, _, _ => none
set_option maxRecDepth 100000 in
set_option maxHeartbeats 4000000 in
theorem c_5 (o : X_O) : ∀ n, (∀ (d : Nat) (s : Y_S) (r0 : Nat) (i1 : Int32) (l2 : Int64) (s9 : Y_S) (r : Int32), g_5 o n 0 s r0 i1 l2 = some (s9, r) → ∀ lv : X_L, x_lget lv 0 = some (.ref r0) → x_lget lv 1 = some (.int i1) → x_lget lv 2 = some (.long l2) → Y o (d + 0) 5 0 lv [] s (fun s1 r1 => s1 = s9 ∧ r1 = some (.int r))) ∧
    (∀ (d : Nat) (s : Y_S) (r0 : Nat) (i1 : Int32) (l2 : Int64) (s9 : Y_S) (r : Int32), g_5 o n 1 s r0 i1 l2 = some (s9, r) → ∀ lv : X_L, True → Y o (d + 0) 5 10 lv [] s (fun s1 r1 => s1 = s9 ∧ r1 = some (.int r))) := by
  intro n
  induction n with
  | zero => exact ⟨fun d s _ _ _ s9 r h => (by simp only [g_5] at h; cases h), fun d s _ _ _ s9 r h => (by simp only [g_5] at h; cases h)⟩
  | succ n ih =>
    refine ⟨?_, ?_⟩
    · intro d s r0 i1 l2 s9 r h lv lk0 lk1 lk2
      simp only [g_5] at h
      refine Vin rfl lk1 rfl ?_
      refine Yif rfl rfl rfl rfl rfl rfl rfl (fun c1 => ?_) (fun c1 => ?_)
      · rw [if_pos c1] at h
        exact ih.2 _ _ _ _ _ _ _ h lv trivial
      · rw [if_neg c1] at h
        refine Vin rfl lk1 rfl ?_
        refine Vbp (v := 16) rfl (by decide) rfl ?_
        refine Yif rfl rfl rfl rfl rfl rfl rfl (fun c2 => ?_) (fun c2 => ?_)
        · rw [if_pos c2] at h
          refine Van rfl lk0 rfl rfl ?_
          have hz := y_bind h
          clear h
          obtain ⟨v3, h4, h⟩ := hz
          have wv3 := (y_gv_ok h4).2
          refine Vgv h4 rfl rfl rfl ?_
          refine Vin rfl lk1 rfl ?_
          refine Vln rfl lk2 rfl ?_
          have hz := y_bind h
          clear h
          obtain ⟨s5, h6, h⟩ := hz
          refine Zls h6 rfl rfl ?_
          refine Vic (v := 1) rfl (by decide) rfl ?_
          cases h
          exact Yret rfl rfl rfl rfl rfl rfl rfl ⟨rfl, rfl⟩
        · rw [if_neg c2] at h
          exact ih.2 _ _ _ _ _ _ _ h lv trivial
    · intro d s r0 i1 l2 s9 r h lv _
      simp only [g_5] at h
      refine Vic (v := 0) rfl (by decide) rfl ?_
      cases h
      exact Yret rfl rfl rfl rfl rfl rfl rfl ⟨rfl, rfl⟩

/-- StepRows.isProgram -/
def g_7 (o : X_O) : Nat → Nat → Y_S → Nat → Int32 → Int32 → Option (Y_S × Int32)
  | 0, _, _, _, _, _ => none
  | n + 1, 0, s, r0, i1, ti0 => if i1 < 0 then g_7 o n 1 s 0 0 0 else (y_gi s 0 (.ref r0) 3).bind fun v2 => if v2 ≤ i1 then g_7 o n 1 s 0 0 0 else g_7 o n 2 s 0 0 (1)
  | n + 1, 1, s, r0, i1, ti0 => g_7 o n 2 s 0 0 (0)
  | n + 1, 2, s, r0, i1, ti0 => if ti0 = 0 ∨ ti0 = 1 then some (s, ti0) else none
  | _ + 1, _, _, _, _, _ => none
set_option maxRecDepth 100000 in
set_option maxHeartbeats 4000000 in
theorem c_7 (o : X_O) : ∀ n, (∀ (d : Nat) (s : Y_S) (r0 : Nat) (i1 : Int32) (ti0 : Int32) (s9 : Y_S) (r : Int32), g_7 o n 0 s r0 i1 ti0 = some (s9, r) → ∀ lv : X_L, x_lget lv 0 = some (.ref r0) → x_lget lv 1 = some (.int i1) → Y o (d + 0) 7 0 lv [] s (fun s1 r1 => s1 = s9 ∧ r1 = some (.int r))) ∧
    (∀ (d : Nat) (s : Y_S) (r0 : Nat) (i1 : Int32) (ti0 : Int32) (s9 : Y_S) (r : Int32), g_7 o n 1 s r0 i1 ti0 = some (s9, r) → ∀ lv : X_L, True → Y o (d + 0) 7 16 lv [] s (fun s1 r1 => s1 = s9 ∧ r1 = some (.int r))) ∧
    (∀ (d : Nat) (s : Y_S) (r0 : Nat) (i1 : Int32) (ti0 : Int32) (s9 : Y_S) (r : Int32), g_7 o n 2 s r0 i1 ti0 = some (s9, r) → ∀ lv : X_L, True → Y o (d + 0) 7 17 lv [.int ti0] s (fun s1 r1 => s1 = s9 ∧ r1 = some (.int r))) := by
  intro n
  induction n with
  | zero => exact ⟨fun d s _ _ _ s9 r h => (by simp only [g_7] at h; cases h), fun d s _ _ _ s9 r h => (by simp only [g_7] at h; cases h), fun d s _ _ _ s9 r h => (by simp only [g_7] at h; cases h)⟩
  | succ n ih =>
    refine ⟨?_, ?_, ?_⟩
    · intro d s r0 i1 ti0 s9 r h lv lk0 lk1
      simp only [g_7] at h
      refine Vin rfl lk1 rfl ?_
      refine Yif rfl rfl rfl rfl rfl rfl rfl (fun c1 => ?_) (fun c1 => ?_)
      · rw [if_pos c1] at h
        exact ih.2.1 _ _ _ _ _ _ _ h lv trivial
      · rw [if_neg c1] at h
        refine Vin rfl lk1 rfl ?_
        refine Van rfl lk0 rfl rfl ?_
        have hz := y_bind h
        clear h
        obtain ⟨v2, h3, h⟩ := hz
        refine Zgi h3 rfl rfl rfl ?_
        refine Yif rfl rfl rfl rfl rfl rfl rfl (fun c4 => ?_) (fun c4 => ?_)
        · rw [if_pos c4] at h
          exact ih.2.1 _ _ _ _ _ _ _ h lv trivial
        · rw [if_neg c4] at h
          refine Vic (v := 1) rfl (by decide) rfl ?_
          refine Ygo rfl rfl rfl rfl rfl rfl ?_
          exact ih.2.2 _ _ _ _ _ _ _ h lv trivial
    · intro d s r0 i1 ti0 s9 r h lv _
      simp only [g_7] at h
      refine Vic (v := 0) rfl (by decide) rfl ?_
      exact ih.2.2 _ _ _ _ _ _ _ h lv trivial
    · intro d s r0 i1 ti0 s9 r h lv _
      simp only [g_7] at h
      by_cases c1 : ti0 = 0 ∨ ti0 = 1
      · rw [if_pos c1] at h
        cases h
        exact Yret rfl rfl rfl rfl rfl rfl (if_pos c1) ⟨rfl, rfl⟩
      · rw [if_neg c1] at h; cases h

/-- java/util/Arrays.fill -/
def g_148 (o : X_O) : Nat → Nat → Y_S → Value → Int64 → Int32 → Int32 → Option (Y_S × Unit)
  | 0, _, _, _, _, _, _ => none
  | n + 1, 0, s, a0, l1, i3, i4 => (y_ln o s a0).bind fun v1 => g_148 o n 1 s (a0) (l1) (0) (v1)
  | n + 1, 1, s, a0, l1, i3, i4 => if i4 ≤ i3 then some (s, ()) else (y_ls s a0 i3 l1).bind fun s2 => g_148 o n 1 s2 (a0) (l1) ((i3 + Int32.ofInt 1)) (i4)
  | _ + 1, _, _, _, _, _, _ => none
set_option maxRecDepth 100000 in
set_option maxHeartbeats 4000000 in
theorem c_148 (o : X_O) : ∀ n, (∀ (d : Nat) (s : Y_S) (a0 : Value) (l1 : Int64) (i3 : Int32) (i4 : Int32) (s9 : Y_S) (r : Unit), g_148 o n 0 s a0 l1 i3 i4 = some (s9, r) → ∀ lv : X_L, x_lget lv 0 = some a0 → x_lget lv 1 = some (.long l1) → y_rv a0 = true → Y o (d + 0) 148 0 lv [] s (fun s1 r1 => s1 = s9 ∧ r1 = none)) ∧
    (∀ (d : Nat) (s : Y_S) (a0 : Value) (l1 : Int64) (i3 : Int32) (i4 : Int32) (s9 : Y_S) (r : Unit), g_148 o n 1 s a0 l1 i3 i4 = some (s9, r) → ∀ lv : X_L, x_lget lv 0 = some a0 → x_lget lv 1 = some (.long l1) → x_lget lv 3 = some (.int i3) → x_lget lv 4 = some (.int i4) → y_rv a0 = true → Y o (d + 0) 148 6 lv [] s (fun s1 r1 => s1 = s9 ∧ r1 = none)) := by
  intro n
  induction n with
  | zero => exact ⟨fun d s _ _ _ _ s9 r h => (by simp only [g_148] at h; cases h), fun d s _ _ _ _ s9 r h => (by simp only [g_148] at h; cases h)⟩
  | succ n ih =>
    refine ⟨?_, ?_⟩
    · intro d s a0 l1 i3 i4 s9 r h lv lk0 lk1 rv0
      simp only [g_148] at h
      refine Vic (v := 0) rfl (by decide) rfl ?_
      refine Vsin rfl rfl (fun lv lk3 hk => ?_)
      have lk0 := hk 0 _ lk0 (by decide) (by decide) (Or.inl (by decide))
      have lk1 := hk 1 _ lk1 (by decide) (by decide) (Or.inl (by decide))
      refine Van rfl lk0 rv0 rfl ?_
      have hz := y_bind h
      clear h
      obtain ⟨v1, h2, h⟩ := hz
      refine Zln h2 rfl rfl ?_
      refine Vsi rfl rfl (fun lv lk4 hk => ?_)
      have lk0 := hk 0 _ lk0 (by decide) (by decide) (Or.inl (by decide))
      have lk1 := hk 1 _ lk1 (by decide) (by decide) (Or.inl (by decide))
      have lk3 := hk 3 _ lk3 (by decide) (by decide) (Or.inr rfl)
      exact ih.2 _ _ _ _ _ _ _ _ h lv lk0 lk1 lk3 lk4 rv0
    · intro d s a0 l1 i3 i4 s9 r h lv lk0 lk1 lk3 lk4 rv0
      simp only [g_148] at h
      refine Vin rfl lk3 rfl ?_
      refine Vi rfl lk4 rfl ?_
      refine Yif rfl rfl rfl rfl rfl rfl rfl (fun c1 => ?_) (fun c1 => ?_)
      · rw [if_pos c1] at h
        cases h
        exact Yret rfl rfl rfl rfl rfl rfl rfl ⟨rfl, rfl⟩
      · rw [if_neg c1] at h
        refine Van rfl lk0 rv0 rfl ?_
        refine Vin rfl lk3 rfl ?_
        refine Vln rfl lk1 rfl ?_
        have hz := y_bind h
        clear h
        obtain ⟨s2, h3, h⟩ := hz
        refine Zls h3 rfl rfl ?_
        refine Vinc rfl lk3 rfl (fun lv lk3 hk => ?_)
        have lk0 := hk 0 _ lk0 (by decide) (by decide) (Or.inl (by decide))
        have lk1 := hk 1 _ lk1 (by decide) (by decide) (Or.inl (by decide))
        have lk4 := hk 4 _ lk4 (by decide) (by decide) (Or.inl (by decide))
        refine Ygo rfl rfl rfl rfl rfl rfl ?_
        exact ih.2 _ _ _ _ _ _ _ _ h lv lk0 lk1 lk3 lk4 rv0

/-- java/util/Arrays.fill -/
def g_149 (o : X_O) : Nat → Nat → Y_S → Value → Int32 → Int32 → Int32 → Option (Y_S × Unit)
  | 0, _, _, _, _, _, _ => none
  | n + 1, 0, s, a0, i1, i2, i3 => (y_ln o s a0).bind fun v1 => g_149 o n 1 s (a0) (i1) (0) (v1)
  | n + 1, 1, s, a0, i1, i2, i3 => if i3 ≤ i2 then some (s, ()) else (y_is s a0 i2 i1).bind fun s2 => g_149 o n 1 s2 (a0) (i1) ((i2 + Int32.ofInt 1)) (i3)
  | _ + 1, _, _, _, _, _, _ => none
set_option maxRecDepth 100000 in
set_option maxHeartbeats 4000000 in
theorem c_149 (o : X_O) : ∀ n, (∀ (d : Nat) (s : Y_S) (a0 : Value) (i1 : Int32) (i2 : Int32) (i3 : Int32) (s9 : Y_S) (r : Unit), g_149 o n 0 s a0 i1 i2 i3 = some (s9, r) → ∀ lv : X_L, x_lget lv 0 = some a0 → x_lget lv 1 = some (.int i1) → y_rv a0 = true → Y o (d + 0) 149 0 lv [] s (fun s1 r1 => s1 = s9 ∧ r1 = none)) ∧
    (∀ (d : Nat) (s : Y_S) (a0 : Value) (i1 : Int32) (i2 : Int32) (i3 : Int32) (s9 : Y_S) (r : Unit), g_149 o n 1 s a0 i1 i2 i3 = some (s9, r) → ∀ lv : X_L, x_lget lv 0 = some a0 → x_lget lv 1 = some (.int i1) → x_lget lv 2 = some (.int i2) → x_lget lv 3 = some (.int i3) → y_rv a0 = true → Y o (d + 0) 149 5 lv [] s (fun s1 r1 => s1 = s9 ∧ r1 = none)) := by
  intro n
  induction n with
  | zero => exact ⟨fun d s _ _ _ _ s9 r h => (by simp only [g_149] at h; cases h), fun d s _ _ _ _ s9 r h => (by simp only [g_149] at h; cases h)⟩
  | succ n ih =>
    refine ⟨?_, ?_⟩
    · intro d s a0 i1 i2 i3 s9 r h lv lk0 lk1 rv0
      simp only [g_149] at h
      refine Vic (v := 0) rfl (by decide) rfl ?_
      refine Vsin rfl rfl (fun lv lk2 hk => ?_)
      have lk0 := hk 0 _ lk0 (by decide) (by decide) (Or.inl (by decide))
      have lk1 := hk 1 _ lk1 (by decide) (by decide) (Or.inr rfl)
      refine Van rfl lk0 rv0 rfl ?_
      have hz := y_bind h
      clear h
      obtain ⟨v1, h2, h⟩ := hz
      refine Zln h2 rfl rfl ?_
      refine Vsin rfl rfl (fun lv lk3 hk => ?_)
      have lk0 := hk 0 _ lk0 (by decide) (by decide) (Or.inl (by decide))
      have lk1 := hk 1 _ lk1 (by decide) (by decide) (Or.inl (by decide))
      have lk2 := hk 2 _ lk2 (by decide) (by decide) (Or.inr rfl)
      exact ih.2 _ _ _ _ _ _ _ _ h lv lk0 lk1 lk2 lk3 rv0
    · intro d s a0 i1 i2 i3 s9 r h lv lk0 lk1 lk2 lk3 rv0
      simp only [g_149] at h
      refine Vin rfl lk2 rfl ?_
      refine Vin rfl lk3 rfl ?_
      refine Yif rfl rfl rfl rfl rfl rfl rfl (fun c1 => ?_) (fun c1 => ?_)
      · rw [if_pos c1] at h
        cases h
        exact Yret rfl rfl rfl rfl rfl rfl rfl ⟨rfl, rfl⟩
      · rw [if_neg c1] at h
        refine Van rfl lk0 rv0 rfl ?_
        refine Vin rfl lk2 rfl ?_
        refine Vin rfl lk1 rfl ?_
        have hz := y_bind h
        clear h
        obtain ⟨s2, h3, h⟩ := hz
        refine Zis h3 rfl rfl ?_
        refine Vinc rfl lk2 rfl (fun lv lk2 hk => ?_)
        have lk0 := hk 0 _ lk0 (by decide) (by decide) (Or.inl (by decide))
        have lk1 := hk 1 _ lk1 (by decide) (by decide) (Or.inr rfl)
        have lk3 := hk 3 _ lk3 (by decide) (by decide) (Or.inl (by decide))
        refine Ygo rfl rfl rfl rfl rfl rfl ?_
        exact ih.2 _ _ _ _ _ _ _ _ h lv lk0 lk1 lk2 lk3 rv0

/-- StepRows$Frames.clearAll -/
def g_48 (o : X_O) : Nat → Nat → Y_S → Nat → Option (Y_S × Unit)
  | 0, _, _, _ => none
  | n + 1, 0, s, r0 => (y_pi s 5 (.ref r0) 10 (-1)).bind fun s1 => (y_pi s1 5 (.ref r0) 11 (-1)).bind fun s3 => (y_pi s3 5 (.ref r0) 12 0).bind fun s5 => (y_pi s5 5 (.ref r0) 13 0).bind fun s7 => some (s7, ())
  | _ + 1, _, _, _ => none
set_option maxRecDepth 100000 in
set_option maxHeartbeats 4000000 in
theorem c_48 (o : X_O) : ∀ n, (∀ (d : Nat) (s : Y_S) (r0 : Nat) (s9 : Y_S) (r : Unit), g_48 o n 0 s r0 = some (s9, r) → ∀ lv : X_L, x_lget lv 0 = some (.ref r0) → Y o (d + 0) 48 0 lv [] s (fun s1 r1 => s1 = s9 ∧ r1 = none)) := by
  intro n
  induction n with
  | zero => exact fun d s _ s9 r h => (by simp only [g_48] at h; cases h)
  | succ n ih =>
    intro d s r0 s9 r h lv lk0
    simp only [g_48] at h
    refine Van rfl lk0 rfl rfl ?_
    refine Vic (v := (-1)) rfl (by decide) rfl ?_
    have hz := y_bind h
    clear h
    obtain ⟨s1, h2, h⟩ := hz
    refine Zpi h2 rfl rfl rfl rfl ?_
    refine Van rfl lk0 rfl rfl ?_
    refine Vic (v := (-1)) rfl (by decide) rfl ?_
    have hz := y_bind h
    clear h
    obtain ⟨s3, h4, h⟩ := hz
    refine Zpi h4 rfl rfl rfl rfl ?_
    refine Van rfl lk0 rfl rfl ?_
    refine Vic (v := 0) rfl (by decide) rfl ?_
    have hz := y_bind h
    clear h
    obtain ⟨s5, h6, h⟩ := hz
    refine Zpi h6 rfl rfl rfl rfl ?_
    refine Van rfl lk0 rfl rfl ?_
    refine Vic (v := 0) rfl (by decide) rfl ?_
    have hz := y_bind h
    clear h
    obtain ⟨s7, h8, h⟩ := hz
    refine Zpi h8 rfl rfl rfl rfl ?_
    cases h
    exact Yret rfl rfl rfl rfl rfl rfl rfl ⟨rfl, rfl⟩

/-- java/util/Arrays.copyOf -/
def g_150 (o : X_O) : Nat → Nat → Y_S → Value → Int32 → Option (Y_S × Value)
  | 0, _, _, _, _ => none
  | n + 1, 0, s, a0, i1 => (y_ln o s a0).bind fun v1 => if ¬ i1 = v1 then (y_na s .int i1).bind fun s4 => (y_ln o s4 a0).bind fun v6 => (y_cp s4 a0 0 (.ref s.1) 0 (if i1 < v6 then i1 else v6)).bind fun s8 => (y_isr (.ref s.1)).bind fun b10 => some (s8, .ref b10) else none
  | _ + 1, _, _, _, _ => none
set_option maxRecDepth 100000 in
set_option maxHeartbeats 4000000 in
theorem c_150 (o : X_O) : ∀ n, (∀ (d : Nat) (s : Y_S) (a0 : Value) (i1 : Int32) (s9 : Y_S) (r : Value), g_150 o n 0 s a0 i1 = some (s9, r) → ∀ lv : X_L, x_lget lv 0 = some a0 → x_lget lv 1 = some (.int i1) → y_rv a0 = true → Y o (d + 1) 150 0 lv [] s (fun s1 r1 => s1 = s9 ∧ r1 = some r)) := by
  intro n
  induction n with
  | zero => exact fun d s _ _ s9 r h => (by simp only [g_150] at h; cases h)
  | succ n ih =>
    intro d s a0 i1 s9 r h lv lk0 lk1 rv0
    simp only [g_150] at h
    refine Vin rfl lk1 rfl ?_
    refine Van rfl lk0 rv0 rfl ?_
    have hz := y_bind h
    clear h
    obtain ⟨v1, h2, h⟩ := hz
    refine Zln h2 rfl rfl ?_
    refine Yif rfl rfl rfl rfl rfl rfl rfl (fun c3 => ?_) (fun c3 => ?_)
    · rw [if_pos c3] at h
      refine Vin rfl lk1 rfl ?_
      have hz := y_bind h
      clear h
      obtain ⟨s4, h5, h⟩ := hz
      refine Zna h5 rfl rfl rfl ?_
      refine Vsan rfl rfl rfl (fun lv lk2 hk => ?_)
      have lk0 := hk 0 _ lk0 (by decide) (by decide) (Or.inl (by decide))
      have lk1 := hk 1 _ lk1 (by decide) (by decide) (Or.inr rfl)
      refine Van rfl lk0 rv0 rfl ?_
      refine Vic (v := 0) rfl (by decide) rfl ?_
      refine Van rfl lk2 rfl rfl ?_
      refine Vic (v := 0) rfl (by decide) rfl ?_
      refine Van rfl lk0 rv0 rfl ?_
      have hz := y_bind h
      clear h
      obtain ⟨v6, h7, h⟩ := hz
      refine Zln h7 rfl rfl ?_
      refine Vin rfl lk1 rfl ?_
      refine Y8 rfl rfl (by simp only [List.take, List.reverse_cons, List.reverse_nil, List.nil_append, List.cons_append, List.map_cons, List.map_nil, y_cati, y_catl, y_catr, y_catn, y_cata, y_rv_cat rv0, List.sum_cons, List.sum_nil]; decide +kernel) rfl ?_
      have hz := y_bind h
      clear h
      obtain ⟨s8, h9, h⟩ := hz
      refine Zcp h9 rfl rfl (Nat.le_of_ble_eq_true rfl) rfl ?_
      refine Van rfl lk2 rfl rfl ?_
      have hz := y_bind h
      clear h
      obtain ⟨b10, h11, h⟩ := hz
      cases h
      cases y_isr_ok h11
      exact Yret rfl rfl rfl rfl rfl rfl rfl ⟨rfl, rfl⟩
    · rw [if_neg c3] at h
      refine Van rfl lk0 rv0 rfl ?_
      cases h

/-- java/util/Arrays.copyOf -/
def g_151 (o : X_O) : Nat → Nat → Y_S → Value → Int32 → Option (Y_S × Value)
  | 0, _, _, _, _ => none
  | n + 1, 0, s, a0, i1 => (y_ln o s a0).bind fun v1 => if ¬ i1 = v1 then (y_na s .long i1).bind fun s4 => (y_ln o s4 a0).bind fun v6 => (y_cp s4 a0 0 (.ref s.1) 0 (if i1 < v6 then i1 else v6)).bind fun s8 => (y_isr (.ref s.1)).bind fun b10 => some (s8, .ref b10) else none
  | _ + 1, _, _, _, _ => none
set_option maxRecDepth 100000 in
set_option maxHeartbeats 4000000 in
theorem c_151 (o : X_O) : ∀ n, (∀ (d : Nat) (s : Y_S) (a0 : Value) (i1 : Int32) (s9 : Y_S) (r : Value), g_151 o n 0 s a0 i1 = some (s9, r) → ∀ lv : X_L, x_lget lv 0 = some a0 → x_lget lv 1 = some (.int i1) → y_rv a0 = true → Y o (d + 1) 151 0 lv [] s (fun s1 r1 => s1 = s9 ∧ r1 = some r)) := by
  intro n
  induction n with
  | zero => exact fun d s _ _ s9 r h => (by simp only [g_151] at h; cases h)
  | succ n ih =>
    intro d s a0 i1 s9 r h lv lk0 lk1 rv0
    simp only [g_151] at h
    refine Vin rfl lk1 rfl ?_
    refine Van rfl lk0 rv0 rfl ?_
    have hz := y_bind h
    clear h
    obtain ⟨v1, h2, h⟩ := hz
    refine Zln h2 rfl rfl ?_
    refine Yif rfl rfl rfl rfl rfl rfl rfl (fun c3 => ?_) (fun c3 => ?_)
    · rw [if_pos c3] at h
      refine Vin rfl lk1 rfl ?_
      have hz := y_bind h
      clear h
      obtain ⟨s4, h5, h⟩ := hz
      refine Zna h5 rfl rfl rfl ?_
      refine Vsan rfl rfl rfl (fun lv lk2 hk => ?_)
      have lk0 := hk 0 _ lk0 (by decide) (by decide) (Or.inl (by decide))
      have lk1 := hk 1 _ lk1 (by decide) (by decide) (Or.inr rfl)
      refine Van rfl lk0 rv0 rfl ?_
      refine Vic (v := 0) rfl (by decide) rfl ?_
      refine Van rfl lk2 rfl rfl ?_
      refine Vic (v := 0) rfl (by decide) rfl ?_
      refine Van rfl lk0 rv0 rfl ?_
      have hz := y_bind h
      clear h
      obtain ⟨v6, h7, h⟩ := hz
      refine Zln h7 rfl rfl ?_
      refine Vin rfl lk1 rfl ?_
      refine Y8 rfl rfl (by simp only [List.take, List.reverse_cons, List.reverse_nil, List.nil_append, List.cons_append, List.map_cons, List.map_nil, y_cati, y_catl, y_catr, y_catn, y_cata, y_rv_cat rv0, List.sum_cons, List.sum_nil]; decide +kernel) rfl ?_
      have hz := y_bind h
      clear h
      obtain ⟨s8, h9, h⟩ := hz
      refine Zcp h9 rfl rfl (Nat.le_of_ble_eq_true rfl) rfl ?_
      refine Van rfl lk2 rfl rfl ?_
      have hz := y_bind h
      clear h
      obtain ⟨b10, h11, h⟩ := hz
      cases h
      cases y_isr_ok h11
      exact Yret rfl rfl rfl rfl rfl rfl rfl ⟨rfl, rfl⟩
    · rw [if_neg c3] at h
      refine Van rfl lk0 rv0 rfl ?_
      cases h

/-- StepRows$Frames.growTo -/
def g_50 (o : X_O) : Nat → Nat → Y_S → Nat → Int32 → Option (Y_S × Unit)
  | 0, _, _, _, _ => none
  | n + 1, 0, s, r0, i1 => (y_gv s 5 (.ref r0) 0).bind fun v1 => (g_150 o n 0 s (v1) (i1)).bind fun q6 => (y_isr q6.2).bind fun b7 => (y_pr q6.1 5 (.ref r0) 0 (.ref b7)).bind fun s9 => (y_gv s9 5 (.ref r0) 1).bind fun v11 => (g_150 o n 0 s9 (v11) (i1)).bind fun q16 => (y_isr q16.2).bind fun b17 => (y_pr q16.1 5 (.ref r0) 1 (.ref b17)).bind fun s19 => (y_gv s19 5 (.ref r0) 2).bind fun v21 => (g_150 o n 0 s19 (v21) (i1)).bind fun q26 => (y_isr q26.2).bind fun b27 => (y_pr q26.1 5 (.ref r0) 2 (.ref b27)).bind fun s29 => (y_gv s29 5 (.ref r0) 3).bind fun v31 => (g_150 o n 0 s29 (v31) (i1)).bind fun q36 => (y_isr q36.2).bind fun b37 => (y_pr q36.1 5 (.ref r0) 3 (.ref b37)).bind fun s39 => (y_gv s39 5 (.ref r0) 4).bind fun v41 => (g_150 o n 0 s39 (v41) (i1)).bind fun q46 => (y_isr q46.2).bind fun b47 => (y_pr q46.1 5 (.ref r0) 4 (.ref b47)).bind fun s49 => (y_gv s49 5 (.ref r0) 5).bind fun v51 => (g_150 o n 0 s49 (v51) (i1)).bind fun q56 => (y_isr q56.2).bind fun b57 => (y_pr q56.1 5 (.ref r0) 5 (.ref b57)).bind fun s59 => (y_gv s59 5 (.ref r0) 6).bind fun v61 => (g_150 o n 0 s59 (v61) (i1)).bind fun q66 => (y_isr q66.2).bind fun b67 => (y_pr q66.1 5 (.ref r0) 6 (.ref b67)).bind fun s69 => (y_gv s69 5 (.ref r0) 7).bind fun v71 => (g_151 o n 0 s69 (v71) (i1)).bind fun q76 => (y_isr q76.2).bind fun b77 => (y_pr q76.1 5 (.ref r0) 7 (.ref b77)).bind fun s79 => (y_gv s79 5 (.ref r0) 8).bind fun v81 => (g_151 o n 0 s79 (v81) (i1)).bind fun q86 => (y_isr q86.2).bind fun b87 => (y_pr q86.1 5 (.ref r0) 8 (.ref b87)).bind fun s89 => (y_gv s89 5 (.ref r0) 9).bind fun v91 => (g_151 o n 0 s89 (v91) (i1)).bind fun q96 => (y_isr q96.2).bind fun b97 => (y_pr q96.1 5 (.ref r0) 9 (.ref b97)).bind fun s99 => some (s99, ())
  | _ + 1, _, _, _, _ => none
set_option maxRecDepth 100000 in
set_option maxHeartbeats 4000000 in
theorem c_50 (o : X_O) : ∀ n, (∀ (d : Nat) (s : Y_S) (r0 : Nat) (i1 : Int32) (s9 : Y_S) (r : Unit), g_50 o n 0 s r0 i1 = some (s9, r) → ∀ lv : X_L, x_lget lv 0 = some (.ref r0) → x_lget lv 1 = some (.int i1) → Y o (d + 2) 50 0 lv [] s (fun s1 r1 => s1 = s9 ∧ r1 = none)) := by
  intro n
  induction n with
  | zero => exact fun d s _ _ s9 r h => (by simp only [g_50] at h; cases h)
  | succ n ih =>
    intro d s r0 i1 s9 r h lv lk0 lk1
    simp only [g_50] at h
    refine Van rfl lk0 rfl rfl ?_
    refine Van rfl lk0 rfl rfl ?_
    have hz := y_bind h
    clear h
    obtain ⟨v1, h2, h⟩ := hz
    have wv1 := (y_gv_ok h2).2
    refine Vgv h2 rfl rfl rfl ?_
    refine Vin rfl lk1 rfl ?_
    have hz := y_bind h
    clear h
    obtain ⟨⟨s3, r4⟩, h5, h⟩ := hz
    try dsimp only at h
    have hz := y_bind h
    clear h
    obtain ⟨b7, h8, h⟩ := hz
    cases y_isr_ok h8
    refine Vcs rfl rfl (Nat.le_of_ble_eq_true rfl) rfl rfl ⟨(Nat.le_of_ble_eq_true rfl), (by simp only [List.take, List.reverse_cons, List.reverse_nil, List.nil_append, List.cons_append, List.map_cons, List.map_nil, y_cati, y_catl, y_catr, y_catn, y_cata, y_rv_cat wv1, List.sum_cons, List.sum_nil]; decide +kernel)⟩ rfl ((c_150 o n) _ _ _ _ _ _ h5 _ (by simp [lv_args, x_lget, y_cati, y_catl, y_catr, y_rv_cat wv1]) (by simp [lv_args, x_lget, y_cati, y_catl, y_catr, y_rv_cat wv1]) wv1) (fun z1 z2 zq => ?_)
    obtain ⟨rfl, rfl⟩ := zq
    try dsimp only [Option.toList, HAppend.hAppend, Append.append, List.append]
    have hz := y_bind h
    clear h
    obtain ⟨s9, h10, h⟩ := hz
    refine Zpr h10 rfl rfl rfl rfl ?_
    refine Van rfl lk0 rfl rfl ?_
    refine Van rfl lk0 rfl rfl ?_
    have hz := y_bind h
    clear h
    obtain ⟨v11, h12, h⟩ := hz
    have wv11 := (y_gv_ok h12).2
    refine Vgv h12 rfl rfl rfl ?_
    refine Vin rfl lk1 rfl ?_
    have hz := y_bind h
    clear h
    obtain ⟨⟨s13, r14⟩, h15, h⟩ := hz
    try dsimp only at h
    have hz := y_bind h
    clear h
    obtain ⟨b17, h18, h⟩ := hz
    cases y_isr_ok h18
    refine Vcs rfl rfl (Nat.le_of_ble_eq_true rfl) rfl rfl ⟨(Nat.le_of_ble_eq_true rfl), (by simp only [List.take, List.reverse_cons, List.reverse_nil, List.nil_append, List.cons_append, List.map_cons, List.map_nil, y_cati, y_catl, y_catr, y_catn, y_cata, y_rv_cat wv11, List.sum_cons, List.sum_nil]; decide +kernel)⟩ rfl ((c_150 o n) _ _ _ _ _ _ h15 _ (by simp [lv_args, x_lget, y_cati, y_catl, y_catr, y_rv_cat wv11]) (by simp [lv_args, x_lget, y_cati, y_catl, y_catr, y_rv_cat wv11]) wv11) (fun z1 z2 zq => ?_)
    obtain ⟨rfl, rfl⟩ := zq
    try dsimp only [Option.toList, HAppend.hAppend, Append.append, List.append]
    have hz := y_bind h
    clear h
    obtain ⟨s19, h20, h⟩ := hz
    refine Zpr h20 rfl rfl rfl rfl ?_
    refine Van rfl lk0 rfl rfl ?_
    refine Van rfl lk0 rfl rfl ?_
    have hz := y_bind h
    clear h
    obtain ⟨v21, h22, h⟩ := hz
    have wv21 := (y_gv_ok h22).2
    refine Vgv h22 rfl rfl rfl ?_
    refine Vin rfl lk1 rfl ?_
    have hz := y_bind h
    clear h
    obtain ⟨⟨s23, r24⟩, h25, h⟩ := hz
    try dsimp only at h
    have hz := y_bind h
    clear h
    obtain ⟨b27, h28, h⟩ := hz
    cases y_isr_ok h28
    refine Vcs rfl rfl (Nat.le_of_ble_eq_true rfl) rfl rfl ⟨(Nat.le_of_ble_eq_true rfl), (by simp only [List.take, List.reverse_cons, List.reverse_nil, List.nil_append, List.cons_append, List.map_cons, List.map_nil, y_cati, y_catl, y_catr, y_catn, y_cata, y_rv_cat wv21, List.sum_cons, List.sum_nil]; decide +kernel)⟩ rfl ((c_150 o n) _ _ _ _ _ _ h25 _ (by simp [lv_args, x_lget, y_cati, y_catl, y_catr, y_rv_cat wv21]) (by simp [lv_args, x_lget, y_cati, y_catl, y_catr, y_rv_cat wv21]) wv21) (fun z1 z2 zq => ?_)
    obtain ⟨rfl, rfl⟩ := zq
    try dsimp only [Option.toList, HAppend.hAppend, Append.append, List.append]
    have hz := y_bind h
    clear h
    obtain ⟨s29, h30, h⟩ := hz
    refine Zpr h30 rfl rfl rfl rfl ?_
    refine Van rfl lk0 rfl rfl ?_
    refine Van rfl lk0 rfl rfl ?_
    have hz := y_bind h
    clear h
    obtain ⟨v31, h32, h⟩ := hz
    have wv31 := (y_gv_ok h32).2
    refine Vgv h32 rfl rfl rfl ?_
    refine Vin rfl lk1 rfl ?_
    have hz := y_bind h
    clear h
    obtain ⟨⟨s33, r34⟩, h35, h⟩ := hz
    try dsimp only at h
    have hz := y_bind h
    clear h
    obtain ⟨b37, h38, h⟩ := hz
    cases y_isr_ok h38
    refine Vcs rfl rfl (Nat.le_of_ble_eq_true rfl) rfl rfl ⟨(Nat.le_of_ble_eq_true rfl), (by simp only [List.take, List.reverse_cons, List.reverse_nil, List.nil_append, List.cons_append, List.map_cons, List.map_nil, y_cati, y_catl, y_catr, y_catn, y_cata, y_rv_cat wv31, List.sum_cons, List.sum_nil]; decide +kernel)⟩ rfl ((c_150 o n) _ _ _ _ _ _ h35 _ (by simp [lv_args, x_lget, y_cati, y_catl, y_catr, y_rv_cat wv31]) (by simp [lv_args, x_lget, y_cati, y_catl, y_catr, y_rv_cat wv31]) wv31) (fun z1 z2 zq => ?_)
    obtain ⟨rfl, rfl⟩ := zq
    try dsimp only [Option.toList, HAppend.hAppend, Append.append, List.append]
    have hz := y_bind h
    clear h
    obtain ⟨s39, h40, h⟩ := hz
    refine Zpr h40 rfl rfl rfl rfl ?_
    refine Van rfl lk0 rfl rfl ?_
    refine Van rfl lk0 rfl rfl ?_
    have hz := y_bind h
    clear h
    obtain ⟨v41, h42, h⟩ := hz
    have wv41 := (y_gv_ok h42).2
    refine Vgv h42 rfl rfl rfl ?_
    refine Vin rfl lk1 rfl ?_
    have hz := y_bind h
    clear h
    obtain ⟨⟨s43, r44⟩, h45, h⟩ := hz
    try dsimp only at h
    have hz := y_bind h
    clear h
    obtain ⟨b47, h48, h⟩ := hz
    cases y_isr_ok h48
    refine Vcs rfl rfl (Nat.le_of_ble_eq_true rfl) rfl rfl ⟨(Nat.le_of_ble_eq_true rfl), (by simp only [List.take, List.reverse_cons, List.reverse_nil, List.nil_append, List.cons_append, List.map_cons, List.map_nil, y_cati, y_catl, y_catr, y_catn, y_cata, y_rv_cat wv41, List.sum_cons, List.sum_nil]; decide +kernel)⟩ rfl ((c_150 o n) _ _ _ _ _ _ h45 _ (by simp [lv_args, x_lget, y_cati, y_catl, y_catr, y_rv_cat wv41]) (by simp [lv_args, x_lget, y_cati, y_catl, y_catr, y_rv_cat wv41]) wv41) (fun z1 z2 zq => ?_)
    obtain ⟨rfl, rfl⟩ := zq
    try dsimp only [Option.toList, HAppend.hAppend, Append.append, List.append]
    have hz := y_bind h
    clear h
    obtain ⟨s49, h50, h⟩ := hz
    refine Zpr h50 rfl rfl rfl rfl ?_
    refine Van rfl lk0 rfl rfl ?_
    refine Van rfl lk0 rfl rfl ?_
    have hz := y_bind h
    clear h
    obtain ⟨v51, h52, h⟩ := hz
    have wv51 := (y_gv_ok h52).2
    refine Vgv h52 rfl rfl rfl ?_
    refine Vin rfl lk1 rfl ?_
    have hz := y_bind h
    clear h
    obtain ⟨⟨s53, r54⟩, h55, h⟩ := hz
    try dsimp only at h
    have hz := y_bind h
    clear h
    obtain ⟨b57, h58, h⟩ := hz
    cases y_isr_ok h58
    refine Vcs rfl rfl (Nat.le_of_ble_eq_true rfl) rfl rfl ⟨(Nat.le_of_ble_eq_true rfl), (by simp only [List.take, List.reverse_cons, List.reverse_nil, List.nil_append, List.cons_append, List.map_cons, List.map_nil, y_cati, y_catl, y_catr, y_catn, y_cata, y_rv_cat wv51, List.sum_cons, List.sum_nil]; decide +kernel)⟩ rfl ((c_150 o n) _ _ _ _ _ _ h55 _ (by simp [lv_args, x_lget, y_cati, y_catl, y_catr, y_rv_cat wv51]) (by simp [lv_args, x_lget, y_cati, y_catl, y_catr, y_rv_cat wv51]) wv51) (fun z1 z2 zq => ?_)
    obtain ⟨rfl, rfl⟩ := zq
    try dsimp only [Option.toList, HAppend.hAppend, Append.append, List.append]
    have hz := y_bind h
    clear h
    obtain ⟨s59, h60, h⟩ := hz
    refine Zpr h60 rfl rfl rfl rfl ?_
    refine Van rfl lk0 rfl rfl ?_
    refine Van rfl lk0 rfl rfl ?_
    have hz := y_bind h
    clear h
    obtain ⟨v61, h62, h⟩ := hz
    have wv61 := (y_gv_ok h62).2
    refine Vgv h62 rfl rfl rfl ?_
    refine Vin rfl lk1 rfl ?_
    have hz := y_bind h
    clear h
    obtain ⟨⟨s63, r64⟩, h65, h⟩ := hz
    try dsimp only at h
    have hz := y_bind h
    clear h
    obtain ⟨b67, h68, h⟩ := hz
    cases y_isr_ok h68
    refine Vcs rfl rfl (Nat.le_of_ble_eq_true rfl) rfl rfl ⟨(Nat.le_of_ble_eq_true rfl), (by simp only [List.take, List.reverse_cons, List.reverse_nil, List.nil_append, List.cons_append, List.map_cons, List.map_nil, y_cati, y_catl, y_catr, y_catn, y_cata, y_rv_cat wv61, List.sum_cons, List.sum_nil]; decide +kernel)⟩ rfl ((c_150 o n) _ _ _ _ _ _ h65 _ (by simp [lv_args, x_lget, y_cati, y_catl, y_catr, y_rv_cat wv61]) (by simp [lv_args, x_lget, y_cati, y_catl, y_catr, y_rv_cat wv61]) wv61) (fun z1 z2 zq => ?_)
    obtain ⟨rfl, rfl⟩ := zq
    try dsimp only [Option.toList, HAppend.hAppend, Append.append, List.append]
    have hz := y_bind h
    clear h
    obtain ⟨s69, h70, h⟩ := hz
    refine Zpr h70 rfl rfl rfl rfl ?_
    refine Van rfl lk0 rfl rfl ?_
    refine Van rfl lk0 rfl rfl ?_
    have hz := y_bind h
    clear h
    obtain ⟨v71, h72, h⟩ := hz
    have wv71 := (y_gv_ok h72).2
    refine Vgv h72 rfl rfl rfl ?_
    refine Vin rfl lk1 rfl ?_
    have hz := y_bind h
    clear h
    obtain ⟨⟨s73, r74⟩, h75, h⟩ := hz
    try dsimp only at h
    have hz := y_bind h
    clear h
    obtain ⟨b77, h78, h⟩ := hz
    cases y_isr_ok h78
    refine Vcs rfl rfl (Nat.le_of_ble_eq_true rfl) rfl rfl ⟨(Nat.le_of_ble_eq_true rfl), (by simp only [List.take, List.reverse_cons, List.reverse_nil, List.nil_append, List.cons_append, List.map_cons, List.map_nil, y_cati, y_catl, y_catr, y_catn, y_cata, y_rv_cat wv71, List.sum_cons, List.sum_nil]; decide +kernel)⟩ rfl ((c_151 o n) _ _ _ _ _ _ h75 _ (by simp [lv_args, x_lget, y_cati, y_catl, y_catr, y_rv_cat wv71]) (by simp [lv_args, x_lget, y_cati, y_catl, y_catr, y_rv_cat wv71]) wv71) (fun z1 z2 zq => ?_)
    obtain ⟨rfl, rfl⟩ := zq
    try dsimp only [Option.toList, HAppend.hAppend, Append.append, List.append]
    have hz := y_bind h
    clear h
    obtain ⟨s79, h80, h⟩ := hz
    refine Zpr h80 rfl rfl rfl rfl ?_
    refine Van rfl lk0 rfl rfl ?_
    refine Van rfl lk0 rfl rfl ?_
    have hz := y_bind h
    clear h
    obtain ⟨v81, h82, h⟩ := hz
    have wv81 := (y_gv_ok h82).2
    refine Vgv h82 rfl rfl rfl ?_
    refine Vin rfl lk1 rfl ?_
    have hz := y_bind h
    clear h
    obtain ⟨⟨s83, r84⟩, h85, h⟩ := hz
    try dsimp only at h
    have hz := y_bind h
    clear h
    obtain ⟨b87, h88, h⟩ := hz
    cases y_isr_ok h88
    refine Vcs rfl rfl (Nat.le_of_ble_eq_true rfl) rfl rfl ⟨(Nat.le_of_ble_eq_true rfl), (by simp only [List.take, List.reverse_cons, List.reverse_nil, List.nil_append, List.cons_append, List.map_cons, List.map_nil, y_cati, y_catl, y_catr, y_catn, y_cata, y_rv_cat wv81, List.sum_cons, List.sum_nil]; decide +kernel)⟩ rfl ((c_151 o n) _ _ _ _ _ _ h85 _ (by simp [lv_args, x_lget, y_cati, y_catl, y_catr, y_rv_cat wv81]) (by simp [lv_args, x_lget, y_cati, y_catl, y_catr, y_rv_cat wv81]) wv81) (fun z1 z2 zq => ?_)
    obtain ⟨rfl, rfl⟩ := zq
    try dsimp only [Option.toList, HAppend.hAppend, Append.append, List.append]
    have hz := y_bind h
    clear h
    obtain ⟨s89, h90, h⟩ := hz
    refine Zpr h90 rfl rfl rfl rfl ?_
    refine Van rfl lk0 rfl rfl ?_
    refine Van rfl lk0 rfl rfl ?_
    have hz := y_bind h
    clear h
    obtain ⟨v91, h92, h⟩ := hz
    have wv91 := (y_gv_ok h92).2
    refine Vgv h92 rfl rfl rfl ?_
    refine Vin rfl lk1 rfl ?_
    have hz := y_bind h
    clear h
    obtain ⟨⟨s93, r94⟩, h95, h⟩ := hz
    try dsimp only at h
    have hz := y_bind h
    clear h
    obtain ⟨b97, h98, h⟩ := hz
    cases y_isr_ok h98
    refine Vcs rfl rfl (Nat.le_of_ble_eq_true rfl) rfl rfl ⟨(Nat.le_of_ble_eq_true rfl), (by simp only [List.take, List.reverse_cons, List.reverse_nil, List.nil_append, List.cons_append, List.map_cons, List.map_nil, y_cati, y_catl, y_catr, y_catn, y_cata, y_rv_cat wv91, List.sum_cons, List.sum_nil]; decide +kernel)⟩ rfl ((c_151 o n) _ _ _ _ _ _ h95 _ (by simp [lv_args, x_lget, y_cati, y_catl, y_catr, y_rv_cat wv91]) (by simp [lv_args, x_lget, y_cati, y_catl, y_catr, y_rv_cat wv91]) wv91) (fun z1 z2 zq => ?_)
    obtain ⟨rfl, rfl⟩ := zq
    try dsimp only [Option.toList, HAppend.hAppend, Append.append, List.append]
    have hz := y_bind h
    clear h
    obtain ⟨s99, h100, h⟩ := hz
    refine Zpr h100 rfl rfl rfl rfl ?_
    cases h
    exact Yret rfl rfl rfl rfl rfl rfl rfl ⟨rfl, rfl⟩

/-- StepRows$Frames.depthOf -/
def g_51 (o : X_O) : Nat → Nat → Y_S → Nat → Int32 → Int32 → Option (Y_S × Int32)
  | 0, _, _, _, _, _ => none
  | n + 1, 0, s, r0, i1, ti0 => if ¬ i1 = (-1) then (y_gv s 5 (.ref r0) 5).bind fun v2 => (y_ia o s v2 i1).bind fun v4 => g_51 o n 1 s 0 0 (v4) else g_51 o n 1 s 0 0 (0)
  | n + 1, 1, s, r0, i1, ti0 => some (s, ti0)
  | _ + 1, _, _, _, _, _ => none
set_option maxRecDepth 100000 in
set_option maxHeartbeats 4000000 in
theorem c_51 (o : X_O) : ∀ n, (∀ (d : Nat) (s : Y_S) (r0 : Nat) (i1 : Int32) (ti0 : Int32) (s9 : Y_S) (r : Int32), g_51 o n 0 s r0 i1 ti0 = some (s9, r) → ∀ lv : X_L, x_lget lv 0 = some (.ref r0) → x_lget lv 1 = some (.int i1) → Y o (d + 0) 51 0 lv [] s (fun s1 r1 => s1 = s9 ∧ r1 = some (.int r))) ∧
    (∀ (d : Nat) (s : Y_S) (r0 : Nat) (i1 : Int32) (ti0 : Int32) (s9 : Y_S) (r : Int32), g_51 o n 1 s r0 i1 ti0 = some (s9, r) → ∀ lv : X_L, True → Y o (d + 0) 51 15 lv [.int ti0] s (fun s1 r1 => s1 = s9 ∧ r1 = some (.int r))) := by
  intro n
  induction n with
  | zero => exact ⟨fun d s _ _ _ s9 r h => (by simp only [g_51] at h; cases h), fun d s _ _ _ s9 r h => (by simp only [g_51] at h; cases h)⟩
  | succ n ih =>
    refine ⟨?_, ?_⟩
    · intro d s r0 i1 ti0 s9 r h lv lk0 lk1
      simp only [g_51] at h
      refine Vin rfl lk1 rfl ?_
      refine Vic (v := (-1)) rfl (by decide) rfl ?_
      refine Yif rfl rfl rfl rfl rfl rfl rfl (fun c1 => ?_) (fun c1 => ?_)
      · rw [if_pos c1] at h
        refine Van rfl lk0 rfl rfl ?_
        have hz := y_bind h
        clear h
        obtain ⟨v2, h3, h⟩ := hz
        have wv2 := (y_gv_ok h3).2
        refine Vgv h3 rfl rfl rfl ?_
        refine Vin rfl lk1 rfl ?_
        have hz := y_bind h
        clear h
        obtain ⟨v4, h5, h⟩ := hz
        refine Zia h5 rfl rfl ?_
        exact ih.2 _ _ _ _ _ _ _ h lv trivial
      · rw [if_neg c1] at h
        refine Vic (v := 0) rfl (by decide) rfl ?_
        refine Ygo rfl rfl rfl rfl rfl rfl ?_
        exact ih.2 _ _ _ _ _ _ _ h lv trivial
    · intro d s r0 i1 ti0 s9 r h lv _
      simp only [g_51] at h
      cases h
      exact Yret rfl rfl rfl rfl rfl rfl rfl ⟨rfl, rfl⟩

/-- StepRows$Frames.add -/
def g_49 (o : X_O) : Nat → Nat → Y_S → Nat → Int32 → Int32 → Int32 → Int32 → Int32 → Int32 → Option (Y_S × Int32)
  | 0, _, _, _, _, _, _, _, _, _ => none
  | n + 1, 0, s, r0, i1, i2, i3, i4, i5, ti0 => (y_gi s 5 (.ref r0) 11).bind fun v1 => if ¬ v1 = (-1) then g_49 o n 1 s r0 (i1) (i2) (i3) (i4) 0 0 else (y_gi s 5 (.ref r0) 12).bind fun v4 => (y_gv s 5 (.ref r0) 0).bind fun v6 => (y_ln o s v6).bind fun v8 => if v4 < v8 then g_49 o n 1 s r0 (i1) (i2) (i3) (i4) 0 0 else (y_gi s 5 (.ref r0) 12).bind fun v11 => (y_rcv s 5 (.ref r0)).bind fun b17 => (g_50 o n 0 s b17 (((v11 * 2) + 1))).bind fun q16 => g_49 o n 1 q16.1 r0 (i1) (i2) (i3) (i4) 0 0
  | n + 1, 1, s, r0, i1, i2, i3, i4, i5, ti0 => (y_gi s 5 (.ref r0) 11).bind fun v1 => if ¬ v1 = (-1) then (y_gi s 5 (.ref r0) 11).bind fun v4 => g_49 o n 2 s r0 (i1) (i2) (i3) (i4) 0 (v4) else (y_gi s 5 (.ref r0) 12).bind fun v6 => g_49 o n 2 s r0 (i1) (i2) (i3) (i4) 0 (v6)
  | n + 1, 2, s, r0, i1, i2, i3, i4, i5, ti0 => (y_gi s 5 (.ref r0) 11).bind fun v1 => if ¬ v1 = (-1) then (y_gv s 5 (.ref r0) 2).bind fun v4 => (y_ia o s v4 ti0).bind fun v6 => (y_pi s 5 (.ref r0) 11 v6).bind fun s8 => g_49 o n 3 s8 r0 (i1) (i2) (i3) (i4) (ti0) 0 else (y_gi s 5 (.ref r0) 12).bind fun v10 => (y_pi s 5 (.ref r0) 12 (v10 + 1)).bind fun s12 => g_49 o n 3 s12 r0 (i1) (i2) (i3) (i4) (ti0) 0
  | n + 1, 3, s, r0, i1, i2, i3, i4, i5, ti0 => (y_gv s 5 (.ref r0) 0).bind fun v1 => (y_is s v1 i5 i1).bind fun s3 => (y_gv s3 5 (.ref r0) 1).bind fun v5 => (y_is s3 v5 i5 i2).bind fun s7 => (y_gv s7 5 (.ref r0) 2).bind fun v9 => (y_is s7 v9 i5 i3).bind fun s11 => (y_gv s11 5 (.ref r0) 3).bind fun v13 => (y_is s11 v13 i5 (-1)).bind fun s15 => (y_gv s15 5 (.ref r0) 4).bind fun v17 => (y_is s15 v17 i5 (-1)).bind fun s19 => (y_gv s19 5 (.ref r0) 5).bind fun v21 => (y_rcv s19 5 (.ref r0)).bind fun b27 => (g_51 o n 0 s19 b27 (i3) 0).bind fun q26 => (y_is q26.1 v21 i5 (q26.2 + 1)).bind fun s31 => if ¬ i1 = 18 then g_49 o n 4 s31 r0 0 0 (i3) (i4) (i5) 0 else (y_gi s31 5 (.ref r0) 13).bind fun v34 => (y_pi s31 5 (.ref r0) 13 (v34 + 1)).bind fun s36 => g_49 o n 4 s36 r0 0 0 (i3) (i4) (i5) 0
  | n + 1, 4, s, r0, i1, i2, i3, i4, i5, ti0 => if ¬ i3 = (-1) then if i4 = 0 then (y_gv s 5 (.ref r0) 3).bind fun v3 => (y_is s v3 i3 i5).bind fun s5 => g_49 o n 5 s5 0 0 0 0 0 (i5) 0 else (y_gv s 5 (.ref r0) 4).bind fun v7 => (y_is s v7 i3 i5).bind fun s9 => g_49 o n 5 s9 0 0 0 0 0 (i5) 0 else (y_pi s 5 (.ref r0) 10 i5).bind fun s11 => g_49 o n 5 s11 0 0 0 0 0 (i5) 0
  | n + 1, 5, s, r0, i1, i2, i3, i4, i5, ti0 => some (s, i5)
  | _ + 1, _, _, _, _, _, _, _, _, _ => none
set_option maxRecDepth 100000 in
set_option maxHeartbeats 4000000 in
theorem c_49 (o : X_O) : ∀ n, (∀ (d : Nat) (s : Y_S) (r0 : Nat) (i1 : Int32) (i2 : Int32) (i3 : Int32) (i4 : Int32) (i5 : Int32) (ti0 : Int32) (s9 : Y_S) (r : Int32), g_49 o n 0 s r0 i1 i2 i3 i4 i5 ti0 = some (s9, r) → ∀ lv : X_L, x_lget lv 0 = some (.ref r0) → x_lget lv 1 = some (.int i1) → x_lget lv 2 = some (.int i2) → x_lget lv 3 = some (.int i3) → x_lget lv 4 = some (.int i4) → Y o (d + 3) 49 0 lv [] s (fun s1 r1 => s1 = s9 ∧ r1 = some (.int r))) ∧
    (∀ (d : Nat) (s : Y_S) (r0 : Nat) (i1 : Int32) (i2 : Int32) (i3 : Int32) (i4 : Int32) (i5 : Int32) (ti0 : Int32) (s9 : Y_S) (r : Int32), g_49 o n 1 s r0 i1 i2 i3 i4 i5 ti0 = some (s9, r) → ∀ lv : X_L, x_lget lv 0 = some (.ref r0) → x_lget lv 1 = some (.int i1) → x_lget lv 2 = some (.int i2) → x_lget lv 3 = some (.int i3) → x_lget lv 4 = some (.int i4) → Y o (d + 3) 49 32 lv [] s (fun s1 r1 => s1 = s9 ∧ r1 = some (.int r))) ∧
    (∀ (d : Nat) (s : Y_S) (r0 : Nat) (i1 : Int32) (i2 : Int32) (i3 : Int32) (i4 : Int32) (i5 : Int32) (ti0 : Int32) (s9 : Y_S) (r : Int32), g_49 o n 2 s r0 i1 i2 i3 i4 i5 ti0 = some (s9, r) → ∀ lv : X_L, x_lget lv 0 = some (.ref r0) → x_lget lv 1 = some (.int i1) → x_lget lv 2 = some (.int i2) → x_lget lv 3 = some (.int i3) → x_lget lv 4 = some (.int i4) → Y o (d + 3) 49 51 lv [.int ti0] s (fun s1 r1 => s1 = s9 ∧ r1 = some (.int r))) ∧
    (∀ (d : Nat) (s : Y_S) (r0 : Nat) (i1 : Int32) (i2 : Int32) (i3 : Int32) (i4 : Int32) (i5 : Int32) (ti0 : Int32) (s9 : Y_S) (r : Int32), g_49 o n 3 s r0 i1 i2 i3 i4 i5 ti0 = some (s9, r) → ∀ lv : X_L, x_lget lv 0 = some (.ref r0) → x_lget lv 1 = some (.int i1) → x_lget lv 2 = some (.int i2) → x_lget lv 3 = some (.int i3) → x_lget lv 4 = some (.int i4) → x_lget lv 5 = some (.int i5) → Y o (d + 3) 49 85 lv [] s (fun s1 r1 => s1 = s9 ∧ r1 = some (.int r))) ∧
    (∀ (d : Nat) (s : Y_S) (r0 : Nat) (i1 : Int32) (i2 : Int32) (i3 : Int32) (i4 : Int32) (i5 : Int32) (ti0 : Int32) (s9 : Y_S) (r : Int32), g_49 o n 4 s r0 i1 i2 i3 i4 i5 ti0 = some (s9, r) → ∀ lv : X_L, x_lget lv 0 = some (.ref r0) → x_lget lv 3 = some (.int i3) → x_lget lv 4 = some (.int i4) → x_lget lv 5 = some (.int i5) → Y o (d + 3) 49 155 lv [] s (fun s1 r1 => s1 = s9 ∧ r1 = some (.int r))) ∧
    (∀ (d : Nat) (s : Y_S) (r0 : Nat) (i1 : Int32) (i2 : Int32) (i3 : Int32) (i4 : Int32) (i5 : Int32) (ti0 : Int32) (s9 : Y_S) (r : Int32), g_49 o n 5 s r0 i1 i2 i3 i4 i5 ti0 = some (s9, r) → ∀ lv : X_L, x_lget lv 5 = some (.int i5) → Y o (d + 3) 49 193 lv [] s (fun s1 r1 => s1 = s9 ∧ r1 = some (.int r))) := by
  intro n
  induction n with
  | zero => exact ⟨fun d s _ _ _ _ _ _ _ s9 r h => (by simp only [g_49] at h; cases h), fun d s _ _ _ _ _ _ _ s9 r h => (by simp only [g_49] at h; cases h), fun d s _ _ _ _ _ _ _ s9 r h => (by simp only [g_49] at h; cases h), fun d s _ _ _ _ _ _ _ s9 r h => (by simp only [g_49] at h; cases h), fun d s _ _ _ _ _ _ _ s9 r h => (by simp only [g_49] at h; cases h), fun d s _ _ _ _ _ _ _ s9 r h => (by simp only [g_49] at h; cases h)⟩
  | succ n ih =>
    refine ⟨?_, ?_, ?_, ?_, ?_, ?_⟩
    · intro d s r0 i1 i2 i3 i4 i5 ti0 s9 r h lv lk0 lk1 lk2 lk3 lk4
      simp only [g_49] at h
      refine Van rfl lk0 rfl rfl ?_
      have hz := y_bind h
      clear h
      obtain ⟨v1, h2, h⟩ := hz
      refine Zgi h2 rfl rfl rfl ?_
      refine Vic (v := (-1)) rfl (by decide) rfl ?_
      refine Yif rfl rfl rfl rfl rfl rfl rfl (fun c3 => ?_) (fun c3 => ?_)
      · rw [if_pos c3] at h
        exact ih.2.1 _ _ _ _ _ _ _ _ _ _ _ h lv lk0 lk1 lk2 lk3 lk4
      · rw [if_neg c3] at h
        refine Van rfl lk0 rfl rfl ?_
        have hz := y_bind h
        clear h
        obtain ⟨v4, h5, h⟩ := hz
        refine Zgi h5 rfl rfl rfl ?_
        refine Van rfl lk0 rfl rfl ?_
        have hz := y_bind h
        clear h
        obtain ⟨v6, h7, h⟩ := hz
        have wv6 := (y_gv_ok h7).2
        refine Vgv h7 rfl rfl rfl ?_
        have hz := y_bind h
        clear h
        obtain ⟨v8, h9, h⟩ := hz
        refine Zln h9 rfl rfl ?_
        refine Yif rfl rfl rfl rfl rfl rfl rfl (fun c10 => ?_) (fun c10 => ?_)
        · rw [if_pos c10] at h
          exact ih.2.1 _ _ _ _ _ _ _ _ _ _ _ h lv lk0 lk1 lk2 lk3 lk4
        · rw [if_neg c10] at h
          refine Van rfl lk0 rfl rfl ?_
          refine Van rfl lk0 rfl rfl ?_
          have hz := y_bind h
          clear h
          obtain ⟨v11, h12, h⟩ := hz
          refine Zgi h12 rfl rfl rfl ?_
          refine Vic (v := 2) rfl (by decide) rfl ?_
          refine Ya rfl rfl rfl ?_
          refine Vic (v := 1) rfl (by decide) rfl ?_
          refine Ya rfl rfl rfl ?_
          have hz := y_bind h
          clear h
          obtain ⟨b17, h18, h⟩ := hz
          obtain ⟨eh18, fh18, wh18⟩ := y_rcv_ok h18
          cases eh18
          have hz := y_bind h
          clear h
          obtain ⟨⟨s13, r14⟩, h15, h⟩ := hz
          try dsimp only at h
          refine Vcv rfl rfl rfl wh18 rfl rfl ⟨(Nat.le_of_ble_eq_true rfl), (Nat.le_of_ble_eq_true rfl)⟩ rfl ((c_50 o n) _ _ _ _ _ _ h15 _ rfl rfl) (fun z1 z2 zq => ?_)
          obtain ⟨rfl, rfl⟩ := zq
          try dsimp only [Option.toList, HAppend.hAppend, Append.append, List.append]
          exact ih.2.1 _ _ _ _ _ _ _ _ _ _ _ h lv lk0 lk1 lk2 lk3 lk4
    · intro d s r0 i1 i2 i3 i4 i5 ti0 s9 r h lv lk0 lk1 lk2 lk3 lk4
      simp only [g_49] at h
      refine Van rfl lk0 rfl rfl ?_
      have hz := y_bind h
      clear h
      obtain ⟨v1, h2, h⟩ := hz
      refine Zgi h2 rfl rfl rfl ?_
      refine Vic (v := (-1)) rfl (by decide) rfl ?_
      refine Yif rfl rfl rfl rfl rfl rfl rfl (fun c3 => ?_) (fun c3 => ?_)
      · rw [if_pos c3] at h
        refine Van rfl lk0 rfl rfl ?_
        have hz := y_bind h
        clear h
        obtain ⟨v4, h5, h⟩ := hz
        refine Zgi h5 rfl rfl rfl ?_
        exact ih.2.2.1 _ _ _ _ _ _ _ _ _ _ _ h lv lk0 lk1 lk2 lk3 lk4
      · rw [if_neg c3] at h
        refine Van rfl lk0 rfl rfl ?_
        have hz := y_bind h
        clear h
        obtain ⟨v6, h7, h⟩ := hz
        refine Zgi h7 rfl rfl rfl ?_
        refine Ygo rfl rfl rfl rfl rfl rfl ?_
        exact ih.2.2.1 _ _ _ _ _ _ _ _ _ _ _ h lv lk0 lk1 lk2 lk3 lk4
    · intro d s r0 i1 i2 i3 i4 i5 ti0 s9 r h lv lk0 lk1 lk2 lk3 lk4
      simp only [g_49] at h
      refine Vsi rfl rfl (fun lv lk5 hk => ?_)
      have lk0 := hk 0 _ lk0 (by decide) (by decide) (Or.inl (by decide))
      have lk1 := hk 1 _ lk1 (by decide) (by decide) (Or.inl (by decide))
      have lk2 := hk 2 _ lk2 (by decide) (by decide) (Or.inl (by decide))
      have lk3 := hk 3 _ lk3 (by decide) (by decide) (Or.inl (by decide))
      have lk4 := hk 4 _ lk4 (by decide) (by decide) (Or.inr rfl)
      refine Van rfl lk0 rfl rfl ?_
      have hz := y_bind h
      clear h
      obtain ⟨v1, h2, h⟩ := hz
      refine Zgi h2 rfl rfl rfl ?_
      refine Vic (v := (-1)) rfl (by decide) rfl ?_
      refine Yif rfl rfl rfl rfl rfl rfl rfl (fun c3 => ?_) (fun c3 => ?_)
      · rw [if_pos c3] at h
        refine Van rfl lk0 rfl rfl ?_
        refine Van rfl lk0 rfl rfl ?_
        have hz := y_bind h
        clear h
        obtain ⟨v4, h5, h⟩ := hz
        have wv4 := (y_gv_ok h5).2
        refine Vgv h5 rfl rfl rfl ?_
        refine Vi rfl lk5 rfl ?_
        have hz := y_bind h
        clear h
        obtain ⟨v6, h7, h⟩ := hz
        refine Zia h7 rfl rfl ?_
        have hz := y_bind h
        clear h
        obtain ⟨s8, h9, h⟩ := hz
        refine Zpi h9 rfl rfl rfl rfl ?_
        exact ih.2.2.2.1 _ _ _ _ _ _ _ _ _ _ _ h lv lk0 lk1 lk2 lk3 lk4 lk5
      · rw [if_neg c3] at h
        refine Van rfl lk0 rfl rfl ?_
        refine Vdup rfl rfl rfl ?_
        have hz := y_bind h
        clear h
        obtain ⟨v10, h11, h⟩ := hz
        refine Zgi h11 rfl rfl rfl ?_
        refine Vic (v := 1) rfl (by decide) rfl ?_
        refine Ya rfl rfl rfl ?_
        have hz := y_bind h
        clear h
        obtain ⟨s12, h13, h⟩ := hz
        refine Zpi h13 rfl rfl rfl rfl ?_
        refine Ygo rfl rfl rfl rfl rfl rfl ?_
        exact ih.2.2.2.1 _ _ _ _ _ _ _ _ _ _ _ h lv lk0 lk1 lk2 lk3 lk4 lk5
    · intro d s r0 i1 i2 i3 i4 i5 ti0 s9 r h lv lk0 lk1 lk2 lk3 lk4 lk5
      simp only [g_49] at h
      refine Van rfl lk0 rfl rfl ?_
      have hz := y_bind h
      clear h
      obtain ⟨v1, h2, h⟩ := hz
      have wv1 := (y_gv_ok h2).2
      refine Vgv h2 rfl rfl rfl ?_
      refine Vi rfl lk5 rfl ?_
      refine Vin rfl lk1 rfl ?_
      have hz := y_bind h
      clear h
      obtain ⟨s3, h4, h⟩ := hz
      refine Zis h4 rfl rfl ?_
      refine Van rfl lk0 rfl rfl ?_
      have hz := y_bind h
      clear h
      obtain ⟨v5, h6, h⟩ := hz
      have wv5 := (y_gv_ok h6).2
      refine Vgv h6 rfl rfl rfl ?_
      refine Vi rfl lk5 rfl ?_
      refine Vin rfl lk2 rfl ?_
      have hz := y_bind h
      clear h
      obtain ⟨s7, h8, h⟩ := hz
      refine Zis h8 rfl rfl ?_
      refine Van rfl lk0 rfl rfl ?_
      have hz := y_bind h
      clear h
      obtain ⟨v9, h10, h⟩ := hz
      have wv9 := (y_gv_ok h10).2
      refine Vgv h10 rfl rfl rfl ?_
      refine Vi rfl lk5 rfl ?_
      refine Vin rfl lk3 rfl ?_
      have hz := y_bind h
      clear h
      obtain ⟨s11, h12, h⟩ := hz
      refine Zis h12 rfl rfl ?_
      refine Van rfl lk0 rfl rfl ?_
      have hz := y_bind h
      clear h
      obtain ⟨v13, h14, h⟩ := hz
      have wv13 := (y_gv_ok h14).2
      refine Vgv h14 rfl rfl rfl ?_
      refine Vi rfl lk5 rfl ?_
      refine Vic (v := (-1)) rfl (by decide) rfl ?_
      have hz := y_bind h
      clear h
      obtain ⟨s15, h16, h⟩ := hz
      refine Zis h16 rfl rfl ?_
      refine Van rfl lk0 rfl rfl ?_
      have hz := y_bind h
      clear h
      obtain ⟨v17, h18, h⟩ := hz
      have wv17 := (y_gv_ok h18).2
      refine Vgv h18 rfl rfl rfl ?_
      refine Vi rfl lk5 rfl ?_
      refine Vic (v := (-1)) rfl (by decide) rfl ?_
      have hz := y_bind h
      clear h
      obtain ⟨s19, h20, h⟩ := hz
      refine Zis h20 rfl rfl ?_
      refine Van rfl lk0 rfl rfl ?_
      have hz := y_bind h
      clear h
      obtain ⟨v21, h22, h⟩ := hz
      have wv21 := (y_gv_ok h22).2
      refine Vgv h22 rfl rfl rfl ?_
      refine Vi rfl lk5 rfl ?_
      refine Van rfl lk0 rfl rfl ?_
      refine Vin rfl lk3 rfl ?_
      have hz := y_bind h
      clear h
      obtain ⟨b27, h28, h⟩ := hz
      obtain ⟨eh28, fh28, wh28⟩ := y_rcv_ok h28
      cases eh28
      have hz := y_bind h
      clear h
      obtain ⟨⟨s23, r24⟩, h25, h⟩ := hz
      try dsimp only at h
      refine Vcv rfl rfl rfl wh28 rfl rfl ⟨(by simp only [List.take, List.reverse_cons, List.reverse_nil, List.nil_append, List.cons_append, List.map_cons, List.map_nil, y_cati, y_catl, y_catr, y_catn, y_cata, y_rv_cat wv21, List.sum_cons, List.sum_nil]; decide +kernel), (Nat.le_of_ble_eq_true rfl)⟩ rfl ((c_51 o n).1 _ _ _ _ _ _ _ h25 _ rfl rfl) (fun z1 z2 zq => ?_)
      obtain ⟨rfl, rfl⟩ := zq
      try dsimp only [Option.toList, HAppend.hAppend, Append.append, List.append]
      refine Vic (v := 1) rfl (by decide) rfl ?_
      refine Ya rfl rfl rfl ?_
      have hz := y_bind h
      clear h
      obtain ⟨s31, h32, h⟩ := hz
      refine Zis h32 rfl rfl ?_
      refine Vin rfl lk1 rfl ?_
      refine Vbp (v := 18) rfl (by decide) rfl ?_
      refine Yif rfl rfl rfl rfl rfl rfl rfl (fun c33 => ?_) (fun c33 => ?_)
      · rw [if_pos c33] at h
        exact ih.2.2.2.2.1 _ _ _ _ _ _ _ _ _ _ _ h lv lk0 lk3 lk4 lk5
      · rw [if_neg c33] at h
        refine Van rfl lk0 rfl rfl ?_
        refine Vdup rfl rfl rfl ?_
        have hz := y_bind h
        clear h
        obtain ⟨v34, h35, h⟩ := hz
        refine Zgi h35 rfl rfl rfl ?_
        refine Vic (v := 1) rfl (by decide) rfl ?_
        refine Ya rfl rfl rfl ?_
        have hz := y_bind h
        clear h
        obtain ⟨s36, h37, h⟩ := hz
        refine Zpi h37 rfl rfl rfl rfl ?_
        exact ih.2.2.2.2.1 _ _ _ _ _ _ _ _ _ _ _ h lv lk0 lk3 lk4 lk5
    · intro d s r0 i1 i2 i3 i4 i5 ti0 s9 r h lv lk0 lk3 lk4 lk5
      simp only [g_49] at h
      refine Vin rfl lk3 rfl ?_
      refine Vic (v := (-1)) rfl (by decide) rfl ?_
      refine Yif rfl rfl rfl rfl rfl rfl rfl (fun c1 => ?_) (fun c1 => ?_)
      · rw [if_pos c1] at h
        refine Vi rfl lk4 rfl ?_
        refine Yif rfl rfl rfl rfl rfl rfl rfl (fun c2 => ?_) (fun c2 => ?_)
        · rw [if_pos c2] at h
          refine Van rfl lk0 rfl rfl ?_
          have hz := y_bind h
          clear h
          obtain ⟨v3, h4, h⟩ := hz
          have wv3 := (y_gv_ok h4).2
          refine Vgv h4 rfl rfl rfl ?_
          refine Vin rfl lk3 rfl ?_
          refine Vi rfl lk5 rfl ?_
          have hz := y_bind h
          clear h
          obtain ⟨s5, h6, h⟩ := hz
          refine Zis h6 rfl rfl ?_
          exact ih.2.2.2.2.2 _ _ _ _ _ _ _ _ _ _ _ h lv lk5
        · rw [if_neg c2] at h
          refine Van rfl lk0 rfl rfl ?_
          have hz := y_bind h
          clear h
          obtain ⟨v7, h8, h⟩ := hz
          have wv7 := (y_gv_ok h8).2
          refine Vgv h8 rfl rfl rfl ?_
          refine Vin rfl lk3 rfl ?_
          refine Vi rfl lk5 rfl ?_
          have hz := y_bind h
          clear h
          obtain ⟨s9, h10, h⟩ := hz
          refine Zis h10 rfl rfl ?_
          refine Ygo rfl rfl rfl rfl rfl rfl ?_
          exact ih.2.2.2.2.2 _ _ _ _ _ _ _ _ _ _ _ h lv lk5
      · rw [if_neg c1] at h
        refine Van rfl lk0 rfl rfl ?_
        refine Vi rfl lk5 rfl ?_
        have hz := y_bind h
        clear h
        obtain ⟨s11, h12, h⟩ := hz
        refine Zpi h12 rfl rfl rfl rfl ?_
        refine Ygo rfl rfl rfl rfl rfl rfl ?_
        exact ih.2.2.2.2.2 _ _ _ _ _ _ _ _ _ _ _ h lv lk5
    · intro d s r0 i1 i2 i3 i4 i5 ti0 s9 r h lv lk5
      simp only [g_49] at h
      refine Vi rfl lk5 rfl ?_
      cases h
      exact Yret rfl rfl rfl rfl rfl rfl rfl ⟨rfl, rfl⟩

/-- StepRows$Run.beginIn -/
def g_42 (o : X_O) : Nat → Nat → Y_S → Nat → Value → Option (Y_S × Unit)
  | 0, _, _, _, _ => none
  | n + 1, 0, s, r0, a1 => (y_pi s 4 (.ref r0) 0 1).bind fun s1 => (y_pr s1 4 (.ref r0) 1 a1).bind fun s3 => (y_pr s3 4 (.ref r0) 2 .null).bind fun s5 => (y_pi s5 4 (.ref r0) 3 0).bind fun s7 => (y_pi s7 4 (.ref r0) 4 0).bind fun s9 => (y_gv s9 4 (.ref r0) 8).bind fun v11 => (g_148 o n 0 s9 (v11) (0) 0 0).bind fun q16 => (y_gv q16.1 4 (.ref r0) 9).bind fun v19 => (g_148 o n 0 q16.1 (v19) (0) 0 0).bind fun q24 => (y_gv q24.1 4 (.ref r0) 10).bind fun v27 => (g_149 o n 0 q24.1 (v27) ((-1)) 0 0).bind fun q32 => (y_gv q32.1 4 (.ref r0) 11).bind fun v35 => (y_rcv q32.1 5 v35).bind fun b41 => (g_48 o n 0 q32.1 b41).bind fun q40 => (y_gv q40.1 4 (.ref r0) 11).bind fun v45 => (y_rcv q40.1 5 v45).bind fun b51 => (g_49 o n 0 q40.1 b51 (40) (0) ((-1)) (0) 0 0).bind fun q50 => some (q50.1, ())
  | _ + 1, _, _, _, _ => none
set_option maxRecDepth 100000 in
set_option maxHeartbeats 4000000 in
theorem c_42 (o : X_O) : ∀ n, (∀ (d : Nat) (s : Y_S) (r0 : Nat) (a1 : Value) (s9 : Y_S) (r : Unit), g_42 o n 0 s r0 a1 = some (s9, r) → ∀ lv : X_L, x_lget lv 0 = some (.ref r0) → x_lget lv 1 = some a1 → y_rv a1 = true → Y o (d + 4) 42 0 lv [] s (fun s1 r1 => s1 = s9 ∧ r1 = none)) := by
  intro n
  induction n with
  | zero => exact fun d s _ _ s9 r h => (by simp only [g_42] at h; cases h)
  | succ n ih =>
    intro d s r0 a1 s9 r h lv lk0 lk1 rv1
    simp only [g_42] at h
    refine Van rfl lk0 rfl rfl ?_
    refine Vic (v := 1) rfl (by decide) rfl ?_
    have hz := y_bind h
    clear h
    obtain ⟨s1, h2, h⟩ := hz
    refine Zpi h2 rfl rfl rfl rfl ?_
    refine Van rfl lk0 rfl rfl ?_
    refine Van rfl lk1 rv1 rfl ?_
    have hz := y_bind h
    clear h
    obtain ⟨s3, h4, h⟩ := hz
    refine Zpr h4 rfl rfl rfl rfl ?_
    refine Van rfl lk0 rfl rfl ?_
    refine Ya rfl rfl rfl ?_
    have hz := y_bind h
    clear h
    obtain ⟨s5, h6, h⟩ := hz
    refine Zpr h6 rfl rfl rfl rfl ?_
    refine Van rfl lk0 rfl rfl ?_
    refine Vic (v := 0) rfl (by decide) rfl ?_
    have hz := y_bind h
    clear h
    obtain ⟨s7, h8, h⟩ := hz
    refine Zpi h8 rfl rfl rfl rfl ?_
    refine Van rfl lk0 rfl rfl ?_
    refine Vic (v := 0) rfl (by decide) rfl ?_
    have hz := y_bind h
    clear h
    obtain ⟨s9, h10, h⟩ := hz
    refine Zpi h10 rfl rfl rfl rfl ?_
    refine Van rfl lk0 rfl rfl ?_
    have hz := y_bind h
    clear h
    obtain ⟨v11, h12, h⟩ := hz
    have wv11 := (y_gv_ok h12).2
    refine Vgv h12 rfl rfl rfl ?_
    refine Vlc (v := 0) rfl (by decide) rfl ?_
    have hz := y_bind h
    clear h
    obtain ⟨⟨s13, r14⟩, h15, h⟩ := hz
    try dsimp only at h
    refine Vcs rfl rfl (Nat.le_of_ble_eq_true rfl) rfl rfl ⟨(Nat.le_of_ble_eq_true rfl), (by simp only [List.take, List.reverse_cons, List.reverse_nil, List.nil_append, List.cons_append, List.map_cons, List.map_nil, y_cati, y_catl, y_catr, y_catn, y_cata, y_rv_cat wv11, List.sum_cons, List.sum_nil]; decide +kernel)⟩ rfl ((c_148 o n).1 _ _ _ _ _ _ _ _ h15 _ (by simp [lv_args, x_lget, y_cati, y_catl, y_catr, y_rv_cat wv11]) (by simp [lv_args, x_lget, y_cati, y_catl, y_catr, y_rv_cat wv11]) wv11) (fun z1 z2 zq => ?_)
    obtain ⟨rfl, rfl⟩ := zq
    try dsimp only [Option.toList, HAppend.hAppend, Append.append, List.append]
    refine Van rfl lk0 rfl rfl ?_
    have hz := y_bind h
    clear h
    obtain ⟨v19, h20, h⟩ := hz
    have wv19 := (y_gv_ok h20).2
    refine Vgv h20 rfl rfl rfl ?_
    refine Vlc (v := 0) rfl (by decide) rfl ?_
    have hz := y_bind h
    clear h
    obtain ⟨⟨s21, r22⟩, h23, h⟩ := hz
    try dsimp only at h
    refine Vcs rfl rfl (Nat.le_of_ble_eq_true rfl) rfl rfl ⟨(Nat.le_of_ble_eq_true rfl), (by simp only [List.take, List.reverse_cons, List.reverse_nil, List.nil_append, List.cons_append, List.map_cons, List.map_nil, y_cati, y_catl, y_catr, y_catn, y_cata, y_rv_cat wv19, List.sum_cons, List.sum_nil]; decide +kernel)⟩ rfl ((c_148 o n).1 _ _ _ _ _ _ _ _ h23 _ (by simp [lv_args, x_lget, y_cati, y_catl, y_catr, y_rv_cat wv19]) (by simp [lv_args, x_lget, y_cati, y_catl, y_catr, y_rv_cat wv19]) wv19) (fun z1 z2 zq => ?_)
    obtain ⟨rfl, rfl⟩ := zq
    try dsimp only [Option.toList, HAppend.hAppend, Append.append, List.append]
    refine Van rfl lk0 rfl rfl ?_
    have hz := y_bind h
    clear h
    obtain ⟨v27, h28, h⟩ := hz
    have wv27 := (y_gv_ok h28).2
    refine Vgv h28 rfl rfl rfl ?_
    refine Vic (v := (-1)) rfl (by decide) rfl ?_
    have hz := y_bind h
    clear h
    obtain ⟨⟨s29, r30⟩, h31, h⟩ := hz
    try dsimp only at h
    refine Vcs rfl rfl (Nat.le_of_ble_eq_true rfl) rfl rfl ⟨(Nat.le_of_ble_eq_true rfl), (by simp only [List.take, List.reverse_cons, List.reverse_nil, List.nil_append, List.cons_append, List.map_cons, List.map_nil, y_cati, y_catl, y_catr, y_catn, y_cata, y_rv_cat wv27, List.sum_cons, List.sum_nil]; decide +kernel)⟩ rfl ((c_149 o n).1 _ _ _ _ _ _ _ _ h31 _ (by simp [lv_args, x_lget, y_cati, y_catl, y_catr, y_rv_cat wv27]) (by simp [lv_args, x_lget, y_cati, y_catl, y_catr, y_rv_cat wv27]) wv27) (fun z1 z2 zq => ?_)
    obtain ⟨rfl, rfl⟩ := zq
    try dsimp only [Option.toList, HAppend.hAppend, Append.append, List.append]
    refine Van rfl lk0 rfl rfl ?_
    have hz := y_bind h
    clear h
    obtain ⟨v35, h36, h⟩ := hz
    have wv35 := (y_gv_ok h36).2
    refine Vgv h36 rfl rfl rfl ?_
    have hz := y_bind h
    clear h
    obtain ⟨b41, h42, h⟩ := hz
    obtain ⟨eh42, fh42, wh42⟩ := y_rcv_ok h42
    cases eh42
    have hz := y_bind h
    clear h
    obtain ⟨⟨s37, r38⟩, h39, h⟩ := hz
    try dsimp only at h
    refine Vcv rfl rfl rfl wh42 rfl rfl ⟨(Nat.le_of_ble_eq_true rfl), (Nat.le_of_ble_eq_true rfl)⟩ rfl ((c_48 o n) _ _ _ _ _ h39 _ rfl) (fun z1 z2 zq => ?_)
    obtain ⟨rfl, rfl⟩ := zq
    try dsimp only [Option.toList, HAppend.hAppend, Append.append, List.append]
    refine Van rfl lk0 rfl rfl ?_
    have hz := y_bind h
    clear h
    obtain ⟨v45, h46, h⟩ := hz
    have wv45 := (y_gv_ok h46).2
    refine Vgv h46 rfl rfl rfl ?_
    refine Vbp (v := 40) rfl (by decide) rfl ?_
    refine Vic (v := 0) rfl (by decide) rfl ?_
    refine Vic (v := (-1)) rfl (by decide) rfl ?_
    refine Vic (v := 0) rfl (by decide) rfl ?_
    have hz := y_bind h
    clear h
    obtain ⟨b51, h52, h⟩ := hz
    obtain ⟨eh52, fh52, wh52⟩ := y_rcv_ok h52
    cases eh52
    have hz := y_bind h
    clear h
    obtain ⟨⟨s47, r48⟩, h49, h⟩ := hz
    try dsimp only at h
    refine Vcv rfl rfl rfl wh52 rfl rfl ⟨(Nat.le_of_ble_eq_true rfl), (Nat.le_of_ble_eq_true rfl)⟩ rfl ((c_49 o n).1 _ _ _ _ _ _ _ _ _ _ _ h49 _ rfl rfl rfl rfl rfl) (fun z1 z2 zq => ?_)
    obtain ⟨rfl, rfl⟩ := zq
    try dsimp only [Option.toList, HAppend.hAppend, Append.append, List.append]
    refine Vpop rfl rfl rfl ?_
    cases h
    exact Yret rfl rfl rfl rfl rfl rfl rfl ⟨rfl, rfl⟩

/-- StepRows.start -/
def g_6 (o : X_O) : Nat → Nat → Y_S → Nat → Int32 → Option (Y_S × Int32)
  | 0, _, _, _, _ => none
  | n + 1, 0, s, r0, i1 => (y_rcv s 0 (.ref r0)).bind fun b5 => (g_7 o n 0 s b5 (i1) 0).bind fun q4 => if ¬ q4.2 = 0 then (y_gv q4.1 0 (.ref r0) 5).bind fun v10 => (y_gv q4.1 0 (.ref r0) 2).bind fun v12 => (y_aa q4.1 v12 i1).bind fun v14 => (y_rcv q4.1 4 v10).bind fun b20 => (g_42 o n 0 q4.1 b20 (v14)).bind fun q19 => some (q19.1, 0) else some (q4.1, (-1))
  | _ + 1, _, _, _, _ => none
set_option maxRecDepth 100000 in
set_option maxHeartbeats 4000000 in
theorem c_6 (o : X_O) : ∀ n, (∀ (d : Nat) (s : Y_S) (r0 : Nat) (i1 : Int32) (s9 : Y_S) (r : Int32), g_6 o n 0 s r0 i1 = some (s9, r) → ∀ lv : X_L, x_lget lv 0 = some (.ref r0) → x_lget lv 1 = some (.int i1) → Y o (d + 5) 6 0 lv [] s (fun s1 r1 => s1 = s9 ∧ r1 = some (.int r))) := by
  intro n
  induction n with
  | zero => exact fun d s _ _ s9 r h => (by simp only [g_6] at h; cases h)
  | succ n ih =>
    intro d s r0 i1 s9 r h lv lk0 lk1
    simp only [g_6] at h
    refine Van rfl lk0 rfl rfl ?_
    refine Vin rfl lk1 rfl ?_
    have hz := y_bind h
    clear h
    obtain ⟨b5, h6, h⟩ := hz
    obtain ⟨eh6, fh6, wh6⟩ := y_rcv_ok h6
    cases eh6
    have hz := y_bind h
    clear h
    obtain ⟨⟨s1, r2⟩, h3, h⟩ := hz
    try dsimp only at h
    refine Vcv rfl rfl rfl wh6 rfl rfl ⟨(Nat.le_of_ble_eq_true rfl), (Nat.le_of_ble_eq_true rfl)⟩ rfl ((c_7 o n).1 _ _ _ _ _ _ _ h3 _ rfl rfl) (fun z1 z2 zq => ?_)
    obtain ⟨rfl, rfl⟩ := zq
    try dsimp only [Option.toList, HAppend.hAppend, Append.append, List.append]
    refine Yif rfl rfl rfl rfl rfl rfl rfl (fun c9 => ?_) (fun c9 => ?_)
    · rw [if_pos c9] at h
      refine Van rfl lk0 rfl rfl ?_
      have hz := y_bind h
      clear h
      obtain ⟨v10, h11, h⟩ := hz
      have wv10 := (y_gv_ok h11).2
      refine Vgv h11 rfl rfl rfl ?_
      refine Van rfl lk0 rfl rfl ?_
      have hz := y_bind h
      clear h
      obtain ⟨v12, h13, h⟩ := hz
      have wv12 := (y_gv_ok h13).2
      refine Vgv h13 rfl rfl rfl ?_
      refine Vin rfl lk1 rfl ?_
      have hz := y_bind h
      clear h
      obtain ⟨v14, h15, h⟩ := hz
      have wv14 := y_aa_rv h15
      refine Zaa h15 rfl rfl ?_
      have hz := y_bind h
      clear h
      obtain ⟨b20, h21, h⟩ := hz
      obtain ⟨eh21, fh21, wh21⟩ := y_rcv_ok h21
      cases eh21
      have hz := y_bind h
      clear h
      obtain ⟨⟨s16, r17⟩, h18, h⟩ := hz
      try dsimp only at h
      refine Vcv rfl rfl rfl wh21 rfl rfl ⟨(Nat.le_of_ble_eq_true rfl), (by simp only [List.take, List.reverse_cons, List.reverse_nil, List.nil_append, List.cons_append, List.map_cons, List.map_nil, y_cati, y_catl, y_catr, y_catn, y_cata, y_rv_cat wv14, List.sum_cons, List.sum_nil]; decide +kernel)⟩ rfl ((c_42 o n) _ _ _ _ _ _ h18 _ (by simp [lv_args, x_lget, y_cati, y_catl, y_catr, y_rv_cat wv14]) (by simp [lv_args, x_lget, y_cati, y_catl, y_catr, y_rv_cat wv14]) wv14) (fun z1 z2 zq => ?_)
      obtain ⟨rfl, rfl⟩ := zq
      try dsimp only [Option.toList, HAppend.hAppend, Append.append, List.append]
      refine Vic (v := 0) rfl (by decide) rfl ?_
      cases h
      exact Yret rfl rfl rfl rfl rfl rfl rfl ⟨rfl, rfl⟩
    · rw [if_neg c9] at h
      refine Vic (v := (-1)) rfl (by decide) rfl ?_
      cases h
      exact Yret rfl rfl rfl rfl rfl rfl rfl ⟨rfl, rfl⟩

/-- StepRows$Run.goesOn -/
def g_43 (o : X_O) : Nat → Nat → Y_S → Nat → Int32 → Option (Y_S × Int32)
  | 0, _, _, _, _ => none
  | n + 1, 0, s, r0, ti0 => (y_gi s 4 (.ref r0) 0).bind fun v1 => if ¬ v1 = 1 then g_43 o n 1 s 0 (0) else g_43 o n 1 s 0 (1)
  | n + 1, 1, s, r0, ti0 => if ti0 = 0 ∨ ti0 = 1 then some (s, ti0) else none
  | _ + 1, _, _, _, _ => none
set_option maxRecDepth 100000 in
set_option maxHeartbeats 4000000 in
theorem c_43 (o : X_O) : ∀ n, (∀ (d : Nat) (s : Y_S) (r0 : Nat) (ti0 : Int32) (s9 : Y_S) (r : Int32), g_43 o n 0 s r0 ti0 = some (s9, r) → ∀ lv : X_L, x_lget lv 0 = some (.ref r0) → Y o (d + 0) 43 0 lv [] s (fun s1 r1 => s1 = s9 ∧ r1 = some (.int r))) ∧
    (∀ (d : Nat) (s : Y_S) (r0 : Nat) (ti0 : Int32) (s9 : Y_S) (r : Int32), g_43 o n 1 s r0 ti0 = some (s9, r) → ∀ lv : X_L, True → Y o (d + 0) 43 13 lv [.int ti0] s (fun s1 r1 => s1 = s9 ∧ r1 = some (.int r))) := by
  intro n
  induction n with
  | zero => exact ⟨fun d s _ _ s9 r h => (by simp only [g_43] at h; cases h), fun d s _ _ s9 r h => (by simp only [g_43] at h; cases h)⟩
  | succ n ih =>
    refine ⟨?_, ?_⟩
    · intro d s r0 ti0 s9 r h lv lk0
      simp only [g_43] at h
      refine Van rfl lk0 rfl rfl ?_
      have hz := y_bind h
      clear h
      obtain ⟨v1, h2, h⟩ := hz
      refine Zgi h2 rfl rfl rfl ?_
      refine Vic (v := 1) rfl (by decide) rfl ?_
      refine Yif rfl rfl rfl rfl rfl rfl rfl (fun c3 => ?_) (fun c3 => ?_)
      · rw [if_pos c3] at h
        refine Vic (v := 0) rfl (by decide) rfl ?_
        exact ih.2 _ _ _ _ _ _ h lv trivial
      · rw [if_neg c3] at h
        refine Vic (v := 1) rfl (by decide) rfl ?_
        refine Ygo rfl rfl rfl rfl rfl rfl ?_
        exact ih.2 _ _ _ _ _ _ h lv trivial
    · intro d s r0 ti0 s9 r h lv _
      simp only [g_43] at h
      by_cases c1 : ti0 = 0 ∨ ti0 = 1
      · rw [if_pos c1] at h
        cases h
        exact Yret rfl rfl rfl rfl rfl rfl (if_pos c1) ⟨rfl, rfl⟩
      · rw [if_neg c1] at h; cases h

/-- StepRows$Walker.leafNumber -/
def g_64 (o : X_O) : Nat → Nat → Y_S → Nat → Int32 → Int64 → Option (Y_S × Int64)
  | 0, _, _, _, _, _ => none
  | n + 1, 0, s, r0, i1, l2 => if (i1).toInt = 31 then (y_gv s 6 (.ref r0) 2).bind fun v1 => (y_la s v1 (l2).toInt32).bind fun v3 => some (s, v3) else if (i1).toInt = 32 then (y_gv s 6 (.ref r0) 0).bind fun v6 => (y_gv s 4 v6 8).bind fun v8 => (y_la s v8 (l2).toInt32).bind fun v10 => some (s, v10) else some (s, l2)
  | _ + 1, _, _, _, _, _ => none
set_option maxRecDepth 100000 in
set_option maxHeartbeats 4000000 in
theorem c_64 (o : X_O) : ∀ n, (∀ (d : Nat) (s : Y_S) (r0 : Nat) (i1 : Int32) (l2 : Int64) (s9 : Y_S) (r : Int64), g_64 o n 0 s r0 i1 l2 = some (s9, r) → ∀ lv : X_L, x_lget lv 0 = some (.ref r0) → x_lget lv 1 = some (.int i1) → x_lget lv 2 = some (.long l2) → Y o (d + 0) 64 0 lv [] s (fun s1 r1 => s1 = s9 ∧ r1 = some (.long r))) := by
  intro n
  induction n with
  | zero => exact fun d s _ _ _ s9 r h => (by simp only [g_64] at h; cases h)
  | succ n ih =>
    intro d s r0 i1 l2 s9 r h lv lk0 lk1 lk2
    simp only [g_64] at h
    refine Vin rfl lk1 rfl ?_
    by_cases c5 : (i1).toInt = 31
    · rw [if_pos c5] at h
      refine Vls rfl (off := 27) (by simp [Op.lookupswitch.offset, c5]) rfl ?_
      refine Van rfl lk0 rfl rfl ?_
      have hz := y_bind h
      clear h
      obtain ⟨v1, h2, h⟩ := hz
      have wv1 := (y_gv_ok h2).2
      refine Vgv h2 rfl rfl rfl ?_
      refine Vln rfl lk2 rfl ?_
      refine Ya rfl rfl rfl ?_
      have hz := y_bind h
      clear h
      obtain ⟨v3, h4, h⟩ := hz
      refine Zla h4 rfl rfl ?_
      cases h
      exact Yret rfl rfl rfl rfl rfl rfl rfl ⟨rfl, rfl⟩
    rw [if_neg c5] at h
    by_cases c12 : (i1).toInt = 32
    · rw [if_pos c12] at h
      refine Vls rfl (off := 35) (by simp [Op.lookupswitch.offset, Ne.symm c5, c12]) rfl ?_
      refine Van rfl lk0 rfl rfl ?_
      have hz := y_bind h
      clear h
      obtain ⟨v6, h7, h⟩ := hz
      have wv6 := (y_gv_ok h7).2
      refine Vgv h7 rfl rfl rfl ?_
      have hz := y_bind h
      clear h
      obtain ⟨v8, h9, h⟩ := hz
      have wv8 := (y_gv_ok h9).2
      refine Vgv h9 rfl rfl rfl ?_
      refine Vln rfl lk2 rfl ?_
      refine Ya rfl rfl rfl ?_
      have hz := y_bind h
      clear h
      obtain ⟨v10, h11, h⟩ := hz
      refine Zla h11 rfl rfl ?_
      cases h
      exact Yret rfl rfl rfl rfl rfl rfl rfl ⟨rfl, rfl⟩
    rw [if_neg c12] at h
    refine Vls rfl (off := 46) (by simp [Op.lookupswitch.offset, Ne.symm c5, Ne.symm c12]) rfl ?_
    refine Vln rfl lk2 rfl ?_
    cases h
    exact Yret rfl rfl rfl rfl rfl rfl rfl ⟨rfl, rfl⟩

/-- StepRows$Run.hold -/
def g_44 (o : X_O) : Nat → Nat → Y_S → Nat → Int32 → Int32 → Option (Y_S × Unit)
  | 0, _, _, _, _, _ => none
  | n + 1, 0, s, r0, i1, i2 => (y_pi s 4 (.ref r0) 0 2).bind fun s1 => (y_gi s1 4 (.ref r0) 3).bind fun v3 => (y_pi s1 4 (.ref r0) 5 v3).bind fun s5 => (y_pi s5 4 (.ref r0) 6 i1).bind fun s7 => (y_pi s7 4 (.ref r0) 7 i2).bind fun s9 => some (s9, ())
  | _ + 1, _, _, _, _, _ => none
set_option maxRecDepth 100000 in
set_option maxHeartbeats 4000000 in
theorem c_44 (o : X_O) : ∀ n, (∀ (d : Nat) (s : Y_S) (r0 : Nat) (i1 : Int32) (i2 : Int32) (s9 : Y_S) (r : Unit), g_44 o n 0 s r0 i1 i2 = some (s9, r) → ∀ lv : X_L, x_lget lv 0 = some (.ref r0) → x_lget lv 1 = some (.int i1) → x_lget lv 2 = some (.int i2) → Y o (d + 0) 44 0 lv [] s (fun s1 r1 => s1 = s9 ∧ r1 = none)) := by
  intro n
  induction n with
  | zero => exact fun d s _ _ _ s9 r h => (by simp only [g_44] at h; cases h)
  | succ n ih =>
    intro d s r0 i1 i2 s9 r h lv lk0 lk1 lk2
    simp only [g_44] at h
    refine Van rfl lk0 rfl rfl ?_
    refine Vic (v := 2) rfl (by decide) rfl ?_
    have hz := y_bind h
    clear h
    obtain ⟨s1, h2, h⟩ := hz
    refine Zpi h2 rfl rfl rfl rfl ?_
    refine Van rfl lk0 rfl rfl ?_
    refine Van rfl lk0 rfl rfl ?_
    have hz := y_bind h
    clear h
    obtain ⟨v3, h4, h⟩ := hz
    refine Zgi h4 rfl rfl rfl ?_
    have hz := y_bind h
    clear h
    obtain ⟨s5, h6, h⟩ := hz
    refine Zpi h6 rfl rfl rfl rfl ?_
    refine Van rfl lk0 rfl rfl ?_
    refine Vin rfl lk1 rfl ?_
    have hz := y_bind h
    clear h
    obtain ⟨s7, h8, h⟩ := hz
    refine Zpi h8 rfl rfl rfl rfl ?_
    refine Van rfl lk0 rfl rfl ?_
    refine Vin rfl lk2 rfl ?_
    have hz := y_bind h
    clear h
    obtain ⟨s9, h10, h⟩ := hz
    refine Zpi h10 rfl rfl rfl rfl ?_
    cases h
    exact Yret rfl rfl rfl rfl rfl rfl rfl ⟨rfl, rfl⟩

/-- StepRows$Walker.lookUp -/
def g_65 (o : X_O) : Nat → Nat → Y_S → Nat → Int64 → Int32 → Option (Y_S × Int64)
  | 0, _, _, _, _, _ => none
  | n + 1, 0, s, r0, l1, i3 => if (lg_cmp l1 0) < 0 then g_65 o n 1 s r0 0 (i3) else (y_ln o s (.retAddr 2)).bind fun v2 => if (lg_cmp l1 (v2).toInt64) < 0 then (y_ia o s (.retAddr 2) (l1).toInt32).bind fun v5 => some (s, (v5).toInt64) else g_65 o n 1 s r0 0 (i3)
  | n + 1, 1, s, r0, l1, i3 => (y_gv s 6 (.ref r0) 0).bind fun v1 => (y_rcv s 4 v1).bind fun b7 => (g_44 o n 0 s b7 (2) (i3)).bind fun q6 => some (q6.1, 0)
  | _ + 1, _, _, _, _, _ => none
set_option maxRecDepth 100000 in
set_option maxHeartbeats 4000000 in
theorem c_65 (o : X_O) : ∀ n, (∀ (d : Nat) (s : Y_S) (r0 : Nat) (l1 : Int64) (i3 : Int32) (s9 : Y_S) (r : Int64), g_65 o n 0 s r0 l1 i3 = some (s9, r) → ∀ lv : X_L, x_lget lv 0 = some (.ref r0) → x_lget lv 1 = some (.long l1) → x_lget lv 3 = some (.int i3) → Y o (d + 1) 65 0 lv [] s (fun s1 r1 => s1 = s9 ∧ r1 = some (.long r))) ∧
    (∀ (d : Nat) (s : Y_S) (r0 : Nat) (l1 : Int64) (i3 : Int32) (s9 : Y_S) (r : Int64), g_65 o n 1 s r0 l1 i3 = some (s9, r) → ∀ lv : X_L, x_lget lv 0 = some (.ref r0) → x_lget lv 3 = some (.int i3) → Y o (d + 1) 65 16 lv [] s (fun s1 r1 => s1 = s9 ∧ r1 = some (.long r))) := by
  intro n
  induction n with
  | zero => exact ⟨fun d s _ _ _ s9 r h => (by simp only [g_65] at h; cases h), fun d s _ _ _ s9 r h => (by simp only [g_65] at h; cases h)⟩
  | succ n ih =>
    refine ⟨?_, ?_⟩
    · intro d s r0 l1 i3 s9 r h lv lk0 lk1 lk3
      simp only [g_65] at h
      refine Vln rfl lk1 rfl ?_
      refine Vlc (v := 0) rfl (by decide) rfl ?_
      refine Ya rfl rfl rfl ?_
      refine Yif rfl rfl rfl rfl rfl rfl rfl (fun c1 => ?_) (fun c1 => ?_)
      · rw [if_pos c1] at h
        exact ih.2 _ _ _ _ _ _ _ h lv lk0 lk3
      · rw [if_neg c1] at h
        refine Vln rfl lk1 rfl ?_
        refine Yk (v := .retAddr 2) rfl rfl rfl rfl rfl ?_
        have hz := y_bind h
        clear h
        obtain ⟨v2, h3, h⟩ := hz
        refine Zln h3 rfl rfl ?_
        refine Ya rfl rfl rfl ?_
        refine Ya rfl rfl rfl ?_
        refine Yif rfl rfl rfl rfl rfl rfl rfl (fun c4 => ?_) (fun c4 => ?_)
        · rw [if_pos c4] at h
          refine Yk (v := .retAddr 2) rfl rfl rfl rfl rfl ?_
          refine Vln rfl lk1 rfl ?_
          refine Ya rfl rfl rfl ?_
          have hz := y_bind h
          clear h
          obtain ⟨v5, h6, h⟩ := hz
          refine Zia h6 rfl rfl ?_
          refine Ya rfl rfl rfl ?_
          cases h
          exact Yret rfl rfl rfl rfl rfl rfl rfl ⟨rfl, rfl⟩
        · rw [if_neg c4] at h
          exact ih.2 _ _ _ _ _ _ _ h lv lk0 lk3
    · intro d s r0 l1 i3 s9 r h lv lk0 lk3
      simp only [g_65] at h
      refine Van rfl lk0 rfl rfl ?_
      have hz := y_bind h
      clear h
      obtain ⟨v1, h2, h⟩ := hz
      have wv1 := (y_gv_ok h2).2
      refine Vgv h2 rfl rfl rfl ?_
      refine Vic (v := 2) rfl (by decide) rfl ?_
      refine Vin rfl lk3 rfl ?_
      have hz := y_bind h
      clear h
      obtain ⟨b7, h8, h⟩ := hz
      obtain ⟨eh8, fh8, wh8⟩ := y_rcv_ok h8
      cases eh8
      have hz := y_bind h
      clear h
      obtain ⟨⟨s3, r4⟩, h5, h⟩ := hz
      try dsimp only at h
      refine Vcv rfl rfl rfl wh8 rfl rfl ⟨(Nat.le_of_ble_eq_true rfl), (Nat.le_of_ble_eq_true rfl)⟩ rfl ((c_44 o n) _ _ _ _ _ _ _ h5 _ rfl rfl rfl) (fun z1 z2 zq => ?_)
      obtain ⟨rfl, rfl⟩ := zq
      try dsimp only [Option.toList, HAppend.hAppend, Append.append, List.append]
      refine Vlc (v := 0) rfl (by decide) rfl ?_
      cases h
      exact Yret rfl rfl rfl rfl rfl rfl rfl ⟨rfl, rfl⟩

/-- StepRows$Walker.divide -/
def g_67 (o : X_O) : Nat → Nat → Y_S → Nat → Int32 → Int64 → Int64 → Option (Y_S × Int64)
  | 0, _, _, _, _, _, _ => none
  | n + 1, 0, s, r0, i1, l2, l4 => if ¬ (lg_cmp l4 0) = 0 then if l4 = 0 then none else some (s, (l2 / l4)) else (y_gv s 6 (.ref r0) 0).bind fun v3 => (y_rcv s 4 v3).bind fun b9 => (g_44 o n 0 s b9 (1) (i1)).bind fun q8 => some (q8.1, 0)
  | _ + 1, _, _, _, _, _, _ => none
set_option maxRecDepth 100000 in
set_option maxHeartbeats 4000000 in
theorem c_67 (o : X_O) : ∀ n, (∀ (d : Nat) (s : Y_S) (r0 : Nat) (i1 : Int32) (l2 : Int64) (l4 : Int64) (s9 : Y_S) (r : Int64), g_67 o n 0 s r0 i1 l2 l4 = some (s9, r) → ∀ lv : X_L, x_lget lv 0 = some (.ref r0) → x_lget lv 1 = some (.int i1) → x_lget lv 2 = some (.long l2) → x_lget lv 4 = some (.long l4) → Y o (d + 1) 67 0 lv [] s (fun s1 r1 => s1 = s9 ∧ r1 = some (.long r))) := by
  intro n
  induction n with
  | zero => exact fun d s _ _ _ _ s9 r h => (by simp only [g_67] at h; cases h)
  | succ n ih =>
    intro d s r0 i1 l2 l4 s9 r h lv lk0 lk1 lk2 lk4
    simp only [g_67] at h
    refine Vl rfl lk4 rfl ?_
    refine Vlc (v := 0) rfl (by decide) rfl ?_
    refine Ya rfl rfl rfl ?_
    refine Yif rfl rfl rfl rfl rfl rfl rfl (fun c1 => ?_) (fun c1 => ?_)
    · rw [if_pos c1] at h
      refine Vln rfl lk2 rfl ?_
      refine Vl rfl lk4 rfl ?_
      by_cases c2 : l4 = 0
      · rw [if_pos c2] at h; cases h
      rw [if_neg c2] at h
      refine Ya rfl (if_neg c2) rfl ?_
      cases h
      exact Yret rfl rfl rfl rfl rfl rfl rfl ⟨rfl, rfl⟩
    · rw [if_neg c1] at h
      refine Van rfl lk0 rfl rfl ?_
      have hz := y_bind h
      clear h
      obtain ⟨v3, h4, h⟩ := hz
      have wv3 := (y_gv_ok h4).2
      refine Vgv h4 rfl rfl rfl ?_
      refine Vic (v := 1) rfl (by decide) rfl ?_
      refine Vin rfl lk1 rfl ?_
      have hz := y_bind h
      clear h
      obtain ⟨b9, h10, h⟩ := hz
      obtain ⟨eh10, fh10, wh10⟩ := y_rcv_ok h10
      cases eh10
      have hz := y_bind h
      clear h
      obtain ⟨⟨s5, r6⟩, h7, h⟩ := hz
      try dsimp only at h
      refine Vcv rfl rfl rfl wh10 rfl rfl ⟨(Nat.le_of_ble_eq_true rfl), (Nat.le_of_ble_eq_true rfl)⟩ rfl ((c_44 o n) _ _ _ _ _ _ _ h7 _ rfl rfl rfl) (fun z1 z2 zq => ?_)
      obtain ⟨rfl, rfl⟩ := zq
      try dsimp only [Option.toList, HAppend.hAppend, Append.append, List.append]
      refine Vlc (v := 0) rfl (by decide) rfl ?_
      cases h
      exact Yret rfl rfl rfl rfl rfl rfl rfl ⟨rfl, rfl⟩

/-- StepRows$Walker.combine -/
def g_66 (o : X_O) : Nat → Nat → Y_S → Nat → Int32 → Int64 → Int64 → Int64 → Option (Y_S × Int64)
  | 0, _, _, _, _, _, _, _ => none
  | n + 1, 0, s, r0, i1, l2, l4, tl0 => (y_gv s 6 (.ref r0) 0).bind fun v1 => (y_gv s 4 v1 1).bind fun v3 => (y_gv s 3 v3 0).bind fun v5 => (y_ia o s v5 i1).bind fun v7 => if (v7).toInt < 0 ∨ 5 < (v7).toInt then if ¬ (lg_cmp l2 l4) = 0 then g_66 o n 2 s 0 0 0 0 (0) else g_66 o n 2 s 0 0 0 0 (1) else if v7 = 0 then some (s, (l2 + l4)) else if v7 = 1 then some (s, (l2 - l4)) else if v7 = 2 then some (s, (l2 * l4)) else if v7 = 3 then (y_rcv s 6 (.ref r0)).bind fun b18 => (g_67 o n 0 s b18 (i1) (l2) (l4)).bind fun q17 => some (q17.1, q17.2) else if v7 = 4 then if 0 ≤ (lg_cmp l2 l4) then g_66 o n 1 s 0 0 0 0 (0) else g_66 o n 1 s 0 0 0 0 (1) else if v7 = 5 then if ¬ (lg_cmp l2 l4) = 0 then g_66 o n 2 s 0 0 0 0 (0) else g_66 o n 2 s 0 0 0 0 (1) else none
  | n + 1, 1, s, r0, i1, l2, l4, tl0 => some (s, tl0)
  | n + 1, 2, s, r0, i1, l2, l4, tl0 => some (s, tl0)
  | _ + 1, _, _, _, _, _, _, _ => none
set_option maxRecDepth 100000 in
set_option maxHeartbeats 4000000 in
theorem c_66 (o : X_O) : ∀ n, (∀ (d : Nat) (s : Y_S) (r0 : Nat) (i1 : Int32) (l2 : Int64) (l4 : Int64) (tl0 : Int64) (s9 : Y_S) (r : Int64), g_66 o n 0 s r0 i1 l2 l4 tl0 = some (s9, r) → ∀ lv : X_L, x_lget lv 0 = some (.ref r0) → x_lget lv 1 = some (.int i1) → x_lget lv 2 = some (.long l2) → x_lget lv 4 = some (.long l4) → Y o (d + 2) 66 0 lv [] s (fun s1 r1 => s1 = s9 ∧ r1 = some (.long r))) ∧
    (∀ (d : Nat) (s : Y_S) (r0 : Nat) (i1 : Int32) (l2 : Int64) (l4 : Int64) (tl0 : Int64) (s9 : Y_S) (r : Int64), g_66 o n 1 s r0 i1 l2 l4 tl0 = some (s9, r) → ∀ lv : X_L, True → Y o (d + 2) 66 88 lv [.long tl0] s (fun s1 r1 => s1 = s9 ∧ r1 = some (.long r))) ∧
    (∀ (d : Nat) (s : Y_S) (r0 : Nat) (i1 : Int32) (l2 : Int64) (l4 : Int64) (tl0 : Int64) (s9 : Y_S) (r : Int64), g_66 o n 2 s r0 i1 l2 l4 tl0 = some (s9, r) → ∀ lv : X_L, True → Y o (d + 2) 66 101 lv [.long tl0] s (fun s1 r1 => s1 = s9 ∧ r1 = some (.long r))) := by
  intro n
  induction n with
  | zero => exact ⟨fun d s _ _ _ _ _ s9 r h => (by simp only [g_66] at h; cases h), fun d s _ _ _ _ _ s9 r h => (by simp only [g_66] at h; cases h), fun d s _ _ _ _ _ s9 r h => (by simp only [g_66] at h; cases h)⟩
  | succ n ih =>
    refine ⟨?_, ?_, ?_⟩
    · intro d s r0 i1 l2 l4 tl0 s9 r h lv lk0 lk1 lk2 lk4
      simp only [g_66] at h
      refine Van rfl lk0 rfl rfl ?_
      have hz := y_bind h
      clear h
      obtain ⟨v1, h2, h⟩ := hz
      have wv1 := (y_gv_ok h2).2
      refine Vgv h2 rfl rfl rfl ?_
      have hz := y_bind h
      clear h
      obtain ⟨v3, h4, h⟩ := hz
      have wv3 := (y_gv_ok h4).2
      refine Vgv h4 rfl rfl rfl ?_
      have hz := y_bind h
      clear h
      obtain ⟨v5, h6, h⟩ := hz
      have wv5 := (y_gv_ok h6).2
      refine Vgv h6 rfl rfl rfl ?_
      refine Vin rfl lk1 rfl ?_
      have hz := y_bind h
      clear h
      obtain ⟨v7, h8, h⟩ := hz
      refine Zia h8 rfl rfl ?_
      by_cases c10 : (v7).toInt < 0 ∨ 5 < (v7).toInt
      · rw [if_pos c10] at h
        refine Ysw rfl rfl rfl rfl rfl (if_pos c10) rfl ?_
        refine Vln rfl lk2 rfl ?_
        refine Vl rfl lk4 rfl ?_
        refine Ya rfl rfl rfl ?_
        refine Yif rfl rfl rfl rfl rfl rfl rfl (fun c9 => ?_) (fun c9 => ?_)
        · rw [if_pos c9] at h
          refine Vlc (v := 0) rfl (by decide) rfl ?_
          exact ih.2.2 _ _ _ _ _ _ _ _ _ h lv trivial
        · rw [if_neg c9] at h
          refine Vlc (v := 1) rfl (by decide) rfl ?_
          refine Ygo rfl rfl rfl rfl rfl rfl ?_
          exact ih.2.2 _ _ _ _ _ _ _ _ _ h lv trivial
      rw [if_neg c10] at h
      by_cases c11 : v7 = 0
      · rw [if_pos c11] at h
        refine Vts c11 rfl rfl rfl rfl rfl rfl rfl ?_
        refine Vln rfl lk2 rfl ?_
        refine Vl rfl lk4 rfl ?_
        refine Ya rfl rfl rfl ?_
        cases h
        exact Yret rfl rfl rfl rfl rfl rfl rfl ⟨rfl, rfl⟩
      rw [if_neg c11] at h
      by_cases c12 : v7 = 1
      · rw [if_pos c12] at h
        refine Vts c12 rfl rfl rfl rfl rfl rfl rfl ?_
        refine Vln rfl lk2 rfl ?_
        refine Vl rfl lk4 rfl ?_
        refine Ya rfl rfl rfl ?_
        cases h
        exact Yret rfl rfl rfl rfl rfl rfl rfl ⟨rfl, rfl⟩
      rw [if_neg c12] at h
      by_cases c13 : v7 = 2
      · rw [if_pos c13] at h
        refine Vts c13 rfl rfl rfl rfl rfl rfl rfl ?_
        refine Vln rfl lk2 rfl ?_
        refine Vl rfl lk4 rfl ?_
        refine Ya rfl rfl rfl ?_
        cases h
        exact Yret rfl rfl rfl rfl rfl rfl rfl ⟨rfl, rfl⟩
      rw [if_neg c13] at h
      by_cases c22 : v7 = 3
      · rw [if_pos c22] at h
        refine Vts c22 rfl rfl rfl rfl rfl rfl rfl ?_
        refine Van rfl lk0 rfl rfl ?_
        refine Vin rfl lk1 rfl ?_
        refine Vln rfl lk2 rfl ?_
        refine Vl rfl lk4 rfl ?_
        have hz := y_bind h
        clear h
        obtain ⟨b18, h19, h⟩ := hz
        obtain ⟨eh19, fh19, wh19⟩ := y_rcv_ok h19
        cases eh19
        have hz := y_bind h
        clear h
        obtain ⟨⟨s14, r15⟩, h16, h⟩ := hz
        try dsimp only at h
        refine Vcv rfl rfl rfl wh19 rfl rfl ⟨(Nat.le_of_ble_eq_true rfl), (Nat.le_of_ble_eq_true rfl)⟩ rfl ((c_67 o n) _ _ _ _ _ _ _ _ h16 _ rfl rfl rfl rfl) (fun z1 z2 zq => ?_)
        obtain ⟨rfl, rfl⟩ := zq
        try dsimp only [Option.toList, HAppend.hAppend, Append.append, List.append]
        cases h
        exact Yret rfl rfl rfl rfl rfl rfl rfl ⟨rfl, rfl⟩
      rw [if_neg c22] at h
      by_cases c24 : v7 = 4
      · rw [if_pos c24] at h
        refine Vts c24 rfl rfl rfl rfl rfl rfl rfl ?_
        refine Vln rfl lk2 rfl ?_
        refine Vl rfl lk4 rfl ?_
        refine Ya rfl rfl rfl ?_
        refine Yif rfl rfl rfl rfl rfl rfl rfl (fun c23 => ?_) (fun c23 => ?_)
        · rw [if_pos c23] at h
          refine Vlc (v := 0) rfl (by decide) rfl ?_
          exact ih.2.1 _ _ _ _ _ _ _ _ _ h lv trivial
        · rw [if_neg c23] at h
          refine Vlc (v := 1) rfl (by decide) rfl ?_
          refine Ygo rfl rfl rfl rfl rfl rfl ?_
          exact ih.2.1 _ _ _ _ _ _ _ _ _ h lv trivial
      rw [if_neg c24] at h
      by_cases c26 : v7 = 5
      · rw [if_pos c26] at h
        refine Vts c26 rfl rfl rfl rfl rfl rfl rfl ?_
        refine Vln rfl lk2 rfl ?_
        refine Vl rfl lk4 rfl ?_
        refine Ya rfl rfl rfl ?_
        refine Yif rfl rfl rfl rfl rfl rfl rfl (fun c25 => ?_) (fun c25 => ?_)
        · rw [if_pos c25] at h
          refine Vlc (v := 0) rfl (by decide) rfl ?_
          exact ih.2.2 _ _ _ _ _ _ _ _ _ h lv trivial
        · rw [if_neg c25] at h
          refine Vlc (v := 1) rfl (by decide) rfl ?_
          refine Ygo rfl rfl rfl rfl rfl rfl ?_
          exact ih.2.2 _ _ _ _ _ _ _ _ _ h lv trivial
      rw [if_neg c26] at h
      cases h
    · intro d s r0 i1 l2 l4 tl0 s9 r h lv _
      simp only [g_66] at h
      cases h
      exact Yret rfl rfl rfl rfl rfl rfl rfl ⟨rfl, rfl⟩
    · intro d s r0 i1 l2 l4 tl0 s9 r h lv _
      simp only [g_66] at h
      cases h
      exact Yret rfl rfl rfl rfl rfl rfl rfl ⟨rfl, rfl⟩

