/-- StepRowsLaw.law -/
def g_152 (o : X_O) : Nat → Nat → Q_S → Value → Value → Value → Value → Int → Option (Q_S × Int)
  | 0, _, _, _, _, _, _, _ => none
  | n + 1, 0, s, a0, a1, a2, a3, i4 => (q_no s 0).bind fun s1 => (g_0 o n 0 s1 (s.1)).bind fun q6 => (q_no q6.1 7).bind fun s9 => (g_91 o n 0 s9 (q6.1.1)).bind fun q14 => (q_na q14.1 .long 1).bind fun s17 => g_152 o n 1 s17 (a0) ((.ref s.1)) ((.ref q6.1.1)) ((.ref q14.1.1)) (0)
  | n + 1, 1, s, a0, a1, a2, a3, i4 => (q_ln o s a0).bind fun v1 => (q_g (q_in i4 ∧ q_in (v1 - 5))).bind fun _ => if (v1 - 5) < i4 then some (s, 1) else (q_ia o s a0 i4).bind fun v6 => (q_g (q_in (v6 % 16))).bind fun _ => if (v6 % 16) < 0 ∨ 15 < (v6 % 16) then g_152 o n 3 s (a0) (a1) (a2) (a3) (i4) else if (v6 % 16) = 0 then (q_ia o s a0 (i4 + 1)).bind fun v11 => (q_ia o s a0 (i4 + 2)).bind fun v13 => (q_g (q_in v13)).bind fun _ => (q_ia o s a0 (i4 + 3)).bind fun v17 => (q_g (q_in v17)).bind fun _ => (q_rcv s 0 a1).bind fun b25 => (g_1 o n 0 s b25 (v11) (((q_shl (Int64.ofInt v13)) ||| ((Int64.ofInt v17) &&& 4294967295)))).bind fun q24 => (q_ia o q24.1 a0 (i4 + 1)).bind fun v29 => (q_ia o q24.1 a0 (i4 + 2)).bind fun v31 => (q_g (q_in v31)).bind fun _ => (q_ia o q24.1 a0 (i4 + 3)).bind fun v35 => (q_g (q_in v35)).bind fun _ => (q_rcv q24.1 7 a2).bind fun b43 => (g_93 o n 0 q24.1 b43 (v29) (((q_shl (Int64.ofInt v31)) ||| ((Int64.ofInt v35) &&& 4294967295)))).bind fun q42 => (q_g (q_in q24.2 ∧ q_in q42.2)).bind fun _ => if q24.2 = q42.2 then g_152 o n 3 q42.1 (a0) (a1) (a2) (a3) (i4) else some (q42.1, 0) else if (v6 % 16) = 1 then (q_ia o s a0 (i4 + 1)).bind fun v51 => (q_ia o s a0 (i4 + 2)).bind fun v53 => (q_ia o s a0 (i4 + 3)).bind fun v55 => (q_ia o s a0 (i4 + 4)).bind fun v57 => (q_rcv s 0 a1).bind fun b63 => (g_2 o n 0 s b63 (v51) (v53) (v55) (v57)).bind fun q62 => (q_ia o q62.1 a0 (i4 + 1)).bind fun v67 => (q_ia o q62.1 a0 (i4 + 2)).bind fun v69 => (q_ia o q62.1 a0 (i4 + 3)).bind fun v71 => (q_ia o q62.1 a0 (i4 + 4)).bind fun v73 => (q_rcv q62.1 7 a2).bind fun b79 => (g_95 o n 0 q62.1 b79 (v67) (v69) (v71) (v73) .null 0).bind fun q78 => (q_g (q_in q62.2 ∧ q_in q78.2)).bind fun _ => if q62.2 = q78.2 then g_152 o n 3 q78.1 (a0) (a1) (a2) (a3) (i4) else some (q78.1, 0) else if (v6 % 16) = 2 then (q_ia o s a0 (i4 + 1)).bind fun v87 => (q_rcv s 0 a1).bind fun b93 => (g_3 o n 0 s b93 (v87)).bind fun q92 => (q_ia o q92.1 a0 (i4 + 1)).bind fun v97 => (q_rcv q92.1 7 a2).bind fun b103 => (g_99 o n 0 q92.1 b103 (v97) 0).bind fun q102 => (q_g (q_in q92.2 ∧ q_in q102.2)).bind fun _ => if q92.2 = q102.2 then g_152 o n 3 q102.1 (a0) (a1) (a2) (a3) (i4) else some (q102.1, 0) else if (v6 % 16) = 3 then (q_ia o s a0 (i4 + 1)).bind fun v111 => (q_ia o s a0 (i4 + 2)).bind fun v113 => (q_g (q_in v113)).bind fun _ => (q_ia o s a0 (i4 + 3)).bind fun v117 => (q_g (q_in v117)).bind fun _ => (q_rcv s 0 a1).bind fun b125 => (g_5 o n 0 s b125 (v111) (((q_shl (Int64.ofInt v113)) ||| ((Int64.ofInt v117) &&& 4294967295)))).bind fun q124 => (q_ia o q124.1 a0 (i4 + 1)).bind fun v129 => (q_ia o q124.1 a0 (i4 + 2)).bind fun v131 => (q_g (q_in v131)).bind fun _ => (q_ia o q124.1 a0 (i4 + 3)).bind fun v135 => (q_g (q_in v135)).bind fun _ => (q_rcv q124.1 7 a2).bind fun b143 => (g_105 o n 0 q124.1 b143 (v129) (((q_shl (Int64.ofInt v131)) ||| ((Int64.ofInt v135) &&& 4294967295)))).bind fun q142 => (q_g (q_in q124.2 ∧ q_in q142.2)).bind fun _ => if q124.2 = q142.2 then g_152 o n 3 q142.1 (a0) (a1) (a2) (a3) (i4) else some (q142.1, 0) else if (v6 % 16) = 4 then (q_ia o s a0 (i4 + 1)).bind fun v151 => (q_rcv s 0 a1).bind fun b157 => (g_6 o n 0 s b157 (v151)).bind fun q156 => (q_ia o q156.1 a0 (i4 + 1)).bind fun v161 => (q_rcv q156.1 7 a2).bind fun b167 => (g_106 o n 0 q156.1 b167 (v161) 0).bind fun q166 => (q_g (q_in q156.2 ∧ q_in q166.2)).bind fun _ => if q156.2 = q166.2 then g_152 o n 3 q166.1 (a0) (a1) (a2) (a3) (i4) else some (q166.1, 0) else if (v6 % 16) = 5 then (q_ia o s a0 (i4 + 1)).bind fun v175 => (q_rcv s 0 a1).bind fun b181 => (g_8 o n 0 s b181 (v175) 0).bind fun q180 => (q_ia o q180.1 a0 (i4 + 1)).bind fun v185 => (q_rcv q180.1 7 a2).bind fun b191 => (g_108 o n 0 q180.1 b191 (v185) 0).bind fun q190 => (q_g (q_in q180.2 ∧ q_in q190.2)).bind fun _ => if q180.2 = q190.2 then g_152 o n 3 q190.1 (a0) (a1) (a2) (a3) (i4) else some (q190.1, 0) else if (v6 % 16) = 6 then (q_ia o s a0 (i4 + 1)).bind fun v199 => (q_rcv s 0 a1).bind fun b205 => (g_9 o n 0 s b205 (v199) 0).bind fun q204 => (q_ia o q204.1 a0 (i4 + 1)).bind fun v209 => (q_rcv q204.1 7 a2).bind fun b215 => (g_135 o n 0 q204.1 b215 (v209) 0).bind fun q214 => if q204.2 = q214.2 then g_152 o n 3 q214.1 (a0) (a1) (a2) (a3) (i4) else some (q214.1, 0) else if (v6 % 16) = 7 then (q_ia o s a0 (i4 + 1)).bind fun v221 => (q_rcv s 0 a1).bind fun b227 => (g_10 o n 0 s b227 (v221)).bind fun q226 => (q_ia o q226.1 a0 (i4 + 1)).bind fun v231 => (q_rcv q226.1 7 a2).bind fun b237 => (g_137 o n 0 q226.1 b237 (v231) 0).bind fun q236 => (q_g (q_in q226.2 ∧ q_in q236.2)).bind fun _ => if q226.2 = q236.2 then g_152 o n 3 q236.1 (a0) (a1) (a2) (a3) (i4) else some (q236.1, 0) else if (v6 % 16) = 8 then (q_ia o s a0 (i4 + 1)).bind fun v245 => (q_ia o s a0 (i4 + 2)).bind fun v247 => (q_rcv s 0 a1).bind fun b253 => (g_11 o n 0 s b253 (v245) (v247)).bind fun q252 => (q_ia o q252.1 a0 (i4 + 1)).bind fun v257 => (q_ia o q252.1 a0 (i4 + 2)).bind fun v259 => (q_rcv q252.1 7 a2).bind fun b265 => (g_139 o n 0 q252.1 b265 (v257) (v259) 0).bind fun q264 => (q_g (q_in q252.2 ∧ q_in q264.2)).bind fun _ => if q252.2 = q264.2 then g_152 o n 3 q264.1 (a0) (a1) (a2) (a3) (i4) else some (q264.1, 0) else if (v6 % 16) = 9 then (q_rcv s 0 a1).bind fun b277 => (g_12 o n 0 s b277).bind fun q276 => (q_rcv q276.1 7 a2).bind fun b285 => (g_143 o n 0 q276.1 b285).bind fun q284 => (q_g (q_in q276.2 ∧ q_in q284.2)).bind fun _ => if q276.2 = q284.2 then g_152 o n 3 q284.1 (a0) (a1) (a2) (a3) (i4) else some (q284.1, 0) else if (v6 % 16) = 10 then (q_ia o s a0 (i4 + 1)).bind fun v293 => (q_rcv s 0 a1).bind fun b299 => (g_13 o n 0 s b299 (v293)).bind fun q298 => (q_ia o q298.1 a0 (i4 + 1)).bind fun v303 => (q_rcv q298.1 7 a2).bind fun b309 => (g_147 o n 0 q298.1 b309 (v303)).bind fun q308 => (q_g (q_in q298.2 ∧ q_in q308.2)).bind fun _ => if q298.2 = q308.2 then g_152 o n 3 q308.1 (a0) (a1) (a2) (a3) (i4) else some (q308.1, 0) else if (v6 % 16) = 11 then (q_ia o s a0 (i4 + 1)).bind fun v317 => (q_rcv s 0 a1).bind fun b323 => (g_14 o n 0 s b323 (v317)).bind fun q322 => (q_ia o q322.1 a0 (i4 + 1)).bind fun v327 => (q_rcv q322.1 7 a2).bind fun b333 => (g_140 o n 0 q322.1 b333 (v327)).bind fun q332 => (q_g (q_in q322.2 ∧ q_in q332.2)).bind fun _ => if q322.2 = q332.2 then g_152 o n 3 q332.1 (a0) (a1) (a2) (a3) (i4) else some (q332.1, 0) else if (v6 % 16) = 12 then (q_ia o s a0 (i4 + 1)).bind fun v341 => (q_rcv s 0 a1).bind fun b347 => (g_15 o n 0 s b347 (v341) 0).bind fun q346 => (q_ia o q346.1 a0 (i4 + 1)).bind fun v351 => (q_rcv q346.1 7 a2).bind fun b357 => (g_136 o n 0 q346.1 b357 (v351) 0).bind fun q356 => if q346.2 = q356.2 then g_152 o n 3 q356.1 (a0) (a1) (a2) (a3) (i4) else some (q356.1, 0) else if (v6 % 16) = 13 then (q_ia o s a0 (i4 + 1)).bind fun v363 => (q_ia o s a0 (i4 + 2)).bind fun v365 => (q_rcv s 0 a1).bind fun b371 => (g_16 o n 0 s b371 (v363) (v365) 0).bind fun q370 => (q_ia o q370.1 a0 (i4 + 1)).bind fun v375 => (q_ia o q370.1 a0 (i4 + 2)).bind fun v377 => (q_rcv q370.1 7 a2).bind fun b383 => (g_102 o n 0 q370.1 b383 (v375) (v377) 0).bind fun q382 => (q_g (q_in q370.2 ∧ q_in q382.2)).bind fun _ => if q370.2 = q382.2 then g_152 o n 3 q382.1 (a0) (a1) (a2) (a3) (i4) else some (q382.1, 0) else if (v6 % 16) = 14 then (q_ia o s a0 (i4 + 1)).bind fun v391 => (q_tb o s a3 v391 a1).bind fun q396 => (q_ia o q396.1 a0 (i4 + 1)).bind fun v397 => (q_rcv q396.1 7 a2).bind fun b403 => (g_141 o n 0 q396.1 b403 (v397) .null 0 0).bind fun q402 => (q_rcv q402.1 7 a2).bind fun b411 => (g_92 o n 0 q402.1 b411).bind fun q410 => (q_g (q_in q410.2 ∧ q_in q396.2)).bind fun _ => if q410.2 = q396.2 then (q_g (q_in q396.2)).bind fun _ => if ¬ q396.2 = 0 then g_152 o n 2 q410.1 (a0) (a1) (a2) (a3) (i4) else (q_la q410.1 a3 0).bind fun v421 => (q_g (q_in q402.2)).bind fun _ => if v421 = (Int64.ofInt q402.2) then g_152 o n 2 q410.1 (a0) (a1) (a2) (a3) (i4) else some (q410.1, 0) else some (q410.1, 0) else if (v6 % 16) = 15 then (q_ia o s a0 (i4 + 1)).bind fun v427 => (q_rcv s 0 a1).bind fun b433 => (g_17 o n 0 s b433 (v427) 0).bind fun q432 => (q_ia o q432.1 a0 (i4 + 1)).bind fun v437 => (q_rcv q432.1 7 a2).bind fun b443 => (g_142 o n 0 q432.1 b443 (v437) 0 0 0).bind fun q442 => (q_g (q_in q432.2 ∧ q_in q442.2)).bind fun _ => if q432.2 = q442.2 then g_152 o n 3 q442.1 (a0) (a1) (a2) (a3) (i4) else some (q442.1, 0) else none
  | n + 1, 2, s, a0, a1, a2, a3, i4 => g_152 o n 3 s (a0) (a1) (a2) (a3) (i4)
  | n + 1, 3, s, a0, a1, a2, a3, i4 => g_152 o n 1 s (a0) (a1) (a2) (a3) ((i4 + 5))
  | _ + 1, _, _, _, _, _, _, _ => none
set_option maxRecDepth 100000 in
set_option maxHeartbeats 4000000 in
theorem c_152 (o : X_O) : ∀ n, (∀ (d : Nat) (hd : 577 ≤ d) (s : Q_S) (a0 : Value) (a1 : Value) (a2 : Value) (a3 : Value) (i4 : Int) (s9 : Q_S) (r : Int), g_152 o n 0 s a0 a1 a2 a3 i4 = some (s9, r) → ∀ lv : X_L, x_lget lv 0 = some a0 → y_rv a0 = true → Y o d 152 0 lv [] (q_y s) (fun s1 r1 => s1 = q_y s9 ∧ r1 = some (.int (Int32.ofInt r)))) ∧
    (∀ (d : Nat) (hd : 577 ≤ d) (s : Q_S) (a0 : Value) (a1 : Value) (a2 : Value) (a3 : Value) (i4 : Int) (s9 : Q_S) (r : Int), g_152 o n 1 s a0 a1 a2 a3 i4 = some (s9, r) → ∀ lv : X_L, x_lget lv 0 = some a0 → x_lget lv 1 = some a1 → x_lget lv 2 = some a2 → x_lget lv 3 = some a3 → x_lget lv 4 = some (.int (Int32.ofInt i4)) → y_rv a0 = true → y_rv a1 = true → y_rv a2 = true → y_rv a3 = true → Y o d 152 23 lv [] (q_y s) (fun s1 r1 => s1 = q_y s9 ∧ r1 = some (.int (Int32.ofInt r)))) ∧
    (∀ (d : Nat) (hd : 577 ≤ d) (s : Q_S) (a0 : Value) (a1 : Value) (a2 : Value) (a3 : Value) (i4 : Int) (s9 : Q_S) (r : Int), g_152 o n 2 s a0 a1 a2 a3 i4 = some (s9, r) → ∀ lv : X_L, x_lget lv 0 = some a0 → x_lget lv 1 = some a1 → x_lget lv 2 = some a2 → x_lget lv 3 = some a3 → x_lget lv 4 = some (.int (Int32.ofInt i4)) → y_rv a0 = true → y_rv a1 = true → y_rv a2 = true → y_rv a3 = true → Y o d 152 657 lv [] (q_y s) (fun s1 r1 => s1 = q_y s9 ∧ r1 = some (.int (Int32.ofInt r)))) ∧
    (∀ (d : Nat) (hd : 577 ≤ d) (s : Q_S) (a0 : Value) (a1 : Value) (a2 : Value) (a3 : Value) (i4 : Int) (s9 : Q_S) (r : Int), g_152 o n 3 s a0 a1 a2 a3 i4 = some (s9, r) → ∀ lv : X_L, x_lget lv 0 = some a0 → x_lget lv 1 = some a1 → x_lget lv 2 = some a2 → x_lget lv 3 = some a3 → x_lget lv 4 = some (.int (Int32.ofInt i4)) → y_rv a0 = true → y_rv a1 = true → y_rv a2 = true → y_rv a3 = true → Y o d 152 685 lv [] (q_y s) (fun s1 r1 => s1 = q_y s9 ∧ r1 = some (.int (Int32.ofInt r)))) := by
  intro n
  induction n with
  | zero => exact ⟨fun d hd s _ _ _ _ _ s9 r h => (by simp only [g_152] at h; cases h), fun d hd s _ _ _ _ _ s9 r h => (by simp only [g_152] at h; cases h), fun d hd s _ _ _ _ _ s9 r h => (by simp only [g_152] at h; cases h), fun d hd s _ _ _ _ _ s9 r h => (by simp only [g_152] at h; cases h)⟩
  | succ n ih =>
    refine ⟨?_, ?_, ?_, ?_⟩
    · intro d hd s a0 a1 a2 a3 i4 s9 r h lv lk0 rv0
      obtain ⟨d, rfl⟩ : ∃ x, d = x + 1 := ⟨d - 1, by omega⟩
      simp only [g_152] at h
      have hz := y_bind h
      clear h
      obtain ⟨s1, h2, h⟩ := hz
      refine Zno (q_no_y h2) rfl rfl (by decide +kernel) rfl ?_
      refine Vdup rfl rfl rfl ?_
      have hz := y_bind h
      clear h
      obtain ⟨⟨s3, r4⟩, h5, h⟩ := hz
      try dsimp only at h
      refine Vci rfl rfl (Or.inl rfl) rfl rfl ⟨(Nat.le_of_ble_eq_true rfl), (Nat.le_of_ble_eq_true rfl)⟩ rfl ((c_0 o n) _ (by omega) _ _ _ _ h5 _ rfl) (fun z1 z2 zq => ?_)
      obtain ⟨rfl, rfl⟩ := zq
      try dsimp only [Option.toList, HAppend.hAppend, Append.append, List.append]
      refine Vsan rfl rfl rfl (fun lv lk1 hk => ?_)
      have lk0 := hk 0 _ lk0 (by decide) (by decide) (Or.inr (y_rv_cat rv0))
      have hz := y_bind h
      clear h
      obtain ⟨s9, h10, h⟩ := hz
      refine Zno (q_no_y h10) rfl rfl (by decide +kernel) rfl ?_
      refine Vdup rfl rfl rfl ?_
      have hz := y_bind h
      clear h
      obtain ⟨⟨s11, r12⟩, h13, h⟩ := hz
      try dsimp only at h
      refine Vci rfl rfl (Or.inl rfl) rfl rfl ⟨(Nat.le_of_ble_eq_true rfl), (Nat.le_of_ble_eq_true rfl)⟩ rfl ((c_91 o n) _ (by omega) _ _ _ _ h13 _ rfl) (fun z1 z2 zq => ?_)
      obtain ⟨rfl, rfl⟩ := zq
      try dsimp only [Option.toList, HAppend.hAppend, Append.append, List.append]
      refine Vsan rfl rfl rfl (fun lv lk2 hk => ?_)
      have lk0 := hk 0 _ lk0 (by decide) (by decide) (Or.inl (by decide))
      have lk1 := hk 1 _ lk1 (by decide) (by decide) (Or.inr (y_rv_cat rfl))
      refine Vic (v := Int32.ofInt 1) rfl rfl rfl ?_
      have hz := y_bind h
      clear h
      obtain ⟨s17, h18, h⟩ := hz
      refine Zna (q_na_y h18) rfl rfl rfl ?_
      refine Vsan rfl rfl rfl (fun lv lk3 hk => ?_)
      have lk0 := hk 0 _ lk0 (by decide) (by decide) (Or.inl (by decide))
      have lk1 := hk 1 _ lk1 (by decide) (by decide) (Or.inl (by decide))
      have lk2 := hk 2 _ lk2 (by decide) (by decide) (Or.inr (y_rv_cat rfl))
      refine Vic (v := Int32.ofInt 0) rfl rfl rfl ?_
      refine Vsi rfl rfl (fun lv lk4 hk => ?_)
      have lk0 := hk 0 _ lk0 (by decide) (by decide) (Or.inl (by decide))
      have lk1 := hk 1 _ lk1 (by decide) (by decide) (Or.inl (by decide))
      have lk2 := hk 2 _ lk2 (by decide) (by decide) (Or.inl (by decide))
      have lk3 := hk 3 _ lk3 (by decide) (by decide) (Or.inr (y_rv_cat rfl))
      exact ih.2.1 _ hd _ _ _ _ _ _ _ _ h lv lk0 lk1 lk2 lk3 lk4 rv0 rfl rfl rfl
    · intro d hd s a0 a1 a2 a3 i4 s9 r h lv lk0 lk1 lk2 lk3 lk4 rv0 rv1 rv2 rv3
      obtain ⟨d, rfl⟩ : ∃ x, d = x + 1 := ⟨d - 1, by omega⟩
      simp only [g_152] at h
      refine Vi rfl lk4 rfl ?_
      refine Van rfl lk0 rv0 rfl ?_
      have hz := y_bind h
      clear h
      obtain ⟨v1, h2, h⟩ := hz
      refine Zln (q_ln_y h2) rfl rfl ?_
      refine Vic (v := Int32.ofInt 5) rfl rfl rfl ?_
      refine Usub rfl rfl ?_
      have hz := y_bind h
      clear h
      obtain ⟨_, h4, h⟩ := hz
      have c3 := q_g_ok h4
      refine Uif (q_lt c3.2 c3.1) rfl rfl rfl rfl rfl rfl rfl (fun c5 => ?_) (fun c5 => ?_)
      · rw [if_pos c5] at h
        refine Vic (v := Int32.ofInt 1) rfl rfl rfl ?_
        cases h
        exact Yret rfl rfl rfl rfl rfl rfl rfl ⟨rfl, rfl⟩
      · rw [if_neg c5] at h
        refine Van rfl lk0 rv0 rfl ?_
        refine Vi rfl lk4 rfl ?_
        have hz := y_bind h
        clear h
        obtain ⟨v6, h7, h⟩ := hz
        refine Zia (q_ia_y h7) rfl rfl ?_
        refine Vbp (v := Int32.ofInt 15) rfl (by decide) rfl ?_
        refine Uand rfl rfl ?_
        have hz := y_bind h
        clear h
        obtain ⟨_, h9, h⟩ := hz
        have c8 := q_g_ok h9
        by_cases c10 : (v6 % 16) < 0 ∨ 15 < (v6 % 16)
        · rw [if_pos c10] at h
          refine Ysw rfl rfl rfl rfl rfl (if_pos (by rw [q_ti c8]; exact c10)) rfl ?_
          exact ih.2.2.2 _ hd _ _ _ _ _ _ _ _ h lv lk0 lk1 lk2 lk3 lk4 rv0 rv1 rv2 rv3
        rw [if_neg c10] at h
        by_cases c50 : (v6 % 16) = 0
        · rw [if_pos c50] at h
          refine Vts (k := 0) (congrArg Int32.ofInt c50) rfl rfl rfl rfl rfl rfl rfl ?_
          refine Van rfl lk1 rv1 rfl ?_
          refine Van rfl lk0 rv0 rfl ?_
          refine Vi rfl lk4 rfl ?_
          refine Vic (v := Int32.ofInt 1) rfl rfl rfl ?_
          refine Uadd rfl rfl ?_
          have hz := y_bind h
          clear h
          obtain ⟨v11, h12, h⟩ := hz
          refine Zia (q_ia_y h12) rfl rfl ?_
          refine Van rfl lk0 rv0 rfl ?_
          refine Vi rfl lk4 rfl ?_
          refine Vic (v := Int32.ofInt 2) rfl rfl rfl ?_
          refine Uadd rfl rfl ?_
          have hz := y_bind h
          clear h
          obtain ⟨v13, h14, h⟩ := hz
          refine Zia (q_ia_y h14) rfl rfl ?_
          have hz := y_bind h
          clear h
          obtain ⟨_, h16, h⟩ := hz
          have c15 := q_g_ok h16
          refine Ui2l c15 rfl rfl ?_
          refine Vbp (v := Int32.ofInt 32) rfl (by decide) rfl ?_
          refine Ya rfl rfl rfl ?_
          refine Van rfl lk0 rv0 rfl ?_
          refine Vi rfl lk4 rfl ?_
          refine Vic (v := Int32.ofInt 3) rfl rfl rfl ?_
          refine Uadd rfl rfl ?_
          have hz := y_bind h
          clear h
          obtain ⟨v17, h18, h⟩ := hz
          refine Zia (q_ia_y h18) rfl rfl ?_
          have hz := y_bind h
          clear h
          obtain ⟨_, h20, h⟩ := hz
          have c19 := q_g_ok h20
          refine Ui2l c19 rfl rfl ?_
          refine Yk (v := .long 4294967295) rfl rfl rfl rfl rfl ?_
          refine Ya rfl rfl rfl ?_
          refine Ya rfl rfl rfl ?_
          have hz := y_bind h
          clear h
          obtain ⟨b25, h26, h⟩ := hz
          obtain ⟨eh26, fh26, wh26⟩ := y_rcv_ok h26
          cases eh26
          have hz := y_bind h
          clear h
          obtain ⟨⟨s21, r22⟩, h23, h⟩ := hz
          try dsimp only at h
          refine Vcv rfl rfl rfl wh26 rfl rfl ⟨(Nat.le_of_ble_eq_true rfl), (Nat.le_of_ble_eq_true rfl)⟩ rfl ((c_1 o n) _ (by omega) _ _ _ _ _ _ h23 _ rfl rfl rfl) (fun z1 z2 zq => ?_)
          obtain ⟨rfl, rfl⟩ := zq
          try dsimp only [Option.toList, HAppend.hAppend, Append.append, List.append]
          refine Van rfl lk2 rv2 rfl ?_
          refine Van rfl lk0 rv0 rfl ?_
          refine Vi rfl lk4 rfl ?_
          refine Vic (v := Int32.ofInt 1) rfl rfl rfl ?_
          refine Uadd rfl rfl ?_
          have hz := y_bind h
          clear h
          obtain ⟨v29, h30, h⟩ := hz
          refine Zia (q_ia_y h30) rfl rfl ?_
          refine Van rfl lk0 rv0 rfl ?_
          refine Vi rfl lk4 rfl ?_
          refine Vic (v := Int32.ofInt 2) rfl rfl rfl ?_
          refine Uadd rfl rfl ?_
          have hz := y_bind h
          clear h
          obtain ⟨v31, h32, h⟩ := hz
          refine Zia (q_ia_y h32) rfl rfl ?_
          have hz := y_bind h
          clear h
          obtain ⟨_, h34, h⟩ := hz
          have c33 := q_g_ok h34
          refine Ui2l c33 rfl rfl ?_
          refine Vbp (v := Int32.ofInt 32) rfl (by decide) rfl ?_
          refine Ya rfl rfl rfl ?_
          refine Van rfl lk0 rv0 rfl ?_
          refine Vi rfl lk4 rfl ?_
          refine Vic (v := Int32.ofInt 3) rfl rfl rfl ?_
          refine Uadd rfl rfl ?_
          have hz := y_bind h
          clear h
          obtain ⟨v35, h36, h⟩ := hz
          refine Zia (q_ia_y h36) rfl rfl ?_
          have hz := y_bind h
          clear h
          obtain ⟨_, h38, h⟩ := hz
          have c37 := q_g_ok h38
          refine Ui2l c37 rfl rfl ?_
          refine Yk (v := .long 4294967295) rfl rfl rfl rfl rfl ?_
          refine Ya rfl rfl rfl ?_
          refine Ya rfl rfl rfl ?_
          have hz := y_bind h
          clear h
          obtain ⟨b43, h44, h⟩ := hz
          obtain ⟨eh44, fh44, wh44⟩ := y_rcv_ok h44
          cases eh44
          have hz := y_bind h
          clear h
          obtain ⟨⟨s39, r40⟩, h41, h⟩ := hz
          try dsimp only at h
          refine Vcv rfl rfl rfl wh44 rfl rfl ⟨(Nat.le_of_ble_eq_true rfl), (Nat.le_of_ble_eq_true rfl)⟩ rfl ((c_93 o n).1 _ (by omega) _ _ _ _ _ _ h41 _ rfl rfl rfl) (fun z1 z2 zq => ?_)
          obtain ⟨rfl, rfl⟩ := zq
          try dsimp only [Option.toList, HAppend.hAppend, Append.append, List.append]
          have hz := y_bind h
          clear h
          obtain ⟨_, h48, h⟩ := hz
          have c47 := q_g_ok h48
          refine Uif (q_eq c47.1 c47.2) rfl rfl rfl rfl rfl rfl rfl (fun c49 => ?_) (fun c49 => ?_)
          · rw [if_pos c49] at h
            exact ih.2.2.2 _ hd _ _ _ _ _ _ _ _ h lv lk0 lk1 lk2 lk3 lk4 rv0 rv1 rv2 rv3
          · rw [if_neg c49] at h
            refine Vic (v := Int32.ofInt 0) rfl rfl rfl ?_
            cases h
            exact Yret rfl rfl rfl rfl rfl rfl rfl ⟨rfl, rfl⟩
        rw [if_neg c50] at h
        by_cases c86 : (v6 % 16) = 1
        · rw [if_pos c86] at h
          refine Vts (k := 1) (congrArg Int32.ofInt c86) rfl rfl rfl rfl rfl rfl rfl ?_
          refine Van rfl lk1 rv1 rfl ?_
          refine Van rfl lk0 rv0 rfl ?_
          refine Vi rfl lk4 rfl ?_
          refine Vic (v := Int32.ofInt 1) rfl rfl rfl ?_
          refine Uadd rfl rfl ?_
          have hz := y_bind h
          clear h
          obtain ⟨v51, h52, h⟩ := hz
          refine Zia (q_ia_y h52) rfl rfl ?_
          refine Van rfl lk0 rv0 rfl ?_
          refine Vi rfl lk4 rfl ?_
          refine Vic (v := Int32.ofInt 2) rfl rfl rfl ?_
          refine Uadd rfl rfl ?_
          have hz := y_bind h
          clear h
          obtain ⟨v53, h54, h⟩ := hz
          refine Zia (q_ia_y h54) rfl rfl ?_
          refine Van rfl lk0 rv0 rfl ?_
          refine Vi rfl lk4 rfl ?_
          refine Vic (v := Int32.ofInt 3) rfl rfl rfl ?_
          refine Uadd rfl rfl ?_
          have hz := y_bind h
          clear h
          obtain ⟨v55, h56, h⟩ := hz
          refine Zia (q_ia_y h56) rfl rfl ?_
          refine Van rfl lk0 rv0 rfl ?_
          refine Vi rfl lk4 rfl ?_
          refine Vic (v := Int32.ofInt 4) rfl rfl rfl ?_
          refine Uadd rfl rfl ?_
          have hz := y_bind h
          clear h
          obtain ⟨v57, h58, h⟩ := hz
          refine Zia (q_ia_y h58) rfl rfl ?_
          have hz := y_bind h
          clear h
          obtain ⟨b63, h64, h⟩ := hz
          obtain ⟨eh64, fh64, wh64⟩ := y_rcv_ok h64
          cases eh64
          have hz := y_bind h
          clear h
          obtain ⟨⟨s59, r60⟩, h61, h⟩ := hz
          try dsimp only at h
          refine Vcv rfl rfl rfl wh64 rfl rfl ⟨(Nat.le_of_ble_eq_true rfl), (Nat.le_of_ble_eq_true rfl)⟩ rfl ((c_2 o n) _ (by omega) _ _ _ _ _ _ _ _ h61 _ rfl rfl rfl rfl rfl) (fun z1 z2 zq => ?_)
          obtain ⟨rfl, rfl⟩ := zq
          try dsimp only [Option.toList, HAppend.hAppend, Append.append, List.append]
          refine Van rfl lk2 rv2 rfl ?_
          refine Van rfl lk0 rv0 rfl ?_
          refine Vi rfl lk4 rfl ?_
          refine Vic (v := Int32.ofInt 1) rfl rfl rfl ?_
          refine Uadd rfl rfl ?_
          have hz := y_bind h
          clear h
          obtain ⟨v67, h68, h⟩ := hz
          refine Zia (q_ia_y h68) rfl rfl ?_
          refine Van rfl lk0 rv0 rfl ?_
          refine Vi rfl lk4 rfl ?_
          refine Vic (v := Int32.ofInt 2) rfl rfl rfl ?_
          refine Uadd rfl rfl ?_
          have hz := y_bind h
          clear h
          obtain ⟨v69, h70, h⟩ := hz
          refine Zia (q_ia_y h70) rfl rfl ?_
          refine Van rfl lk0 rv0 rfl ?_
          refine Vi rfl lk4 rfl ?_
          refine Vic (v := Int32.ofInt 3) rfl rfl rfl ?_
          refine Uadd rfl rfl ?_
          have hz := y_bind h
          clear h
          obtain ⟨v71, h72, h⟩ := hz
          refine Zia (q_ia_y h72) rfl rfl ?_
          refine Van rfl lk0 rv0 rfl ?_
          refine Vi rfl lk4 rfl ?_
          refine Vic (v := Int32.ofInt 4) rfl rfl rfl ?_
          refine Uadd rfl rfl ?_
          have hz := y_bind h
          clear h
          obtain ⟨v73, h74, h⟩ := hz
          refine Zia (q_ia_y h74) rfl rfl ?_
          have hz := y_bind h
          clear h
          obtain ⟨b79, h80, h⟩ := hz
          obtain ⟨eh80, fh80, wh80⟩ := y_rcv_ok h80
          cases eh80
          have hz := y_bind h
          clear h
          obtain ⟨⟨s75, r76⟩, h77, h⟩ := hz
          try dsimp only at h
          refine Vcv rfl rfl rfl wh80 rfl rfl ⟨(Nat.le_of_ble_eq_true rfl), (Nat.le_of_ble_eq_true rfl)⟩ rfl ((c_95 o n).1 _ (by omega) _ _ _ _ _ _ _ _ _ _ h77 _ rfl rfl rfl rfl rfl) (fun z1 z2 zq => ?_)
          obtain ⟨rfl, rfl⟩ := zq
          try dsimp only [Option.toList, HAppend.hAppend, Append.append, List.append]
          have hz := y_bind h
          clear h
          obtain ⟨_, h84, h⟩ := hz
          have c83 := q_g_ok h84
          refine Uif (q_eq c83.1 c83.2) rfl rfl rfl rfl rfl rfl rfl (fun c85 => ?_) (fun c85 => ?_)
          · rw [if_pos c85] at h
            exact ih.2.2.2 _ hd _ _ _ _ _ _ _ _ h lv lk0 lk1 lk2 lk3 lk4 rv0 rv1 rv2 rv3
          · rw [if_neg c85] at h
            refine Vic (v := Int32.ofInt 0) rfl rfl rfl ?_
            cases h
            exact Yret rfl rfl rfl rfl rfl rfl rfl ⟨rfl, rfl⟩
        rw [if_neg c86] at h
        by_cases c110 : (v6 % 16) = 2
        · rw [if_pos c110] at h
          refine Vts (k := 2) (congrArg Int32.ofInt c110) rfl rfl rfl rfl rfl rfl rfl ?_
          refine Van rfl lk1 rv1 rfl ?_
          refine Van rfl lk0 rv0 rfl ?_
          refine Vi rfl lk4 rfl ?_
          refine Vic (v := Int32.ofInt 1) rfl rfl rfl ?_
          refine Uadd rfl rfl ?_
          have hz := y_bind h
          clear h
          obtain ⟨v87, h88, h⟩ := hz
          refine Zia (q_ia_y h88) rfl rfl ?_
          have hz := y_bind h
          clear h
          obtain ⟨b93, h94, h⟩ := hz
          obtain ⟨eh94, fh94, wh94⟩ := y_rcv_ok h94
          cases eh94
          have hz := y_bind h
          clear h
          obtain ⟨⟨s89, r90⟩, h91, h⟩ := hz
          try dsimp only at h
          refine Vcv rfl rfl rfl wh94 rfl rfl ⟨(Nat.le_of_ble_eq_true rfl), (Nat.le_of_ble_eq_true rfl)⟩ rfl ((c_3 o n).1 _ (by omega) _ _ _ _ _ h91 _ rfl rfl) (fun z1 z2 zq => ?_)
          obtain ⟨rfl, rfl⟩ := zq
          try dsimp only [Option.toList, HAppend.hAppend, Append.append, List.append]
          refine Van rfl lk2 rv2 rfl ?_
          refine Van rfl lk0 rv0 rfl ?_
          refine Vi rfl lk4 rfl ?_
          refine Vic (v := Int32.ofInt 1) rfl rfl rfl ?_
          refine Uadd rfl rfl ?_
          have hz := y_bind h
          clear h
          obtain ⟨v97, h98, h⟩ := hz
          refine Zia (q_ia_y h98) rfl rfl ?_
          have hz := y_bind h
          clear h
          obtain ⟨b103, h104, h⟩ := hz
          obtain ⟨eh104, fh104, wh104⟩ := y_rcv_ok h104
          cases eh104
          have hz := y_bind h
          clear h
          obtain ⟨⟨s99, r100⟩, h101, h⟩ := hz
          try dsimp only at h
          refine Vcv rfl rfl rfl wh104 rfl rfl ⟨(Nat.le_of_ble_eq_true rfl), (Nat.le_of_ble_eq_true rfl)⟩ rfl ((c_99 o n).1 _ (by omega) _ _ _ _ _ _ h101 _ rfl rfl) (fun z1 z2 zq => ?_)
          obtain ⟨rfl, rfl⟩ := zq
          try dsimp only [Option.toList, HAppend.hAppend, Append.append, List.append]
          have hz := y_bind h
          clear h
          obtain ⟨_, h108, h⟩ := hz
          have c107 := q_g_ok h108
          refine Uif (q_eq c107.1 c107.2) rfl rfl rfl rfl rfl rfl rfl (fun c109 => ?_) (fun c109 => ?_)
          · rw [if_pos c109] at h
            exact ih.2.2.2 _ hd _ _ _ _ _ _ _ _ h lv lk0 lk1 lk2 lk3 lk4 rv0 rv1 rv2 rv3
          · rw [if_neg c109] at h
            refine Vic (v := Int32.ofInt 0) rfl rfl rfl ?_
            cases h
            exact Yret rfl rfl rfl rfl rfl rfl rfl ⟨rfl, rfl⟩
        rw [if_neg c110] at h
        by_cases c150 : (v6 % 16) = 3
        · rw [if_pos c150] at h
          refine Vts (k := 3) (congrArg Int32.ofInt c150) rfl rfl rfl rfl rfl rfl rfl ?_
          refine Van rfl lk1 rv1 rfl ?_
          refine Van rfl lk0 rv0 rfl ?_
          refine Vi rfl lk4 rfl ?_
          refine Vic (v := Int32.ofInt 1) rfl rfl rfl ?_
          refine Uadd rfl rfl ?_
          have hz := y_bind h
          clear h
          obtain ⟨v111, h112, h⟩ := hz
          refine Zia (q_ia_y h112) rfl rfl ?_
          refine Van rfl lk0 rv0 rfl ?_
          refine Vi rfl lk4 rfl ?_
          refine Vic (v := Int32.ofInt 2) rfl rfl rfl ?_
          refine Uadd rfl rfl ?_
          have hz := y_bind h
          clear h
          obtain ⟨v113, h114, h⟩ := hz
          refine Zia (q_ia_y h114) rfl rfl ?_
          have hz := y_bind h
          clear h
          obtain ⟨_, h116, h⟩ := hz
          have c115 := q_g_ok h116
          refine Ui2l c115 rfl rfl ?_
          refine Vbp (v := Int32.ofInt 32) rfl (by decide) rfl ?_
          refine Ya rfl rfl rfl ?_
          refine Van rfl lk0 rv0 rfl ?_
          refine Vi rfl lk4 rfl ?_
          refine Vic (v := Int32.ofInt 3) rfl rfl rfl ?_
          refine Uadd rfl rfl ?_
          have hz := y_bind h
          clear h
          obtain ⟨v117, h118, h⟩ := hz
          refine Zia (q_ia_y h118) rfl rfl ?_
          have hz := y_bind h
          clear h
          obtain ⟨_, h120, h⟩ := hz
          have c119 := q_g_ok h120
          refine Ui2l c119 rfl rfl ?_
          refine Yk (v := .long 4294967295) rfl rfl rfl rfl rfl ?_
          refine Ya rfl rfl rfl ?_
          refine Ya rfl rfl rfl ?_
          have hz := y_bind h
          clear h
          obtain ⟨b125, h126, h⟩ := hz
          obtain ⟨eh126, fh126, wh126⟩ := y_rcv_ok h126
          cases eh126
          have hz := y_bind h
          clear h
          obtain ⟨⟨s121, r122⟩, h123, h⟩ := hz
          try dsimp only at h
          refine Vcv rfl rfl rfl wh126 rfl rfl ⟨(Nat.le_of_ble_eq_true rfl), (Nat.le_of_ble_eq_true rfl)⟩ rfl ((c_5 o n).1 _ (by omega) _ _ _ _ _ _ h123 _ rfl rfl rfl) (fun z1 z2 zq => ?_)
          obtain ⟨rfl, rfl⟩ := zq
          try dsimp only [Option.toList, HAppend.hAppend, Append.append, List.append]
          refine Van rfl lk2 rv2 rfl ?_
          refine Van rfl lk0 rv0 rfl ?_
          refine Vi rfl lk4 rfl ?_
          refine Vic (v := Int32.ofInt 1) rfl rfl rfl ?_
          refine Uadd rfl rfl ?_
          have hz := y_bind h
          clear h
          obtain ⟨v129, h130, h⟩ := hz
          refine Zia (q_ia_y h130) rfl rfl ?_
          refine Van rfl lk0 rv0 rfl ?_
          refine Vi rfl lk4 rfl ?_
          refine Vic (v := Int32.ofInt 2) rfl rfl rfl ?_
          refine Uadd rfl rfl ?_
          have hz := y_bind h
          clear h
          obtain ⟨v131, h132, h⟩ := hz
          refine Zia (q_ia_y h132) rfl rfl ?_
          have hz := y_bind h
          clear h
          obtain ⟨_, h134, h⟩ := hz
          have c133 := q_g_ok h134
          refine Ui2l c133 rfl rfl ?_
          refine Vbp (v := Int32.ofInt 32) rfl (by decide) rfl ?_
          refine Ya rfl rfl rfl ?_
          refine Van rfl lk0 rv0 rfl ?_
          refine Vi rfl lk4 rfl ?_
          refine Vic (v := Int32.ofInt 3) rfl rfl rfl ?_
          refine Uadd rfl rfl ?_
          have hz := y_bind h
          clear h
          obtain ⟨v135, h136, h⟩ := hz
          refine Zia (q_ia_y h136) rfl rfl ?_
          have hz := y_bind h
          clear h
          obtain ⟨_, h138, h⟩ := hz
          have c137 := q_g_ok h138
          refine Ui2l c137 rfl rfl ?_
          refine Yk (v := .long 4294967295) rfl rfl rfl rfl rfl ?_
          refine Ya rfl rfl rfl ?_
          refine Ya rfl rfl rfl ?_
          have hz := y_bind h
          clear h
          obtain ⟨b143, h144, h⟩ := hz
          obtain ⟨eh144, fh144, wh144⟩ := y_rcv_ok h144
          cases eh144
          have hz := y_bind h
          clear h
          obtain ⟨⟨s139, r140⟩, h141, h⟩ := hz
          try dsimp only at h
          refine Vcv rfl rfl rfl wh144 rfl rfl ⟨(Nat.le_of_ble_eq_true rfl), (Nat.le_of_ble_eq_true rfl)⟩ rfl ((c_105 o n).1 _ (by omega) _ _ _ _ _ _ h141 _ rfl rfl rfl) (fun z1 z2 zq => ?_)
          obtain ⟨rfl, rfl⟩ := zq
          try dsimp only [Option.toList, HAppend.hAppend, Append.append, List.append]
          have hz := y_bind h
          clear h
          obtain ⟨_, h148, h⟩ := hz
          have c147 := q_g_ok h148
          refine Uif (q_eq c147.1 c147.2) rfl rfl rfl rfl rfl rfl rfl (fun c149 => ?_) (fun c149 => ?_)
          · rw [if_pos c149] at h
            exact ih.2.2.2 _ hd _ _ _ _ _ _ _ _ h lv lk0 lk1 lk2 lk3 lk4 rv0 rv1 rv2 rv3
          · rw [if_neg c149] at h
            refine Vic (v := Int32.ofInt 0) rfl rfl rfl ?_
            cases h
            exact Yret rfl rfl rfl rfl rfl rfl rfl ⟨rfl, rfl⟩
        rw [if_neg c150] at h
        by_cases c174 : (v6 % 16) = 4
        · rw [if_pos c174] at h
          refine Vts (k := 4) (congrArg Int32.ofInt c174) rfl rfl rfl rfl rfl rfl rfl ?_
          refine Van rfl lk1 rv1 rfl ?_
          refine Van rfl lk0 rv0 rfl ?_
          refine Vi rfl lk4 rfl ?_
          refine Vic (v := Int32.ofInt 1) rfl rfl rfl ?_
          refine Uadd rfl rfl ?_
          have hz := y_bind h
          clear h
          obtain ⟨v151, h152, h⟩ := hz
          refine Zia (q_ia_y h152) rfl rfl ?_
          have hz := y_bind h
          clear h
          obtain ⟨b157, h158, h⟩ := hz
          obtain ⟨eh158, fh158, wh158⟩ := y_rcv_ok h158
          cases eh158
          have hz := y_bind h
          clear h
          obtain ⟨⟨s153, r154⟩, h155, h⟩ := hz
          try dsimp only at h
          refine Vcv rfl rfl rfl wh158 rfl rfl ⟨(Nat.le_of_ble_eq_true rfl), (Nat.le_of_ble_eq_true rfl)⟩ rfl ((c_6 o n) _ (by omega) _ _ _ _ _ h155 _ rfl rfl) (fun z1 z2 zq => ?_)
          obtain ⟨rfl, rfl⟩ := zq
          try dsimp only [Option.toList, HAppend.hAppend, Append.append, List.append]
          refine Van rfl lk2 rv2 rfl ?_
          refine Van rfl lk0 rv0 rfl ?_
          refine Vi rfl lk4 rfl ?_
          refine Vic (v := Int32.ofInt 1) rfl rfl rfl ?_
          refine Uadd rfl rfl ?_
          have hz := y_bind h
          clear h
          obtain ⟨v161, h162, h⟩ := hz
          refine Zia (q_ia_y h162) rfl rfl ?_
          have hz := y_bind h
          clear h
          obtain ⟨b167, h168, h⟩ := hz
          obtain ⟨eh168, fh168, wh168⟩ := y_rcv_ok h168
          cases eh168
          have hz := y_bind h
          clear h
          obtain ⟨⟨s163, r164⟩, h165, h⟩ := hz
          try dsimp only at h
          refine Vcv rfl rfl rfl wh168 rfl rfl ⟨(Nat.le_of_ble_eq_true rfl), (Nat.le_of_ble_eq_true rfl)⟩ rfl ((c_106 o n).1 _ (by omega) _ _ _ _ _ _ h165 _ rfl rfl) (fun z1 z2 zq => ?_)
          obtain ⟨rfl, rfl⟩ := zq
          try dsimp only [Option.toList, HAppend.hAppend, Append.append, List.append]
          have hz := y_bind h
          clear h
          obtain ⟨_, h172, h⟩ := hz
          have c171 := q_g_ok h172
          refine Uif (q_eq c171.1 c171.2) rfl rfl rfl rfl rfl rfl rfl (fun c173 => ?_) (fun c173 => ?_)
          · rw [if_pos c173] at h
            exact ih.2.2.2 _ hd _ _ _ _ _ _ _ _ h lv lk0 lk1 lk2 lk3 lk4 rv0 rv1 rv2 rv3
          · rw [if_neg c173] at h
            refine Vic (v := Int32.ofInt 0) rfl rfl rfl ?_
            cases h
            exact Yret rfl rfl rfl rfl rfl rfl rfl ⟨rfl, rfl⟩
        rw [if_neg c174] at h
        by_cases c198 : (v6 % 16) = 5
        · rw [if_pos c198] at h
          refine Vts (k := 5) (congrArg Int32.ofInt c198) rfl rfl rfl rfl rfl rfl rfl ?_
          refine Van rfl lk1 rv1 rfl ?_
          refine Van rfl lk0 rv0 rfl ?_
          refine Vi rfl lk4 rfl ?_
          refine Vic (v := Int32.ofInt 1) rfl rfl rfl ?_
          refine Uadd rfl rfl ?_
          have hz := y_bind h
          clear h
          obtain ⟨v175, h176, h⟩ := hz
          refine Zia (q_ia_y h176) rfl rfl ?_
          have hz := y_bind h
          clear h
          obtain ⟨b181, h182, h⟩ := hz
          obtain ⟨eh182, fh182, wh182⟩ := y_rcv_ok h182
          cases eh182
          have hz := y_bind h
          clear h
          obtain ⟨⟨s177, r178⟩, h179, h⟩ := hz
          try dsimp only at h
          refine Vcv rfl rfl rfl wh182 rfl rfl ⟨(Nat.le_of_ble_eq_true rfl), (Nat.le_of_ble_eq_true rfl)⟩ rfl ((c_8 o n).1 _ (by omega) _ _ _ _ _ _ h179 _ rfl rfl) (fun z1 z2 zq => ?_)
          obtain ⟨rfl, rfl⟩ := zq
          try dsimp only [Option.toList, HAppend.hAppend, Append.append, List.append]
          refine Van rfl lk2 rv2 rfl ?_
          refine Van rfl lk0 rv0 rfl ?_
          refine Vi rfl lk4 rfl ?_
          refine Vic (v := Int32.ofInt 1) rfl rfl rfl ?_
          refine Uadd rfl rfl ?_
          have hz := y_bind h
          clear h
          obtain ⟨v185, h186, h⟩ := hz
          refine Zia (q_ia_y h186) rfl rfl ?_
          have hz := y_bind h
          clear h
          obtain ⟨b191, h192, h⟩ := hz
          obtain ⟨eh192, fh192, wh192⟩ := y_rcv_ok h192
          cases eh192
          have hz := y_bind h
          clear h
          obtain ⟨⟨s187, r188⟩, h189, h⟩ := hz
          try dsimp only at h
          refine Vcv rfl rfl rfl wh192 rfl rfl ⟨(Nat.le_of_ble_eq_true rfl), (Nat.le_of_ble_eq_true rfl)⟩ rfl ((c_108 o n).1 _ (by omega) _ _ _ _ _ _ h189 _ rfl rfl) (fun z1 z2 zq => ?_)
          obtain ⟨rfl, rfl⟩ := zq
          try dsimp only [Option.toList, HAppend.hAppend, Append.append, List.append]
          have hz := y_bind h
          clear h
          obtain ⟨_, h196, h⟩ := hz
          have c195 := q_g_ok h196
          refine Uif (q_eq c195.1 c195.2) rfl rfl rfl rfl rfl rfl rfl (fun c197 => ?_) (fun c197 => ?_)
          · rw [if_pos c197] at h
            exact ih.2.2.2 _ hd _ _ _ _ _ _ _ _ h lv lk0 lk1 lk2 lk3 lk4 rv0 rv1 rv2 rv3
          · rw [if_neg c197] at h
            refine Vic (v := Int32.ofInt 0) rfl rfl rfl ?_
            cases h
            exact Yret rfl rfl rfl rfl rfl rfl rfl ⟨rfl, rfl⟩
        rw [if_neg c198] at h
        by_cases c220 : (v6 % 16) = 6
        · rw [if_pos c220] at h
          refine Vts (k := 6) (congrArg Int32.ofInt c220) rfl rfl rfl rfl rfl rfl rfl ?_
          refine Van rfl lk1 rv1 rfl ?_
          refine Van rfl lk0 rv0 rfl ?_
          refine Vi rfl lk4 rfl ?_
          refine Vic (v := Int32.ofInt 1) rfl rfl rfl ?_
          refine Uadd rfl rfl ?_
          have hz := y_bind h
          clear h
          obtain ⟨v199, h200, h⟩ := hz
          refine Zia (q_ia_y h200) rfl rfl ?_
          have hz := y_bind h
          clear h
          obtain ⟨b205, h206, h⟩ := hz
          obtain ⟨eh206, fh206, wh206⟩ := y_rcv_ok h206
          cases eh206
          have hz := y_bind h
          clear h
          obtain ⟨⟨s201, r202⟩, h203, h⟩ := hz
          try dsimp only at h
          refine Vcv rfl rfl rfl wh206 rfl rfl ⟨(Nat.le_of_ble_eq_true rfl), (Nat.le_of_ble_eq_true rfl)⟩ rfl ((c_9 o n).1 _ (by omega) _ _ _ _ _ _ h203 _ rfl rfl) (fun z1 z2 zq => ?_)
          obtain ⟨rfl, rfl⟩ := zq
          try dsimp only [Option.toList, HAppend.hAppend, Append.append, List.append]
          refine Van rfl lk2 rv2 rfl ?_
          refine Van rfl lk0 rv0 rfl ?_
          refine Vi rfl lk4 rfl ?_
          refine Vic (v := Int32.ofInt 1) rfl rfl rfl ?_
          refine Uadd rfl rfl ?_
          have hz := y_bind h
          clear h
          obtain ⟨v209, h210, h⟩ := hz
          refine Zia (q_ia_y h210) rfl rfl ?_
          have hz := y_bind h
          clear h
          obtain ⟨b215, h216, h⟩ := hz
          obtain ⟨eh216, fh216, wh216⟩ := y_rcv_ok h216
          cases eh216
          have hz := y_bind h
          clear h
          obtain ⟨⟨s211, r212⟩, h213, h⟩ := hz
          try dsimp only at h
          refine Vcv rfl rfl rfl wh216 rfl rfl ⟨(Nat.le_of_ble_eq_true rfl), (Nat.le_of_ble_eq_true rfl)⟩ rfl ((c_135 o n).1 _ (by omega) _ _ _ _ _ _ h213 _ rfl rfl) (fun z1 z2 zq => ?_)
          obtain ⟨rfl, rfl⟩ := zq
          try dsimp only [Option.toList, HAppend.hAppend, Append.append, List.append]
          refine Ya rfl rfl rfl ?_
          refine Uif (lg_cmp_eq _ _) rfl rfl rfl rfl rfl rfl rfl (fun c219 => ?_) (fun c219 => ?_)
          · rw [if_pos c219] at h
            exact ih.2.2.2 _ hd _ _ _ _ _ _ _ _ h lv lk0 lk1 lk2 lk3 lk4 rv0 rv1 rv2 rv3
          · rw [if_neg c219] at h
            refine Vic (v := Int32.ofInt 0) rfl rfl rfl ?_
            cases h
            exact Yret rfl rfl rfl rfl rfl rfl rfl ⟨rfl, rfl⟩
        rw [if_neg c220] at h
        by_cases c244 : (v6 % 16) = 7
        · rw [if_pos c244] at h
          refine Vts (k := 7) (congrArg Int32.ofInt c244) rfl rfl rfl rfl rfl rfl rfl ?_
          refine Van rfl lk1 rv1 rfl ?_
          refine Van rfl lk0 rv0 rfl ?_
          refine Vi rfl lk4 rfl ?_
          refine Vic (v := Int32.ofInt 1) rfl rfl rfl ?_
          refine Uadd rfl rfl ?_
          have hz := y_bind h
          clear h
          obtain ⟨v221, h222, h⟩ := hz
          refine Zia (q_ia_y h222) rfl rfl ?_
          have hz := y_bind h
          clear h
          obtain ⟨b227, h228, h⟩ := hz
          obtain ⟨eh228, fh228, wh228⟩ := y_rcv_ok h228
          cases eh228
          have hz := y_bind h
          clear h
          obtain ⟨⟨s223, r224⟩, h225, h⟩ := hz
          try dsimp only at h
          refine Vcv rfl rfl rfl wh228 rfl rfl ⟨(Nat.le_of_ble_eq_true rfl), (Nat.le_of_ble_eq_true rfl)⟩ rfl ((c_10 o n).1 _ (by omega) _ _ _ _ _ h225 _ rfl rfl) (fun z1 z2 zq => ?_)
          obtain ⟨rfl, rfl⟩ := zq
          try dsimp only [Option.toList, HAppend.hAppend, Append.append, List.append]
          refine Van rfl lk2 rv2 rfl ?_
          refine Van rfl lk0 rv0 rfl ?_
          refine Vi rfl lk4 rfl ?_
          refine Vic (v := Int32.ofInt 1) rfl rfl rfl ?_
          refine Uadd rfl rfl ?_
          have hz := y_bind h
          clear h
          obtain ⟨v231, h232, h⟩ := hz
          refine Zia (q_ia_y h232) rfl rfl ?_
          have hz := y_bind h
          clear h
          obtain ⟨b237, h238, h⟩ := hz
          obtain ⟨eh238, fh238, wh238⟩ := y_rcv_ok h238
          cases eh238
          have hz := y_bind h
          clear h
          obtain ⟨⟨s233, r234⟩, h235, h⟩ := hz
          try dsimp only at h
          refine Vcv rfl rfl rfl wh238 rfl rfl ⟨(Nat.le_of_ble_eq_true rfl), (Nat.le_of_ble_eq_true rfl)⟩ rfl ((c_137 o n).1 _ (by omega) _ _ _ _ _ _ h235 _ rfl rfl) (fun z1 z2 zq => ?_)
          obtain ⟨rfl, rfl⟩ := zq
          try dsimp only [Option.toList, HAppend.hAppend, Append.append, List.append]
          have hz := y_bind h
          clear h
          obtain ⟨_, h242, h⟩ := hz
          have c241 := q_g_ok h242
          refine Uif (q_eq c241.1 c241.2) rfl rfl rfl rfl rfl rfl rfl (fun c243 => ?_) (fun c243 => ?_)
          · rw [if_pos c243] at h
            exact ih.2.2.2 _ hd _ _ _ _ _ _ _ _ h lv lk0 lk1 lk2 lk3 lk4 rv0 rv1 rv2 rv3
          · rw [if_neg c243] at h
            refine Vic (v := Int32.ofInt 0) rfl rfl rfl ?_
            cases h
            exact Yret rfl rfl rfl rfl rfl rfl rfl ⟨rfl, rfl⟩
        rw [if_neg c244] at h
        by_cases c272 : (v6 % 16) = 8
        · rw [if_pos c272] at h
          refine Vts (k := 8) (congrArg Int32.ofInt c272) rfl rfl rfl rfl rfl rfl rfl ?_
          refine Van rfl lk1 rv1 rfl ?_
          refine Van rfl lk0 rv0 rfl ?_
          refine Vi rfl lk4 rfl ?_
          refine Vic (v := Int32.ofInt 1) rfl rfl rfl ?_
          refine Uadd rfl rfl ?_
          have hz := y_bind h
          clear h
          obtain ⟨v245, h246, h⟩ := hz
          refine Zia (q_ia_y h246) rfl rfl ?_
          refine Van rfl lk0 rv0 rfl ?_
          refine Vi rfl lk4 rfl ?_
          refine Vic (v := Int32.ofInt 2) rfl rfl rfl ?_
          refine Uadd rfl rfl ?_
          have hz := y_bind h
          clear h
          obtain ⟨v247, h248, h⟩ := hz
          refine Zia (q_ia_y h248) rfl rfl ?_
          have hz := y_bind h
          clear h
          obtain ⟨b253, h254, h⟩ := hz
          obtain ⟨eh254, fh254, wh254⟩ := y_rcv_ok h254
          cases eh254
          have hz := y_bind h
          clear h
          obtain ⟨⟨s249, r250⟩, h251, h⟩ := hz
          try dsimp only at h
          refine Vcv rfl rfl rfl wh254 rfl rfl ⟨(Nat.le_of_ble_eq_true rfl), (Nat.le_of_ble_eq_true rfl)⟩ rfl ((c_11 o n).1 _ (by omega) _ _ _ _ _ _ h251 _ rfl rfl rfl) (fun z1 z2 zq => ?_)
          obtain ⟨rfl, rfl⟩ := zq
          try dsimp only [Option.toList, HAppend.hAppend, Append.append, List.append]
          refine Van rfl lk2 rv2 rfl ?_
          refine Van rfl lk0 rv0 rfl ?_
          refine Vi rfl lk4 rfl ?_
          refine Vic (v := Int32.ofInt 1) rfl rfl rfl ?_
          refine Uadd rfl rfl ?_
          have hz := y_bind h
          clear h
          obtain ⟨v257, h258, h⟩ := hz
          refine Zia (q_ia_y h258) rfl rfl ?_
          refine Van rfl lk0 rv0 rfl ?_
          refine Vi rfl lk4 rfl ?_
          refine Vic (v := Int32.ofInt 2) rfl rfl rfl ?_
          refine Uadd rfl rfl ?_
          have hz := y_bind h
          clear h
          obtain ⟨v259, h260, h⟩ := hz
          refine Zia (q_ia_y h260) rfl rfl ?_
          have hz := y_bind h
          clear h
          obtain ⟨b265, h266, h⟩ := hz
          obtain ⟨eh266, fh266, wh266⟩ := y_rcv_ok h266
          cases eh266
          have hz := y_bind h
          clear h
          obtain ⟨⟨s261, r262⟩, h263, h⟩ := hz
          try dsimp only at h
          refine Vcv rfl rfl rfl wh266 rfl rfl ⟨(Nat.le_of_ble_eq_true rfl), (Nat.le_of_ble_eq_true rfl)⟩ rfl ((c_139 o n).1 _ (by omega) _ _ _ _ _ _ _ h263 _ rfl rfl rfl) (fun z1 z2 zq => ?_)
          obtain ⟨rfl, rfl⟩ := zq
          try dsimp only [Option.toList, HAppend.hAppend, Append.append, List.append]
          have hz := y_bind h
          clear h
          obtain ⟨_, h270, h⟩ := hz
          have c269 := q_g_ok h270
          refine Uif (q_eq c269.1 c269.2) rfl rfl rfl rfl rfl rfl rfl (fun c271 => ?_) (fun c271 => ?_)
          · rw [if_pos c271] at h
            exact ih.2.2.2 _ hd _ _ _ _ _ _ _ _ h lv lk0 lk1 lk2 lk3 lk4 rv0 rv1 rv2 rv3
          · rw [if_neg c271] at h
            refine Vic (v := Int32.ofInt 0) rfl rfl rfl ?_
            cases h
            exact Yret rfl rfl rfl rfl rfl rfl rfl ⟨rfl, rfl⟩
        rw [if_neg c272] at h
        by_cases c292 : (v6 % 16) = 9
        · rw [if_pos c292] at h
          refine Vts (k := 9) (congrArg Int32.ofInt c292) rfl rfl rfl rfl rfl rfl rfl ?_
          refine Van rfl lk1 rv1 rfl ?_
          have hz := y_bind h
          clear h
          obtain ⟨b277, h278, h⟩ := hz
          obtain ⟨eh278, fh278, wh278⟩ := y_rcv_ok h278
          cases eh278
          have hz := y_bind h
          clear h
          obtain ⟨⟨s273, r274⟩, h275, h⟩ := hz
          try dsimp only at h
          refine Vcv rfl rfl rfl wh278 rfl rfl ⟨(Nat.le_of_ble_eq_true rfl), (Nat.le_of_ble_eq_true rfl)⟩ rfl ((c_12 o n) _ (by omega) _ _ _ _ h275 _ rfl) (fun z1 z2 zq => ?_)
          obtain ⟨rfl, rfl⟩ := zq
          try dsimp only [Option.toList, HAppend.hAppend, Append.append, List.append]
          refine Van rfl lk2 rv2 rfl ?_
          have hz := y_bind h
          clear h
          obtain ⟨b285, h286, h⟩ := hz
          obtain ⟨eh286, fh286, wh286⟩ := y_rcv_ok h286
          cases eh286
          have hz := y_bind h
          clear h
          obtain ⟨⟨s281, r282⟩, h283, h⟩ := hz
          try dsimp only at h
          refine Vcv rfl rfl rfl wh286 rfl rfl ⟨(Nat.le_of_ble_eq_true rfl), (Nat.le_of_ble_eq_true rfl)⟩ rfl ((c_143 o n) _ (by omega) _ _ _ _ h283 _ rfl) (fun z1 z2 zq => ?_)
          obtain ⟨rfl, rfl⟩ := zq
          try dsimp only [Option.toList, HAppend.hAppend, Append.append, List.append]
          have hz := y_bind h
          clear h
          obtain ⟨_, h290, h⟩ := hz
          have c289 := q_g_ok h290
          refine Uif (q_eq c289.1 c289.2) rfl rfl rfl rfl rfl rfl rfl (fun c291 => ?_) (fun c291 => ?_)
          · rw [if_pos c291] at h
            exact ih.2.2.2 _ hd _ _ _ _ _ _ _ _ h lv lk0 lk1 lk2 lk3 lk4 rv0 rv1 rv2 rv3
          · rw [if_neg c291] at h
            refine Vic (v := Int32.ofInt 0) rfl rfl rfl ?_
            cases h
            exact Yret rfl rfl rfl rfl rfl rfl rfl ⟨rfl, rfl⟩
        rw [if_neg c292] at h
        by_cases c316 : (v6 % 16) = 10
        · rw [if_pos c316] at h
          refine Vts (k := 10) (congrArg Int32.ofInt c316) rfl rfl rfl rfl rfl rfl rfl ?_
          refine Van rfl lk1 rv1 rfl ?_
          refine Van rfl lk0 rv0 rfl ?_
          refine Vi rfl lk4 rfl ?_
          refine Vic (v := Int32.ofInt 1) rfl rfl rfl ?_
          refine Uadd rfl rfl ?_
          have hz := y_bind h
          clear h
          obtain ⟨v293, h294, h⟩ := hz
          refine Zia (q_ia_y h294) rfl rfl ?_
          have hz := y_bind h
          clear h
          obtain ⟨b299, h300, h⟩ := hz
          obtain ⟨eh300, fh300, wh300⟩ := y_rcv_ok h300
          cases eh300
          have hz := y_bind h
          clear h
          obtain ⟨⟨s295, r296⟩, h297, h⟩ := hz
          try dsimp only at h
          refine Vcv rfl rfl rfl wh300 rfl rfl ⟨(Nat.le_of_ble_eq_true rfl), (Nat.le_of_ble_eq_true rfl)⟩ rfl ((c_13 o n).1 _ (by omega) _ _ _ _ _ h297 _ rfl rfl) (fun z1 z2 zq => ?_)
          obtain ⟨rfl, rfl⟩ := zq
          try dsimp only [Option.toList, HAppend.hAppend, Append.append, List.append]
          refine Van rfl lk2 rv2 rfl ?_
          refine Van rfl lk0 rv0 rfl ?_
          refine Vi rfl lk4 rfl ?_
          refine Vic (v := Int32.ofInt 1) rfl rfl rfl ?_
          refine Uadd rfl rfl ?_
          have hz := y_bind h
          clear h
          obtain ⟨v303, h304, h⟩ := hz
          refine Zia (q_ia_y h304) rfl rfl ?_
          have hz := y_bind h
          clear h
          obtain ⟨b309, h310, h⟩ := hz
          obtain ⟨eh310, fh310, wh310⟩ := y_rcv_ok h310
          cases eh310
          have hz := y_bind h
          clear h
          obtain ⟨⟨s305, r306⟩, h307, h⟩ := hz
          try dsimp only at h
          refine Vcv rfl rfl rfl wh310 rfl rfl ⟨(Nat.le_of_ble_eq_true rfl), (Nat.le_of_ble_eq_true rfl)⟩ rfl ((c_147 o n).1 _ (by omega) _ _ _ _ _ h307 _ rfl rfl) (fun z1 z2 zq => ?_)
          obtain ⟨rfl, rfl⟩ := zq
          try dsimp only [Option.toList, HAppend.hAppend, Append.append, List.append]
          have hz := y_bind h
          clear h
          obtain ⟨_, h314, h⟩ := hz
          have c313 := q_g_ok h314
          refine Uif (q_eq c313.1 c313.2) rfl rfl rfl rfl rfl rfl rfl (fun c315 => ?_) (fun c315 => ?_)
          · rw [if_pos c315] at h
            exact ih.2.2.2 _ hd _ _ _ _ _ _ _ _ h lv lk0 lk1 lk2 lk3 lk4 rv0 rv1 rv2 rv3
          · rw [if_neg c315] at h
            refine Vic (v := Int32.ofInt 0) rfl rfl rfl ?_
            cases h
            exact Yret rfl rfl rfl rfl rfl rfl rfl ⟨rfl, rfl⟩
        rw [if_neg c316] at h
        by_cases c340 : (v6 % 16) = 11
        · rw [if_pos c340] at h
          refine Vts (k := 11) (congrArg Int32.ofInt c340) rfl rfl rfl rfl rfl rfl rfl ?_
          refine Van rfl lk1 rv1 rfl ?_
          refine Van rfl lk0 rv0 rfl ?_
          refine Vi rfl lk4 rfl ?_
          refine Vic (v := Int32.ofInt 1) rfl rfl rfl ?_
          refine Uadd rfl rfl ?_
          have hz := y_bind h
          clear h
          obtain ⟨v317, h318, h⟩ := hz
          refine Zia (q_ia_y h318) rfl rfl ?_
          have hz := y_bind h
          clear h
          obtain ⟨b323, h324, h⟩ := hz
          obtain ⟨eh324, fh324, wh324⟩ := y_rcv_ok h324
          cases eh324
          have hz := y_bind h
          clear h
          obtain ⟨⟨s319, r320⟩, h321, h⟩ := hz
          try dsimp only at h
          refine Vcv rfl rfl rfl wh324 rfl rfl ⟨(Nat.le_of_ble_eq_true rfl), (Nat.le_of_ble_eq_true rfl)⟩ rfl ((c_14 o n).1 _ (by omega) _ _ _ _ _ h321 _ rfl rfl) (fun z1 z2 zq => ?_)
          obtain ⟨rfl, rfl⟩ := zq
          try dsimp only [Option.toList, HAppend.hAppend, Append.append, List.append]
          refine Van rfl lk2 rv2 rfl ?_
          refine Van rfl lk0 rv0 rfl ?_
          refine Vi rfl lk4 rfl ?_
          refine Vic (v := Int32.ofInt 1) rfl rfl rfl ?_
          refine Uadd rfl rfl ?_
          have hz := y_bind h
          clear h
          obtain ⟨v327, h328, h⟩ := hz
          refine Zia (q_ia_y h328) rfl rfl ?_
          have hz := y_bind h
          clear h
          obtain ⟨b333, h334, h⟩ := hz
          obtain ⟨eh334, fh334, wh334⟩ := y_rcv_ok h334
          cases eh334
          have hz := y_bind h
          clear h
          obtain ⟨⟨s329, r330⟩, h331, h⟩ := hz
          try dsimp only at h
          refine Vcv rfl rfl rfl wh334 rfl rfl ⟨(Nat.le_of_ble_eq_true rfl), (Nat.le_of_ble_eq_true rfl)⟩ rfl ((c_140 o n).1 _ (by omega) _ _ _ _ _ h331 _ rfl rfl) (fun z1 z2 zq => ?_)
          obtain ⟨rfl, rfl⟩ := zq
          try dsimp only [Option.toList, HAppend.hAppend, Append.append, List.append]
          have hz := y_bind h
          clear h
          obtain ⟨_, h338, h⟩ := hz
          have c337 := q_g_ok h338
          refine Uif (q_eq c337.1 c337.2) rfl rfl rfl rfl rfl rfl rfl (fun c339 => ?_) (fun c339 => ?_)
          · rw [if_pos c339] at h
            exact ih.2.2.2 _ hd _ _ _ _ _ _ _ _ h lv lk0 lk1 lk2 lk3 lk4 rv0 rv1 rv2 rv3
          · rw [if_neg c339] at h
            refine Vic (v := Int32.ofInt 0) rfl rfl rfl ?_
            cases h
            exact Yret rfl rfl rfl rfl rfl rfl rfl ⟨rfl, rfl⟩
        rw [if_neg c340] at h
        by_cases c362 : (v6 % 16) = 12
        · rw [if_pos c362] at h
          refine Vts (k := 12) (congrArg Int32.ofInt c362) rfl rfl rfl rfl rfl rfl rfl ?_
          refine Van rfl lk1 rv1 rfl ?_
          refine Van rfl lk0 rv0 rfl ?_
          refine Vi rfl lk4 rfl ?_
          refine Vic (v := Int32.ofInt 1) rfl rfl rfl ?_
          refine Uadd rfl rfl ?_
          have hz := y_bind h
          clear h
          obtain ⟨v341, h342, h⟩ := hz
          refine Zia (q_ia_y h342) rfl rfl ?_
          have hz := y_bind h
          clear h
          obtain ⟨b347, h348, h⟩ := hz
          obtain ⟨eh348, fh348, wh348⟩ := y_rcv_ok h348
          cases eh348
          have hz := y_bind h
          clear h
          obtain ⟨⟨s343, r344⟩, h345, h⟩ := hz
          try dsimp only at h
          refine Vcv rfl rfl rfl wh348 rfl rfl ⟨(Nat.le_of_ble_eq_true rfl), (Nat.le_of_ble_eq_true rfl)⟩ rfl ((c_15 o n).1 _ (by omega) _ _ _ _ _ _ h345 _ rfl rfl) (fun z1 z2 zq => ?_)
          obtain ⟨rfl, rfl⟩ := zq
          try dsimp only [Option.toList, HAppend.hAppend, Append.append, List.append]
          refine Van rfl lk2 rv2 rfl ?_
          refine Van rfl lk0 rv0 rfl ?_
          refine Vi rfl lk4 rfl ?_
          refine Vic (v := Int32.ofInt 1) rfl rfl rfl ?_
          refine Uadd rfl rfl ?_
          have hz := y_bind h
          clear h
          obtain ⟨v351, h352, h⟩ := hz
          refine Zia (q_ia_y h352) rfl rfl ?_
          have hz := y_bind h
          clear h
          obtain ⟨b357, h358, h⟩ := hz
          obtain ⟨eh358, fh358, wh358⟩ := y_rcv_ok h358
          cases eh358
          have hz := y_bind h
          clear h
          obtain ⟨⟨s353, r354⟩, h355, h⟩ := hz
          try dsimp only at h
          refine Vcv rfl rfl rfl wh358 rfl rfl ⟨(Nat.le_of_ble_eq_true rfl), (Nat.le_of_ble_eq_true rfl)⟩ rfl ((c_136 o n).1 _ (by omega) _ _ _ _ _ _ h355 _ rfl rfl) (fun z1 z2 zq => ?_)
          obtain ⟨rfl, rfl⟩ := zq
          try dsimp only [Option.toList, HAppend.hAppend, Append.append, List.append]
          refine Ya rfl rfl rfl ?_
          refine Uif (lg_cmp_eq _ _) rfl rfl rfl rfl rfl rfl rfl (fun c361 => ?_) (fun c361 => ?_)
          · rw [if_pos c361] at h
            exact ih.2.2.2 _ hd _ _ _ _ _ _ _ _ h lv lk0 lk1 lk2 lk3 lk4 rv0 rv1 rv2 rv3
          · rw [if_neg c361] at h
            refine Vic (v := Int32.ofInt 0) rfl rfl rfl ?_
            cases h
            exact Yret rfl rfl rfl rfl rfl rfl rfl ⟨rfl, rfl⟩
        rw [if_neg c362] at h
        by_cases c390 : (v6 % 16) = 13
        · rw [if_pos c390] at h
          refine Vts (k := 13) (congrArg Int32.ofInt c390) rfl rfl rfl rfl rfl rfl rfl ?_
          refine Van rfl lk1 rv1 rfl ?_
          refine Van rfl lk0 rv0 rfl ?_
          refine Vi rfl lk4 rfl ?_
          refine Vic (v := Int32.ofInt 1) rfl rfl rfl ?_
          refine Uadd rfl rfl ?_
          have hz := y_bind h
          clear h
          obtain ⟨v363, h364, h⟩ := hz
          refine Zia (q_ia_y h364) rfl rfl ?_
          refine Van rfl lk0 rv0 rfl ?_
          refine Vi rfl lk4 rfl ?_
          refine Vic (v := Int32.ofInt 2) rfl rfl rfl ?_
          refine Uadd rfl rfl ?_
          have hz := y_bind h
          clear h
          obtain ⟨v365, h366, h⟩ := hz
          refine Zia (q_ia_y h366) rfl rfl ?_
          have hz := y_bind h
          clear h
          obtain ⟨b371, h372, h⟩ := hz
          obtain ⟨eh372, fh372, wh372⟩ := y_rcv_ok h372
          cases eh372
          have hz := y_bind h
          clear h
          obtain ⟨⟨s367, r368⟩, h369, h⟩ := hz
          try dsimp only at h
          refine Vcv rfl rfl rfl wh372 rfl rfl ⟨(Nat.le_of_ble_eq_true rfl), (Nat.le_of_ble_eq_true rfl)⟩ rfl ((c_16 o n).1 _ (by omega) _ _ _ _ _ _ _ h369 _ rfl rfl rfl) (fun z1 z2 zq => ?_)
          obtain ⟨rfl, rfl⟩ := zq
          try dsimp only [Option.toList, HAppend.hAppend, Append.append, List.append]
          refine Van rfl lk2 rv2 rfl ?_
          refine Van rfl lk0 rv0 rfl ?_
          refine Vi rfl lk4 rfl ?_
          refine Vic (v := Int32.ofInt 1) rfl rfl rfl ?_
          refine Uadd rfl rfl ?_
          have hz := y_bind h
          clear h
          obtain ⟨v375, h376, h⟩ := hz
          refine Zia (q_ia_y h376) rfl rfl ?_
          refine Van rfl lk0 rv0 rfl ?_
          refine Vi rfl lk4 rfl ?_
          refine Vic (v := Int32.ofInt 2) rfl rfl rfl ?_
          refine Uadd rfl rfl ?_
          have hz := y_bind h
          clear h
          obtain ⟨v377, h378, h⟩ := hz
          refine Zia (q_ia_y h378) rfl rfl ?_
          have hz := y_bind h
          clear h
          obtain ⟨b383, h384, h⟩ := hz
          obtain ⟨eh384, fh384, wh384⟩ := y_rcv_ok h384
          cases eh384
          have hz := y_bind h
          clear h
          obtain ⟨⟨s379, r380⟩, h381, h⟩ := hz
          try dsimp only at h
          refine Vcv rfl rfl rfl wh384 rfl rfl ⟨(Nat.le_of_ble_eq_true rfl), (Nat.le_of_ble_eq_true rfl)⟩ rfl ((c_102 o n).1 _ (by omega) _ _ _ _ _ _ _ h381 _ rfl rfl rfl) (fun z1 z2 zq => ?_)
          obtain ⟨rfl, rfl⟩ := zq
          try dsimp only [Option.toList, HAppend.hAppend, Append.append, List.append]
          have hz := y_bind h
          clear h
          obtain ⟨_, h388, h⟩ := hz
          have c387 := q_g_ok h388
          refine Uif (q_eq c387.1 c387.2) rfl rfl rfl rfl rfl rfl rfl (fun c389 => ?_) (fun c389 => ?_)
          · rw [if_pos c389] at h
            exact ih.2.2.2 _ hd _ _ _ _ _ _ _ _ h lv lk0 lk1 lk2 lk3 lk4 rv0 rv1 rv2 rv3
          · rw [if_neg c389] at h
            refine Vic (v := Int32.ofInt 0) rfl rfl rfl ?_
            cases h
            exact Yret rfl rfl rfl rfl rfl rfl rfl ⟨rfl, rfl⟩
        rw [if_neg c390] at h
        by_cases c426 : (v6 % 16) = 14
        · rw [if_pos c426] at h
          refine Vts (k := 14) (congrArg Int32.ofInt c426) rfl rfl rfl rfl rfl rfl rfl ?_
          refine Van rfl lk1 rv1 rfl ?_
          refine Van rfl lk0 rv0 rfl ?_
          refine Vi rfl lk4 rfl ?_
          refine Vic (v := Int32.ofInt 1) rfl rfl rfl ?_
          refine Uadd rfl rfl ?_
          have hz := y_bind h
          clear h
          obtain ⟨v391, h392, h⟩ := hz
          refine Zia (q_ia_y h392) rfl rfl ?_
          refine Van rfl lk3 rv3 rfl ?_
          have hz := y_bind h
          clear h
          obtain ⟨⟨s393, r394⟩, h395, h⟩ := hz
          try dsimp only at h
          refine Utb h395 rfl rfl (Nat.le_of_ble_eq_true rfl) (by omega) rfl ?_
          refine Vsi rfl rfl (fun lv lk5 hk => ?_)
          have lk0 := hk 0 _ lk0 (by decide) (by decide) (Or.inl (by decide))
          have lk1 := hk 1 _ lk1 (by decide) (by decide) (Or.inl (by decide))
          have lk2 := hk 2 _ lk2 (by decide) (by decide) (Or.inl (by decide))
          have lk3 := hk 3 _ lk3 (by decide) (by decide) (Or.inl (by decide))
          have lk4 := hk 4 _ lk4 (by decide) (by decide) (Or.inr rfl)
          refine Van rfl lk2 rv2 rfl ?_
          refine Van rfl lk0 rv0 rfl ?_
          refine Vi rfl lk4 rfl ?_
          refine Vic (v := Int32.ofInt 1) rfl rfl rfl ?_
          refine Uadd rfl rfl ?_
          have hz := y_bind h
          clear h
          obtain ⟨v397, h398, h⟩ := hz
          refine Zia (q_ia_y h398) rfl rfl ?_
          have hz := y_bind h
          clear h
          obtain ⟨b403, h404, h⟩ := hz
          obtain ⟨eh404, fh404, wh404⟩ := y_rcv_ok h404
          cases eh404
          have hz := y_bind h
          clear h
          obtain ⟨⟨s399, r400⟩, h401, h⟩ := hz
          try dsimp only at h
          refine Vcv rfl rfl rfl wh404 rfl rfl ⟨(Nat.le_of_ble_eq_true rfl), (Nat.le_of_ble_eq_true rfl)⟩ rfl ((c_141 o n).1 _ (by omega) _ _ _ _ _ _ _ _ h401 _ rfl rfl) (fun z1 z2 zq => ?_)
          obtain ⟨rfl, rfl⟩ := zq
          try dsimp only [Option.toList, HAppend.hAppend, Append.append, List.append]
          refine Vsi rfl rfl (fun lv lk6 hk => ?_)
          have lk0 := hk 0 _ lk0 (by decide) (by decide) (Or.inl (by decide))
          have lk1 := hk 1 _ lk1 (by decide) (by decide) (Or.inl (by decide))
          have lk2 := hk 2 _ lk2 (by decide) (by decide) (Or.inl (by decide))
          have lk3 := hk 3 _ lk3 (by decide) (by decide) (Or.inl (by decide))
          have lk4 := hk 4 _ lk4 (by decide) (by decide) (Or.inl (by decide))
          have lk5 := hk 5 _ lk5 (by decide) (by decide) (Or.inr rfl)
          refine Van rfl lk2 rv2 rfl ?_
          have hz := y_bind h
          clear h
          obtain ⟨b411, h412, h⟩ := hz
          obtain ⟨eh412, fh412, wh412⟩ := y_rcv_ok h412
          cases eh412
          have hz := y_bind h
          clear h
          obtain ⟨⟨s407, r408⟩, h409, h⟩ := hz
          try dsimp only at h
          refine Vcv rfl rfl rfl wh412 rfl rfl ⟨(Nat.le_of_ble_eq_true rfl), (Nat.le_of_ble_eq_true rfl)⟩ rfl ((c_92 o n) _ (by omega) _ _ _ _ h409 _ rfl) (fun z1 z2 zq => ?_)
          obtain ⟨rfl, rfl⟩ := zq
          try dsimp only [Option.toList, HAppend.hAppend, Append.append, List.append]
          refine Vi rfl lk5 rfl ?_
          have hz := y_bind h
          clear h
          obtain ⟨_, h416, h⟩ := hz
          have c415 := q_g_ok h416
          refine Uif (q_eq c415.1 c415.2) rfl rfl rfl rfl rfl rfl rfl (fun c417 => ?_) (fun c417 => ?_)
          · rw [if_pos c417] at h
            refine Vi rfl lk5 rfl ?_
            have hz := y_bind h
            clear h
            obtain ⟨_, h419, h⟩ := hz
            have c418 := q_g_ok h419
            refine Uif (not_congr (q_eq0 c418)) rfl rfl rfl rfl rfl rfl rfl (fun c420 => ?_) (fun c420 => ?_)
            · rw [if_pos c420] at h
              exact ih.2.2.1 _ hd _ _ _ _ _ _ _ _ h lv lk0 lk1 lk2 lk3 lk4 rv0 rv1 rv2 rv3
            · rw [if_neg c420] at h
              refine Van rfl lk3 rv3 rfl ?_
              refine Vic (v := Int32.ofInt 0) rfl rfl rfl ?_
              have hz := y_bind h
              clear h
              obtain ⟨v421, h422, h⟩ := hz
              refine Zla (q_la_y h422) rfl rfl ?_
              refine Vi rfl lk6 rfl ?_
              have hz := y_bind h
              clear h
              obtain ⟨_, h424, h⟩ := hz
              have c423 := q_g_ok h424
              refine Ui2l c423 rfl rfl ?_
              refine Ya rfl rfl rfl ?_
              refine Uif (lg_cmp_eq _ _) rfl rfl rfl rfl rfl rfl rfl (fun c425 => ?_) (fun c425 => ?_)
              · rw [if_pos c425] at h
                exact ih.2.2.1 _ hd _ _ _ _ _ _ _ _ h lv lk0 lk1 lk2 lk3 lk4 rv0 rv1 rv2 rv3
              · rw [if_neg c425] at h
                refine Vic (v := Int32.ofInt 0) rfl rfl rfl ?_
                cases h
                exact Yret rfl rfl rfl rfl rfl rfl rfl ⟨rfl, rfl⟩
          · rw [if_neg c417] at h
            refine Vic (v := Int32.ofInt 0) rfl rfl rfl ?_
            cases h
            exact Yret rfl rfl rfl rfl rfl rfl rfl ⟨rfl, rfl⟩
        rw [if_neg c426] at h
        by_cases c450 : (v6 % 16) = 15
        · rw [if_pos c450] at h
          refine Vts (k := 15) (congrArg Int32.ofInt c450) rfl rfl rfl rfl rfl rfl rfl ?_
          refine Van rfl lk1 rv1 rfl ?_
          refine Van rfl lk0 rv0 rfl ?_
          refine Vi rfl lk4 rfl ?_
          refine Vic (v := Int32.ofInt 1) rfl rfl rfl ?_
          refine Uadd rfl rfl ?_
          have hz := y_bind h
          clear h
          obtain ⟨v427, h428, h⟩ := hz
          refine Zia (q_ia_y h428) rfl rfl ?_
          have hz := y_bind h
          clear h
          obtain ⟨b433, h434, h⟩ := hz
          obtain ⟨eh434, fh434, wh434⟩ := y_rcv_ok h434
          cases eh434
          have hz := y_bind h
          clear h
          obtain ⟨⟨s429, r430⟩, h431, h⟩ := hz
          try dsimp only at h
          refine Vcv rfl rfl rfl wh434 rfl rfl ⟨(Nat.le_of_ble_eq_true rfl), (Nat.le_of_ble_eq_true rfl)⟩ rfl ((c_17 o n).1 _ (by omega) _ _ _ _ _ _ h431 _ rfl rfl) (fun z1 z2 zq => ?_)
          obtain ⟨rfl, rfl⟩ := zq
          try dsimp only [Option.toList, HAppend.hAppend, Append.append, List.append]
          refine Van rfl lk2 rv2 rfl ?_
          refine Van rfl lk0 rv0 rfl ?_
          refine Vi rfl lk4 rfl ?_
          refine Vic (v := Int32.ofInt 1) rfl rfl rfl ?_
          refine Uadd rfl rfl ?_
          have hz := y_bind h
          clear h
          obtain ⟨v437, h438, h⟩ := hz
          refine Zia (q_ia_y h438) rfl rfl ?_
          have hz := y_bind h
          clear h
          obtain ⟨b443, h444, h⟩ := hz
          obtain ⟨eh444, fh444, wh444⟩ := y_rcv_ok h444
          cases eh444
          have hz := y_bind h
          clear h
          obtain ⟨⟨s439, r440⟩, h441, h⟩ := hz
          try dsimp only at h
          refine Vcv rfl rfl rfl wh444 rfl rfl ⟨(Nat.le_of_ble_eq_true rfl), (Nat.le_of_ble_eq_true rfl)⟩ rfl ((c_142 o n).1 _ (by omega) _ _ _ _ _ _ _ _ h441 _ rfl rfl) (fun z1 z2 zq => ?_)
          obtain ⟨rfl, rfl⟩ := zq
          try dsimp only [Option.toList, HAppend.hAppend, Append.append, List.append]
          have hz := y_bind h
          clear h
          obtain ⟨_, h448, h⟩ := hz
          have c447 := q_g_ok h448
          refine Uif (q_eq c447.1 c447.2) rfl rfl rfl rfl rfl rfl rfl (fun c449 => ?_) (fun c449 => ?_)
          · rw [if_pos c449] at h
            exact ih.2.2.2 _ hd _ _ _ _ _ _ _ _ h lv lk0 lk1 lk2 lk3 lk4 rv0 rv1 rv2 rv3
          · rw [if_neg c449] at h
            refine Vic (v := Int32.ofInt 0) rfl rfl rfl ?_
            cases h
            exact Yret rfl rfl rfl rfl rfl rfl rfl ⟨rfl, rfl⟩
        rw [if_neg c450] at h
        cases h
    · intro d hd s a0 a1 a2 a3 i4 s9 r h lv lk0 lk1 lk2 lk3 lk4 rv0 rv1 rv2 rv3
      obtain ⟨d, rfl⟩ : ∃ x, d = x + 1 := ⟨d - 1, by omega⟩
      simp only [g_152] at h
      refine Ygo rfl rfl rfl rfl rfl rfl ?_
      exact ih.2.2.2 _ hd _ _ _ _ _ _ _ _ h lv lk0 lk1 lk2 lk3 lk4 rv0 rv1 rv2 rv3
    · intro d hd s a0 a1 a2 a3 i4 s9 r h lv lk0 lk1 lk2 lk3 lk4 rv0 rv1 rv2 rv3
      obtain ⟨d, rfl⟩ : ∃ x, d = x + 1 := ⟨d - 1, by omega⟩
      simp only [g_152] at h
      refine Uinc rfl lk4 rfl (fun lv lk4 hk => ?_)
      have lk0 := hk 0 _ lk0 (by decide) (by decide) (Or.inl (by decide))
      have lk1 := hk 1 _ lk1 (by decide) (by decide) (Or.inl (by decide))
      have lk2 := hk 2 _ lk2 (by decide) (by decide) (Or.inl (by decide))
      have lk3 := hk 3 _ lk3 (by decide) (by decide) (Or.inr (y_rv_cat rv3))
      refine Ygo rfl rfl rfl rfl rfl rfl ?_
      exact ih.2.1 _ hd _ _ _ _ _ _ _ _ h lv lk0 lk1 lk2 lk3 lk4 rv0 rv1 rv2 rv3

