/-- StepRowsModel.node -/
def g_95 (o : X_O) : Nat → Nat → Q_S → Nat → Int → Int → Int → Int → Value → Int → Option (Q_S × Int)
  | 0, _, _, _, _, _, _, _, _, _ => none
  | n + 1, 0, s, r0, i1, i2, i3, i4, ta0, ti1 => (q_pi s 7 (.ref r0) 0 0).bind fun s1 => (q_g (q_in i1)).bind fun _ => if i1 < 0 ∨ 21 < i1 then some (s1, (-1)) else if i1 = 0 then (q_rcv s1 7 (.ref r0)).bind fun b10 => (g_96 o n 0 s1 b10 (i2) 0).bind fun q9 => (q_g (q_in q9.2)).bind fun _ => if q9.2 = 0 then g_95 o n 1 q9.1 0 (i1) (i2) (i3) 0 ((.ref r0)) 0 else (q_rcv q9.1 7 (.ref r0)).bind fun b21 => (g_96 o n 0 q9.1 b21 (i3) 0).bind fun q20 => (q_g (q_in q20.2)).bind fun _ => if q20.2 = 0 then g_95 o n 1 q20.1 0 (i1) (i2) (i3) 0 ((.ref r0)) 0 else g_95 o n 2 q20.1 0 (i1) (i2) (i3) 0 ((.ref r0)) (1) else if i1 = 1 then (q_rcv s1 7 (.ref r0)).bind fun b33 => (g_96 o n 0 s1 b33 (i2) 0).bind fun q32 => (q_g (q_in q32.2)).bind fun _ => if q32.2 = 0 then g_95 o n 1 q32.1 0 (i1) (i2) (i3) 0 ((.ref r0)) 0 else (q_rcv q32.1 7 (.ref r0)).bind fun b44 => (g_96 o n 0 q32.1 b44 (i3) 0).bind fun q43 => (q_g (q_in q43.2)).bind fun _ => if q43.2 = 0 then g_95 o n 1 q43.1 0 (i1) (i2) (i3) 0 ((.ref r0)) 0 else g_95 o n 2 q43.1 0 (i1) (i2) (i3) 0 ((.ref r0)) (1) else if i1 = 2 then (q_rcv s1 7 (.ref r0)).bind fun b56 => (g_96 o n 0 s1 b56 (i2) 0).bind fun q55 => (q_g (q_in q55.2)).bind fun _ => if q55.2 = 0 then g_95 o n 1 q55.1 0 (i1) (i2) (i3) 0 ((.ref r0)) 0 else (q_rcv q55.1 7 (.ref r0)).bind fun b67 => (g_96 o n 0 q55.1 b67 (i3) 0).bind fun q66 => (q_g (q_in q66.2)).bind fun _ => if q66.2 = 0 then g_95 o n 1 q66.1 0 (i1) (i2) (i3) 0 ((.ref r0)) 0 else g_95 o n 2 q66.1 0 (i1) (i2) (i3) 0 ((.ref r0)) (1) else if i1 = 3 then (q_rcv s1 7 (.ref r0)).bind fun b79 => (g_96 o n 0 s1 b79 (i2) 0).bind fun q78 => (q_g (q_in q78.2)).bind fun _ => if q78.2 = 0 then g_95 o n 1 q78.1 0 (i1) (i2) (i3) 0 ((.ref r0)) 0 else (q_rcv q78.1 7 (.ref r0)).bind fun b90 => (g_96 o n 0 q78.1 b90 (i3) 0).bind fun q89 => (q_g (q_in q89.2)).bind fun _ => if q89.2 = 0 then g_95 o n 1 q89.1 0 (i1) (i2) (i3) 0 ((.ref r0)) 0 else g_95 o n 2 q89.1 0 (i1) (i2) (i3) 0 ((.ref r0)) (1) else if i1 = 4 then (q_rcv s1 7 (.ref r0)).bind fun b102 => (g_96 o n 0 s1 b102 (i2) 0).bind fun q101 => (q_g (q_in q101.2)).bind fun _ => if q101.2 = 0 then g_95 o n 1 q101.1 0 (i1) (i2) (i3) 0 ((.ref r0)) 0 else (q_rcv q101.1 7 (.ref r0)).bind fun b113 => (g_96 o n 0 q101.1 b113 (i3) 0).bind fun q112 => (q_g (q_in q112.2)).bind fun _ => if q112.2 = 0 then g_95 o n 1 q112.1 0 (i1) (i2) (i3) 0 ((.ref r0)) 0 else g_95 o n 2 q112.1 0 (i1) (i2) (i3) 0 ((.ref r0)) (1) else if i1 = 5 then (q_rcv s1 7 (.ref r0)).bind fun b125 => (g_96 o n 0 s1 b125 (i2) 0).bind fun q124 => (q_g (q_in q124.2)).bind fun _ => if q124.2 = 0 then g_95 o n 1 q124.1 0 (i1) (i2) (i3) 0 ((.ref r0)) 0 else (q_rcv q124.1 7 (.ref r0)).bind fun b136 => (g_96 o n 0 q124.1 b136 (i3) 0).bind fun q135 => (q_g (q_in q135.2)).bind fun _ => if q135.2 = 0 then g_95 o n 1 q135.1 0 (i1) (i2) (i3) 0 ((.ref r0)) 0 else g_95 o n 2 q135.1 0 (i1) (i2) (i3) 0 ((.ref r0)) (1) else if i1 = 6 then (q_rcv s1 7 (.ref r0)).bind fun b148 => (g_96 o n 0 s1 b148 (i2) 0).bind fun q147 => (q_rcv q147.1 7 (.ref r0)).bind fun b156 => (g_97 o n 0 q147.1 b156 (q147.2) (i1) (0) (i2) ((-1)) ((-1)) 0).bind fun q155 => some (q155.1, q155.2) else if i1 = 7 then some (s1, (-1)) else if i1 = 8 then some (s1, (-1)) else if i1 = 9 then some (s1, (-1)) else if i1 = 10 then (q_g (q_in i2)).bind fun _ => if i2 < 0 then g_95 o n 3 s1 0 (i1) (i2) (i3) 0 ((.ref r0)) 0 else (q_g (q_in i2)).bind fun _ => if 8 ≤ i2 then g_95 o n 3 s1 0 (i1) (i2) (i3) 0 ((.ref r0)) 0 else (q_rcv s1 7 (.ref r0)).bind fun b174 => (g_96 o n 0 s1 b174 (i3) 0).bind fun q173 => (q_g (q_in q173.2)).bind fun _ => if q173.2 = 0 then g_95 o n 3 q173.1 0 (i1) (i2) (i3) 0 ((.ref r0)) 0 else g_95 o n 4 q173.1 0 (i1) (i2) (i3) 0 ((.ref r0)) (1) else if i1 = 11 then (q_g (q_in i2)).bind fun _ => if i2 < 0 then g_95 o n 5 s1 0 (i1) (i2) (i3) 0 ((.ref r0)) 0 else (q_g (q_in i2)).bind fun _ => if 16 ≤ i2 then g_95 o n 5 s1 0 (i1) (i2) (i3) 0 ((.ref r0)) 0 else (q_rcv s1 7 (.ref r0)).bind fun b192 => (g_96 o n 0 s1 b192 (i3) 0).bind fun q191 => (q_g (q_in q191.2)).bind fun _ => if q191.2 = 0 then g_95 o n 5 q191.1 0 (i1) (i2) (i3) 0 ((.ref r0)) 0 else g_95 o n 6 q191.1 0 (i1) (i2) (i3) 0 ((.ref r0)) (1) else if i1 = 12 then (q_rcv s1 7 (.ref r0)).bind fun b204 => (g_96 o n 0 s1 b204 (i2) 0).bind fun q203 => (q_rcv q203.1 7 (.ref r0)).bind fun b212 => (g_97 o n 0 q203.1 b212 (q203.2) (i1) (0) (i2) ((-1)) ((-1)) 0).bind fun q211 => some (q211.1, q211.2) else if i1 = 13 then (q_g (q_in i2)).bind fun _ => if i2 < 0 then g_95 o n 7 s1 0 (i1) (i2) (i3) (i4) ((.ref r0)) 0 else (q_g (q_in i2)).bind fun _ => if 8 ≤ i2 then g_95 o n 7 s1 0 (i1) (i2) (i3) (i4) ((.ref r0)) 0 else (q_rcv s1 7 (.ref r0)).bind fun b227 => (g_96 o n 0 s1 b227 (i3) 0).bind fun q226 => (q_g (q_in q226.2)).bind fun _ => if q226.2 = 0 then g_95 o n 7 q226.1 0 (i1) (i2) (i3) (i4) ((.ref r0)) 0 else (q_rcv q226.1 7 (.ref r0)).bind fun b238 => (g_96 o n 0 q226.1 b238 (i4) 0).bind fun q237 => (q_g (q_in q237.2)).bind fun _ => if q237.2 = 0 then g_95 o n 7 q237.1 0 (i1) (i2) (i3) (i4) ((.ref r0)) 0 else g_95 o n 8 q237.1 0 (i1) (i2) (i3) (i4) ((.ref r0)) (1) else if i1 = 14 then (q_rcv s1 7 (.ref r0)).bind fun b250 => (g_98 o n 0 s1 b250 (i2) 0).bind fun q249 => (q_g (q_in q249.2)).bind fun _ => if q249.2 = 0 then g_95 o n 9 q249.1 0 (i1) (i2) (i3) 0 ((.ref r0)) 0 else (q_rcv q249.1 7 (.ref r0)).bind fun b261 => (g_98 o n 0 q249.1 b261 (i3) 0).bind fun q260 => (q_g (q_in q260.2)).bind fun _ => if q260.2 = 0 then g_95 o n 9 q260.1 0 (i1) (i2) (i3) 0 ((.ref r0)) 0 else g_95 o n 10 q260.1 0 (i1) (i2) (i3) 0 ((.ref r0)) (1) else if i1 = 15 then (q_rcv s1 7 (.ref r0)).bind fun b273 => (g_96 o n 0 s1 b273 (i2) 0).bind fun q272 => (q_g (q_in q272.2)).bind fun _ => if q272.2 = 0 then g_95 o n 12 q272.1 0 (i1) (i2) (i3) (i4) ((.ref r0)) 0 else (q_rcv q272.1 7 (.ref r0)).bind fun b284 => (g_98 o n 0 q272.1 b284 (i3) 0).bind fun q283 => (q_g (q_in q283.2)).bind fun _ => if q283.2 = 0 then g_95 o n 12 q283.1 0 (i1) (i2) (i3) (i4) ((.ref r0)) 0 else (q_g (q_in i4)).bind fun _ => if i4 = (-1) then g_95 o n 11 q283.1 0 (i1) (i2) (i3) (i4) ((.ref r0)) 0 else (q_rcv q283.1 7 (.ref r0)).bind fun b298 => (g_98 o n 0 q283.1 b298 (i4) 0).bind fun q297 => (q_g (q_in q297.2)).bind fun _ => if q297.2 = 0 then g_95 o n 12 q297.1 0 (i1) (i2) (i3) (i4) ((.ref r0)) 0 else g_95 o n 11 q297.1 0 (i1) (i2) (i3) (i4) ((.ref r0)) 0 else if i1 = 16 then (q_rcv s1 7 (.ref r0)).bind fun b310 => (g_96 o n 0 s1 b310 (i2) 0).bind fun q309 => (q_g (q_in q309.2)).bind fun _ => if q309.2 = 0 then g_95 o n 14 q309.1 0 (i1) (i2) (i3) (i4) ((.ref r0)) 0 else (q_rcv q309.1 7 (.ref r0)).bind fun b321 => (g_98 o n 0 q309.1 b321 (i3) 0).bind fun q320 => (q_g (q_in q320.2)).bind fun _ => if q320.2 = 0 then g_95 o n 14 q320.1 0 (i1) (i2) (i3) (i4) ((.ref r0)) 0 else (q_rcv q320.1 7 (.ref r0)).bind fun b332 => (g_98 o n 0 q320.1 b332 (i4) 0).bind fun q331 => (q_g (q_in q331.2)).bind fun _ => if q331.2 = 0 then g_95 o n 14 q331.1 0 (i1) (i2) (i3) (i4) ((.ref r0)) 0 else g_95 o n 15 q331.1 0 (i1) (i2) (i3) (i4) ((.ref r0)) (1) else if i1 = 17 then (q_rcv s1 7 (.ref r0)).bind fun b344 => (g_96 o n 0 s1 b344 (i2) 0).bind fun q343 => (q_g (q_in q343.2)).bind fun _ => if q343.2 = 0 then g_95 o n 16 q343.1 0 (i1) (i2) (i3) 0 ((.ref r0)) 0 else (q_rcv q343.1 7 (.ref r0)).bind fun b355 => (g_98 o n 0 q343.1 b355 (i3) 0).bind fun q354 => (q_g (q_in q354.2)).bind fun _ => if q354.2 = 0 then g_95 o n 16 q354.1 0 (i1) (i2) (i3) 0 ((.ref r0)) 0 else g_95 o n 17 q354.1 0 (i1) (i2) (i3) 0 ((.ref r0)) (1) else if i1 = 18 then (q_rcv s1 7 (.ref r0)).bind fun b367 => (g_98 o n 0 s1 b367 (i2) 0).bind fun q366 => (q_g (q_in q366.2)).bind fun _ => if q366.2 = 0 then g_95 o n 9 q366.1 0 (i1) (i2) (i3) 0 ((.ref r0)) 0 else (q_rcv q366.1 7 (.ref r0)).bind fun b378 => (g_98 o n 0 q366.1 b378 (i3) 0).bind fun q377 => (q_g (q_in q377.2)).bind fun _ => if q377.2 = 0 then g_95 o n 9 q377.1 0 (i1) (i2) (i3) 0 ((.ref r0)) 0 else g_95 o n 10 q377.1 0 (i1) (i2) (i3) 0 ((.ref r0)) (1) else if i1 = 19 then (q_g (q_in i2)).bind fun _ => if i2 < 0 then g_95 o n 18 s1 0 (i1) (i2) 0 0 ((.ref r0)) 0 else (q_g (q_in i2)).bind fun _ => if 8 ≤ i2 then g_95 o n 18 s1 0 (i1) (i2) 0 0 ((.ref r0)) 0 else g_95 o n 19 s1 0 (i1) (i2) 0 0 ((.ref r0)) (1) else if i1 = 20 then (q_g (q_in i2)).bind fun _ => if i2 < 0 then g_95 o n 20 s1 0 (i1) (i2) (i3) 0 ((.ref r0)) 0 else (q_g (q_in i2)).bind fun _ => if 8 ≤ i2 then g_95 o n 20 s1 0 (i1) (i2) (i3) 0 ((.ref r0)) 0 else (q_rcv s1 7 (.ref r0)).bind fun b403 => (g_98 o n 0 s1 b403 (i3) 0).bind fun q402 => (q_g (q_in q402.2)).bind fun _ => if q402.2 = 0 then g_95 o n 20 q402.1 0 (i1) (i2) (i3) 0 ((.ref r0)) 0 else g_95 o n 21 q402.1 0 (i1) (i2) (i3) 0 ((.ref r0)) (1) else if i1 = 21 then (q_rcv s1 7 (.ref r0)).bind fun b415 => (g_98 o n 0 s1 b415 (i2) 0).bind fun q414 => (q_rcv q414.1 7 (.ref r0)).bind fun b423 => (g_97 o n 0 q414.1 b423 (q414.2) (i1) (0) (i2) ((-1)) ((-1)) 0).bind fun q422 => some (q422.1, q422.2) else none
  | n + 1, 1, s, r0, i1, i2, i3, i4, ta0, ti1 => g_95 o n 2 s 0 (i1) (i2) (i3) 0 (ta0) (0)
  | n + 1, 2, s, r0, i1, i2, i3, i4, ta0, ti1 => (q_rcv s 7 ta0).bind fun b5 => (g_97 o n 0 s b5 (ti1) (i1) (0) (i2) (i3) ((-1)) 0).bind fun q4 => some (q4.1, q4.2)
  | n + 1, 3, s, r0, i1, i2, i3, i4, ta0, ti1 => g_95 o n 4 s 0 (i1) (i2) (i3) 0 (ta0) (0)
  | n + 1, 4, s, r0, i1, i2, i3, i4, ta0, ti1 => (q_rcv s 7 ta0).bind fun b5 => (g_97 o n 0 s b5 (ti1) (i1) (i2) (i3) ((-1)) ((-1)) 0).bind fun q4 => some (q4.1, q4.2)
  | n + 1, 5, s, r0, i1, i2, i3, i4, ta0, ti1 => g_95 o n 6 s 0 (i1) (i2) (i3) 0 (ta0) (0)
  | n + 1, 6, s, r0, i1, i2, i3, i4, ta0, ti1 => (q_rcv s 7 ta0).bind fun b5 => (g_97 o n 0 s b5 (ti1) (i1) (i2) (i3) ((-1)) ((-1)) 0).bind fun q4 => some (q4.1, q4.2)
  | n + 1, 7, s, r0, i1, i2, i3, i4, ta0, ti1 => g_95 o n 8 s 0 (i1) (i2) (i3) (i4) (ta0) (0)
  | n + 1, 8, s, r0, i1, i2, i3, i4, ta0, ti1 => (q_rcv s 7 ta0).bind fun b5 => (g_97 o n 0 s b5 (ti1) (i1) (i2) (i3) (i4) ((-1)) 0).bind fun q4 => some (q4.1, q4.2)
  | n + 1, 9, s, r0, i1, i2, i3, i4, ta0, ti1 => g_95 o n 10 s 0 (i1) (i2) (i3) 0 (ta0) (0)
  | n + 1, 10, s, r0, i1, i2, i3, i4, ta0, ti1 => (q_rcv s 7 ta0).bind fun b5 => (g_97 o n 0 s b5 (ti1) (i1) (0) (i2) (i3) ((-1)) 0).bind fun q4 => some (q4.1, q4.2)
  | n + 1, 11, s, r0, i1, i2, i3, i4, ta0, ti1 => g_95 o n 13 s 0 (i1) (i2) (i3) (i4) (ta0) (1)
  | n + 1, 12, s, r0, i1, i2, i3, i4, ta0, ti1 => g_95 o n 13 s 0 (i1) (i2) (i3) (i4) (ta0) (0)
  | n + 1, 13, s, r0, i1, i2, i3, i4, ta0, ti1 => (q_rcv s 7 ta0).bind fun b5 => (g_97 o n 0 s b5 (ti1) (i1) (0) (i2) (i3) (i4) 0).bind fun q4 => some (q4.1, q4.2)
  | n + 1, 14, s, r0, i1, i2, i3, i4, ta0, ti1 => g_95 o n 15 s 0 (i1) (i2) (i3) (i4) (ta0) (0)
  | n + 1, 15, s, r0, i1, i2, i3, i4, ta0, ti1 => (q_rcv s 7 ta0).bind fun b5 => (g_97 o n 0 s b5 (ti1) (i1) (0) (i2) (i3) (i4) 0).bind fun q4 => some (q4.1, q4.2)
  | n + 1, 16, s, r0, i1, i2, i3, i4, ta0, ti1 => g_95 o n 17 s 0 (i1) (i2) (i3) 0 (ta0) (0)
  | n + 1, 17, s, r0, i1, i2, i3, i4, ta0, ti1 => (q_rcv s 7 ta0).bind fun b5 => (g_97 o n 0 s b5 (ti1) (i1) (0) (i2) (i3) ((-1)) 0).bind fun q4 => some (q4.1, q4.2)
  | n + 1, 18, s, r0, i1, i2, i3, i4, ta0, ti1 => g_95 o n 19 s 0 (i1) (i2) 0 0 (ta0) (0)
  | n + 1, 19, s, r0, i1, i2, i3, i4, ta0, ti1 => (q_rcv s 7 ta0).bind fun b5 => (g_97 o n 0 s b5 (ti1) (i1) (i2) ((-1)) ((-1)) ((-1)) 0).bind fun q4 => some (q4.1, q4.2)
  | n + 1, 20, s, r0, i1, i2, i3, i4, ta0, ti1 => g_95 o n 21 s 0 (i1) (i2) (i3) 0 (ta0) (0)
  | n + 1, 21, s, r0, i1, i2, i3, i4, ta0, ti1 => (q_rcv s 7 ta0).bind fun b5 => (g_97 o n 0 s b5 (ti1) (i1) (i2) (i3) ((-1)) ((-1)) 0).bind fun q4 => some (q4.1, q4.2)
  | _ + 1, _, _, _, _, _, _, _, _, _ => none
set_option maxRecDepth 100000 in
set_option maxHeartbeats 4000000 in
theorem c_95 (o : X_O) : ∀ n, (∀ (d : Nat) (hd : 2 ≤ d) (s : Q_S) (r0 : Nat) (i1 : Int) (i2 : Int) (i3 : Int) (i4 : Int) (ta0 : Value) (ti1 : Int) (s9 : Q_S) (r : Int), g_95 o n 0 s r0 i1 i2 i3 i4 ta0 ti1 = some (s9, r) → ∀ lv : X_L, x_lget lv 0 = some (.ref r0) → x_lget lv 1 = some (.int (Int32.ofInt i1)) → x_lget lv 2 = some (.int (Int32.ofInt i2)) → x_lget lv 3 = some (.int (Int32.ofInt i3)) → x_lget lv 4 = some (.int (Int32.ofInt i4)) → Y o d 95 0 lv [] (q_y s) (fun s1 r1 => s1 = q_y s9 ∧ r1 = some (.int (Int32.ofInt r)))) ∧
    (∀ (d : Nat) (hd : 2 ≤ d) (s : Q_S) (r0 : Nat) (i1 : Int) (i2 : Int) (i3 : Int) (i4 : Int) (ta0 : Value) (ti1 : Int) (s9 : Q_S) (r : Int), g_95 o n 1 s r0 i1 i2 i3 i4 ta0 ti1 = some (s9, r) → ∀ lv : X_L, x_lget lv 1 = some (.int (Int32.ofInt i1)) → x_lget lv 2 = some (.int (Int32.ofInt i2)) → x_lget lv 3 = some (.int (Int32.ofInt i3)) → y_rv ta0 = true → Y o d 95 129 lv [ta0] (q_y s) (fun s1 r1 => s1 = q_y s9 ∧ r1 = some (.int (Int32.ofInt r)))) ∧
    (∀ (d : Nat) (hd : 2 ≤ d) (s : Q_S) (r0 : Nat) (i1 : Int) (i2 : Int) (i3 : Int) (i4 : Int) (ta0 : Value) (ti1 : Int) (s9 : Q_S) (r : Int), g_95 o n 2 s r0 i1 i2 i3 i4 ta0 ti1 = some (s9, r) → ∀ lv : X_L, x_lget lv 1 = some (.int (Int32.ofInt i1)) → x_lget lv 2 = some (.int (Int32.ofInt i2)) → x_lget lv 3 = some (.int (Int32.ofInt i3)) → y_rv ta0 = true → Y o d 95 130 lv [.int (Int32.ofInt ti1), ta0] (q_y s) (fun s1 r1 => s1 = q_y s9 ∧ r1 = some (.int (Int32.ofInt r)))) ∧
    (∀ (d : Nat) (hd : 2 ≤ d) (s : Q_S) (r0 : Nat) (i1 : Int) (i2 : Int) (i3 : Int) (i4 : Int) (ta0 : Value) (ti1 : Int) (s9 : Q_S) (r : Int), g_95 o n 3 s r0 i1 i2 i3 i4 ta0 ti1 = some (s9, r) → ∀ lv : X_L, x_lget lv 1 = some (.int (Int32.ofInt i1)) → x_lget lv 2 = some (.int (Int32.ofInt i2)) → x_lget lv 3 = some (.int (Int32.ofInt i3)) → y_rv ta0 = true → Y o d 95 177 lv [ta0] (q_y s) (fun s1 r1 => s1 = q_y s9 ∧ r1 = some (.int (Int32.ofInt r)))) ∧
    (∀ (d : Nat) (hd : 2 ≤ d) (s : Q_S) (r0 : Nat) (i1 : Int) (i2 : Int) (i3 : Int) (i4 : Int) (ta0 : Value) (ti1 : Int) (s9 : Q_S) (r : Int), g_95 o n 4 s r0 i1 i2 i3 i4 ta0 ti1 = some (s9, r) → ∀ lv : X_L, x_lget lv 1 = some (.int (Int32.ofInt i1)) → x_lget lv 2 = some (.int (Int32.ofInt i2)) → x_lget lv 3 = some (.int (Int32.ofInt i3)) → y_rv ta0 = true → Y o d 95 178 lv [.int (Int32.ofInt ti1), ta0] (q_y s) (fun s1 r1 => s1 = q_y s9 ∧ r1 = some (.int (Int32.ofInt r)))) ∧
    (∀ (d : Nat) (hd : 2 ≤ d) (s : Q_S) (r0 : Nat) (i1 : Int) (i2 : Int) (i3 : Int) (i4 : Int) (ta0 : Value) (ti1 : Int) (s9 : Q_S) (r : Int), g_95 o n 5 s r0 i1 i2 i3 i4 ta0 ti1 = some (s9, r) → ∀ lv : X_L, x_lget lv 1 = some (.int (Int32.ofInt i1)) → x_lget lv 2 = some (.int (Int32.ofInt i2)) → x_lget lv 3 = some (.int (Int32.ofInt i3)) → y_rv ta0 = true → Y o d 95 210 lv [ta0] (q_y s) (fun s1 r1 => s1 = q_y s9 ∧ r1 = some (.int (Int32.ofInt r)))) ∧
    (∀ (d : Nat) (hd : 2 ≤ d) (s : Q_S) (r0 : Nat) (i1 : Int) (i2 : Int) (i3 : Int) (i4 : Int) (ta0 : Value) (ti1 : Int) (s9 : Q_S) (r : Int), g_95 o n 6 s r0 i1 i2 i3 i4 ta0 ti1 = some (s9, r) → ∀ lv : X_L, x_lget lv 1 = some (.int (Int32.ofInt i1)) → x_lget lv 2 = some (.int (Int32.ofInt i2)) → x_lget lv 3 = some (.int (Int32.ofInt i3)) → y_rv ta0 = true → Y o d 95 211 lv [.int (Int32.ofInt ti1), ta0] (q_y s) (fun s1 r1 => s1 = q_y s9 ∧ r1 = some (.int (Int32.ofInt r)))) ∧
    (∀ (d : Nat) (hd : 2 ≤ d) (s : Q_S) (r0 : Nat) (i1 : Int) (i2 : Int) (i3 : Int) (i4 : Int) (ta0 : Value) (ti1 : Int) (s9 : Q_S) (r : Int), g_95 o n 7 s r0 i1 i2 i3 i4 ta0 ti1 = some (s9, r) → ∀ lv : X_L, x_lget lv 1 = some (.int (Int32.ofInt i1)) → x_lget lv 2 = some (.int (Int32.ofInt i2)) → x_lget lv 3 = some (.int (Int32.ofInt i3)) → x_lget lv 4 = some (.int (Int32.ofInt i4)) → y_rv ta0 = true → Y o d 95 252 lv [ta0] (q_y s) (fun s1 r1 => s1 = q_y s9 ∧ r1 = some (.int (Int32.ofInt r)))) ∧
    (∀ (d : Nat) (hd : 2 ≤ d) (s : Q_S) (r0 : Nat) (i1 : Int) (i2 : Int) (i3 : Int) (i4 : Int) (ta0 : Value) (ti1 : Int) (s9 : Q_S) (r : Int), g_95 o n 8 s r0 i1 i2 i3 i4 ta0 ti1 = some (s9, r) → ∀ lv : X_L, x_lget lv 1 = some (.int (Int32.ofInt i1)) → x_lget lv 2 = some (.int (Int32.ofInt i2)) → x_lget lv 3 = some (.int (Int32.ofInt i3)) → x_lget lv 4 = some (.int (Int32.ofInt i4)) → y_rv ta0 = true → Y o d 95 253 lv [.int (Int32.ofInt ti1), ta0] (q_y s) (fun s1 r1 => s1 = q_y s9 ∧ r1 = some (.int (Int32.ofInt r)))) ∧
    (∀ (d : Nat) (hd : 2 ≤ d) (s : Q_S) (r0 : Nat) (i1 : Int) (i2 : Int) (i3 : Int) (i4 : Int) (ta0 : Value) (ti1 : Int) (s9 : Q_S) (r : Int), g_95 o n 9 s r0 i1 i2 i3 i4 ta0 ti1 = some (s9, r) → ∀ lv : X_L, x_lget lv 1 = some (.int (Int32.ofInt i1)) → x_lget lv 2 = some (.int (Int32.ofInt i2)) → x_lget lv 3 = some (.int (Int32.ofInt i3)) → y_rv ta0 = true → Y o d 95 284 lv [ta0] (q_y s) (fun s1 r1 => s1 = q_y s9 ∧ r1 = some (.int (Int32.ofInt r)))) ∧
    (∀ (d : Nat) (hd : 2 ≤ d) (s : Q_S) (r0 : Nat) (i1 : Int) (i2 : Int) (i3 : Int) (i4 : Int) (ta0 : Value) (ti1 : Int) (s9 : Q_S) (r : Int), g_95 o n 10 s r0 i1 i2 i3 i4 ta0 ti1 = some (s9, r) → ∀ lv : X_L, x_lget lv 1 = some (.int (Int32.ofInt i1)) → x_lget lv 2 = some (.int (Int32.ofInt i2)) → x_lget lv 3 = some (.int (Int32.ofInt i3)) → y_rv ta0 = true → Y o d 95 285 lv [.int (Int32.ofInt ti1), ta0] (q_y s) (fun s1 r1 => s1 = q_y s9 ∧ r1 = some (.int (Int32.ofInt r)))) ∧
    (∀ (d : Nat) (hd : 2 ≤ d) (s : Q_S) (r0 : Nat) (i1 : Int) (i2 : Int) (i3 : Int) (i4 : Int) (ta0 : Value) (ti1 : Int) (s9 : Q_S) (r : Int), g_95 o n 11 s r0 i1 i2 i3 i4 ta0 ti1 = some (s9, r) → ∀ lv : X_L, x_lget lv 1 = some (.int (Int32.ofInt i1)) → x_lget lv 2 = some (.int (Int32.ofInt i2)) → x_lget lv 3 = some (.int (Int32.ofInt i3)) → x_lget lv 4 = some (.int (Int32.ofInt i4)) → y_rv ta0 = true → Y o d 95 326 lv [ta0] (q_y s) (fun s1 r1 => s1 = q_y s9 ∧ r1 = some (.int (Int32.ofInt r)))) ∧
    (∀ (d : Nat) (hd : 2 ≤ d) (s : Q_S) (r0 : Nat) (i1 : Int) (i2 : Int) (i3 : Int) (i4 : Int) (ta0 : Value) (ti1 : Int) (s9 : Q_S) (r : Int), g_95 o n 12 s r0 i1 i2 i3 i4 ta0 ti1 = some (s9, r) → ∀ lv : X_L, x_lget lv 1 = some (.int (Int32.ofInt i1)) → x_lget lv 2 = some (.int (Int32.ofInt i2)) → x_lget lv 3 = some (.int (Int32.ofInt i3)) → x_lget lv 4 = some (.int (Int32.ofInt i4)) → y_rv ta0 = true → Y o d 95 330 lv [ta0] (q_y s) (fun s1 r1 => s1 = q_y s9 ∧ r1 = some (.int (Int32.ofInt r)))) ∧
    (∀ (d : Nat) (hd : 2 ≤ d) (s : Q_S) (r0 : Nat) (i1 : Int) (i2 : Int) (i3 : Int) (i4 : Int) (ta0 : Value) (ti1 : Int) (s9 : Q_S) (r : Int), g_95 o n 13 s r0 i1 i2 i3 i4 ta0 ti1 = some (s9, r) → ∀ lv : X_L, x_lget lv 1 = some (.int (Int32.ofInt i1)) → x_lget lv 2 = some (.int (Int32.ofInt i2)) → x_lget lv 3 = some (.int (Int32.ofInt i3)) → x_lget lv 4 = some (.int (Int32.ofInt i4)) → y_rv ta0 = true → Y o d 95 331 lv [.int (Int32.ofInt ti1), ta0] (q_y s) (fun s1 r1 => s1 = q_y s9 ∧ r1 = some (.int (Int32.ofInt r)))) ∧
    (∀ (d : Nat) (hd : 2 ≤ d) (s : Q_S) (r0 : Nat) (i1 : Int) (i2 : Int) (i3 : Int) (i4 : Int) (ta0 : Value) (ti1 : Int) (s9 : Q_S) (r : Int), g_95 o n 14 s r0 i1 i2 i3 i4 ta0 ti1 = some (s9, r) → ∀ lv : X_L, x_lget lv 1 = some (.int (Int32.ofInt i1)) → x_lget lv 2 = some (.int (Int32.ofInt i2)) → x_lget lv 3 = some (.int (Int32.ofInt i3)) → x_lget lv 4 = some (.int (Int32.ofInt i4)) → y_rv ta0 = true → Y o d 95 371 lv [ta0] (q_y s) (fun s1 r1 => s1 = q_y s9 ∧ r1 = some (.int (Int32.ofInt r)))) ∧
    (∀ (d : Nat) (hd : 2 ≤ d) (s : Q_S) (r0 : Nat) (i1 : Int) (i2 : Int) (i3 : Int) (i4 : Int) (ta0 : Value) (ti1 : Int) (s9 : Q_S) (r : Int), g_95 o n 15 s r0 i1 i2 i3 i4 ta0 ti1 = some (s9, r) → ∀ lv : X_L, x_lget lv 1 = some (.int (Int32.ofInt i1)) → x_lget lv 2 = some (.int (Int32.ofInt i2)) → x_lget lv 3 = some (.int (Int32.ofInt i3)) → x_lget lv 4 = some (.int (Int32.ofInt i4)) → y_rv ta0 = true → Y o d 95 372 lv [.int (Int32.ofInt ti1), ta0] (q_y s) (fun s1 r1 => s1 = q_y s9 ∧ r1 = some (.int (Int32.ofInt r)))) ∧
    (∀ (d : Nat) (hd : 2 ≤ d) (s : Q_S) (r0 : Nat) (i1 : Int) (i2 : Int) (i3 : Int) (i4 : Int) (ta0 : Value) (ti1 : Int) (s9 : Q_S) (r : Int), g_95 o n 16 s r0 i1 i2 i3 i4 ta0 ti1 = some (s9, r) → ∀ lv : X_L, x_lget lv 1 = some (.int (Int32.ofInt i1)) → x_lget lv 2 = some (.int (Int32.ofInt i2)) → x_lget lv 3 = some (.int (Int32.ofInt i3)) → y_rv ta0 = true → Y o d 95 403 lv [ta0] (q_y s) (fun s1 r1 => s1 = q_y s9 ∧ r1 = some (.int (Int32.ofInt r)))) ∧
    (∀ (d : Nat) (hd : 2 ≤ d) (s : Q_S) (r0 : Nat) (i1 : Int) (i2 : Int) (i3 : Int) (i4 : Int) (ta0 : Value) (ti1 : Int) (s9 : Q_S) (r : Int), g_95 o n 17 s r0 i1 i2 i3 i4 ta0 ti1 = some (s9, r) → ∀ lv : X_L, x_lget lv 1 = some (.int (Int32.ofInt i1)) → x_lget lv 2 = some (.int (Int32.ofInt i2)) → x_lget lv 3 = some (.int (Int32.ofInt i3)) → y_rv ta0 = true → Y o d 95 404 lv [.int (Int32.ofInt ti1), ta0] (q_y s) (fun s1 r1 => s1 = q_y s9 ∧ r1 = some (.int (Int32.ofInt r)))) ∧
    (∀ (d : Nat) (hd : 2 ≤ d) (s : Q_S) (r0 : Nat) (i1 : Int) (i2 : Int) (i3 : Int) (i4 : Int) (ta0 : Value) (ti1 : Int) (s9 : Q_S) (r : Int), g_95 o n 18 s r0 i1 i2 i3 i4 ta0 ti1 = some (s9, r) → ∀ lv : X_L, x_lget lv 1 = some (.int (Int32.ofInt i1)) → x_lget lv 2 = some (.int (Int32.ofInt i2)) → y_rv ta0 = true → Y o d 95 428 lv [ta0] (q_y s) (fun s1 r1 => s1 = q_y s9 ∧ r1 = some (.int (Int32.ofInt r)))) ∧
    (∀ (d : Nat) (hd : 2 ≤ d) (s : Q_S) (r0 : Nat) (i1 : Int) (i2 : Int) (i3 : Int) (i4 : Int) (ta0 : Value) (ti1 : Int) (s9 : Q_S) (r : Int), g_95 o n 19 s r0 i1 i2 i3 i4 ta0 ti1 = some (s9, r) → ∀ lv : X_L, x_lget lv 1 = some (.int (Int32.ofInt i1)) → x_lget lv 2 = some (.int (Int32.ofInt i2)) → y_rv ta0 = true → Y o d 95 429 lv [.int (Int32.ofInt ti1), ta0] (q_y s) (fun s1 r1 => s1 = q_y s9 ∧ r1 = some (.int (Int32.ofInt r)))) ∧
    (∀ (d : Nat) (hd : 2 ≤ d) (s : Q_S) (r0 : Nat) (i1 : Int) (i2 : Int) (i3 : Int) (i4 : Int) (ta0 : Value) (ti1 : Int) (s9 : Q_S) (r : Int), g_95 o n 20 s r0 i1 i2 i3 i4 ta0 ti1 = some (s9, r) → ∀ lv : X_L, x_lget lv 1 = some (.int (Int32.ofInt i1)) → x_lget lv 2 = some (.int (Int32.ofInt i2)) → x_lget lv 3 = some (.int (Int32.ofInt i3)) → y_rv ta0 = true → Y o d 95 461 lv [ta0] (q_y s) (fun s1 r1 => s1 = q_y s9 ∧ r1 = some (.int (Int32.ofInt r)))) ∧
    (∀ (d : Nat) (hd : 2 ≤ d) (s : Q_S) (r0 : Nat) (i1 : Int) (i2 : Int) (i3 : Int) (i4 : Int) (ta0 : Value) (ti1 : Int) (s9 : Q_S) (r : Int), g_95 o n 21 s r0 i1 i2 i3 i4 ta0 ti1 = some (s9, r) → ∀ lv : X_L, x_lget lv 1 = some (.int (Int32.ofInt i1)) → x_lget lv 2 = some (.int (Int32.ofInt i2)) → x_lget lv 3 = some (.int (Int32.ofInt i3)) → y_rv ta0 = true → Y o d 95 462 lv [.int (Int32.ofInt ti1), ta0] (q_y s) (fun s1 r1 => s1 = q_y s9 ∧ r1 = some (.int (Int32.ofInt r)))) := by
  intro n
  induction n with
  | zero => exact ⟨fun d hd s _ _ _ _ _ _ _ s9 r h => (by simp only [g_95] at h; cases h), fun d hd s _ _ _ _ _ _ _ s9 r h => (by simp only [g_95] at h; cases h), fun d hd s _ _ _ _ _ _ _ s9 r h => (by simp only [g_95] at h; cases h), fun d hd s _ _ _ _ _ _ _ s9 r h => (by simp only [g_95] at h; cases h), fun d hd s _ _ _ _ _ _ _ s9 r h => (by simp only [g_95] at h; cases h), fun d hd s _ _ _ _ _ _ _ s9 r h => (by simp only [g_95] at h; cases h), fun d hd s _ _ _ _ _ _ _ s9 r h => (by simp only [g_95] at h; cases h), fun d hd s _ _ _ _ _ _ _ s9 r h => (by simp only [g_95] at h; cases h), fun d hd s _ _ _ _ _ _ _ s9 r h => (by simp only [g_95] at h; cases h), fun d hd s _ _ _ _ _ _ _ s9 r h => (by simp only [g_95] at h; cases h), fun d hd s _ _ _ _ _ _ _ s9 r h => (by simp only [g_95] at h; cases h), fun d hd s _ _ _ _ _ _ _ s9 r h => (by simp only [g_95] at h; cases h), fun d hd s _ _ _ _ _ _ _ s9 r h => (by simp only [g_95] at h; cases h), fun d hd s _ _ _ _ _ _ _ s9 r h => (by simp only [g_95] at h; cases h), fun d hd s _ _ _ _ _ _ _ s9 r h => (by simp only [g_95] at h; cases h), fun d hd s _ _ _ _ _ _ _ s9 r h => (by simp only [g_95] at h; cases h), fun d hd s _ _ _ _ _ _ _ s9 r h => (by simp only [g_95] at h; cases h), fun d hd s _ _ _ _ _ _ _ s9 r h => (by simp only [g_95] at h; cases h), fun d hd s _ _ _ _ _ _ _ s9 r h => (by simp only [g_95] at h; cases h), fun d hd s _ _ _ _ _ _ _ s9 r h => (by simp only [g_95] at h; cases h), fun d hd s _ _ _ _ _ _ _ s9 r h => (by simp only [g_95] at h; cases h), fun d hd s _ _ _ _ _ _ _ s9 r h => (by simp only [g_95] at h; cases h)⟩
  | succ n ih =>
    refine ⟨?_, ?_, ?_, ?_, ?_, ?_, ?_, ?_, ?_, ?_, ?_, ?_, ?_, ?_, ?_, ?_, ?_, ?_, ?_, ?_, ?_, ?_⟩
    · intro d hd s r0 i1 i2 i3 i4 ta0 ti1 s9 r h lv lk0 lk1 lk2 lk3 lk4
      obtain ⟨d, rfl⟩ : ∃ x, d = x + 1 := ⟨d - 1, by omega⟩
      simp only [g_95] at h
      refine Van rfl lk0 rfl rfl ?_
      refine Vic (v := Int32.ofInt 0) rfl rfl rfl ?_
      have hz := y_bind h
      clear h
      obtain ⟨s1, h2, h⟩ := hz
      refine Zpi (q_pi_y h2) rfl rfl rfl rfl ?_
      refine Vin rfl lk1 rfl ?_
      have hz := y_bind h
      clear h
      obtain ⟨_, h4, h⟩ := hz
      have c3 := q_g_ok h4
      by_cases c5 : i1 < 0 ∨ 21 < i1
      · rw [if_pos c5] at h
        refine Ysw rfl rfl rfl rfl rfl (if_pos (by rw [q_ti c3]; exact c5)) rfl ?_
        refine Vic (v := Int32.ofInt (-1)) rfl rfl rfl ?_
        cases h
        exact Yret rfl rfl rfl rfl rfl rfl rfl ⟨rfl, rfl⟩
      rw [if_neg c5] at h
      by_cases c28 : i1 = 0
      · rw [if_pos c28] at h
        refine Vts (k := 0) (congrArg Int32.ofInt c28) rfl rfl rfl rfl rfl rfl rfl ?_
        refine Van rfl lk0 rfl rfl ?_
        refine Van rfl lk0 rfl rfl ?_
        refine Vin rfl lk2 rfl ?_
        have hz := y_bind h
        clear h
        obtain ⟨b10, h11, h⟩ := hz
        obtain ⟨eh11, fh11, wh11⟩ := y_rcv_ok h11
        cases eh11
        have hz := y_bind h
        clear h
        obtain ⟨⟨s6, r7⟩, h8, h⟩ := hz
        try dsimp only at h
        refine Vcv rfl rfl rfl wh11 rfl rfl ⟨(Nat.le_of_ble_eq_true rfl), (Nat.le_of_ble_eq_true rfl)⟩ rfl ((c_96 o n).1 _ (by omega) _ _ _ _ _ _ h8 _ rfl rfl) (fun z1 z2 zq => ?_)
        obtain ⟨rfl, rfl⟩ := zq
        try dsimp only [Option.toList, HAppend.hAppend, Append.append, List.append]
        have hz := y_bind h
        clear h
        obtain ⟨_, h15, h⟩ := hz
        have c14 := q_g_ok h15
        refine Uif (q_eq0 c14) rfl rfl rfl rfl rfl rfl rfl (fun c16 => ?_) (fun c16 => ?_)
        · rw [if_pos c16] at h
          exact ih.2.1 _ hd _ _ _ _ _ _ _ _ _ _ h lv lk1 lk2 lk3 rfl
        · rw [if_neg c16] at h
          refine Van rfl lk0 rfl rfl ?_
          refine Vin rfl lk3 rfl ?_
          have hz := y_bind h
          clear h
          obtain ⟨b21, h22, h⟩ := hz
          obtain ⟨eh22, fh22, wh22⟩ := y_rcv_ok h22
          cases eh22
          have hz := y_bind h
          clear h
          obtain ⟨⟨s17, r18⟩, h19, h⟩ := hz
          try dsimp only at h
          refine Vcv rfl rfl rfl wh22 rfl rfl ⟨(Nat.le_of_ble_eq_true rfl), (Nat.le_of_ble_eq_true rfl)⟩ rfl ((c_96 o n).1 _ (by omega) _ _ _ _ _ _ h19 _ rfl rfl) (fun z1 z2 zq => ?_)
          obtain ⟨rfl, rfl⟩ := zq
          try dsimp only [Option.toList, HAppend.hAppend, Append.append, List.append]
          have hz := y_bind h
          clear h
          obtain ⟨_, h26, h⟩ := hz
          have c25 := q_g_ok h26
          refine Uif (q_eq0 c25) rfl rfl rfl rfl rfl rfl rfl (fun c27 => ?_) (fun c27 => ?_)
          · rw [if_pos c27] at h
            exact ih.2.1 _ hd _ _ _ _ _ _ _ _ _ _ h lv lk1 lk2 lk3 rfl
          · rw [if_neg c27] at h
            refine Vic (v := Int32.ofInt 1) rfl rfl rfl ?_
            refine Ygo rfl rfl rfl rfl rfl rfl ?_
            exact ih.2.2.1 _ hd _ _ _ _ _ _ _ _ _ _ h lv lk1 lk2 lk3 rfl
      rw [if_neg c28] at h
      by_cases c51 : i1 = 1
      · rw [if_pos c51] at h
        refine Vts (k := 1) (congrArg Int32.ofInt c51) rfl rfl rfl rfl rfl rfl rfl ?_
        refine Van rfl lk0 rfl rfl ?_
        refine Van rfl lk0 rfl rfl ?_
        refine Vin rfl lk2 rfl ?_
        have hz := y_bind h
        clear h
        obtain ⟨b33, h34, h⟩ := hz
        obtain ⟨eh34, fh34, wh34⟩ := y_rcv_ok h34
        cases eh34
        have hz := y_bind h
        clear h
        obtain ⟨⟨s29, r30⟩, h31, h⟩ := hz
        try dsimp only at h
        refine Vcv rfl rfl rfl wh34 rfl rfl ⟨(Nat.le_of_ble_eq_true rfl), (Nat.le_of_ble_eq_true rfl)⟩ rfl ((c_96 o n).1 _ (by omega) _ _ _ _ _ _ h31 _ rfl rfl) (fun z1 z2 zq => ?_)
        obtain ⟨rfl, rfl⟩ := zq
        try dsimp only [Option.toList, HAppend.hAppend, Append.append, List.append]
        have hz := y_bind h
        clear h
        obtain ⟨_, h38, h⟩ := hz
        have c37 := q_g_ok h38
        refine Uif (q_eq0 c37) rfl rfl rfl rfl rfl rfl rfl (fun c39 => ?_) (fun c39 => ?_)
        · rw [if_pos c39] at h
          exact ih.2.1 _ hd _ _ _ _ _ _ _ _ _ _ h lv lk1 lk2 lk3 rfl
        · rw [if_neg c39] at h
          refine Van rfl lk0 rfl rfl ?_
          refine Vin rfl lk3 rfl ?_
          have hz := y_bind h
          clear h
          obtain ⟨b44, h45, h⟩ := hz
          obtain ⟨eh45, fh45, wh45⟩ := y_rcv_ok h45
          cases eh45
          have hz := y_bind h
          clear h
          obtain ⟨⟨s40, r41⟩, h42, h⟩ := hz
          try dsimp only at h
          refine Vcv rfl rfl rfl wh45 rfl rfl ⟨(Nat.le_of_ble_eq_true rfl), (Nat.le_of_ble_eq_true rfl)⟩ rfl ((c_96 o n).1 _ (by omega) _ _ _ _ _ _ h42 _ rfl rfl) (fun z1 z2 zq => ?_)
          obtain ⟨rfl, rfl⟩ := zq
          try dsimp only [Option.toList, HAppend.hAppend, Append.append, List.append]
          have hz := y_bind h
          clear h
          obtain ⟨_, h49, h⟩ := hz
          have c48 := q_g_ok h49
          refine Uif (q_eq0 c48) rfl rfl rfl rfl rfl rfl rfl (fun c50 => ?_) (fun c50 => ?_)
          · rw [if_pos c50] at h
            exact ih.2.1 _ hd _ _ _ _ _ _ _ _ _ _ h lv lk1 lk2 lk3 rfl
          · rw [if_neg c50] at h
            refine Vic (v := Int32.ofInt 1) rfl rfl rfl ?_
            refine Ygo rfl rfl rfl rfl rfl rfl ?_
            exact ih.2.2.1 _ hd _ _ _ _ _ _ _ _ _ _ h lv lk1 lk2 lk3 rfl
      rw [if_neg c51] at h
      by_cases c74 : i1 = 2
      · rw [if_pos c74] at h
        refine Vts (k := 2) (congrArg Int32.ofInt c74) rfl rfl rfl rfl rfl rfl rfl ?_
        refine Van rfl lk0 rfl rfl ?_
        refine Van rfl lk0 rfl rfl ?_
        refine Vin rfl lk2 rfl ?_
        have hz := y_bind h
        clear h
        obtain ⟨b56, h57, h⟩ := hz
        obtain ⟨eh57, fh57, wh57⟩ := y_rcv_ok h57
        cases eh57
        have hz := y_bind h
        clear h
        obtain ⟨⟨s52, r53⟩, h54, h⟩ := hz
        try dsimp only at h
        refine Vcv rfl rfl rfl wh57 rfl rfl ⟨(Nat.le_of_ble_eq_true rfl), (Nat.le_of_ble_eq_true rfl)⟩ rfl ((c_96 o n).1 _ (by omega) _ _ _ _ _ _ h54 _ rfl rfl) (fun z1 z2 zq => ?_)
        obtain ⟨rfl, rfl⟩ := zq
        try dsimp only [Option.toList, HAppend.hAppend, Append.append, List.append]
        have hz := y_bind h
        clear h
        obtain ⟨_, h61, h⟩ := hz
        have c60 := q_g_ok h61
        refine Uif (q_eq0 c60) rfl rfl rfl rfl rfl rfl rfl (fun c62 => ?_) (fun c62 => ?_)
        · rw [if_pos c62] at h
          exact ih.2.1 _ hd _ _ _ _ _ _ _ _ _ _ h lv lk1 lk2 lk3 rfl
        · rw [if_neg c62] at h
          refine Van rfl lk0 rfl rfl ?_
          refine Vin rfl lk3 rfl ?_
          have hz := y_bind h
          clear h
          obtain ⟨b67, h68, h⟩ := hz
          obtain ⟨eh68, fh68, wh68⟩ := y_rcv_ok h68
          cases eh68
          have hz := y_bind h
          clear h
          obtain ⟨⟨s63, r64⟩, h65, h⟩ := hz
          try dsimp only at h
          refine Vcv rfl rfl rfl wh68 rfl rfl ⟨(Nat.le_of_ble_eq_true rfl), (Nat.le_of_ble_eq_true rfl)⟩ rfl ((c_96 o n).1 _ (by omega) _ _ _ _ _ _ h65 _ rfl rfl) (fun z1 z2 zq => ?_)
          obtain ⟨rfl, rfl⟩ := zq
          try dsimp only [Option.toList, HAppend.hAppend, Append.append, List.append]
          have hz := y_bind h
          clear h
          obtain ⟨_, h72, h⟩ := hz
          have c71 := q_g_ok h72
          refine Uif (q_eq0 c71) rfl rfl rfl rfl rfl rfl rfl (fun c73 => ?_) (fun c73 => ?_)
          · rw [if_pos c73] at h
            exact ih.2.1 _ hd _ _ _ _ _ _ _ _ _ _ h lv lk1 lk2 lk3 rfl
          · rw [if_neg c73] at h
            refine Vic (v := Int32.ofInt 1) rfl rfl rfl ?_
            refine Ygo rfl rfl rfl rfl rfl rfl ?_
            exact ih.2.2.1 _ hd _ _ _ _ _ _ _ _ _ _ h lv lk1 lk2 lk3 rfl
      rw [if_neg c74] at h
      by_cases c97 : i1 = 3
      · rw [if_pos c97] at h
        refine Vts (k := 3) (congrArg Int32.ofInt c97) rfl rfl rfl rfl rfl rfl rfl ?_
        refine Van rfl lk0 rfl rfl ?_
        refine Van rfl lk0 rfl rfl ?_
        refine Vin rfl lk2 rfl ?_
        have hz := y_bind h
        clear h
        obtain ⟨b79, h80, h⟩ := hz
        obtain ⟨eh80, fh80, wh80⟩ := y_rcv_ok h80
        cases eh80
        have hz := y_bind h
        clear h
        obtain ⟨⟨s75, r76⟩, h77, h⟩ := hz
        try dsimp only at h
        refine Vcv rfl rfl rfl wh80 rfl rfl ⟨(Nat.le_of_ble_eq_true rfl), (Nat.le_of_ble_eq_true rfl)⟩ rfl ((c_96 o n).1 _ (by omega) _ _ _ _ _ _ h77 _ rfl rfl) (fun z1 z2 zq => ?_)
        obtain ⟨rfl, rfl⟩ := zq
        try dsimp only [Option.toList, HAppend.hAppend, Append.append, List.append]
        have hz := y_bind h
        clear h
        obtain ⟨_, h84, h⟩ := hz
        have c83 := q_g_ok h84
        refine Uif (q_eq0 c83) rfl rfl rfl rfl rfl rfl rfl (fun c85 => ?_) (fun c85 => ?_)
        · rw [if_pos c85] at h
          exact ih.2.1 _ hd _ _ _ _ _ _ _ _ _ _ h lv lk1 lk2 lk3 rfl
        · rw [if_neg c85] at h
          refine Van rfl lk0 rfl rfl ?_
          refine Vin rfl lk3 rfl ?_
          have hz := y_bind h
          clear h
          obtain ⟨b90, h91, h⟩ := hz
          obtain ⟨eh91, fh91, wh91⟩ := y_rcv_ok h91
          cases eh91
          have hz := y_bind h
          clear h
          obtain ⟨⟨s86, r87⟩, h88, h⟩ := hz
          try dsimp only at h
          refine Vcv rfl rfl rfl wh91 rfl rfl ⟨(Nat.le_of_ble_eq_true rfl), (Nat.le_of_ble_eq_true rfl)⟩ rfl ((c_96 o n).1 _ (by omega) _ _ _ _ _ _ h88 _ rfl rfl) (fun z1 z2 zq => ?_)
          obtain ⟨rfl, rfl⟩ := zq
          try dsimp only [Option.toList, HAppend.hAppend, Append.append, List.append]
          have hz := y_bind h
          clear h
          obtain ⟨_, h95, h⟩ := hz
          have c94 := q_g_ok h95
          refine Uif (q_eq0 c94) rfl rfl rfl rfl rfl rfl rfl (fun c96 => ?_) (fun c96 => ?_)
          · rw [if_pos c96] at h
            exact ih.2.1 _ hd _ _ _ _ _ _ _ _ _ _ h lv lk1 lk2 lk3 rfl
          · rw [if_neg c96] at h
            refine Vic (v := Int32.ofInt 1) rfl rfl rfl ?_
            refine Ygo rfl rfl rfl rfl rfl rfl ?_
            exact ih.2.2.1 _ hd _ _ _ _ _ _ _ _ _ _ h lv lk1 lk2 lk3 rfl
      rw [if_neg c97] at h
      by_cases c120 : i1 = 4
      · rw [if_pos c120] at h
        refine Vts (k := 4) (congrArg Int32.ofInt c120) rfl rfl rfl rfl rfl rfl rfl ?_
        refine Van rfl lk0 rfl rfl ?_
        refine Van rfl lk0 rfl rfl ?_
        refine Vin rfl lk2 rfl ?_
        have hz := y_bind h
        clear h
        obtain ⟨b102, h103, h⟩ := hz
        obtain ⟨eh103, fh103, wh103⟩ := y_rcv_ok h103
        cases eh103
        have hz := y_bind h
        clear h
        obtain ⟨⟨s98, r99⟩, h100, h⟩ := hz
        try dsimp only at h
        refine Vcv rfl rfl rfl wh103 rfl rfl ⟨(Nat.le_of_ble_eq_true rfl), (Nat.le_of_ble_eq_true rfl)⟩ rfl ((c_96 o n).1 _ (by omega) _ _ _ _ _ _ h100 _ rfl rfl) (fun z1 z2 zq => ?_)
        obtain ⟨rfl, rfl⟩ := zq
        try dsimp only [Option.toList, HAppend.hAppend, Append.append, List.append]
        have hz := y_bind h
        clear h
        obtain ⟨_, h107, h⟩ := hz
        have c106 := q_g_ok h107
        refine Uif (q_eq0 c106) rfl rfl rfl rfl rfl rfl rfl (fun c108 => ?_) (fun c108 => ?_)
        · rw [if_pos c108] at h
          exact ih.2.1 _ hd _ _ _ _ _ _ _ _ _ _ h lv lk1 lk2 lk3 rfl
        · rw [if_neg c108] at h
          refine Van rfl lk0 rfl rfl ?_
          refine Vin rfl lk3 rfl ?_
          have hz := y_bind h
          clear h
          obtain ⟨b113, h114, h⟩ := hz
          obtain ⟨eh114, fh114, wh114⟩ := y_rcv_ok h114
          cases eh114
          have hz := y_bind h
          clear h
          obtain ⟨⟨s109, r110⟩, h111, h⟩ := hz
          try dsimp only at h
          refine Vcv rfl rfl rfl wh114 rfl rfl ⟨(Nat.le_of_ble_eq_true rfl), (Nat.le_of_ble_eq_true rfl)⟩ rfl ((c_96 o n).1 _ (by omega) _ _ _ _ _ _ h111 _ rfl rfl) (fun z1 z2 zq => ?_)
          obtain ⟨rfl, rfl⟩ := zq
          try dsimp only [Option.toList, HAppend.hAppend, Append.append, List.append]
          have hz := y_bind h
          clear h
          obtain ⟨_, h118, h⟩ := hz
          have c117 := q_g_ok h118
          refine Uif (q_eq0 c117) rfl rfl rfl rfl rfl rfl rfl (fun c119 => ?_) (fun c119 => ?_)
          · rw [if_pos c119] at h
            exact ih.2.1 _ hd _ _ _ _ _ _ _ _ _ _ h lv lk1 lk2 lk3 rfl
          · rw [if_neg c119] at h
            refine Vic (v := Int32.ofInt 1) rfl rfl rfl ?_
            refine Ygo rfl rfl rfl rfl rfl rfl ?_
            exact ih.2.2.1 _ hd _ _ _ _ _ _ _ _ _ _ h lv lk1 lk2 lk3 rfl
      rw [if_neg c120] at h
      by_cases c143 : i1 = 5
      · rw [if_pos c143] at h
        refine Vts (k := 5) (congrArg Int32.ofInt c143) rfl rfl rfl rfl rfl rfl rfl ?_
        refine Van rfl lk0 rfl rfl ?_
        refine Van rfl lk0 rfl rfl ?_
        refine Vin rfl lk2 rfl ?_
        have hz := y_bind h
        clear h
        obtain ⟨b125, h126, h⟩ := hz
        obtain ⟨eh126, fh126, wh126⟩ := y_rcv_ok h126
        cases eh126
        have hz := y_bind h
        clear h
        obtain ⟨⟨s121, r122⟩, h123, h⟩ := hz
        try dsimp only at h
        refine Vcv rfl rfl rfl wh126 rfl rfl ⟨(Nat.le_of_ble_eq_true rfl), (Nat.le_of_ble_eq_true rfl)⟩ rfl ((c_96 o n).1 _ (by omega) _ _ _ _ _ _ h123 _ rfl rfl) (fun z1 z2 zq => ?_)
        obtain ⟨rfl, rfl⟩ := zq
        try dsimp only [Option.toList, HAppend.hAppend, Append.append, List.append]
        have hz := y_bind h
        clear h
        obtain ⟨_, h130, h⟩ := hz
        have c129 := q_g_ok h130
        refine Uif (q_eq0 c129) rfl rfl rfl rfl rfl rfl rfl (fun c131 => ?_) (fun c131 => ?_)
        · rw [if_pos c131] at h
          exact ih.2.1 _ hd _ _ _ _ _ _ _ _ _ _ h lv lk1 lk2 lk3 rfl
        · rw [if_neg c131] at h
          refine Van rfl lk0 rfl rfl ?_
          refine Vin rfl lk3 rfl ?_
          have hz := y_bind h
          clear h
          obtain ⟨b136, h137, h⟩ := hz
          obtain ⟨eh137, fh137, wh137⟩ := y_rcv_ok h137
          cases eh137
          have hz := y_bind h
          clear h
          obtain ⟨⟨s132, r133⟩, h134, h⟩ := hz
          try dsimp only at h
          refine Vcv rfl rfl rfl wh137 rfl rfl ⟨(Nat.le_of_ble_eq_true rfl), (Nat.le_of_ble_eq_true rfl)⟩ rfl ((c_96 o n).1 _ (by omega) _ _ _ _ _ _ h134 _ rfl rfl) (fun z1 z2 zq => ?_)
          obtain ⟨rfl, rfl⟩ := zq
          try dsimp only [Option.toList, HAppend.hAppend, Append.append, List.append]
          have hz := y_bind h
          clear h
          obtain ⟨_, h141, h⟩ := hz
          have c140 := q_g_ok h141
          refine Uif (q_eq0 c140) rfl rfl rfl rfl rfl rfl rfl (fun c142 => ?_) (fun c142 => ?_)
          · rw [if_pos c142] at h
            exact ih.2.1 _ hd _ _ _ _ _ _ _ _ _ _ h lv lk1 lk2 lk3 rfl
          · rw [if_neg c142] at h
            refine Vic (v := Int32.ofInt 1) rfl rfl rfl ?_
            refine Ygo rfl rfl rfl rfl rfl rfl ?_
            exact ih.2.2.1 _ hd _ _ _ _ _ _ _ _ _ _ h lv lk1 lk2 lk3 rfl
      rw [if_neg c143] at h
      by_cases c160 : i1 = 6
      · rw [if_pos c160] at h
        refine Vts (k := 6) (congrArg Int32.ofInt c160) rfl rfl rfl rfl rfl rfl rfl ?_
        refine Van rfl lk0 rfl rfl ?_
        refine Van rfl lk0 rfl rfl ?_
        refine Vin rfl lk2 rfl ?_
        have hz := y_bind h
        clear h
        obtain ⟨b148, h149, h⟩ := hz
        obtain ⟨eh149, fh149, wh149⟩ := y_rcv_ok h149
        cases eh149
        have hz := y_bind h
        clear h
        obtain ⟨⟨s144, r145⟩, h146, h⟩ := hz
        try dsimp only at h
        refine Vcv rfl rfl rfl wh149 rfl rfl ⟨(Nat.le_of_ble_eq_true rfl), (Nat.le_of_ble_eq_true rfl)⟩ rfl ((c_96 o n).1 _ (by omega) _ _ _ _ _ _ h146 _ rfl rfl) (fun z1 z2 zq => ?_)
        obtain ⟨rfl, rfl⟩ := zq
        try dsimp only [Option.toList, HAppend.hAppend, Append.append, List.append]
        refine Vin rfl lk1 rfl ?_
        refine Vic (v := Int32.ofInt 0) rfl rfl rfl ?_
        refine Vin rfl lk2 rfl ?_
        refine Vic (v := Int32.ofInt (-1)) rfl rfl rfl ?_
        refine Vic (v := Int32.ofInt (-1)) rfl rfl rfl ?_
        have hz := y_bind h
        clear h
        obtain ⟨b156, h157, h⟩ := hz
        obtain ⟨eh157, fh157, wh157⟩ := y_rcv_ok h157
        cases eh157
        have hz := y_bind h
        clear h
        obtain ⟨⟨s152, r153⟩, h154, h⟩ := hz
        try dsimp only at h
        refine Vcv rfl rfl rfl wh157 rfl rfl ⟨(Nat.le_of_ble_eq_true rfl), (Nat.le_of_ble_eq_true rfl)⟩ rfl ((c_97 o n).1 _ (by omega) _ _ _ _ _ _ _ _ _ _ _ h154 _ rfl rfl rfl rfl rfl rfl rfl) (fun z1 z2 zq => ?_)
        obtain ⟨rfl, rfl⟩ := zq
        try dsimp only [Option.toList, HAppend.hAppend, Append.append, List.append]
        cases h
        exact Yret rfl rfl rfl rfl rfl rfl rfl ⟨rfl, rfl⟩
      rw [if_neg c160] at h
      by_cases c161 : i1 = 7
      · rw [if_pos c161] at h
        refine Vts (k := 7) (congrArg Int32.ofInt c161) rfl rfl rfl rfl rfl rfl rfl ?_
        refine Vic (v := Int32.ofInt (-1)) rfl rfl rfl ?_
        cases h
        exact Yret rfl rfl rfl rfl rfl rfl rfl ⟨rfl, rfl⟩
      rw [if_neg c161] at h
      by_cases c162 : i1 = 8
      · rw [if_pos c162] at h
        refine Vts (k := 8) (congrArg Int32.ofInt c162) rfl rfl rfl rfl rfl rfl rfl ?_
        refine Vic (v := Int32.ofInt (-1)) rfl rfl rfl ?_
        cases h
        exact Yret rfl rfl rfl rfl rfl rfl rfl ⟨rfl, rfl⟩
      rw [if_neg c162] at h
      by_cases c163 : i1 = 9
      · rw [if_pos c163] at h
        refine Vts (k := 9) (congrArg Int32.ofInt c163) rfl rfl rfl rfl rfl rfl rfl ?_
        refine Vic (v := Int32.ofInt (-1)) rfl rfl rfl ?_
        cases h
        exact Yret rfl rfl rfl rfl rfl rfl rfl ⟨rfl, rfl⟩
      rw [if_neg c163] at h
      by_cases c181 : i1 = 10
      · rw [if_pos c181] at h
        refine Vts (k := 10) (congrArg Int32.ofInt c181) rfl rfl rfl rfl rfl rfl rfl ?_
        refine Van rfl lk0 rfl rfl ?_
        refine Vin rfl lk2 rfl ?_
        have hz := y_bind h
        clear h
        obtain ⟨_, h165, h⟩ := hz
        have c164 := q_g_ok h165
        refine Uif (q_lt0 c164) rfl rfl rfl rfl rfl rfl rfl (fun c166 => ?_) (fun c166 => ?_)
        · rw [if_pos c166] at h
          exact ih.2.2.2.1 _ hd _ _ _ _ _ _ _ _ _ _ h lv lk1 lk2 lk3 rfl
        · rw [if_neg c166] at h
          refine Vin rfl lk2 rfl ?_
          refine Vbp (v := Int32.ofInt 8) rfl (by decide) rfl ?_
          have hz := y_bind h
          clear h
          obtain ⟨_, h168, h⟩ := hz
          have c167 := q_g_ok h168
          refine Uif (q_le (by decide) c167) rfl rfl rfl rfl rfl rfl rfl (fun c169 => ?_) (fun c169 => ?_)
          · rw [if_pos c169] at h
            exact ih.2.2.2.1 _ hd _ _ _ _ _ _ _ _ _ _ h lv lk1 lk2 lk3 rfl
          · rw [if_neg c169] at h
            refine Van rfl lk0 rfl rfl ?_
            refine Vin rfl lk3 rfl ?_
            have hz := y_bind h
            clear h
            obtain ⟨b174, h175, h⟩ := hz
            obtain ⟨eh175, fh175, wh175⟩ := y_rcv_ok h175
            cases eh175
            have hz := y_bind h
            clear h
            obtain ⟨⟨s170, r171⟩, h172, h⟩ := hz
            try dsimp only at h
            refine Vcv rfl rfl rfl wh175 rfl rfl ⟨(Nat.le_of_ble_eq_true rfl), (Nat.le_of_ble_eq_true rfl)⟩ rfl ((c_96 o n).1 _ (by omega) _ _ _ _ _ _ h172 _ rfl rfl) (fun z1 z2 zq => ?_)
            obtain ⟨rfl, rfl⟩ := zq
            try dsimp only [Option.toList, HAppend.hAppend, Append.append, List.append]
            have hz := y_bind h
            clear h
            obtain ⟨_, h179, h⟩ := hz
            have c178 := q_g_ok h179
            refine Uif (q_eq0 c178) rfl rfl rfl rfl rfl rfl rfl (fun c180 => ?_) (fun c180 => ?_)
            · rw [if_pos c180] at h
              exact ih.2.2.2.1 _ hd _ _ _ _ _ _ _ _ _ _ h lv lk1 lk2 lk3 rfl
            · rw [if_neg c180] at h
              refine Vic (v := Int32.ofInt 1) rfl rfl rfl ?_
              refine Ygo rfl rfl rfl rfl rfl rfl ?_
              exact ih.2.2.2.2.1 _ hd _ _ _ _ _ _ _ _ _ _ h lv lk1 lk2 lk3 rfl
      rw [if_neg c181] at h
      by_cases c199 : i1 = 11
      · rw [if_pos c199] at h
        refine Vts (k := 11) (congrArg Int32.ofInt c199) rfl rfl rfl rfl rfl rfl rfl ?_
        refine Van rfl lk0 rfl rfl ?_
        refine Vin rfl lk2 rfl ?_
        have hz := y_bind h
        clear h
        obtain ⟨_, h183, h⟩ := hz
        have c182 := q_g_ok h183
        refine Uif (q_lt0 c182) rfl rfl rfl rfl rfl rfl rfl (fun c184 => ?_) (fun c184 => ?_)
        · rw [if_pos c184] at h
          exact ih.2.2.2.2.2.1 _ hd _ _ _ _ _ _ _ _ _ _ h lv lk1 lk2 lk3 rfl
        · rw [if_neg c184] at h
          refine Vin rfl lk2 rfl ?_
          refine Vbp (v := Int32.ofInt 16) rfl (by decide) rfl ?_
          have hz := y_bind h
          clear h
          obtain ⟨_, h186, h⟩ := hz
          have c185 := q_g_ok h186
          refine Uif (q_le (by decide) c185) rfl rfl rfl rfl rfl rfl rfl (fun c187 => ?_) (fun c187 => ?_)
          · rw [if_pos c187] at h
            exact ih.2.2.2.2.2.1 _ hd _ _ _ _ _ _ _ _ _ _ h lv lk1 lk2 lk3 rfl
          · rw [if_neg c187] at h
            refine Van rfl lk0 rfl rfl ?_
            refine Vin rfl lk3 rfl ?_
            have hz := y_bind h
            clear h
            obtain ⟨b192, h193, h⟩ := hz
            obtain ⟨eh193, fh193, wh193⟩ := y_rcv_ok h193
            cases eh193
            have hz := y_bind h
            clear h
            obtain ⟨⟨s188, r189⟩, h190, h⟩ := hz
            try dsimp only at h
            refine Vcv rfl rfl rfl wh193 rfl rfl ⟨(Nat.le_of_ble_eq_true rfl), (Nat.le_of_ble_eq_true rfl)⟩ rfl ((c_96 o n).1 _ (by omega) _ _ _ _ _ _ h190 _ rfl rfl) (fun z1 z2 zq => ?_)
            obtain ⟨rfl, rfl⟩ := zq
            try dsimp only [Option.toList, HAppend.hAppend, Append.append, List.append]
            have hz := y_bind h
            clear h
            obtain ⟨_, h197, h⟩ := hz
            have c196 := q_g_ok h197
            refine Uif (q_eq0 c196) rfl rfl rfl rfl rfl rfl rfl (fun c198 => ?_) (fun c198 => ?_)
            · rw [if_pos c198] at h
              exact ih.2.2.2.2.2.1 _ hd _ _ _ _ _ _ _ _ _ _ h lv lk1 lk2 lk3 rfl
            · rw [if_neg c198] at h
              refine Vic (v := Int32.ofInt 1) rfl rfl rfl ?_
              refine Ygo rfl rfl rfl rfl rfl rfl ?_
              exact ih.2.2.2.2.2.2.1 _ hd _ _ _ _ _ _ _ _ _ _ h lv lk1 lk2 lk3 rfl
      rw [if_neg c199] at h
      by_cases c216 : i1 = 12
      · rw [if_pos c216] at h
        refine Vts (k := 12) (congrArg Int32.ofInt c216) rfl rfl rfl rfl rfl rfl rfl ?_
        refine Van rfl lk0 rfl rfl ?_
        refine Van rfl lk0 rfl rfl ?_
        refine Vin rfl lk2 rfl ?_
        have hz := y_bind h
        clear h
        obtain ⟨b204, h205, h⟩ := hz
        obtain ⟨eh205, fh205, wh205⟩ := y_rcv_ok h205
        cases eh205
        have hz := y_bind h
        clear h
        obtain ⟨⟨s200, r201⟩, h202, h⟩ := hz
        try dsimp only at h
        refine Vcv rfl rfl rfl wh205 rfl rfl ⟨(Nat.le_of_ble_eq_true rfl), (Nat.le_of_ble_eq_true rfl)⟩ rfl ((c_96 o n).1 _ (by omega) _ _ _ _ _ _ h202 _ rfl rfl) (fun z1 z2 zq => ?_)
        obtain ⟨rfl, rfl⟩ := zq
        try dsimp only [Option.toList, HAppend.hAppend, Append.append, List.append]
        refine Vin rfl lk1 rfl ?_
        refine Vic (v := Int32.ofInt 0) rfl rfl rfl ?_
        refine Vin rfl lk2 rfl ?_
        refine Vic (v := Int32.ofInt (-1)) rfl rfl rfl ?_
        refine Vic (v := Int32.ofInt (-1)) rfl rfl rfl ?_
        have hz := y_bind h
        clear h
        obtain ⟨b212, h213, h⟩ := hz
        obtain ⟨eh213, fh213, wh213⟩ := y_rcv_ok h213
        cases eh213
        have hz := y_bind h
        clear h
        obtain ⟨⟨s208, r209⟩, h210, h⟩ := hz
        try dsimp only at h
        refine Vcv rfl rfl rfl wh213 rfl rfl ⟨(Nat.le_of_ble_eq_true rfl), (Nat.le_of_ble_eq_true rfl)⟩ rfl ((c_97 o n).1 _ (by omega) _ _ _ _ _ _ _ _ _ _ _ h210 _ rfl rfl rfl rfl rfl rfl rfl) (fun z1 z2 zq => ?_)
        obtain ⟨rfl, rfl⟩ := zq
        try dsimp only [Option.toList, HAppend.hAppend, Append.append, List.append]
        cases h
        exact Yret rfl rfl rfl rfl rfl rfl rfl ⟨rfl, rfl⟩
      rw [if_neg c216] at h
      by_cases c245 : i1 = 13
      · rw [if_pos c245] at h
        refine Vts (k := 13) (congrArg Int32.ofInt c245) rfl rfl rfl rfl rfl rfl rfl ?_
        refine Van rfl lk0 rfl rfl ?_
        refine Vin rfl lk2 rfl ?_
        have hz := y_bind h
        clear h
        obtain ⟨_, h218, h⟩ := hz
        have c217 := q_g_ok h218
        refine Uif (q_lt0 c217) rfl rfl rfl rfl rfl rfl rfl (fun c219 => ?_) (fun c219 => ?_)
        · rw [if_pos c219] at h
          exact ih.2.2.2.2.2.2.2.1 _ hd _ _ _ _ _ _ _ _ _ _ h lv lk1 lk2 lk3 lk4 rfl
        · rw [if_neg c219] at h
          refine Vin rfl lk2 rfl ?_
          refine Vbp (v := Int32.ofInt 8) rfl (by decide) rfl ?_
          have hz := y_bind h
          clear h
          obtain ⟨_, h221, h⟩ := hz
          have c220 := q_g_ok h221
          refine Uif (q_le (by decide) c220) rfl rfl rfl rfl rfl rfl rfl (fun c222 => ?_) (fun c222 => ?_)
          · rw [if_pos c222] at h
            exact ih.2.2.2.2.2.2.2.1 _ hd _ _ _ _ _ _ _ _ _ _ h lv lk1 lk2 lk3 lk4 rfl
          · rw [if_neg c222] at h
            refine Van rfl lk0 rfl rfl ?_
            refine Vin rfl lk3 rfl ?_
            have hz := y_bind h
            clear h
            obtain ⟨b227, h228, h⟩ := hz
            obtain ⟨eh228, fh228, wh228⟩ := y_rcv_ok h228
            cases eh228
            have hz := y_bind h
            clear h
            obtain ⟨⟨s223, r224⟩, h225, h⟩ := hz
            try dsimp only at h
            refine Vcv rfl rfl rfl wh228 rfl rfl ⟨(Nat.le_of_ble_eq_true rfl), (Nat.le_of_ble_eq_true rfl)⟩ rfl ((c_96 o n).1 _ (by omega) _ _ _ _ _ _ h225 _ rfl rfl) (fun z1 z2 zq => ?_)
            obtain ⟨rfl, rfl⟩ := zq
            try dsimp only [Option.toList, HAppend.hAppend, Append.append, List.append]
            have hz := y_bind h
            clear h
            obtain ⟨_, h232, h⟩ := hz
            have c231 := q_g_ok h232
            refine Uif (q_eq0 c231) rfl rfl rfl rfl rfl rfl rfl (fun c233 => ?_) (fun c233 => ?_)
            · rw [if_pos c233] at h
              exact ih.2.2.2.2.2.2.2.1 _ hd _ _ _ _ _ _ _ _ _ _ h lv lk1 lk2 lk3 lk4 rfl
            · rw [if_neg c233] at h
              refine Van rfl lk0 rfl rfl ?_
              refine Vi rfl lk4 rfl ?_
              have hz := y_bind h
              clear h
              obtain ⟨b238, h239, h⟩ := hz
              obtain ⟨eh239, fh239, wh239⟩ := y_rcv_ok h239
              cases eh239
              have hz := y_bind h
              clear h
              obtain ⟨⟨s234, r235⟩, h236, h⟩ := hz
              try dsimp only at h
              refine Vcv rfl rfl rfl wh239 rfl rfl ⟨(Nat.le_of_ble_eq_true rfl), (Nat.le_of_ble_eq_true rfl)⟩ rfl ((c_96 o n).1 _ (by omega) _ _ _ _ _ _ h236 _ rfl rfl) (fun z1 z2 zq => ?_)
              obtain ⟨rfl, rfl⟩ := zq
              try dsimp only [Option.toList, HAppend.hAppend, Append.append, List.append]
              have hz := y_bind h
              clear h
              obtain ⟨_, h243, h⟩ := hz
              have c242 := q_g_ok h243
              refine Uif (q_eq0 c242) rfl rfl rfl rfl rfl rfl rfl (fun c244 => ?_) (fun c244 => ?_)
              · rw [if_pos c244] at h
                exact ih.2.2.2.2.2.2.2.1 _ hd _ _ _ _ _ _ _ _ _ _ h lv lk1 lk2 lk3 lk4 rfl
              · rw [if_neg c244] at h
                refine Vic (v := Int32.ofInt 1) rfl rfl rfl ?_
                refine Ygo rfl rfl rfl rfl rfl rfl ?_
                exact ih.2.2.2.2.2.2.2.2.1 _ hd _ _ _ _ _ _ _ _ _ _ h lv lk1 lk2 lk3 lk4 rfl
      rw [if_neg c245] at h
      by_cases c268 : i1 = 14
      · rw [if_pos c268] at h
        refine Vts (k := 14) (congrArg Int32.ofInt c268) rfl rfl rfl rfl rfl rfl rfl ?_
        refine Van rfl lk0 rfl rfl ?_
        refine Van rfl lk0 rfl rfl ?_
        refine Vin rfl lk2 rfl ?_
        have hz := y_bind h
        clear h
        obtain ⟨b250, h251, h⟩ := hz
        obtain ⟨eh251, fh251, wh251⟩ := y_rcv_ok h251
        cases eh251
        have hz := y_bind h
        clear h
        obtain ⟨⟨s246, r247⟩, h248, h⟩ := hz
        try dsimp only at h
        refine Vcv rfl rfl rfl wh251 rfl rfl ⟨(Nat.le_of_ble_eq_true rfl), (Nat.le_of_ble_eq_true rfl)⟩ rfl ((c_98 o n).1 _ (by omega) _ _ _ _ _ _ h248 _ rfl rfl) (fun z1 z2 zq => ?_)
        obtain ⟨rfl, rfl⟩ := zq
        try dsimp only [Option.toList, HAppend.hAppend, Append.append, List.append]
        have hz := y_bind h
        clear h
        obtain ⟨_, h255, h⟩ := hz
        have c254 := q_g_ok h255
        refine Uif (q_eq0 c254) rfl rfl rfl rfl rfl rfl rfl (fun c256 => ?_) (fun c256 => ?_)
        · rw [if_pos c256] at h
          exact ih.2.2.2.2.2.2.2.2.2.1 _ hd _ _ _ _ _ _ _ _ _ _ h lv lk1 lk2 lk3 rfl
        · rw [if_neg c256] at h
          refine Van rfl lk0 rfl rfl ?_
          refine Vin rfl lk3 rfl ?_
          have hz := y_bind h
          clear h
          obtain ⟨b261, h262, h⟩ := hz
          obtain ⟨eh262, fh262, wh262⟩ := y_rcv_ok h262
          cases eh262
          have hz := y_bind h
          clear h
          obtain ⟨⟨s257, r258⟩, h259, h⟩ := hz
          try dsimp only at h
          refine Vcv rfl rfl rfl wh262 rfl rfl ⟨(Nat.le_of_ble_eq_true rfl), (Nat.le_of_ble_eq_true rfl)⟩ rfl ((c_98 o n).1 _ (by omega) _ _ _ _ _ _ h259 _ rfl rfl) (fun z1 z2 zq => ?_)
          obtain ⟨rfl, rfl⟩ := zq
          try dsimp only [Option.toList, HAppend.hAppend, Append.append, List.append]
          have hz := y_bind h
          clear h
          obtain ⟨_, h266, h⟩ := hz
          have c265 := q_g_ok h266
          refine Uif (q_eq0 c265) rfl rfl rfl rfl rfl rfl rfl (fun c267 => ?_) (fun c267 => ?_)
          · rw [if_pos c267] at h
            exact ih.2.2.2.2.2.2.2.2.2.1 _ hd _ _ _ _ _ _ _ _ _ _ h lv lk1 lk2 lk3 rfl
          · rw [if_neg c267] at h
            refine Vic (v := Int32.ofInt 1) rfl rfl rfl ?_
            refine Ygo rfl rfl rfl rfl rfl rfl ?_
            exact ih.2.2.2.2.2.2.2.2.2.2.1 _ hd _ _ _ _ _ _ _ _ _ _ h lv lk1 lk2 lk3 rfl
      rw [if_neg c268] at h
      by_cases c305 : i1 = 15
      · rw [if_pos c305] at h
        refine Vts (k := 15) (congrArg Int32.ofInt c305) rfl rfl rfl rfl rfl rfl rfl ?_
        refine Van rfl lk0 rfl rfl ?_
        refine Van rfl lk0 rfl rfl ?_
        refine Vin rfl lk2 rfl ?_
        have hz := y_bind h
        clear h
        obtain ⟨b273, h274, h⟩ := hz
        obtain ⟨eh274, fh274, wh274⟩ := y_rcv_ok h274
        cases eh274
        have hz := y_bind h
        clear h
        obtain ⟨⟨s269, r270⟩, h271, h⟩ := hz
        try dsimp only at h
        refine Vcv rfl rfl rfl wh274 rfl rfl ⟨(Nat.le_of_ble_eq_true rfl), (Nat.le_of_ble_eq_true rfl)⟩ rfl ((c_96 o n).1 _ (by omega) _ _ _ _ _ _ h271 _ rfl rfl) (fun z1 z2 zq => ?_)
        obtain ⟨rfl, rfl⟩ := zq
        try dsimp only [Option.toList, HAppend.hAppend, Append.append, List.append]
        have hz := y_bind h
        clear h
        obtain ⟨_, h278, h⟩ := hz
        have c277 := q_g_ok h278
        refine Uif (q_eq0 c277) rfl rfl rfl rfl rfl rfl rfl (fun c279 => ?_) (fun c279 => ?_)
        · rw [if_pos c279] at h
          exact ih.2.2.2.2.2.2.2.2.2.2.2.2.1 _ hd _ _ _ _ _ _ _ _ _ _ h lv lk1 lk2 lk3 lk4 rfl
        · rw [if_neg c279] at h
          refine Van rfl lk0 rfl rfl ?_
          refine Vin rfl lk3 rfl ?_
          have hz := y_bind h
          clear h
          obtain ⟨b284, h285, h⟩ := hz
          obtain ⟨eh285, fh285, wh285⟩ := y_rcv_ok h285
          cases eh285
          have hz := y_bind h
          clear h
          obtain ⟨⟨s280, r281⟩, h282, h⟩ := hz
          try dsimp only at h
          refine Vcv rfl rfl rfl wh285 rfl rfl ⟨(Nat.le_of_ble_eq_true rfl), (Nat.le_of_ble_eq_true rfl)⟩ rfl ((c_98 o n).1 _ (by omega) _ _ _ _ _ _ h282 _ rfl rfl) (fun z1 z2 zq => ?_)
          obtain ⟨rfl, rfl⟩ := zq
          try dsimp only [Option.toList, HAppend.hAppend, Append.append, List.append]
          have hz := y_bind h
          clear h
          obtain ⟨_, h289, h⟩ := hz
          have c288 := q_g_ok h289
          refine Uif (q_eq0 c288) rfl rfl rfl rfl rfl rfl rfl (fun c290 => ?_) (fun c290 => ?_)
          · rw [if_pos c290] at h
            exact ih.2.2.2.2.2.2.2.2.2.2.2.2.1 _ hd _ _ _ _ _ _ _ _ _ _ h lv lk1 lk2 lk3 lk4 rfl
          · rw [if_neg c290] at h
            refine Vi rfl lk4 rfl ?_
            refine Vic (v := Int32.ofInt (-1)) rfl rfl rfl ?_
            have hz := y_bind h
            clear h
            obtain ⟨_, h292, h⟩ := hz
            have c291 := q_g_ok h292
            refine Uif (q_eq c291 (by decide)) rfl rfl rfl rfl rfl rfl rfl (fun c293 => ?_) (fun c293 => ?_)
            · rw [if_pos c293] at h
              exact ih.2.2.2.2.2.2.2.2.2.2.2.1 _ hd _ _ _ _ _ _ _ _ _ _ h lv lk1 lk2 lk3 lk4 rfl
            · rw [if_neg c293] at h
              refine Van rfl lk0 rfl rfl ?_
              refine Vi rfl lk4 rfl ?_
              have hz := y_bind h
              clear h
              obtain ⟨b298, h299, h⟩ := hz
              obtain ⟨eh299, fh299, wh299⟩ := y_rcv_ok h299
              cases eh299
              have hz := y_bind h
              clear h
              obtain ⟨⟨s294, r295⟩, h296, h⟩ := hz
              try dsimp only at h
              refine Vcv rfl rfl rfl wh299 rfl rfl ⟨(Nat.le_of_ble_eq_true rfl), (Nat.le_of_ble_eq_true rfl)⟩ rfl ((c_98 o n).1 _ (by omega) _ _ _ _ _ _ h296 _ rfl rfl) (fun z1 z2 zq => ?_)
              obtain ⟨rfl, rfl⟩ := zq
              try dsimp only [Option.toList, HAppend.hAppend, Append.append, List.append]
              have hz := y_bind h
              clear h
              obtain ⟨_, h303, h⟩ := hz
              have c302 := q_g_ok h303
              refine Uif (q_eq0 c302) rfl rfl rfl rfl rfl rfl rfl (fun c304 => ?_) (fun c304 => ?_)
              · rw [if_pos c304] at h
                exact ih.2.2.2.2.2.2.2.2.2.2.2.2.1 _ hd _ _ _ _ _ _ _ _ _ _ h lv lk1 lk2 lk3 lk4 rfl
              · rw [if_neg c304] at h
                exact ih.2.2.2.2.2.2.2.2.2.2.2.1 _ hd _ _ _ _ _ _ _ _ _ _ h lv lk1 lk2 lk3 lk4 rfl
      rw [if_neg c305] at h
      by_cases c339 : i1 = 16
      · rw [if_pos c339] at h
        refine Vts (k := 16) (congrArg Int32.ofInt c339) rfl rfl rfl rfl rfl rfl rfl ?_
        refine Van rfl lk0 rfl rfl ?_
        refine Van rfl lk0 rfl rfl ?_
        refine Vin rfl lk2 rfl ?_
        have hz := y_bind h
        clear h
        obtain ⟨b310, h311, h⟩ := hz
        obtain ⟨eh311, fh311, wh311⟩ := y_rcv_ok h311
        cases eh311
        have hz := y_bind h
        clear h
        obtain ⟨⟨s306, r307⟩, h308, h⟩ := hz
        try dsimp only at h
        refine Vcv rfl rfl rfl wh311 rfl rfl ⟨(Nat.le_of_ble_eq_true rfl), (Nat.le_of_ble_eq_true rfl)⟩ rfl ((c_96 o n).1 _ (by omega) _ _ _ _ _ _ h308 _ rfl rfl) (fun z1 z2 zq => ?_)
        obtain ⟨rfl, rfl⟩ := zq
        try dsimp only [Option.toList, HAppend.hAppend, Append.append, List.append]
        have hz := y_bind h
        clear h
        obtain ⟨_, h315, h⟩ := hz
        have c314 := q_g_ok h315
        refine Uif (q_eq0 c314) rfl rfl rfl rfl rfl rfl rfl (fun c316 => ?_) (fun c316 => ?_)
        · rw [if_pos c316] at h
          exact ih.2.2.2.2.2.2.2.2.2.2.2.2.2.2.1 _ hd _ _ _ _ _ _ _ _ _ _ h lv lk1 lk2 lk3 lk4 rfl
        · rw [if_neg c316] at h
          refine Van rfl lk0 rfl rfl ?_
          refine Vin rfl lk3 rfl ?_
          have hz := y_bind h
          clear h
          obtain ⟨b321, h322, h⟩ := hz
          obtain ⟨eh322, fh322, wh322⟩ := y_rcv_ok h322
          cases eh322
          have hz := y_bind h
          clear h
          obtain ⟨⟨s317, r318⟩, h319, h⟩ := hz
          try dsimp only at h
          refine Vcv rfl rfl rfl wh322 rfl rfl ⟨(Nat.le_of_ble_eq_true rfl), (Nat.le_of_ble_eq_true rfl)⟩ rfl ((c_98 o n).1 _ (by omega) _ _ _ _ _ _ h319 _ rfl rfl) (fun z1 z2 zq => ?_)
          obtain ⟨rfl, rfl⟩ := zq
          try dsimp only [Option.toList, HAppend.hAppend, Append.append, List.append]
          have hz := y_bind h
          clear h
          obtain ⟨_, h326, h⟩ := hz
          have c325 := q_g_ok h326
          refine Uif (q_eq0 c325) rfl rfl rfl rfl rfl rfl rfl (fun c327 => ?_) (fun c327 => ?_)
          · rw [if_pos c327] at h
            exact ih.2.2.2.2.2.2.2.2.2.2.2.2.2.2.1 _ hd _ _ _ _ _ _ _ _ _ _ h lv lk1 lk2 lk3 lk4 rfl
          · rw [if_neg c327] at h
            refine Van rfl lk0 rfl rfl ?_
            refine Vi rfl lk4 rfl ?_
            have hz := y_bind h
            clear h
            obtain ⟨b332, h333, h⟩ := hz
            obtain ⟨eh333, fh333, wh333⟩ := y_rcv_ok h333
            cases eh333
            have hz := y_bind h
            clear h
            obtain ⟨⟨s328, r329⟩, h330, h⟩ := hz
            try dsimp only at h
            refine Vcv rfl rfl rfl wh333 rfl rfl ⟨(Nat.le_of_ble_eq_true rfl), (Nat.le_of_ble_eq_true rfl)⟩ rfl ((c_98 o n).1 _ (by omega) _ _ _ _ _ _ h330 _ rfl rfl) (fun z1 z2 zq => ?_)
            obtain ⟨rfl, rfl⟩ := zq
            try dsimp only [Option.toList, HAppend.hAppend, Append.append, List.append]
            have hz := y_bind h
            clear h
            obtain ⟨_, h337, h⟩ := hz
            have c336 := q_g_ok h337
            refine Uif (q_eq0 c336) rfl rfl rfl rfl rfl rfl rfl (fun c338 => ?_) (fun c338 => ?_)
            · rw [if_pos c338] at h
              exact ih.2.2.2.2.2.2.2.2.2.2.2.2.2.2.1 _ hd _ _ _ _ _ _ _ _ _ _ h lv lk1 lk2 lk3 lk4 rfl
            · rw [if_neg c338] at h
              refine Vic (v := Int32.ofInt 1) rfl rfl rfl ?_
              refine Ygo rfl rfl rfl rfl rfl rfl ?_
              exact ih.2.2.2.2.2.2.2.2.2.2.2.2.2.2.2.1 _ hd _ _ _ _ _ _ _ _ _ _ h lv lk1 lk2 lk3 lk4 rfl
      rw [if_neg c339] at h
      by_cases c362 : i1 = 17
      · rw [if_pos c362] at h
        refine Vts (k := 17) (congrArg Int32.ofInt c362) rfl rfl rfl rfl rfl rfl rfl ?_
        refine Van rfl lk0 rfl rfl ?_
        refine Van rfl lk0 rfl rfl ?_
        refine Vin rfl lk2 rfl ?_
        have hz := y_bind h
        clear h
        obtain ⟨b344, h345, h⟩ := hz
        obtain ⟨eh345, fh345, wh345⟩ := y_rcv_ok h345
        cases eh345
        have hz := y_bind h
        clear h
        obtain ⟨⟨s340, r341⟩, h342, h⟩ := hz
        try dsimp only at h
        refine Vcv rfl rfl rfl wh345 rfl rfl ⟨(Nat.le_of_ble_eq_true rfl), (Nat.le_of_ble_eq_true rfl)⟩ rfl ((c_96 o n).1 _ (by omega) _ _ _ _ _ _ h342 _ rfl rfl) (fun z1 z2 zq => ?_)
        obtain ⟨rfl, rfl⟩ := zq
        try dsimp only [Option.toList, HAppend.hAppend, Append.append, List.append]
        have hz := y_bind h
        clear h
        obtain ⟨_, h349, h⟩ := hz
        have c348 := q_g_ok h349
        refine Uif (q_eq0 c348) rfl rfl rfl rfl rfl rfl rfl (fun c350 => ?_) (fun c350 => ?_)
        · rw [if_pos c350] at h
          exact ih.2.2.2.2.2.2.2.2.2.2.2.2.2.2.2.2.1 _ hd _ _ _ _ _ _ _ _ _ _ h lv lk1 lk2 lk3 rfl
        · rw [if_neg c350] at h
          refine Van rfl lk0 rfl rfl ?_
          refine Vin rfl lk3 rfl ?_
          have hz := y_bind h
          clear h
          obtain ⟨b355, h356, h⟩ := hz
          obtain ⟨eh356, fh356, wh356⟩ := y_rcv_ok h356
          cases eh356
          have hz := y_bind h
          clear h
          obtain ⟨⟨s351, r352⟩, h353, h⟩ := hz
          try dsimp only at h
          refine Vcv rfl rfl rfl wh356 rfl rfl ⟨(Nat.le_of_ble_eq_true rfl), (Nat.le_of_ble_eq_true rfl)⟩ rfl ((c_98 o n).1 _ (by omega) _ _ _ _ _ _ h353 _ rfl rfl) (fun z1 z2 zq => ?_)
          obtain ⟨rfl, rfl⟩ := zq
          try dsimp only [Option.toList, HAppend.hAppend, Append.append, List.append]
          have hz := y_bind h
          clear h
          obtain ⟨_, h360, h⟩ := hz
          have c359 := q_g_ok h360
          refine Uif (q_eq0 c359) rfl rfl rfl rfl rfl rfl rfl (fun c361 => ?_) (fun c361 => ?_)
          · rw [if_pos c361] at h
            exact ih.2.2.2.2.2.2.2.2.2.2.2.2.2.2.2.2.1 _ hd _ _ _ _ _ _ _ _ _ _ h lv lk1 lk2 lk3 rfl
          · rw [if_neg c361] at h
            refine Vic (v := Int32.ofInt 1) rfl rfl rfl ?_
            refine Ygo rfl rfl rfl rfl rfl rfl ?_
            exact ih.2.2.2.2.2.2.2.2.2.2.2.2.2.2.2.2.2.1 _ hd _ _ _ _ _ _ _ _ _ _ h lv lk1 lk2 lk3 rfl
      rw [if_neg c362] at h
      by_cases c385 : i1 = 18
      · rw [if_pos c385] at h
        refine Vts (k := 18) (congrArg Int32.ofInt c385) rfl rfl rfl rfl rfl rfl rfl ?_
        refine Van rfl lk0 rfl rfl ?_
        refine Van rfl lk0 rfl rfl ?_
        refine Vin rfl lk2 rfl ?_
        have hz := y_bind h
        clear h
        obtain ⟨b367, h368, h⟩ := hz
        obtain ⟨eh368, fh368, wh368⟩ := y_rcv_ok h368
        cases eh368
        have hz := y_bind h
        clear h
        obtain ⟨⟨s363, r364⟩, h365, h⟩ := hz
        try dsimp only at h
        refine Vcv rfl rfl rfl wh368 rfl rfl ⟨(Nat.le_of_ble_eq_true rfl), (Nat.le_of_ble_eq_true rfl)⟩ rfl ((c_98 o n).1 _ (by omega) _ _ _ _ _ _ h365 _ rfl rfl) (fun z1 z2 zq => ?_)
        obtain ⟨rfl, rfl⟩ := zq
        try dsimp only [Option.toList, HAppend.hAppend, Append.append, List.append]
        have hz := y_bind h
        clear h
        obtain ⟨_, h372, h⟩ := hz
        have c371 := q_g_ok h372
        refine Uif (q_eq0 c371) rfl rfl rfl rfl rfl rfl rfl (fun c373 => ?_) (fun c373 => ?_)
        · rw [if_pos c373] at h
          exact ih.2.2.2.2.2.2.2.2.2.1 _ hd _ _ _ _ _ _ _ _ _ _ h lv lk1 lk2 lk3 rfl
        · rw [if_neg c373] at h
          refine Van rfl lk0 rfl rfl ?_
          refine Vin rfl lk3 rfl ?_
          have hz := y_bind h
          clear h
          obtain ⟨b378, h379, h⟩ := hz
          obtain ⟨eh379, fh379, wh379⟩ := y_rcv_ok h379
          cases eh379
          have hz := y_bind h
          clear h
          obtain ⟨⟨s374, r375⟩, h376, h⟩ := hz
          try dsimp only at h
          refine Vcv rfl rfl rfl wh379 rfl rfl ⟨(Nat.le_of_ble_eq_true rfl), (Nat.le_of_ble_eq_true rfl)⟩ rfl ((c_98 o n).1 _ (by omega) _ _ _ _ _ _ h376 _ rfl rfl) (fun z1 z2 zq => ?_)
          obtain ⟨rfl, rfl⟩ := zq
          try dsimp only [Option.toList, HAppend.hAppend, Append.append, List.append]
          have hz := y_bind h
          clear h
          obtain ⟨_, h383, h⟩ := hz
          have c382 := q_g_ok h383
          refine Uif (q_eq0 c382) rfl rfl rfl rfl rfl rfl rfl (fun c384 => ?_) (fun c384 => ?_)
          · rw [if_pos c384] at h
            exact ih.2.2.2.2.2.2.2.2.2.1 _ hd _ _ _ _ _ _ _ _ _ _ h lv lk1 lk2 lk3 rfl
          · rw [if_neg c384] at h
            refine Vic (v := Int32.ofInt 1) rfl rfl rfl ?_
            refine Ygo rfl rfl rfl rfl rfl rfl ?_
            exact ih.2.2.2.2.2.2.2.2.2.2.1 _ hd _ _ _ _ _ _ _ _ _ _ h lv lk1 lk2 lk3 rfl
      rw [if_neg c385] at h
      by_cases c392 : i1 = 19
      · rw [if_pos c392] at h
        refine Vts (k := 19) (congrArg Int32.ofInt c392) rfl rfl rfl rfl rfl rfl rfl ?_
        refine Van rfl lk0 rfl rfl ?_
        refine Vin rfl lk2 rfl ?_
        have hz := y_bind h
        clear h
        obtain ⟨_, h387, h⟩ := hz
        have c386 := q_g_ok h387
        refine Uif (q_lt0 c386) rfl rfl rfl rfl rfl rfl rfl (fun c388 => ?_) (fun c388 => ?_)
        · rw [if_pos c388] at h
          exact ih.2.2.2.2.2.2.2.2.2.2.2.2.2.2.2.2.2.2.1 _ hd _ _ _ _ _ _ _ _ _ _ h lv lk1 lk2 rfl
        · rw [if_neg c388] at h
          refine Vin rfl lk2 rfl ?_
          refine Vbp (v := Int32.ofInt 8) rfl (by decide) rfl ?_
          have hz := y_bind h
          clear h
          obtain ⟨_, h390, h⟩ := hz
          have c389 := q_g_ok h390
          refine Uif (q_le (by decide) c389) rfl rfl rfl rfl rfl rfl rfl (fun c391 => ?_) (fun c391 => ?_)
          · rw [if_pos c391] at h
            exact ih.2.2.2.2.2.2.2.2.2.2.2.2.2.2.2.2.2.2.1 _ hd _ _ _ _ _ _ _ _ _ _ h lv lk1 lk2 rfl
          · rw [if_neg c391] at h
            refine Vic (v := Int32.ofInt 1) rfl rfl rfl ?_
            refine Ygo rfl rfl rfl rfl rfl rfl ?_
            exact ih.2.2.2.2.2.2.2.2.2.2.2.2.2.2.2.2.2.2.2.1 _ hd _ _ _ _ _ _ _ _ _ _ h lv lk1 lk2 rfl
      rw [if_neg c392] at h
      by_cases c410 : i1 = 20
      · rw [if_pos c410] at h
        refine Vts (k := 20) (congrArg Int32.ofInt c410) rfl rfl rfl rfl rfl rfl rfl ?_
        refine Van rfl lk0 rfl rfl ?_
        refine Vin rfl lk2 rfl ?_
        have hz := y_bind h
        clear h
        obtain ⟨_, h394, h⟩ := hz
        have c393 := q_g_ok h394
        refine Uif (q_lt0 c393) rfl rfl rfl rfl rfl rfl rfl (fun c395 => ?_) (fun c395 => ?_)
        · rw [if_pos c395] at h
          exact ih.2.2.2.2.2.2.2.2.2.2.2.2.2.2.2.2.2.2.2.2.1 _ hd _ _ _ _ _ _ _ _ _ _ h lv lk1 lk2 lk3 rfl
        · rw [if_neg c395] at h
          refine Vin rfl lk2 rfl ?_
          refine Vbp (v := Int32.ofInt 8) rfl (by decide) rfl ?_
          have hz := y_bind h
          clear h
          obtain ⟨_, h397, h⟩ := hz
          have c396 := q_g_ok h397
          refine Uif (q_le (by decide) c396) rfl rfl rfl rfl rfl rfl rfl (fun c398 => ?_) (fun c398 => ?_)
          · rw [if_pos c398] at h
            exact ih.2.2.2.2.2.2.2.2.2.2.2.2.2.2.2.2.2.2.2.2.1 _ hd _ _ _ _ _ _ _ _ _ _ h lv lk1 lk2 lk3 rfl
          · rw [if_neg c398] at h
            refine Van rfl lk0 rfl rfl ?_
            refine Vin rfl lk3 rfl ?_
            have hz := y_bind h
            clear h
            obtain ⟨b403, h404, h⟩ := hz
            obtain ⟨eh404, fh404, wh404⟩ := y_rcv_ok h404
            cases eh404
            have hz := y_bind h
            clear h
            obtain ⟨⟨s399, r400⟩, h401, h⟩ := hz
            try dsimp only at h
            refine Vcv rfl rfl rfl wh404 rfl rfl ⟨(Nat.le_of_ble_eq_true rfl), (Nat.le_of_ble_eq_true rfl)⟩ rfl ((c_98 o n).1 _ (by omega) _ _ _ _ _ _ h401 _ rfl rfl) (fun z1 z2 zq => ?_)
            obtain ⟨rfl, rfl⟩ := zq
            try dsimp only [Option.toList, HAppend.hAppend, Append.append, List.append]
            have hz := y_bind h
            clear h
            obtain ⟨_, h408, h⟩ := hz
            have c407 := q_g_ok h408
            refine Uif (q_eq0 c407) rfl rfl rfl rfl rfl rfl rfl (fun c409 => ?_) (fun c409 => ?_)
            · rw [if_pos c409] at h
              exact ih.2.2.2.2.2.2.2.2.2.2.2.2.2.2.2.2.2.2.2.2.1 _ hd _ _ _ _ _ _ _ _ _ _ h lv lk1 lk2 lk3 rfl
            · rw [if_neg c409] at h
              refine Vic (v := Int32.ofInt 1) rfl rfl rfl ?_
              refine Ygo rfl rfl rfl rfl rfl rfl ?_
              exact ih.2.2.2.2.2.2.2.2.2.2.2.2.2.2.2.2.2.2.2.2.2 _ hd _ _ _ _ _ _ _ _ _ _ h lv lk1 lk2 lk3 rfl
      rw [if_neg c410] at h
      by_cases c427 : i1 = 21
      · rw [if_pos c427] at h
        refine Vts (k := 21) (congrArg Int32.ofInt c427) rfl rfl rfl rfl rfl rfl rfl ?_
        refine Van rfl lk0 rfl rfl ?_
        refine Van rfl lk0 rfl rfl ?_
        refine Vin rfl lk2 rfl ?_
        have hz := y_bind h
        clear h
        obtain ⟨b415, h416, h⟩ := hz
        obtain ⟨eh416, fh416, wh416⟩ := y_rcv_ok h416
        cases eh416
        have hz := y_bind h
        clear h
        obtain ⟨⟨s411, r412⟩, h413, h⟩ := hz
        try dsimp only at h
        refine Vcv rfl rfl rfl wh416 rfl rfl ⟨(Nat.le_of_ble_eq_true rfl), (Nat.le_of_ble_eq_true rfl)⟩ rfl ((c_98 o n).1 _ (by omega) _ _ _ _ _ _ h413 _ rfl rfl) (fun z1 z2 zq => ?_)
        obtain ⟨rfl, rfl⟩ := zq
        try dsimp only [Option.toList, HAppend.hAppend, Append.append, List.append]
        refine Vin rfl lk1 rfl ?_
        refine Vic (v := Int32.ofInt 0) rfl rfl rfl ?_
        refine Vin rfl lk2 rfl ?_
        refine Vic (v := Int32.ofInt (-1)) rfl rfl rfl ?_
        refine Vic (v := Int32.ofInt (-1)) rfl rfl rfl ?_
        have hz := y_bind h
        clear h
        obtain ⟨b423, h424, h⟩ := hz
        obtain ⟨eh424, fh424, wh424⟩ := y_rcv_ok h424
        cases eh424
        have hz := y_bind h
        clear h
        obtain ⟨⟨s419, r420⟩, h421, h⟩ := hz
        try dsimp only at h
        refine Vcv rfl rfl rfl wh424 rfl rfl ⟨(Nat.le_of_ble_eq_true rfl), (Nat.le_of_ble_eq_true rfl)⟩ rfl ((c_97 o n).1 _ (by omega) _ _ _ _ _ _ _ _ _ _ _ h421 _ rfl rfl rfl rfl rfl rfl rfl) (fun z1 z2 zq => ?_)
        obtain ⟨rfl, rfl⟩ := zq
        try dsimp only [Option.toList, HAppend.hAppend, Append.append, List.append]
        cases h
        exact Yret rfl rfl rfl rfl rfl rfl rfl ⟨rfl, rfl⟩
      rw [if_neg c427] at h
      cases h
    · intro d hd s r0 i1 i2 i3 i4 ta0 ti1 s9 r h lv lk1 lk2 lk3 rs0
      obtain ⟨d, rfl⟩ : ∃ x, d = x + 1 := ⟨d - 1, by omega⟩
      simp only [g_95] at h
      refine Vic (v := Int32.ofInt 0) rfl rfl rfl ?_
      exact ih.2.2.1 _ hd _ _ _ _ _ _ _ _ _ _ h lv lk1 lk2 lk3 rs0
    · intro d hd s r0 i1 i2 i3 i4 ta0 ti1 s9 r h lv lk1 lk2 lk3 rs0
      obtain ⟨d, rfl⟩ : ∃ x, d = x + 1 := ⟨d - 1, by omega⟩
      simp only [g_95] at h
      refine Vin rfl lk1 rfl ?_
      refine Vic (v := Int32.ofInt 0) rfl rfl rfl ?_
      refine Vin rfl lk2 rfl ?_
      refine Vin rfl lk3 rfl ?_
      refine Vic (v := Int32.ofInt (-1)) rfl rfl rfl ?_
      have hz := y_bind h
      clear h
      obtain ⟨b5, h6, h⟩ := hz
      obtain ⟨eh6, fh6, wh6⟩ := y_rcv_ok h6
      cases eh6
      have hz := y_bind h
      clear h
      obtain ⟨⟨s1, r2⟩, h3, h⟩ := hz
      try dsimp only at h
      refine Vcv rfl rfl rfl wh6 rfl rfl ⟨(Nat.le_of_ble_eq_true rfl), (Nat.le_of_ble_eq_true rfl)⟩ rfl ((c_97 o n).1 _ (by omega) _ _ _ _ _ _ _ _ _ _ _ h3 _ rfl rfl rfl rfl rfl rfl rfl) (fun z1 z2 zq => ?_)
      obtain ⟨rfl, rfl⟩ := zq
      try dsimp only [Option.toList, HAppend.hAppend, Append.append, List.append]
      cases h
      exact Yret rfl rfl rfl rfl rfl rfl rfl ⟨rfl, rfl⟩
    · intro d hd s r0 i1 i2 i3 i4 ta0 ti1 s9 r h lv lk1 lk2 lk3 rs0
      obtain ⟨d, rfl⟩ : ∃ x, d = x + 1 := ⟨d - 1, by omega⟩
      simp only [g_95] at h
      refine Vic (v := Int32.ofInt 0) rfl rfl rfl ?_
      exact ih.2.2.2.2.1 _ hd _ _ _ _ _ _ _ _ _ _ h lv lk1 lk2 lk3 rs0
    · intro d hd s r0 i1 i2 i3 i4 ta0 ti1 s9 r h lv lk1 lk2 lk3 rs0
      obtain ⟨d, rfl⟩ : ∃ x, d = x + 1 := ⟨d - 1, by omega⟩
      simp only [g_95] at h
      refine Vin rfl lk1 rfl ?_
      refine Vin rfl lk2 rfl ?_
      refine Vin rfl lk3 rfl ?_
      refine Vic (v := Int32.ofInt (-1)) rfl rfl rfl ?_
      refine Vic (v := Int32.ofInt (-1)) rfl rfl rfl ?_
      have hz := y_bind h
      clear h
      obtain ⟨b5, h6, h⟩ := hz
      obtain ⟨eh6, fh6, wh6⟩ := y_rcv_ok h6
      cases eh6
      have hz := y_bind h
      clear h
      obtain ⟨⟨s1, r2⟩, h3, h⟩ := hz
      try dsimp only at h
      refine Vcv rfl rfl rfl wh6 rfl rfl ⟨(Nat.le_of_ble_eq_true rfl), (Nat.le_of_ble_eq_true rfl)⟩ rfl ((c_97 o n).1 _ (by omega) _ _ _ _ _ _ _ _ _ _ _ h3 _ rfl rfl rfl rfl rfl rfl rfl) (fun z1 z2 zq => ?_)
      obtain ⟨rfl, rfl⟩ := zq
      try dsimp only [Option.toList, HAppend.hAppend, Append.append, List.append]
      cases h
      exact Yret rfl rfl rfl rfl rfl rfl rfl ⟨rfl, rfl⟩
    · intro d hd s r0 i1 i2 i3 i4 ta0 ti1 s9 r h lv lk1 lk2 lk3 rs0
      obtain ⟨d, rfl⟩ : ∃ x, d = x + 1 := ⟨d - 1, by omega⟩
      simp only [g_95] at h
      refine Vic (v := Int32.ofInt 0) rfl rfl rfl ?_
      exact ih.2.2.2.2.2.2.1 _ hd _ _ _ _ _ _ _ _ _ _ h lv lk1 lk2 lk3 rs0
    · intro d hd s r0 i1 i2 i3 i4 ta0 ti1 s9 r h lv lk1 lk2 lk3 rs0
      obtain ⟨d, rfl⟩ : ∃ x, d = x + 1 := ⟨d - 1, by omega⟩
      simp only [g_95] at h
      refine Vin rfl lk1 rfl ?_
      refine Vin rfl lk2 rfl ?_
      refine Vin rfl lk3 rfl ?_
      refine Vic (v := Int32.ofInt (-1)) rfl rfl rfl ?_
      refine Vic (v := Int32.ofInt (-1)) rfl rfl rfl ?_
      have hz := y_bind h
      clear h
      obtain ⟨b5, h6, h⟩ := hz
      obtain ⟨eh6, fh6, wh6⟩ := y_rcv_ok h6
      cases eh6
      have hz := y_bind h
      clear h
      obtain ⟨⟨s1, r2⟩, h3, h⟩ := hz
      try dsimp only at h
      refine Vcv rfl rfl rfl wh6 rfl rfl ⟨(Nat.le_of_ble_eq_true rfl), (Nat.le_of_ble_eq_true rfl)⟩ rfl ((c_97 o n).1 _ (by omega) _ _ _ _ _ _ _ _ _ _ _ h3 _ rfl rfl rfl rfl rfl rfl rfl) (fun z1 z2 zq => ?_)
      obtain ⟨rfl, rfl⟩ := zq
      try dsimp only [Option.toList, HAppend.hAppend, Append.append, List.append]
      cases h
      exact Yret rfl rfl rfl rfl rfl rfl rfl ⟨rfl, rfl⟩
    · intro d hd s r0 i1 i2 i3 i4 ta0 ti1 s9 r h lv lk1 lk2 lk3 lk4 rs0
      obtain ⟨d, rfl⟩ : ∃ x, d = x + 1 := ⟨d - 1, by omega⟩
      simp only [g_95] at h
      refine Vic (v := Int32.ofInt 0) rfl rfl rfl ?_
      exact ih.2.2.2.2.2.2.2.2.1 _ hd _ _ _ _ _ _ _ _ _ _ h lv lk1 lk2 lk3 lk4 rs0
    · intro d hd s r0 i1 i2 i3 i4 ta0 ti1 s9 r h lv lk1 lk2 lk3 lk4 rs0
      obtain ⟨d, rfl⟩ : ∃ x, d = x + 1 := ⟨d - 1, by omega⟩
      simp only [g_95] at h
      refine Vin rfl lk1 rfl ?_
      refine Vin rfl lk2 rfl ?_
      refine Vin rfl lk3 rfl ?_
      refine Vi rfl lk4 rfl ?_
      refine Vic (v := Int32.ofInt (-1)) rfl rfl rfl ?_
      have hz := y_bind h
      clear h
      obtain ⟨b5, h6, h⟩ := hz
      obtain ⟨eh6, fh6, wh6⟩ := y_rcv_ok h6
      cases eh6
      have hz := y_bind h
      clear h
      obtain ⟨⟨s1, r2⟩, h3, h⟩ := hz
      try dsimp only at h
      refine Vcv rfl rfl rfl wh6 rfl rfl ⟨(Nat.le_of_ble_eq_true rfl), (Nat.le_of_ble_eq_true rfl)⟩ rfl ((c_97 o n).1 _ (by omega) _ _ _ _ _ _ _ _ _ _ _ h3 _ rfl rfl rfl rfl rfl rfl rfl) (fun z1 z2 zq => ?_)
      obtain ⟨rfl, rfl⟩ := zq
      try dsimp only [Option.toList, HAppend.hAppend, Append.append, List.append]
      cases h
      exact Yret rfl rfl rfl rfl rfl rfl rfl ⟨rfl, rfl⟩
    · intro d hd s r0 i1 i2 i3 i4 ta0 ti1 s9 r h lv lk1 lk2 lk3 rs0
      obtain ⟨d, rfl⟩ : ∃ x, d = x + 1 := ⟨d - 1, by omega⟩
      simp only [g_95] at h
      refine Vic (v := Int32.ofInt 0) rfl rfl rfl ?_
      exact ih.2.2.2.2.2.2.2.2.2.2.1 _ hd _ _ _ _ _ _ _ _ _ _ h lv lk1 lk2 lk3 rs0
    · intro d hd s r0 i1 i2 i3 i4 ta0 ti1 s9 r h lv lk1 lk2 lk3 rs0
      obtain ⟨d, rfl⟩ : ∃ x, d = x + 1 := ⟨d - 1, by omega⟩
      simp only [g_95] at h
      refine Vin rfl lk1 rfl ?_
      refine Vic (v := Int32.ofInt 0) rfl rfl rfl ?_
      refine Vin rfl lk2 rfl ?_
      refine Vin rfl lk3 rfl ?_
      refine Vic (v := Int32.ofInt (-1)) rfl rfl rfl ?_
      have hz := y_bind h
      clear h
      obtain ⟨b5, h6, h⟩ := hz
      obtain ⟨eh6, fh6, wh6⟩ := y_rcv_ok h6
      cases eh6
      have hz := y_bind h
      clear h
      obtain ⟨⟨s1, r2⟩, h3, h⟩ := hz
      try dsimp only at h
      refine Vcv rfl rfl rfl wh6 rfl rfl ⟨(Nat.le_of_ble_eq_true rfl), (Nat.le_of_ble_eq_true rfl)⟩ rfl ((c_97 o n).1 _ (by omega) _ _ _ _ _ _ _ _ _ _ _ h3 _ rfl rfl rfl rfl rfl rfl rfl) (fun z1 z2 zq => ?_)
      obtain ⟨rfl, rfl⟩ := zq
      try dsimp only [Option.toList, HAppend.hAppend, Append.append, List.append]
      cases h
      exact Yret rfl rfl rfl rfl rfl rfl rfl ⟨rfl, rfl⟩
    · intro d hd s r0 i1 i2 i3 i4 ta0 ti1 s9 r h lv lk1 lk2 lk3 lk4 rs0
      obtain ⟨d, rfl⟩ : ∃ x, d = x + 1 := ⟨d - 1, by omega⟩
      simp only [g_95] at h
      refine Vic (v := Int32.ofInt 1) rfl rfl rfl ?_
      refine Ygo rfl rfl rfl rfl rfl rfl ?_
      exact ih.2.2.2.2.2.2.2.2.2.2.2.2.2.1 _ hd _ _ _ _ _ _ _ _ _ _ h lv lk1 lk2 lk3 lk4 rs0
    · intro d hd s r0 i1 i2 i3 i4 ta0 ti1 s9 r h lv lk1 lk2 lk3 lk4 rs0
      obtain ⟨d, rfl⟩ : ∃ x, d = x + 1 := ⟨d - 1, by omega⟩
      simp only [g_95] at h
      refine Vic (v := Int32.ofInt 0) rfl rfl rfl ?_
      exact ih.2.2.2.2.2.2.2.2.2.2.2.2.2.1 _ hd _ _ _ _ _ _ _ _ _ _ h lv lk1 lk2 lk3 lk4 rs0
    · intro d hd s r0 i1 i2 i3 i4 ta0 ti1 s9 r h lv lk1 lk2 lk3 lk4 rs0
      obtain ⟨d, rfl⟩ : ∃ x, d = x + 1 := ⟨d - 1, by omega⟩
      simp only [g_95] at h
      refine Vin rfl lk1 rfl ?_
      refine Vic (v := Int32.ofInt 0) rfl rfl rfl ?_
      refine Vin rfl lk2 rfl ?_
      refine Vin rfl lk3 rfl ?_
      refine Vi rfl lk4 rfl ?_
      have hz := y_bind h
      clear h
      obtain ⟨b5, h6, h⟩ := hz
      obtain ⟨eh6, fh6, wh6⟩ := y_rcv_ok h6
      cases eh6
      have hz := y_bind h
      clear h
      obtain ⟨⟨s1, r2⟩, h3, h⟩ := hz
      try dsimp only at h
      refine Vcv rfl rfl rfl wh6 rfl rfl ⟨(Nat.le_of_ble_eq_true rfl), (Nat.le_of_ble_eq_true rfl)⟩ rfl ((c_97 o n).1 _ (by omega) _ _ _ _ _ _ _ _ _ _ _ h3 _ rfl rfl rfl rfl rfl rfl rfl) (fun z1 z2 zq => ?_)
      obtain ⟨rfl, rfl⟩ := zq
      try dsimp only [Option.toList, HAppend.hAppend, Append.append, List.append]
      cases h
      exact Yret rfl rfl rfl rfl rfl rfl rfl ⟨rfl, rfl⟩
    · intro d hd s r0 i1 i2 i3 i4 ta0 ti1 s9 r h lv lk1 lk2 lk3 lk4 rs0
      obtain ⟨d, rfl⟩ : ∃ x, d = x + 1 := ⟨d - 1, by omega⟩
      simp only [g_95] at h
      refine Vic (v := Int32.ofInt 0) rfl rfl rfl ?_
      exact ih.2.2.2.2.2.2.2.2.2.2.2.2.2.2.2.1 _ hd _ _ _ _ _ _ _ _ _ _ h lv lk1 lk2 lk3 lk4 rs0
    · intro d hd s r0 i1 i2 i3 i4 ta0 ti1 s9 r h lv lk1 lk2 lk3 lk4 rs0
      obtain ⟨d, rfl⟩ : ∃ x, d = x + 1 := ⟨d - 1, by omega⟩
      simp only [g_95] at h
      refine Vin rfl lk1 rfl ?_
      refine Vic (v := Int32.ofInt 0) rfl rfl rfl ?_
      refine Vin rfl lk2 rfl ?_
      refine Vin rfl lk3 rfl ?_
      refine Vi rfl lk4 rfl ?_
      have hz := y_bind h
      clear h
      obtain ⟨b5, h6, h⟩ := hz
      obtain ⟨eh6, fh6, wh6⟩ := y_rcv_ok h6
      cases eh6
      have hz := y_bind h
      clear h
      obtain ⟨⟨s1, r2⟩, h3, h⟩ := hz
      try dsimp only at h
      refine Vcv rfl rfl rfl wh6 rfl rfl ⟨(Nat.le_of_ble_eq_true rfl), (Nat.le_of_ble_eq_true rfl)⟩ rfl ((c_97 o n).1 _ (by omega) _ _ _ _ _ _ _ _ _ _ _ h3 _ rfl rfl rfl rfl rfl rfl rfl) (fun z1 z2 zq => ?_)
      obtain ⟨rfl, rfl⟩ := zq
      try dsimp only [Option.toList, HAppend.hAppend, Append.append, List.append]
      cases h
      exact Yret rfl rfl rfl rfl rfl rfl rfl ⟨rfl, rfl⟩
    · intro d hd s r0 i1 i2 i3 i4 ta0 ti1 s9 r h lv lk1 lk2 lk3 rs0
      obtain ⟨d, rfl⟩ : ∃ x, d = x + 1 := ⟨d - 1, by omega⟩
      simp only [g_95] at h
      refine Vic (v := Int32.ofInt 0) rfl rfl rfl ?_
      exact ih.2.2.2.2.2.2.2.2.2.2.2.2.2.2.2.2.2.1 _ hd _ _ _ _ _ _ _ _ _ _ h lv lk1 lk2 lk3 rs0
    · intro d hd s r0 i1 i2 i3 i4 ta0 ti1 s9 r h lv lk1 lk2 lk3 rs0
      obtain ⟨d, rfl⟩ : ∃ x, d = x + 1 := ⟨d - 1, by omega⟩
      simp only [g_95] at h
      refine Vin rfl lk1 rfl ?_
      refine Vic (v := Int32.ofInt 0) rfl rfl rfl ?_
      refine Vin rfl lk2 rfl ?_
      refine Vin rfl lk3 rfl ?_
      refine Vic (v := Int32.ofInt (-1)) rfl rfl rfl ?_
      have hz := y_bind h
      clear h
      obtain ⟨b5, h6, h⟩ := hz
      obtain ⟨eh6, fh6, wh6⟩ := y_rcv_ok h6
      cases eh6
      have hz := y_bind h
      clear h
      obtain ⟨⟨s1, r2⟩, h3, h⟩ := hz
      try dsimp only at h
      refine Vcv rfl rfl rfl wh6 rfl rfl ⟨(Nat.le_of_ble_eq_true rfl), (Nat.le_of_ble_eq_true rfl)⟩ rfl ((c_97 o n).1 _ (by omega) _ _ _ _ _ _ _ _ _ _ _ h3 _ rfl rfl rfl rfl rfl rfl rfl) (fun z1 z2 zq => ?_)
      obtain ⟨rfl, rfl⟩ := zq
      try dsimp only [Option.toList, HAppend.hAppend, Append.append, List.append]
      cases h
      exact Yret rfl rfl rfl rfl rfl rfl rfl ⟨rfl, rfl⟩
    · intro d hd s r0 i1 i2 i3 i4 ta0 ti1 s9 r h lv lk1 lk2 rs0
      obtain ⟨d, rfl⟩ : ∃ x, d = x + 1 := ⟨d - 1, by omega⟩
      simp only [g_95] at h
      refine Vic (v := Int32.ofInt 0) rfl rfl rfl ?_
      exact ih.2.2.2.2.2.2.2.2.2.2.2.2.2.2.2.2.2.2.2.1 _ hd _ _ _ _ _ _ _ _ _ _ h lv lk1 lk2 rs0
    · intro d hd s r0 i1 i2 i3 i4 ta0 ti1 s9 r h lv lk1 lk2 rs0
      obtain ⟨d, rfl⟩ : ∃ x, d = x + 1 := ⟨d - 1, by omega⟩
      simp only [g_95] at h
      refine Vin rfl lk1 rfl ?_
      refine Vin rfl lk2 rfl ?_
      refine Vic (v := Int32.ofInt (-1)) rfl rfl rfl ?_
      refine Vic (v := Int32.ofInt (-1)) rfl rfl rfl ?_
      refine Vic (v := Int32.ofInt (-1)) rfl rfl rfl ?_
      have hz := y_bind h
      clear h
      obtain ⟨b5, h6, h⟩ := hz
      obtain ⟨eh6, fh6, wh6⟩ := y_rcv_ok h6
      cases eh6
      have hz := y_bind h
      clear h
      obtain ⟨⟨s1, r2⟩, h3, h⟩ := hz
      try dsimp only at h
      refine Vcv rfl rfl rfl wh6 rfl rfl ⟨(Nat.le_of_ble_eq_true rfl), (Nat.le_of_ble_eq_true rfl)⟩ rfl ((c_97 o n).1 _ (by omega) _ _ _ _ _ _ _ _ _ _ _ h3 _ rfl rfl rfl rfl rfl rfl rfl) (fun z1 z2 zq => ?_)
      obtain ⟨rfl, rfl⟩ := zq
      try dsimp only [Option.toList, HAppend.hAppend, Append.append, List.append]
      cases h
      exact Yret rfl rfl rfl rfl rfl rfl rfl ⟨rfl, rfl⟩
    · intro d hd s r0 i1 i2 i3 i4 ta0 ti1 s9 r h lv lk1 lk2 lk3 rs0
      obtain ⟨d, rfl⟩ : ∃ x, d = x + 1 := ⟨d - 1, by omega⟩
      simp only [g_95] at h
      refine Vic (v := Int32.ofInt 0) rfl rfl rfl ?_
      exact ih.2.2.2.2.2.2.2.2.2.2.2.2.2.2.2.2.2.2.2.2.2 _ hd _ _ _ _ _ _ _ _ _ _ h lv lk1 lk2 lk3 rs0
    · intro d hd s r0 i1 i2 i3 i4 ta0 ti1 s9 r h lv lk1 lk2 lk3 rs0
      obtain ⟨d, rfl⟩ : ∃ x, d = x + 1 := ⟨d - 1, by omega⟩
      simp only [g_95] at h
      refine Vin rfl lk1 rfl ?_
      refine Vin rfl lk2 rfl ?_
      refine Vin rfl lk3 rfl ?_
      refine Vic (v := Int32.ofInt (-1)) rfl rfl rfl ?_
      refine Vic (v := Int32.ofInt (-1)) rfl rfl rfl ?_
      have hz := y_bind h
      clear h
      obtain ⟨b5, h6, h⟩ := hz
      obtain ⟨eh6, fh6, wh6⟩ := y_rcv_ok h6
      cases eh6
      have hz := y_bind h
      clear h
      obtain ⟨⟨s1, r2⟩, h3, h⟩ := hz
      try dsimp only at h
      refine Vcv rfl rfl rfl wh6 rfl rfl ⟨(Nat.le_of_ble_eq_true rfl), (Nat.le_of_ble_eq_true rfl)⟩ rfl ((c_97 o n).1 _ (by omega) _ _ _ _ _ _ _ _ _ _ _ h3 _ rfl rfl rfl rfl rfl rfl rfl) (fun z1 z2 zq => ?_)
      obtain ⟨rfl, rfl⟩ := zq
      try dsimp only [Option.toList, HAppend.hAppend, Append.append, List.append]
      cases h
      exact Yret rfl rfl rfl rfl rfl rfl rfl ⟨rfl, rfl⟩

/-- StepRowsModel.countPlaces -/
def g_100 (o : X_O) : Nat → Nat → Nat → Q_S → Nat → Int → Int → Int → Int → Int → Option (Q_S × Int)
  | 0, _, _, _, _, _, _, _, _, _ => none
  | n + 1, e, 0, s, r0, i1, i2, i3, ti0, ti1 => g_100 o n e 1 s r0 (i1) (1) (0) 0 0
  | n + 1, e, 1, s, r0, i1, i2, i3, ti0, ti1 => (q_g (q_in i3)).bind fun _ => if 3 ≤ i3 then g_100 o n e 4 s 0 0 (i2) 0 0 0 else (q_g (q_in i2)).bind fun _ => if 500 < i2 then g_100 o n e 4 s 0 0 (i2) 0 0 0 else (q_g (q_in i3)).bind fun _ => if ¬ i3 = 0 then (q_g (q_in i3)).bind fun _ => if ¬ i3 = 1 then (q_gv s 7 (.ref r0) 6).bind fun v13 => (q_ia o s v13 i1).bind fun v15 => g_100 o n e 2 s r0 (i1) (i2) (i3) (v15) 0 else (q_gv s 7 (.ref r0) 5).bind fun v17 => (q_ia o s v17 i1).bind fun v19 => g_100 o n e 2 s r0 (i1) (i2) (i3) (v19) 0 else (q_gv s 7 (.ref r0) 4).bind fun v21 => (q_ia o s v21 i1).bind fun v23 => g_100 o n e 2 s r0 (i1) (i2) (i3) (v23) 0
  | n + 1, e, 2, s, r0, i1, i2, i3, ti0, ti1 => (q_g (q_in ti0)).bind fun _ => if ¬ ti0 = (-1) then (q_dec e).bind fun e12 => (q_rcv s 7 (.ref r0)).bind fun b8 => (g_100 o n e12 0 s b8 (ti0) 0 0 0 0).bind fun q7 => g_100 o n e 3 q7.1 r0 (i1) 0 (i3) (i2) (q7.2) else g_100 o n e 3 s r0 (i1) 0 (i3) (i2) (0)
  | n + 1, e, 3, s, r0, i1, i2, i3, ti0, ti1 => g_100 o n e 1 s r0 (i1) ((ti0 + ti1)) ((i3 + 1)) 0 0
  | n + 1, e, 4, s, r0, i1, i2, i3, ti0, ti1 => (q_g (q_in i2)).bind fun _ => if i2 ≤ 500 then g_100 o n e 5 s 0 0 0 0 (i2) 0 else g_100 o n e 5 s 0 0 0 0 (501) 0
  | n + 1, e, 5, s, r0, i1, i2, i3, ti0, ti1 => some (s, ti0)
  | _ + 1, _, _, _, _, _, _, _, _, _ => none
set_option maxRecDepth 100000 in
set_option maxHeartbeats 4000000 in
theorem c_100 (o : X_O) : ∀ n, (∀ (d e : Nat) (hd : 1 + e ≤ d) (s : Q_S) (r0 : Nat) (i1 : Int) (i2 : Int) (i3 : Int) (ti0 : Int) (ti1 : Int) (s9 : Q_S) (r : Int), g_100 o n e 0 s r0 i1 i2 i3 ti0 ti1 = some (s9, r) → ∀ lv : X_L, x_lget lv 0 = some (.ref r0) → x_lget lv 1 = some (.int (Int32.ofInt i1)) → Y o d 100 0 lv [] (q_y s) (fun s1 r1 => s1 = q_y s9 ∧ r1 = some (.int (Int32.ofInt r)))) ∧
    (∀ (d e : Nat) (hd : 1 + e ≤ d) (s : Q_S) (r0 : Nat) (i1 : Int) (i2 : Int) (i3 : Int) (ti0 : Int) (ti1 : Int) (s9 : Q_S) (r : Int), g_100 o n e 1 s r0 i1 i2 i3 ti0 ti1 = some (s9, r) → ∀ lv : X_L, x_lget lv 0 = some (.ref r0) → x_lget lv 1 = some (.int (Int32.ofInt i1)) → x_lget lv 2 = some (.int (Int32.ofInt i2)) → x_lget lv 3 = some (.int (Int32.ofInt i3)) → Y o d 100 4 lv [] (q_y s) (fun s1 r1 => s1 = q_y s9 ∧ r1 = some (.int (Int32.ofInt r)))) ∧
    (∀ (d e : Nat) (hd : 1 + e ≤ d) (s : Q_S) (r0 : Nat) (i1 : Int) (i2 : Int) (i3 : Int) (ti0 : Int) (ti1 : Int) (s9 : Q_S) (r : Int), g_100 o n e 2 s r0 i1 i2 i3 ti0 ti1 = some (s9, r) → ∀ lv : X_L, x_lget lv 0 = some (.ref r0) → x_lget lv 1 = some (.int (Int32.ofInt i1)) → x_lget lv 2 = some (.int (Int32.ofInt i2)) → x_lget lv 3 = some (.int (Int32.ofInt i3)) → Y o d 100 49 lv [.int (Int32.ofInt ti0)] (q_y s) (fun s1 r1 => s1 = q_y s9 ∧ r1 = some (.int (Int32.ofInt r)))) ∧
    (∀ (d e : Nat) (hd : 1 + e ≤ d) (s : Q_S) (r0 : Nat) (i1 : Int) (i2 : Int) (i3 : Int) (ti0 : Int) (ti1 : Int) (s9 : Q_S) (r : Int), g_100 o n e 3 s r0 i1 i2 i3 ti0 ti1 = some (s9, r) → ∀ lv : X_L, x_lget lv 0 = some (.ref r0) → x_lget lv 1 = some (.int (Int32.ofInt i1)) → x_lget lv 3 = some (.int (Int32.ofInt i3)) → Y o d 100 68 lv [.int (Int32.ofInt ti1), .int (Int32.ofInt ti0)] (q_y s) (fun s1 r1 => s1 = q_y s9 ∧ r1 = some (.int (Int32.ofInt r)))) ∧
    (∀ (d e : Nat) (hd : 1 + e ≤ d) (s : Q_S) (r0 : Nat) (i1 : Int) (i2 : Int) (i3 : Int) (ti0 : Int) (ti1 : Int) (s9 : Q_S) (r : Int), g_100 o n e 4 s r0 i1 i2 i3 ti0 ti1 = some (s9, r) → ∀ lv : X_L, x_lget lv 2 = some (.int (Int32.ofInt i2)) → Y o d 100 76 lv [] (q_y s) (fun s1 r1 => s1 = q_y s9 ∧ r1 = some (.int (Int32.ofInt r)))) ∧
    (∀ (d e : Nat) (hd : 1 + e ≤ d) (s : Q_S) (r0 : Nat) (i1 : Int) (i2 : Int) (i3 : Int) (ti0 : Int) (ti1 : Int) (s9 : Q_S) (r : Int), g_100 o n e 5 s r0 i1 i2 i3 ti0 ti1 = some (s9, r) → ∀ lv : X_L, True → Y o d 100 90 lv [.int (Int32.ofInt ti0)] (q_y s) (fun s1 r1 => s1 = q_y s9 ∧ r1 = some (.int (Int32.ofInt r)))) := by
  intro n
  induction n with
  | zero => exact ⟨fun d e hd s _ _ _ _ _ _ s9 r h => (by simp only [g_100] at h; cases h), fun d e hd s _ _ _ _ _ _ s9 r h => (by simp only [g_100] at h; cases h), fun d e hd s _ _ _ _ _ _ s9 r h => (by simp only [g_100] at h; cases h), fun d e hd s _ _ _ _ _ _ s9 r h => (by simp only [g_100] at h; cases h), fun d e hd s _ _ _ _ _ _ s9 r h => (by simp only [g_100] at h; cases h), fun d e hd s _ _ _ _ _ _ s9 r h => (by simp only [g_100] at h; cases h)⟩
  | succ n ih =>
    refine ⟨?_, ?_, ?_, ?_, ?_, ?_⟩
    · intro d e hd s r0 i1 i2 i3 ti0 ti1 s9 r h lv lk0 lk1
      obtain ⟨d, rfl⟩ : ∃ x, d = x + 1 := ⟨d - 1, by omega⟩
      simp only [g_100] at h
      refine Vic (v := Int32.ofInt 1) rfl rfl rfl ?_
      refine Vsin rfl rfl (fun lv lk2 hk => ?_)
      have lk0 := hk 0 _ lk0 (by decide) (by decide) (Or.inl (by decide))
      have lk1 := hk 1 _ lk1 (by decide) (by decide) (Or.inr rfl)
      refine Vic (v := Int32.ofInt 0) rfl rfl rfl ?_
      refine Vsin rfl rfl (fun lv lk3 hk => ?_)
      have lk0 := hk 0 _ lk0 (by decide) (by decide) (Or.inl (by decide))
      have lk1 := hk 1 _ lk1 (by decide) (by decide) (Or.inl (by decide))
      have lk2 := hk 2 _ lk2 (by decide) (by decide) (Or.inr rfl)
      exact ih.2.1 _ _ hd _ _ _ _ _ _ _ _ _ h lv lk0 lk1 lk2 lk3
    · intro d e hd s r0 i1 i2 i3 ti0 ti1 s9 r h lv lk0 lk1 lk2 lk3
      obtain ⟨d, rfl⟩ : ∃ x, d = x + 1 := ⟨d - 1, by omega⟩
      simp only [g_100] at h
      refine Vin rfl lk3 rfl ?_
      refine Vic (v := Int32.ofInt 3) rfl rfl rfl ?_
      have hz := y_bind h
      clear h
      obtain ⟨_, h2, h⟩ := hz
      have c1 := q_g_ok h2
      refine Uif (q_le (by decide) c1) rfl rfl rfl rfl rfl rfl rfl (fun c3 => ?_) (fun c3 => ?_)
      · rw [if_pos c3] at h
        exact ih.2.2.2.2.1 _ _ hd _ _ _ _ _ _ _ _ _ h lv lk2
      · rw [if_neg c3] at h
        refine Vin rfl lk2 rfl ?_
        refine Vsp (v := Int32.ofInt 500) rfl (by decide) rfl ?_
        have hz := y_bind h
        clear h
        obtain ⟨_, h5, h⟩ := hz
        have c4 := q_g_ok h5
        refine Uif (q_lt (by decide) c4) rfl rfl rfl rfl rfl rfl rfl (fun c6 => ?_) (fun c6 => ?_)
        · rw [if_pos c6] at h
          exact ih.2.2.2.2.1 _ _ hd _ _ _ _ _ _ _ _ _ h lv lk2
        · rw [if_neg c6] at h
          refine Vin rfl lk3 rfl ?_
          have hz := y_bind h
          clear h
          obtain ⟨_, h8, h⟩ := hz
          have c7 := q_g_ok h8
          refine Uif (not_congr (q_eq0 c7)) rfl rfl rfl rfl rfl rfl rfl (fun c9 => ?_) (fun c9 => ?_)
          · rw [if_pos c9] at h
            refine Vin rfl lk3 rfl ?_
            refine Vic (v := Int32.ofInt 1) rfl rfl rfl ?_
            have hz := y_bind h
            clear h
            obtain ⟨_, h11, h⟩ := hz
            have c10 := q_g_ok h11
            refine Uif (not_congr (q_eq c10 (by decide))) rfl rfl rfl rfl rfl rfl rfl (fun c12 => ?_) (fun c12 => ?_)
            · rw [if_pos c12] at h
              refine Van rfl lk0 rfl rfl ?_
              have hz := y_bind h
              clear h
              obtain ⟨v13, h14, h⟩ := hz
              have wv13 := (y_gv_ok h14).2
              refine Vgv h14 rfl rfl rfl ?_
              refine Vin rfl lk1 rfl ?_
              have hz := y_bind h
              clear h
              obtain ⟨v15, h16, h⟩ := hz
              refine Zia (q_ia_y h16) rfl rfl ?_
              exact ih.2.2.1 _ _ hd _ _ _ _ _ _ _ _ _ h lv lk0 lk1 lk2 lk3
            · rw [if_neg c12] at h
              refine Van rfl lk0 rfl rfl ?_
              have hz := y_bind h
              clear h
              obtain ⟨v17, h18, h⟩ := hz
              have wv17 := (y_gv_ok h18).2
              refine Vgv h18 rfl rfl rfl ?_
              refine Vin rfl lk1 rfl ?_
              have hz := y_bind h
              clear h
              obtain ⟨v19, h20, h⟩ := hz
              refine Zia (q_ia_y h20) rfl rfl ?_
              refine Ygo rfl rfl rfl rfl rfl rfl ?_
              exact ih.2.2.1 _ _ hd _ _ _ _ _ _ _ _ _ h lv lk0 lk1 lk2 lk3
          · rw [if_neg c9] at h
            refine Van rfl lk0 rfl rfl ?_
            have hz := y_bind h
            clear h
            obtain ⟨v21, h22, h⟩ := hz
            have wv21 := (y_gv_ok h22).2
            refine Vgv h22 rfl rfl rfl ?_
            refine Vin rfl lk1 rfl ?_
            have hz := y_bind h
            clear h
            obtain ⟨v23, h24, h⟩ := hz
            refine Zia (q_ia_y h24) rfl rfl ?_
            refine Ygo rfl rfl rfl rfl rfl rfl ?_
            exact ih.2.2.1 _ _ hd _ _ _ _ _ _ _ _ _ h lv lk0 lk1 lk2 lk3
    · intro d e hd s r0 i1 i2 i3 ti0 ti1 s9 r h lv lk0 lk1 lk2 lk3
      obtain ⟨d, rfl⟩ : ∃ x, d = x + 1 := ⟨d - 1, by omega⟩
      simp only [g_100] at h
      refine Vsi rfl rfl (fun lv lk4 hk => ?_)
      have lk0 := hk 0 _ lk0 (by decide) (by decide) (Or.inl (by decide))
      have lk1 := hk 1 _ lk1 (by decide) (by decide) (Or.inl (by decide))
      have lk2 := hk 2 _ lk2 (by decide) (by decide) (Or.inl (by decide))
      have lk3 := hk 3 _ lk3 (by decide) (by decide) (Or.inr rfl)
      refine Vin rfl lk2 rfl ?_
      refine Vi rfl lk4 rfl ?_
      refine Vic (v := Int32.ofInt (-1)) rfl rfl rfl ?_
      have hz := y_bind h
      clear h
      obtain ⟨_, h2, h⟩ := hz
      have c1 := q_g_ok h2
      refine Uif (not_congr (q_eq c1 (by decide))) rfl rfl rfl rfl rfl rfl rfl (fun c3 => ?_) (fun c3 => ?_)
      · rw [if_pos c3] at h
        refine Van rfl lk0 rfl rfl ?_
        refine Vi rfl lk4 rfl ?_
        have hz := y_bind h
        clear h
        obtain ⟨e12, h13, h⟩ := hz
        have h13x := q_dec_ok h13
        have hz := y_bind h
        clear h
        obtain ⟨b8, h9, h⟩ := hz
        obtain ⟨eh9, fh9, wh9⟩ := y_rcv_ok h9
        cases eh9
        have hz := y_bind h
        clear h
        obtain ⟨⟨s4, r5⟩, h6, h⟩ := hz
        try dsimp only at h
        refine Vcv rfl rfl rfl wh9 rfl rfl ⟨(Nat.le_of_ble_eq_true rfl), (Nat.le_of_ble_eq_true rfl)⟩ rfl (ih.1 _ _ (by omega) _ _ _ _ _ _ _ _ _ h6 _ rfl rfl) (fun z1 z2 zq => ?_)
        obtain ⟨rfl, rfl⟩ := zq
        try dsimp only [Option.toList, HAppend.hAppend, Append.append, List.append]
        exact ih.2.2.2.1 _ _ hd _ _ _ _ _ _ _ _ _ h lv lk0 lk1 lk3
      · rw [if_neg c3] at h
        refine Vic (v := Int32.ofInt 0) rfl rfl rfl ?_
        refine Ygo rfl rfl rfl rfl rfl rfl ?_
        exact ih.2.2.2.1 _ _ hd _ _ _ _ _ _ _ _ _ h lv lk0 lk1 lk3
    · intro d e hd s r0 i1 i2 i3 ti0 ti1 s9 r h lv lk0 lk1 lk3
      obtain ⟨d, rfl⟩ : ∃ x, d = x + 1 := ⟨d - 1, by omega⟩
      simp only [g_100] at h
      refine Uadd rfl rfl ?_
      refine Vsin rfl rfl (fun lv lk2 hk => ?_)
      have lk0 := hk 0 _ lk0 (by decide) (by decide) (Or.inl (by decide))
      have lk1 := hk 1 _ lk1 (by decide) (by decide) (Or.inr rfl)
      have lk3 := hk 3 _ lk3 (by decide) (by decide) (Or.inl (by decide))
      refine Uinc rfl lk3 rfl (fun lv lk3 hk => ?_)
      have lk0 := hk 0 _ lk0 (by decide) (by decide) (Or.inl (by decide))
      have lk1 := hk 1 _ lk1 (by decide) (by decide) (Or.inl (by decide))
      have lk2 := hk 2 _ lk2 (by decide) (by decide) (Or.inr rfl)
      refine Ygo rfl rfl rfl rfl rfl rfl ?_
      exact ih.2.1 _ _ hd _ _ _ _ _ _ _ _ _ h lv lk0 lk1 lk2 lk3
    · intro d e hd s r0 i1 i2 i3 ti0 ti1 s9 r h lv lk2
      obtain ⟨d, rfl⟩ : ∃ x, d = x + 1 := ⟨d - 1, by omega⟩
      simp only [g_100] at h
      refine Vin rfl lk2 rfl ?_
      refine Vsp (v := Int32.ofInt 500) rfl (by decide) rfl ?_
      have hz := y_bind h
      clear h
      obtain ⟨_, h2, h⟩ := hz
      have c1 := q_g_ok h2
      refine Uif (q_le c1 (by decide)) rfl rfl rfl rfl rfl rfl rfl (fun c3 => ?_) (fun c3 => ?_)
      · rw [if_pos c3] at h
        refine Vin rfl lk2 rfl ?_
        exact ih.2.2.2.2.2 _ _ hd _ _ _ _ _ _ _ _ _ h lv trivial
      · rw [if_neg c3] at h
        refine Vsp (v := Int32.ofInt 501) rfl (by decide) rfl ?_
        refine Ygo rfl rfl rfl rfl rfl rfl ?_
        exact ih.2.2.2.2.2 _ _ hd _ _ _ _ _ _ _ _ _ h lv trivial
    · intro d e hd s r0 i1 i2 i3 ti0 ti1 s9 r h lv _
      obtain ⟨d, rfl⟩ : ∃ x, d = x + 1 := ⟨d - 1, by omega⟩
      simp only [g_100] at h
      cases h
      exact Yret rfl rfl rfl rfl rfl rfl rfl ⟨rfl, rfl⟩

/-- StepRowsModel.lay -/
def g_101 (o : X_O) : Nat → Nat → Nat → Q_S → Nat → Int → Int → Int → Int → Int → Int → Option (Q_S × Int)
  | 0, _, _, _, _, _, _, _, _, _, _ => none
  | n + 1, e, 0, s, r0, i1, i2, i3, i4, i5, ti0 => (q_gi s 7 (.ref r0) 16).bind fun v1 => (q_g (q_in v1)).bind fun _ => if ¬ v1 = 500 then (q_gi s 7 (.ref r0) 8).bind fun v6 => (q_gi s 7 (.ref r0) 16).bind fun v8 => (q_gi s 7 (.ref r0) 16).bind fun v10 => (q_gi s 7 (.ref r0) 16).bind fun v12 => (q_pi s 7 (.ref r0) 16 (v12 + 1)).bind fun s14 => (q_gv s14 7 (.ref r0) 10).bind fun v16 => (q_gv s14 7 (.ref r0) 2).bind fun v18 => (q_ia o s14 v18 i1).bind fun v20 => (q_is s14 v16 ((500 * v6) + v8) v20).bind fun s22 => (q_gv s22 7 (.ref r0) 11).bind fun v24 => (q_gv s22 7 (.ref r0) 3).bind fun v26 => (q_la s22 v26 i1).bind fun v28 => (q_ls s22 v24 ((500 * v6) + v8) v28).bind fun s30 => (q_gv s30 7 (.ref r0) 15).bind fun v32 => (q_is s30 v32 ((500 * v6) + v8) i2).bind fun s34 => (q_gv s34 7 (.ref r0) 12).bind fun v36 => (q_is s34 v36 ((500 * v6) + v8) (-1)).bind fun s38 => (q_gv s38 7 (.ref r0) 13).bind fun v40 => (q_is s38 v40 ((500 * v6) + v8) (-1)).bind fun s42 => (q_gv s42 7 (.ref r0) 14).bind fun v44 => (q_is s42 v44 ((500 * v6) + v8) (-1)).bind fun s46 => (q_gv s46 7 (.ref r0) 4).bind fun v48 => (q_ia o s46 v48 i1).bind fun v50 => (q_g (q_in v50)).bind fun _ => if v50 = (-1) then g_101 o n e 2 s46 r0 (i1) 0 (((500 * v6) + v8)) (v10) (1) 0 else (q_gv s46 7 (.ref r0) 12).bind fun v55 => (q_gv s46 7 (.ref r0) 4).bind fun v57 => (q_ia o s46 v57 i1).bind fun v59 => (q_dec e).bind fun e78 => (q_rcv s46 7 (.ref r0)).bind fun b65 => (g_101 o n e78 0 s46 b65 (v59) (v10) 0 0 0 0).bind fun q64 => (q_is q64.1 v55 ((500 * v6) + v8) q64.2).bind fun s69 => (q_gv s69 7 (.ref r0) 12).bind fun v71 => (q_ia o s69 v71 ((500 * v6) + v8)).bind fun v73 => (q_g (q_in v73)).bind fun _ => if v73 = (-1) then g_101 o n e 1 s69 r0 (i1) 0 (((500 * v6) + v8)) (v10) 0 (0) else g_101 o n e 1 s69 r0 (i1) 0 (((500 * v6) + v8)) (v10) 0 (1) else some (s, (-1))
  | n + 1, e, 1, s, r0, i1, i2, i3, i4, i5, ti0 => g_101 o n e 2 s r0 (i1) 0 (i3) (i4) (ti0) 0
  | n + 1, e, 2, s, r0, i1, i2, i3, i4, i5, ti0 => (q_g (q_in i5)).bind fun _ => if i5 = 0 then g_101 o n e 4 s r0 (i1) 0 (i3) (i4) (i5) 0 else (q_gv s 7 (.ref r0) 5).bind fun v4 => (q_ia o s v4 i1).bind fun v6 => (q_g (q_in v6)).bind fun _ => if v6 = (-1) then g_101 o n e 4 s r0 (i1) 0 (i3) (i4) (i5) 0 else (q_gv s 7 (.ref r0) 13).bind fun v11 => (q_gv s 7 (.ref r0) 5).bind fun v13 => (q_ia o s v13 i1).bind fun v15 => (q_dec e).bind fun e34 => (q_rcv s 7 (.ref r0)).bind fun b21 => (g_101 o n e34 0 s b21 (v15) (i4) 0 0 0 0).bind fun q20 => (q_is q20.1 v11 i3 q20.2).bind fun s25 => (q_gv s25 7 (.ref r0) 13).bind fun v27 => (q_ia o s25 v27 i3).bind fun v29 => (q_g (q_in v29)).bind fun _ => if v29 = (-1) then g_101 o n e 3 s25 r0 (i1) 0 (i3) (i4) 0 (0) else g_101 o n e 3 s25 r0 (i1) 0 (i3) (i4) 0 (1)
  | n + 1, e, 3, s, r0, i1, i2, i3, i4, i5, ti0 => g_101 o n e 4 s r0 (i1) 0 (i3) (i4) (ti0) 0
  | n + 1, e, 4, s, r0, i1, i2, i3, i4, i5, ti0 => (q_g (q_in i5)).bind fun _ => if i5 = 0 then g_101 o n e 6 s 0 0 0 0 (i4) (i5) 0 else (q_gv s 7 (.ref r0) 6).bind fun v4 => (q_ia o s v4 i1).bind fun v6 => (q_g (q_in v6)).bind fun _ => if v6 = (-1) then g_101 o n e 6 s 0 0 0 0 (i4) (i5) 0 else (q_gv s 7 (.ref r0) 14).bind fun v11 => (q_gv s 7 (.ref r0) 6).bind fun v13 => (q_ia o s v13 i1).bind fun v15 => (q_dec e).bind fun e34 => (q_rcv s 7 (.ref r0)).bind fun b21 => (g_101 o n e34 0 s b21 (v15) (i4) 0 0 0 0).bind fun q20 => (q_is q20.1 v11 i3 q20.2).bind fun s25 => (q_gv s25 7 (.ref r0) 14).bind fun v27 => (q_ia o s25 v27 i3).bind fun v29 => (q_g (q_in v29)).bind fun _ => if v29 = (-1) then g_101 o n e 5 s25 0 0 0 0 (i4) 0 (0) else g_101 o n e 5 s25 0 0 0 0 (i4) 0 (1)
  | n + 1, e, 5, s, r0, i1, i2, i3, i4, i5, ti0 => g_101 o n e 6 s 0 0 0 0 (i4) (ti0) 0
  | n + 1, e, 6, s, r0, i1, i2, i3, i4, i5, ti0 => (q_g (q_in i5)).bind fun _ => if i5 = 0 then g_101 o n e 7 s 0 0 0 0 0 0 ((-1)) else g_101 o n e 7 s 0 0 0 0 0 0 (i4)
  | n + 1, e, 7, s, r0, i1, i2, i3, i4, i5, ti0 => some (s, ti0)
  | _ + 1, _, _, _, _, _, _, _, _, _, _ => none
set_option maxRecDepth 100000 in
set_option maxHeartbeats 4000000 in
theorem c_101 (o : X_O) : ∀ n, (∀ (d e : Nat) (hd : 1 + e ≤ d) (s : Q_S) (r0 : Nat) (i1 : Int) (i2 : Int) (i3 : Int) (i4 : Int) (i5 : Int) (ti0 : Int) (s9 : Q_S) (r : Int), g_101 o n e 0 s r0 i1 i2 i3 i4 i5 ti0 = some (s9, r) → ∀ lv : X_L, x_lget lv 0 = some (.ref r0) → x_lget lv 1 = some (.int (Int32.ofInt i1)) → x_lget lv 2 = some (.int (Int32.ofInt i2)) → Y o d 101 0 lv [] (q_y s) (fun s1 r1 => s1 = q_y s9 ∧ r1 = some (.int (Int32.ofInt r)))) ∧
    (∀ (d e : Nat) (hd : 1 + e ≤ d) (s : Q_S) (r0 : Nat) (i1 : Int) (i2 : Int) (i3 : Int) (i4 : Int) (i5 : Int) (ti0 : Int) (s9 : Q_S) (r : Int), g_101 o n e 1 s r0 i1 i2 i3 i4 i5 ti0 = some (s9, r) → ∀ lv : X_L, x_lget lv 0 = some (.ref r0) → x_lget lv 1 = some (.int (Int32.ofInt i1)) → x_lget lv 3 = some (.int (Int32.ofInt i3)) → x_lget lv 4 = some (.int (Int32.ofInt i4)) → Y o d 101 140 lv [.int (Int32.ofInt ti0)] (q_y s) (fun s1 r1 => s1 = q_y s9 ∧ r1 = some (.int (Int32.ofInt r)))) ∧
    (∀ (d e : Nat) (hd : 1 + e ≤ d) (s : Q_S) (r0 : Nat) (i1 : Int) (i2 : Int) (i3 : Int) (i4 : Int) (i5 : Int) (ti0 : Int) (s9 : Q_S) (r : Int), g_101 o n e 2 s r0 i1 i2 i3 i4 i5 ti0 = some (s9, r) → ∀ lv : X_L, x_lget lv 0 = some (.ref r0) → x_lget lv 1 = some (.int (Int32.ofInt i1)) → x_lget lv 3 = some (.int (Int32.ofInt i3)) → x_lget lv 4 = some (.int (Int32.ofInt i4)) → x_lget lv 5 = some (.int (Int32.ofInt i5)) → Y o d 101 142 lv [] (q_y s) (fun s1 r1 => s1 = q_y s9 ∧ r1 = some (.int (Int32.ofInt r)))) ∧
    (∀ (d e : Nat) (hd : 1 + e ≤ d) (s : Q_S) (r0 : Nat) (i1 : Int) (i2 : Int) (i3 : Int) (i4 : Int) (i5 : Int) (ti0 : Int) (s9 : Q_S) (r : Int), g_101 o n e 3 s r0 i1 i2 i3 i4 i5 ti0 = some (s9, r) → ∀ lv : X_L, x_lget lv 0 = some (.ref r0) → x_lget lv 1 = some (.int (Int32.ofInt i1)) → x_lget lv 3 = some (.int (Int32.ofInt i3)) → x_lget lv 4 = some (.int (Int32.ofInt i4)) → Y o d 101 190 lv [.int (Int32.ofInt ti0)] (q_y s) (fun s1 r1 => s1 = q_y s9 ∧ r1 = some (.int (Int32.ofInt r)))) ∧
    (∀ (d e : Nat) (hd : 1 + e ≤ d) (s : Q_S) (r0 : Nat) (i1 : Int) (i2 : Int) (i3 : Int) (i4 : Int) (i5 : Int) (ti0 : Int) (s9 : Q_S) (r : Int), g_101 o n e 4 s r0 i1 i2 i3 i4 i5 ti0 = some (s9, r) → ∀ lv : X_L, x_lget lv 0 = some (.ref r0) → x_lget lv 1 = some (.int (Int32.ofInt i1)) → x_lget lv 3 = some (.int (Int32.ofInt i3)) → x_lget lv 4 = some (.int (Int32.ofInt i4)) → x_lget lv 5 = some (.int (Int32.ofInt i5)) → Y o d 101 192 lv [] (q_y s) (fun s1 r1 => s1 = q_y s9 ∧ r1 = some (.int (Int32.ofInt r)))) ∧
    (∀ (d e : Nat) (hd : 1 + e ≤ d) (s : Q_S) (r0 : Nat) (i1 : Int) (i2 : Int) (i3 : Int) (i4 : Int) (i5 : Int) (ti0 : Int) (s9 : Q_S) (r : Int), g_101 o n e 5 s r0 i1 i2 i3 i4 i5 ti0 = some (s9, r) → ∀ lv : X_L, x_lget lv 4 = some (.int (Int32.ofInt i4)) → Y o d 101 240 lv [.int (Int32.ofInt ti0)] (q_y s) (fun s1 r1 => s1 = q_y s9 ∧ r1 = some (.int (Int32.ofInt r)))) ∧
    (∀ (d e : Nat) (hd : 1 + e ≤ d) (s : Q_S) (r0 : Nat) (i1 : Int) (i2 : Int) (i3 : Int) (i4 : Int) (i5 : Int) (ti0 : Int) (s9 : Q_S) (r : Int), g_101 o n e 6 s r0 i1 i2 i3 i4 i5 ti0 = some (s9, r) → ∀ lv : X_L, x_lget lv 4 = some (.int (Int32.ofInt i4)) → x_lget lv 5 = some (.int (Int32.ofInt i5)) → Y o d 101 242 lv [] (q_y s) (fun s1 r1 => s1 = q_y s9 ∧ r1 = some (.int (Int32.ofInt r)))) ∧
    (∀ (d e : Nat) (hd : 1 + e ≤ d) (s : Q_S) (r0 : Nat) (i1 : Int) (i2 : Int) (i3 : Int) (i4 : Int) (i5 : Int) (ti0 : Int) (s9 : Q_S) (r : Int), g_101 o n e 7 s r0 i1 i2 i3 i4 i5 ti0 = some (s9, r) → ∀ lv : X_L, True → Y o d 101 253 lv [.int (Int32.ofInt ti0)] (q_y s) (fun s1 r1 => s1 = q_y s9 ∧ r1 = some (.int (Int32.ofInt r)))) := by
  intro n
  induction n with
  | zero => exact ⟨fun d e hd s _ _ _ _ _ _ _ s9 r h => (by simp only [g_101] at h; cases h), fun d e hd s _ _ _ _ _ _ _ s9 r h => (by simp only [g_101] at h; cases h), fun d e hd s _ _ _ _ _ _ _ s9 r h => (by simp only [g_101] at h; cases h), fun d e hd s _ _ _ _ _ _ _ s9 r h => (by simp only [g_101] at h; cases h), fun d e hd s _ _ _ _ _ _ _ s9 r h => (by simp only [g_101] at h; cases h), fun d e hd s _ _ _ _ _ _ _ s9 r h => (by simp only [g_101] at h; cases h), fun d e hd s _ _ _ _ _ _ _ s9 r h => (by simp only [g_101] at h; cases h), fun d e hd s _ _ _ _ _ _ _ s9 r h => (by simp only [g_101] at h; cases h)⟩
  | succ n ih =>
    refine ⟨?_, ?_, ?_, ?_, ?_, ?_, ?_, ?_⟩
    · intro d e hd s r0 i1 i2 i3 i4 i5 ti0 s9 r h lv lk0 lk1 lk2
      obtain ⟨d, rfl⟩ : ∃ x, d = x + 1 := ⟨d - 1, by omega⟩
      simp only [g_101] at h
      refine Van rfl lk0 rfl rfl ?_
      have hz := y_bind h
      clear h
      obtain ⟨v1, h2, h⟩ := hz
      refine Zgi (q_gi_y h2) rfl rfl rfl ?_
      refine Vsp (v := Int32.ofInt 500) rfl (by decide) rfl ?_
      have hz := y_bind h
      clear h
      obtain ⟨_, h4, h⟩ := hz
      have c3 := q_g_ok h4
      refine Uif (not_congr (q_eq c3 (by decide))) rfl rfl rfl rfl rfl rfl rfl (fun c5 => ?_) (fun c5 => ?_)
      · rw [if_pos c5] at h
        refine Vsp (v := Int32.ofInt 500) rfl (by decide) rfl ?_
        refine Van rfl lk0 rfl rfl ?_
        have hz := y_bind h
        clear h
        obtain ⟨v6, h7, h⟩ := hz
        refine Zgi (q_gi_y h7) rfl rfl rfl ?_
        refine Umul rfl rfl ?_
        refine Van rfl lk0 rfl rfl ?_
        have hz := y_bind h
        clear h
        obtain ⟨v8, h9, h⟩ := hz
        refine Zgi (q_gi_y h9) rfl rfl rfl ?_
        refine Uadd rfl rfl ?_
        refine Vsin rfl rfl (fun lv lk3 hk => ?_)
        have lk0 := hk 0 _ lk0 (by decide) (by decide) (Or.inl (by decide))
        have lk1 := hk 1 _ lk1 (by decide) (by decide) (Or.inl (by decide))
        have lk2 := hk 2 _ lk2 (by decide) (by decide) (Or.inr rfl)
        refine Van rfl lk0 rfl rfl ?_
        have hz := y_bind h
        clear h
        obtain ⟨v10, h11, h⟩ := hz
        refine Zgi (q_gi_y h11) rfl rfl rfl ?_
        refine Vsi rfl rfl (fun lv lk4 hk => ?_)
        have lk0 := hk 0 _ lk0 (by decide) (by decide) (Or.inl (by decide))
        have lk1 := hk 1 _ lk1 (by decide) (by decide) (Or.inl (by decide))
        have lk2 := hk 2 _ lk2 (by decide) (by decide) (Or.inl (by decide))
        have lk3 := hk 3 _ lk3 (by decide) (by decide) (Or.inr rfl)
        refine Van rfl lk0 rfl rfl ?_
        refine Vdup rfl rfl rfl ?_
        have hz := y_bind h
        clear h
        obtain ⟨v12, h13, h⟩ := hz
        refine Zgi (q_gi_y h13) rfl rfl rfl ?_
        refine Vic (v := Int32.ofInt 1) rfl rfl rfl ?_
        refine Uadd rfl rfl ?_
        have hz := y_bind h
        clear h
        obtain ⟨s14, h15, h⟩ := hz
        refine Zpi (q_pi_y h15) rfl rfl rfl rfl ?_
        refine Van rfl lk0 rfl rfl ?_
        have hz := y_bind h
        clear h
        obtain ⟨v16, h17, h⟩ := hz
        have wv16 := (y_gv_ok h17).2
        refine Vgv h17 rfl rfl rfl ?_
        refine Vin rfl lk3 rfl ?_
        refine Van rfl lk0 rfl rfl ?_
        have hz := y_bind h
        clear h
        obtain ⟨v18, h19, h⟩ := hz
        have wv18 := (y_gv_ok h19).2
        refine Vgv h19 rfl rfl rfl ?_
        refine Vin rfl lk1 rfl ?_
        have hz := y_bind h
        clear h
        obtain ⟨v20, h21, h⟩ := hz
        refine Zia (q_ia_y h21) rfl rfl ?_
        have hz := y_bind h
        clear h
        obtain ⟨s22, h23, h⟩ := hz
        refine Zis (q_is_y h23) rfl rfl ?_
        refine Van rfl lk0 rfl rfl ?_
        have hz := y_bind h
        clear h
        obtain ⟨v24, h25, h⟩ := hz
        have wv24 := (y_gv_ok h25).2
        refine Vgv h25 rfl rfl rfl ?_
        refine Vin rfl lk3 rfl ?_
        refine Van rfl lk0 rfl rfl ?_
        have hz := y_bind h
        clear h
        obtain ⟨v26, h27, h⟩ := hz
        have wv26 := (y_gv_ok h27).2
        refine Vgv h27 rfl rfl rfl ?_
        refine Vin rfl lk1 rfl ?_
        have hz := y_bind h
        clear h
        obtain ⟨v28, h29, h⟩ := hz
        refine Zla (q_la_y h29) rfl rfl ?_
        have hz := y_bind h
        clear h
        obtain ⟨s30, h31, h⟩ := hz
        refine Zls (q_ls_y h31) rfl rfl ?_
        refine Van rfl lk0 rfl rfl ?_
        have hz := y_bind h
        clear h
        obtain ⟨v32, h33, h⟩ := hz
        have wv32 := (y_gv_ok h33).2
        refine Vgv h33 rfl rfl rfl ?_
        refine Vin rfl lk3 rfl ?_
        refine Vin rfl lk2 rfl ?_
        have hz := y_bind h
        clear h
        obtain ⟨s34, h35, h⟩ := hz
        refine Zis (q_is_y h35) rfl rfl ?_
        refine Van rfl lk0 rfl rfl ?_
        have hz := y_bind h
        clear h
        obtain ⟨v36, h37, h⟩ := hz
        have wv36 := (y_gv_ok h37).2
        refine Vgv h37 rfl rfl rfl ?_
        refine Vin rfl lk3 rfl ?_
        refine Vic (v := Int32.ofInt (-1)) rfl rfl rfl ?_
        have hz := y_bind h
        clear h
        obtain ⟨s38, h39, h⟩ := hz
        refine Zis (q_is_y h39) rfl rfl ?_
        refine Van rfl lk0 rfl rfl ?_
        have hz := y_bind h
        clear h
        obtain ⟨v40, h41, h⟩ := hz
        have wv40 := (y_gv_ok h41).2
        refine Vgv h41 rfl rfl rfl ?_
        refine Vin rfl lk3 rfl ?_
        refine Vic (v := Int32.ofInt (-1)) rfl rfl rfl ?_
        have hz := y_bind h
        clear h
        obtain ⟨s42, h43, h⟩ := hz
        refine Zis (q_is_y h43) rfl rfl ?_
        refine Van rfl lk0 rfl rfl ?_
        have hz := y_bind h
        clear h
        obtain ⟨v44, h45, h⟩ := hz
        have wv44 := (y_gv_ok h45).2
        refine Vgv h45 rfl rfl rfl ?_
        refine Vin rfl lk3 rfl ?_
        refine Vic (v := Int32.ofInt (-1)) rfl rfl rfl ?_
        have hz := y_bind h
        clear h
        obtain ⟨s46, h47, h⟩ := hz
        refine Zis (q_is_y h47) rfl rfl ?_
        refine Vic (v := Int32.ofInt 1) rfl rfl rfl ?_
        refine Vsi rfl rfl (fun lv lk5 hk => ?_)
        have lk0 := hk 0 _ lk0 (by decide) (by decide) (Or.inl (by decide))
        have lk1 := hk 1 _ lk1 (by decide) (by decide) (Or.inl (by decide))
        have lk3 := hk 3 _ lk3 (by decide) (by decide) (Or.inl (by decide))
        have lk4 := hk 4 _ lk4 (by decide) (by decide) (Or.inr rfl)
        refine Van rfl lk0 rfl rfl ?_
        have hz := y_bind h
        clear h
        obtain ⟨v48, h49, h⟩ := hz
        have wv48 := (y_gv_ok h49).2
        refine Vgv h49 rfl rfl rfl ?_
        refine Vin rfl lk1 rfl ?_
        have hz := y_bind h
        clear h
        obtain ⟨v50, h51, h⟩ := hz
        refine Zia (q_ia_y h51) rfl rfl ?_
        refine Vic (v := Int32.ofInt (-1)) rfl rfl rfl ?_
        have hz := y_bind h
        clear h
        obtain ⟨_, h53, h⟩ := hz
        have c52 := q_g_ok h53
        refine Uif (q_eq c52 (by decide)) rfl rfl rfl rfl rfl rfl rfl (fun c54 => ?_) (fun c54 => ?_)
        · rw [if_pos c54] at h
          exact ih.2.2.1 _ _ hd _ _ _ _ _ _ _ _ _ _ h lv lk0 lk1 lk3 lk4 lk5
        · rw [if_neg c54] at h
          refine Van rfl lk0 rfl rfl ?_
          have hz := y_bind h
          clear h
          obtain ⟨v55, h56, h⟩ := hz
          have wv55 := (y_gv_ok h56).2
          refine Vgv h56 rfl rfl rfl ?_
          refine Vin rfl lk3 rfl ?_
          refine Van rfl lk0 rfl rfl ?_
          refine Van rfl lk0 rfl rfl ?_
          have hz := y_bind h
          clear h
          obtain ⟨v57, h58, h⟩ := hz
          have wv57 := (y_gv_ok h58).2
          refine Vgv h58 rfl rfl rfl ?_
          refine Vin rfl lk1 rfl ?_
          have hz := y_bind h
          clear h
          obtain ⟨v59, h60, h⟩ := hz
          refine Zia (q_ia_y h60) rfl rfl ?_
          refine Vi rfl lk4 rfl ?_
          have hz := y_bind h
          clear h
          obtain ⟨e78, h79, h⟩ := hz
          have h79x := q_dec_ok h79
          have hz := y_bind h
          clear h
          obtain ⟨b65, h66, h⟩ := hz
          obtain ⟨eh66, fh66, wh66⟩ := y_rcv_ok h66
          cases eh66
          have hz := y_bind h
          clear h
          obtain ⟨⟨s61, r62⟩, h63, h⟩ := hz
          try dsimp only at h
          refine Vcv rfl rfl rfl wh66 rfl rfl ⟨(by simp only [List.take, List.reverse_cons, List.reverse_nil, List.nil_append, List.cons_append, List.map_cons, List.map_nil, y_cati, y_catl, y_catr, y_catn, y_cata, y_rv_cat wv55, List.sum_cons, List.sum_nil]; decide +kernel), (Nat.le_of_ble_eq_true rfl)⟩ rfl (ih.1 _ _ (by omega) _ _ _ _ _ _ _ _ _ _ h63 _ rfl rfl rfl) (fun z1 z2 zq => ?_)
          obtain ⟨rfl, rfl⟩ := zq
          try dsimp only [Option.toList, HAppend.hAppend, Append.append, List.append]
          have hz := y_bind h
          clear h
          obtain ⟨s69, h70, h⟩ := hz
          refine Zis (q_is_y h70) rfl rfl ?_
          refine Van rfl lk0 rfl rfl ?_
          have hz := y_bind h
          clear h
          obtain ⟨v71, h72, h⟩ := hz
          have wv71 := (y_gv_ok h72).2
          refine Vgv h72 rfl rfl rfl ?_
          refine Vin rfl lk3 rfl ?_
          have hz := y_bind h
          clear h
          obtain ⟨v73, h74, h⟩ := hz
          refine Zia (q_ia_y h74) rfl rfl ?_
          refine Vic (v := Int32.ofInt (-1)) rfl rfl rfl ?_
          have hz := y_bind h
          clear h
          obtain ⟨_, h76, h⟩ := hz
          have c75 := q_g_ok h76
          refine Uif (q_eq c75 (by decide)) rfl rfl rfl rfl rfl rfl rfl (fun c77 => ?_) (fun c77 => ?_)
          · rw [if_pos c77] at h
            refine Vic (v := Int32.ofInt 0) rfl rfl rfl ?_
            exact ih.2.1 _ _ hd _ _ _ _ _ _ _ _ _ _ h lv lk0 lk1 lk3 lk4
          · rw [if_neg c77] at h
            refine Vic (v := Int32.ofInt 1) rfl rfl rfl ?_
            refine Ygo rfl rfl rfl rfl rfl rfl ?_
            exact ih.2.1 _ _ hd _ _ _ _ _ _ _ _ _ _ h lv lk0 lk1 lk3 lk4
      · rw [if_neg c5] at h
        refine Vic (v := Int32.ofInt (-1)) rfl rfl rfl ?_
        cases h
        exact Yret rfl rfl rfl rfl rfl rfl rfl ⟨rfl, rfl⟩
    · intro d e hd s r0 i1 i2 i3 i4 i5 ti0 s9 r h lv lk0 lk1 lk3 lk4
      obtain ⟨d, rfl⟩ : ∃ x, d = x + 1 := ⟨d - 1, by omega⟩
      simp only [g_101] at h
      refine Vsi rfl rfl (fun lv lk5 hk => ?_)
      have lk0 := hk 0 _ lk0 (by decide) (by decide) (Or.inl (by decide))
      have lk1 := hk 1 _ lk1 (by decide) (by decide) (Or.inl (by decide))
      have lk3 := hk 3 _ lk3 (by decide) (by decide) (Or.inl (by decide))
      have lk4 := hk 4 _ lk4 (by decide) (by decide) (Or.inr rfl)
      exact ih.2.2.1 _ _ hd _ _ _ _ _ _ _ _ _ _ h lv lk0 lk1 lk3 lk4 lk5
    · intro d e hd s r0 i1 i2 i3 i4 i5 ti0 s9 r h lv lk0 lk1 lk3 lk4 lk5
      obtain ⟨d, rfl⟩ : ∃ x, d = x + 1 := ⟨d - 1, by omega⟩
      simp only [g_101] at h
      refine Vi rfl lk5 rfl ?_
      have hz := y_bind h
      clear h
      obtain ⟨_, h2, h⟩ := hz
      have c1 := q_g_ok h2
      refine Uif (q_eq0 c1) rfl rfl rfl rfl rfl rfl rfl (fun c3 => ?_) (fun c3 => ?_)
      · rw [if_pos c3] at h
        exact ih.2.2.2.2.1 _ _ hd _ _ _ _ _ _ _ _ _ _ h lv lk0 lk1 lk3 lk4 lk5
      · rw [if_neg c3] at h
        refine Van rfl lk0 rfl rfl ?_
        have hz := y_bind h
        clear h
        obtain ⟨v4, h5, h⟩ := hz
        have wv4 := (y_gv_ok h5).2
        refine Vgv h5 rfl rfl rfl ?_
        refine Vin rfl lk1 rfl ?_
        have hz := y_bind h
        clear h
        obtain ⟨v6, h7, h⟩ := hz
        refine Zia (q_ia_y h7) rfl rfl ?_
        refine Vic (v := Int32.ofInt (-1)) rfl rfl rfl ?_
        have hz := y_bind h
        clear h
        obtain ⟨_, h9, h⟩ := hz
        have c8 := q_g_ok h9
        refine Uif (q_eq c8 (by decide)) rfl rfl rfl rfl rfl rfl rfl (fun c10 => ?_) (fun c10 => ?_)
        · rw [if_pos c10] at h
          exact ih.2.2.2.2.1 _ _ hd _ _ _ _ _ _ _ _ _ _ h lv lk0 lk1 lk3 lk4 lk5
        · rw [if_neg c10] at h
          refine Van rfl lk0 rfl rfl ?_
          have hz := y_bind h
          clear h
          obtain ⟨v11, h12, h⟩ := hz
          have wv11 := (y_gv_ok h12).2
          refine Vgv h12 rfl rfl rfl ?_
          refine Vin rfl lk3 rfl ?_
          refine Van rfl lk0 rfl rfl ?_
          refine Van rfl lk0 rfl rfl ?_
          have hz := y_bind h
          clear h
          obtain ⟨v13, h14, h⟩ := hz
          have wv13 := (y_gv_ok h14).2
          refine Vgv h14 rfl rfl rfl ?_
          refine Vin rfl lk1 rfl ?_
          have hz := y_bind h
          clear h
          obtain ⟨v15, h16, h⟩ := hz
          refine Zia (q_ia_y h16) rfl rfl ?_
          refine Vi rfl lk4 rfl ?_
          have hz := y_bind h
          clear h
          obtain ⟨e34, h35, h⟩ := hz
          have h35x := q_dec_ok h35
          have hz := y_bind h
          clear h
          obtain ⟨b21, h22, h⟩ := hz
          obtain ⟨eh22, fh22, wh22⟩ := y_rcv_ok h22
          cases eh22
          have hz := y_bind h
          clear h
          obtain ⟨⟨s17, r18⟩, h19, h⟩ := hz
          try dsimp only at h
          refine Vcv rfl rfl rfl wh22 rfl rfl ⟨(by simp only [List.take, List.reverse_cons, List.reverse_nil, List.nil_append, List.cons_append, List.map_cons, List.map_nil, y_cati, y_catl, y_catr, y_catn, y_cata, y_rv_cat wv11, List.sum_cons, List.sum_nil]; decide +kernel), (Nat.le_of_ble_eq_true rfl)⟩ rfl (ih.1 _ _ (by omega) _ _ _ _ _ _ _ _ _ _ h19 _ rfl rfl rfl) (fun z1 z2 zq => ?_)
          obtain ⟨rfl, rfl⟩ := zq
          try dsimp only [Option.toList, HAppend.hAppend, Append.append, List.append]
          have hz := y_bind h
          clear h
          obtain ⟨s25, h26, h⟩ := hz
          refine Zis (q_is_y h26) rfl rfl ?_
          refine Van rfl lk0 rfl rfl ?_
          have hz := y_bind h
          clear h
          obtain ⟨v27, h28, h⟩ := hz
          have wv27 := (y_gv_ok h28).2
          refine Vgv h28 rfl rfl rfl ?_
          refine Vin rfl lk3 rfl ?_
          have hz := y_bind h
          clear h
          obtain ⟨v29, h30, h⟩ := hz
          refine Zia (q_ia_y h30) rfl rfl ?_
          refine Vic (v := Int32.ofInt (-1)) rfl rfl rfl ?_
          have hz := y_bind h
          clear h
          obtain ⟨_, h32, h⟩ := hz
          have c31 := q_g_ok h32
          refine Uif (q_eq c31 (by decide)) rfl rfl rfl rfl rfl rfl rfl (fun c33 => ?_) (fun c33 => ?_)
          · rw [if_pos c33] at h
            refine Vic (v := Int32.ofInt 0) rfl rfl rfl ?_
            exact ih.2.2.2.1 _ _ hd _ _ _ _ _ _ _ _ _ _ h lv lk0 lk1 lk3 lk4
          · rw [if_neg c33] at h
            refine Vic (v := Int32.ofInt 1) rfl rfl rfl ?_
            refine Ygo rfl rfl rfl rfl rfl rfl ?_
            exact ih.2.2.2.1 _ _ hd _ _ _ _ _ _ _ _ _ _ h lv lk0 lk1 lk3 lk4
    · intro d e hd s r0 i1 i2 i3 i4 i5 ti0 s9 r h lv lk0 lk1 lk3 lk4
      obtain ⟨d, rfl⟩ : ∃ x, d = x + 1 := ⟨d - 1, by omega⟩
      simp only [g_101] at h
      refine Vsi rfl rfl (fun lv lk5 hk => ?_)
      have lk0 := hk 0 _ lk0 (by decide) (by decide) (Or.inl (by decide))
      have lk1 := hk 1 _ lk1 (by decide) (by decide) (Or.inl (by decide))
      have lk3 := hk 3 _ lk3 (by decide) (by decide) (Or.inl (by decide))
      have lk4 := hk 4 _ lk4 (by decide) (by decide) (Or.inr rfl)
      exact ih.2.2.2.2.1 _ _ hd _ _ _ _ _ _ _ _ _ _ h lv lk0 lk1 lk3 lk4 lk5
    · intro d e hd s r0 i1 i2 i3 i4 i5 ti0 s9 r h lv lk0 lk1 lk3 lk4 lk5
      obtain ⟨d, rfl⟩ : ∃ x, d = x + 1 := ⟨d - 1, by omega⟩
      simp only [g_101] at h
      refine Vi rfl lk5 rfl ?_
      have hz := y_bind h
      clear h
      obtain ⟨_, h2, h⟩ := hz
      have c1 := q_g_ok h2
      refine Uif (q_eq0 c1) rfl rfl rfl rfl rfl rfl rfl (fun c3 => ?_) (fun c3 => ?_)
      · rw [if_pos c3] at h
        exact ih.2.2.2.2.2.2.1 _ _ hd _ _ _ _ _ _ _ _ _ _ h lv lk4 lk5
      · rw [if_neg c3] at h
        refine Van rfl lk0 rfl rfl ?_
        have hz := y_bind h
        clear h
        obtain ⟨v4, h5, h⟩ := hz
        have wv4 := (y_gv_ok h5).2
        refine Vgv h5 rfl rfl rfl ?_
        refine Vin rfl lk1 rfl ?_
        have hz := y_bind h
        clear h
        obtain ⟨v6, h7, h⟩ := hz
        refine Zia (q_ia_y h7) rfl rfl ?_
        refine Vic (v := Int32.ofInt (-1)) rfl rfl rfl ?_
        have hz := y_bind h
        clear h
        obtain ⟨_, h9, h⟩ := hz
        have c8 := q_g_ok h9
        refine Uif (q_eq c8 (by decide)) rfl rfl rfl rfl rfl rfl rfl (fun c10 => ?_) (fun c10 => ?_)
        · rw [if_pos c10] at h
          exact ih.2.2.2.2.2.2.1 _ _ hd _ _ _ _ _ _ _ _ _ _ h lv lk4 lk5
        · rw [if_neg c10] at h
          refine Van rfl lk0 rfl rfl ?_
          have hz := y_bind h
          clear h
          obtain ⟨v11, h12, h⟩ := hz
          have wv11 := (y_gv_ok h12).2
          refine Vgv h12 rfl rfl rfl ?_
          refine Vin rfl lk3 rfl ?_
          refine Van rfl lk0 rfl rfl ?_
          refine Van rfl lk0 rfl rfl ?_
          have hz := y_bind h
          clear h
          obtain ⟨v13, h14, h⟩ := hz
          have wv13 := (y_gv_ok h14).2
          refine Vgv h14 rfl rfl rfl ?_
          refine Vin rfl lk1 rfl ?_
          have hz := y_bind h
          clear h
          obtain ⟨v15, h16, h⟩ := hz
          refine Zia (q_ia_y h16) rfl rfl ?_
          refine Vi rfl lk4 rfl ?_
          have hz := y_bind h
          clear h
          obtain ⟨e34, h35, h⟩ := hz
          have h35x := q_dec_ok h35
          have hz := y_bind h
          clear h
          obtain ⟨b21, h22, h⟩ := hz
          obtain ⟨eh22, fh22, wh22⟩ := y_rcv_ok h22
          cases eh22
          have hz := y_bind h
          clear h
          obtain ⟨⟨s17, r18⟩, h19, h⟩ := hz
          try dsimp only at h
          refine Vcv rfl rfl rfl wh22 rfl rfl ⟨(by simp only [List.take, List.reverse_cons, List.reverse_nil, List.nil_append, List.cons_append, List.map_cons, List.map_nil, y_cati, y_catl, y_catr, y_catn, y_cata, y_rv_cat wv11, List.sum_cons, List.sum_nil]; decide +kernel), (Nat.le_of_ble_eq_true rfl)⟩ rfl (ih.1 _ _ (by omega) _ _ _ _ _ _ _ _ _ _ h19 _ rfl rfl rfl) (fun z1 z2 zq => ?_)
          obtain ⟨rfl, rfl⟩ := zq
          try dsimp only [Option.toList, HAppend.hAppend, Append.append, List.append]
          have hz := y_bind h
          clear h
          obtain ⟨s25, h26, h⟩ := hz
          refine Zis (q_is_y h26) rfl rfl ?_
          refine Van rfl lk0 rfl rfl ?_
          have hz := y_bind h
          clear h
          obtain ⟨v27, h28, h⟩ := hz
          have wv27 := (y_gv_ok h28).2
          refine Vgv h28 rfl rfl rfl ?_
          refine Vin rfl lk3 rfl ?_
          have hz := y_bind h
          clear h
          obtain ⟨v29, h30, h⟩ := hz
          refine Zia (q_ia_y h30) rfl rfl ?_
          refine Vic (v := Int32.ofInt (-1)) rfl rfl rfl ?_
          have hz := y_bind h
          clear h
          obtain ⟨_, h32, h⟩ := hz
          have c31 := q_g_ok h32
          refine Uif (q_eq c31 (by decide)) rfl rfl rfl rfl rfl rfl rfl (fun c33 => ?_) (fun c33 => ?_)
          · rw [if_pos c33] at h
            refine Vic (v := Int32.ofInt 0) rfl rfl rfl ?_
            exact ih.2.2.2.2.2.1 _ _ hd _ _ _ _ _ _ _ _ _ _ h lv lk4
          · rw [if_neg c33] at h
            refine Vic (v := Int32.ofInt 1) rfl rfl rfl ?_
            refine Ygo rfl rfl rfl rfl rfl rfl ?_
            exact ih.2.2.2.2.2.1 _ _ hd _ _ _ _ _ _ _ _ _ _ h lv lk4
    · intro d e hd s r0 i1 i2 i3 i4 i5 ti0 s9 r h lv lk4
      obtain ⟨d, rfl⟩ : ∃ x, d = x + 1 := ⟨d - 1, by omega⟩
      simp only [g_101] at h
      refine Vsi rfl rfl (fun lv lk5 hk => ?_)
      have lk4 := hk 4 _ lk4 (by decide) (by decide) (Or.inr rfl)
      exact ih.2.2.2.2.2.2.1 _ _ hd _ _ _ _ _ _ _ _ _ _ h lv lk4 lk5
    · intro d e hd s r0 i1 i2 i3 i4 i5 ti0 s9 r h lv lk4 lk5
      obtain ⟨d, rfl⟩ : ∃ x, d = x + 1 := ⟨d - 1, by omega⟩
      simp only [g_101] at h
      refine Vi rfl lk5 rfl ?_
      have hz := y_bind h
      clear h
      obtain ⟨_, h2, h⟩ := hz
      have c1 := q_g_ok h2
      refine Uif (q_eq0 c1) rfl rfl rfl rfl rfl rfl rfl (fun c3 => ?_) (fun c3 => ?_)
      · rw [if_pos c3] at h
        refine Vic (v := Int32.ofInt (-1)) rfl rfl rfl ?_
        exact ih.2.2.2.2.2.2.2 _ _ hd _ _ _ _ _ _ _ _ _ _ h lv trivial
      · rw [if_neg c3] at h
        refine Vi rfl lk4 rfl ?_
        refine Ygo rfl rfl rfl rfl rfl rfl ?_
        exact ih.2.2.2.2.2.2.2 _ _ hd _ _ _ _ _ _ _ _ _ _ h lv trivial
    · intro d e hd s r0 i1 i2 i3 i4 i5 ti0 s9 r h lv _
      obtain ⟨d, rfl⟩ : ∃ x, d = x + 1 := ⟨d - 1, by omega⟩
      simp only [g_101] at h
      cases h
      exact Yret rfl rfl rfl rfl rfl rfl rfl ⟨rfl, rfl⟩

/-- StepRowsModel.make -/
def g_99 (o : X_O) : Nat → Nat → Q_S → Nat → Int → Int → Option (Q_S × Int)
  | 0, _, _, _, _, _ => none
  | n + 1, 0, s, r0, i1, ti0 => (q_pi s 7 (.ref r0) 0 0).bind fun s1 => (q_rcv s1 7 (.ref r0)).bind fun b7 => (g_98 o n 0 s1 b7 (i1) 0).bind fun q6 => (q_g (q_in q6.2)).bind fun _ => if ¬ q6.2 = 0 then (q_gi q6.1 7 (.ref r0) 8).bind fun v14 => (q_g (q_in v14)).bind fun _ => if ¬ v14 = 20 then (q_pi q6.1 7 (.ref r0) 16 0).bind fun s19 => (q_rcv s19 7 (.ref r0)).bind fun b25 => (g_101 o n 510 0 s19 b25 (i1) ((-1)) 0 0 0 0).bind fun q24 => (q_g (q_in q24.2)).bind fun _ => if ¬ q24.2 = (-1) then (q_gv q24.1 7 (.ref r0) 9).bind fun v32 => (q_gi q24.1 7 (.ref r0) 8).bind fun v34 => (q_gi q24.1 7 (.ref r0) 16).bind fun v36 => (q_is q24.1 v32 v34 v36).bind fun s38 => (q_gi s38 7 (.ref r0) 8).bind fun v40 => (q_pi s38 7 (.ref r0) 8 (v40 + 1)).bind fun s42 => (q_gi s42 7 (.ref r0) 8).bind fun v44 => some (s42, (v44 - 1)) else some (q24.1, (-1)) else (q_rcv q6.1 7 (.ref r0)).bind fun b50 => (g_100 o n 310 0 q6.1 b50 (i1) 0 0 0 0).bind fun q49 => (q_g (q_in q49.2)).bind fun _ => if q49.2 ≤ 500 then g_99 o n 1 q49.1 0 0 ((-2)) else g_99 o n 1 q49.1 0 0 ((-1)) else some (q6.1, (-1))
  | n + 1, 1, s, r0, i1, ti0 => some (s, ti0)
  | _ + 1, _, _, _, _, _ => none
set_option maxRecDepth 100000 in
set_option maxHeartbeats 4000000 in
theorem c_99 (o : X_O) : ∀ n, (∀ (d : Nat) (hd : 512 ≤ d) (s : Q_S) (r0 : Nat) (i1 : Int) (ti0 : Int) (s9 : Q_S) (r : Int), g_99 o n 0 s r0 i1 ti0 = some (s9, r) → ∀ lv : X_L, x_lget lv 0 = some (.ref r0) → x_lget lv 1 = some (.int (Int32.ofInt i1)) → Y o d 99 0 lv [] (q_y s) (fun s1 r1 => s1 = q_y s9 ∧ r1 = some (.int (Int32.ofInt r)))) ∧
    (∀ (d : Nat) (hd : 512 ≤ d) (s : Q_S) (r0 : Nat) (i1 : Int) (ti0 : Int) (s9 : Q_S) (r : Int), g_99 o n 1 s r0 i1 ti0 = some (s9, r) → ∀ lv : X_L, True → Y o d 99 41 lv [.int (Int32.ofInt ti0)] (q_y s) (fun s1 r1 => s1 = q_y s9 ∧ r1 = some (.int (Int32.ofInt r)))) := by
  intro n
  induction n with
  | zero => exact ⟨fun d hd s _ _ _ s9 r h => (by simp only [g_99] at h; cases h), fun d hd s _ _ _ s9 r h => (by simp only [g_99] at h; cases h)⟩
  | succ n ih =>
    refine ⟨?_, ?_⟩
    · intro d hd s r0 i1 ti0 s9 r h lv lk0 lk1
      obtain ⟨d, rfl⟩ : ∃ x, d = x + 1 := ⟨d - 1, by omega⟩
      simp only [g_99] at h
      refine Van rfl lk0 rfl rfl ?_
      refine Vic (v := Int32.ofInt 0) rfl rfl rfl ?_
      have hz := y_bind h
      clear h
      obtain ⟨s1, h2, h⟩ := hz
      refine Zpi (q_pi_y h2) rfl rfl rfl rfl ?_
      refine Van rfl lk0 rfl rfl ?_
      refine Vin rfl lk1 rfl ?_
      have hz := y_bind h
      clear h
      obtain ⟨b7, h8, h⟩ := hz
      obtain ⟨eh8, fh8, wh8⟩ := y_rcv_ok h8
      cases eh8
      have hz := y_bind h
      clear h
      obtain ⟨⟨s3, r4⟩, h5, h⟩ := hz
      try dsimp only at h
      refine Vcv rfl rfl rfl wh8 rfl rfl ⟨(Nat.le_of_ble_eq_true rfl), (Nat.le_of_ble_eq_true rfl)⟩ rfl ((c_98 o n).1 _ (by omega) _ _ _ _ _ _ h5 _ rfl rfl) (fun z1 z2 zq => ?_)
      obtain ⟨rfl, rfl⟩ := zq
      try dsimp only [Option.toList, HAppend.hAppend, Append.append, List.append]
      have hz := y_bind h
      clear h
      obtain ⟨_, h12, h⟩ := hz
      have c11 := q_g_ok h12
      refine Uif (not_congr (q_eq0 c11)) rfl rfl rfl rfl rfl rfl rfl (fun c13 => ?_) (fun c13 => ?_)
      · rw [if_pos c13] at h
        refine Van rfl lk0 rfl rfl ?_
        have hz := y_bind h
        clear h
        obtain ⟨v14, h15, h⟩ := hz
        refine Zgi (q_gi_y h15) rfl rfl rfl ?_
        refine Vbp (v := Int32.ofInt 20) rfl (by decide) rfl ?_
        have hz := y_bind h
        clear h
        obtain ⟨_, h17, h⟩ := hz
        have c16 := q_g_ok h17
        refine Uif (not_congr (q_eq c16 (by decide))) rfl rfl rfl rfl rfl rfl rfl (fun c18 => ?_) (fun c18 => ?_)
        · rw [if_pos c18] at h
          refine Van rfl lk0 rfl rfl ?_
          refine Vic (v := Int32.ofInt 0) rfl rfl rfl ?_
          have hz := y_bind h
          clear h
          obtain ⟨s19, h20, h⟩ := hz
          refine Zpi (q_pi_y h20) rfl rfl rfl rfl ?_
          refine Van rfl lk0 rfl rfl ?_
          refine Vin rfl lk1 rfl ?_
          refine Vic (v := Int32.ofInt (-1)) rfl rfl rfl ?_
          have hz := y_bind h
          clear h
          obtain ⟨b25, h26, h⟩ := hz
          obtain ⟨eh26, fh26, wh26⟩ := y_rcv_ok h26
          cases eh26
          have hz := y_bind h
          clear h
          obtain ⟨⟨s21, r22⟩, h23, h⟩ := hz
          try dsimp only at h
          refine Vcv rfl rfl rfl wh26 rfl rfl ⟨(Nat.le_of_ble_eq_true rfl), (Nat.le_of_ble_eq_true rfl)⟩ rfl ((c_101 o n).1 _ _ (by omega) _ _ _ _ _ _ _ _ _ _ h23 _ rfl rfl rfl) (fun z1 z2 zq => ?_)
          obtain ⟨rfl, rfl⟩ := zq
          try dsimp only [Option.toList, HAppend.hAppend, Append.append, List.append]
          refine Vic (v := Int32.ofInt (-1)) rfl rfl rfl ?_
          have hz := y_bind h
          clear h
          obtain ⟨_, h30, h⟩ := hz
          have c29 := q_g_ok h30
          refine Uif (not_congr (q_eq c29 (by decide))) rfl rfl rfl rfl rfl rfl rfl (fun c31 => ?_) (fun c31 => ?_)
          · rw [if_pos c31] at h
            refine Van rfl lk0 rfl rfl ?_
            have hz := y_bind h
            clear h
            obtain ⟨v32, h33, h⟩ := hz
            have wv32 := (y_gv_ok h33).2
            refine Vgv h33 rfl rfl rfl ?_
            refine Van rfl lk0 rfl rfl ?_
            have hz := y_bind h
            clear h
            obtain ⟨v34, h35, h⟩ := hz
            refine Zgi (q_gi_y h35) rfl rfl rfl ?_
            refine Van rfl lk0 rfl rfl ?_
            have hz := y_bind h
            clear h
            obtain ⟨v36, h37, h⟩ := hz
            refine Zgi (q_gi_y h37) rfl rfl rfl ?_
            have hz := y_bind h
            clear h
            obtain ⟨s38, h39, h⟩ := hz
            refine Zis (q_is_y h39) rfl rfl ?_
            refine Van rfl lk0 rfl rfl ?_
            refine Vdup rfl rfl rfl ?_
            have hz := y_bind h
            clear h
            obtain ⟨v40, h41, h⟩ := hz
            refine Zgi (q_gi_y h41) rfl rfl rfl ?_
            refine Vic (v := Int32.ofInt 1) rfl rfl rfl ?_
            refine Uadd rfl rfl ?_
            have hz := y_bind h
            clear h
            obtain ⟨s42, h43, h⟩ := hz
            refine Zpi (q_pi_y h43) rfl rfl rfl rfl ?_
            refine Van rfl lk0 rfl rfl ?_
            have hz := y_bind h
            clear h
            obtain ⟨v44, h45, h⟩ := hz
            refine Zgi (q_gi_y h45) rfl rfl rfl ?_
            refine Vic (v := Int32.ofInt 1) rfl rfl rfl ?_
            refine Usub rfl rfl ?_
            cases h
            exact Yret rfl rfl rfl rfl rfl rfl rfl ⟨rfl, rfl⟩
          · rw [if_neg c31] at h
            refine Vic (v := Int32.ofInt (-1)) rfl rfl rfl ?_
            cases h
            exact Yret rfl rfl rfl rfl rfl rfl rfl ⟨rfl, rfl⟩
        · rw [if_neg c18] at h
          refine Van rfl lk0 rfl rfl ?_
          refine Vin rfl lk1 rfl ?_
          have hz := y_bind h
          clear h
          obtain ⟨b50, h51, h⟩ := hz
          obtain ⟨eh51, fh51, wh51⟩ := y_rcv_ok h51
          cases eh51
          have hz := y_bind h
          clear h
          obtain ⟨⟨s46, r47⟩, h48, h⟩ := hz
          try dsimp only at h
          refine Vcv rfl rfl rfl wh51 rfl rfl ⟨(Nat.le_of_ble_eq_true rfl), (Nat.le_of_ble_eq_true rfl)⟩ rfl ((c_100 o n).1 _ _ (by omega) _ _ _ _ _ _ _ _ _ h48 _ rfl rfl) (fun z1 z2 zq => ?_)
          obtain ⟨rfl, rfl⟩ := zq
          try dsimp only [Option.toList, HAppend.hAppend, Append.append, List.append]
          refine Vsp (v := Int32.ofInt 500) rfl (by decide) rfl ?_
          have hz := y_bind h
          clear h
          obtain ⟨_, h55, h⟩ := hz
          have c54 := q_g_ok h55
          refine Uif (q_le c54 (by decide)) rfl rfl rfl rfl rfl rfl rfl (fun c56 => ?_) (fun c56 => ?_)
          · rw [if_pos c56] at h
            refine Vbp (v := Int32.ofInt (-2)) rfl (by decide) rfl ?_
            exact ih.2 _ hd _ _ _ _ _ _ h lv trivial
          · rw [if_neg c56] at h
            refine Vic (v := Int32.ofInt (-1)) rfl rfl rfl ?_
            refine Ygo rfl rfl rfl rfl rfl rfl ?_
            exact ih.2 _ hd _ _ _ _ _ _ h lv trivial
      · rw [if_neg c13] at h
        refine Vic (v := Int32.ofInt (-1)) rfl rfl rfl ?_
        cases h
        exact Yret rfl rfl rfl rfl rfl rfl rfl ⟨rfl, rfl⟩
    · intro d hd s r0 i1 ti0 s9 r h lv _
      obtain ⟨d, rfl⟩ : ∃ x, d = x + 1 := ⟨d - 1, by omega⟩
      simp only [g_99] at h
      cases h
      exact Yret rfl rfl rfl rfl rfl rfl rfl ⟨rfl, rfl⟩

/-- StepRowsModel.isProgram -/
def g_103 (o : X_O) : Nat → Nat → Q_S → Nat → Int → Int → Option (Q_S × Int)
  | 0, _, _, _, _, _ => none
  | n + 1, 0, s, r0, i1, ti0 => (q_g (q_in i1)).bind fun _ => if i1 < 0 then g_103 o n 1 s 0 0 0 else (q_gi s 7 (.ref r0) 8).bind fun v4 => (q_g (q_in i1 ∧ q_in v4)).bind fun _ => if v4 ≤ i1 then g_103 o n 1 s 0 0 0 else g_103 o n 2 s 0 0 (1)
  | n + 1, 1, s, r0, i1, ti0 => g_103 o n 2 s 0 0 (0)
  | n + 1, 2, s, r0, i1, ti0 => (q_g (ti0 = 0 ∨ ti0 = 1)).bind fun _ => some (s, ti0)
  | _ + 1, _, _, _, _, _ => none
set_option maxRecDepth 100000 in
set_option maxHeartbeats 4000000 in
theorem c_103 (o : X_O) : ∀ n, (∀ (d : Nat) (hd : 0 ≤ d) (s : Q_S) (r0 : Nat) (i1 : Int) (ti0 : Int) (s9 : Q_S) (r : Int), g_103 o n 0 s r0 i1 ti0 = some (s9, r) → ∀ lv : X_L, x_lget lv 0 = some (.ref r0) → x_lget lv 1 = some (.int (Int32.ofInt i1)) → Y o d 103 0 lv [] (q_y s) (fun s1 r1 => s1 = q_y s9 ∧ r1 = some (.int (Int32.ofInt r)))) ∧
    (∀ (d : Nat) (hd : 0 ≤ d) (s : Q_S) (r0 : Nat) (i1 : Int) (ti0 : Int) (s9 : Q_S) (r : Int), g_103 o n 1 s r0 i1 ti0 = some (s9, r) → ∀ lv : X_L, True → Y o d 103 16 lv [] (q_y s) (fun s1 r1 => s1 = q_y s9 ∧ r1 = some (.int (Int32.ofInt r)))) ∧
    (∀ (d : Nat) (hd : 0 ≤ d) (s : Q_S) (r0 : Nat) (i1 : Int) (ti0 : Int) (s9 : Q_S) (r : Int), g_103 o n 2 s r0 i1 ti0 = some (s9, r) → ∀ lv : X_L, True → Y o d 103 17 lv [.int (Int32.ofInt ti0)] (q_y s) (fun s1 r1 => s1 = q_y s9 ∧ r1 = some (.int (Int32.ofInt r)))) := by
  intro n
  induction n with
  | zero => exact ⟨fun d hd s _ _ _ s9 r h => (by simp only [g_103] at h; cases h), fun d hd s _ _ _ s9 r h => (by simp only [g_103] at h; cases h), fun d hd s _ _ _ s9 r h => (by simp only [g_103] at h; cases h)⟩
  | succ n ih =>
    refine ⟨?_, ?_, ?_⟩
    · intro d hd s r0 i1 ti0 s9 r h lv lk0 lk1
      simp only [g_103] at h
      refine Vin rfl lk1 rfl ?_
      have hz := y_bind h
      clear h
      obtain ⟨_, h2, h⟩ := hz
      have c1 := q_g_ok h2
      refine Uif (q_lt0 c1) rfl rfl rfl rfl rfl rfl rfl (fun c3 => ?_) (fun c3 => ?_)
      · rw [if_pos c3] at h
        exact ih.2.1 _ hd _ _ _ _ _ _ h lv trivial
      · rw [if_neg c3] at h
        refine Vin rfl lk1 rfl ?_
        refine Van rfl lk0 rfl rfl ?_
        have hz := y_bind h
        clear h
        obtain ⟨v4, h5, h⟩ := hz
        refine Zgi (q_gi_y h5) rfl rfl rfl ?_
        have hz := y_bind h
        clear h
        obtain ⟨_, h7, h⟩ := hz
        have c6 := q_g_ok h7
        refine Uif (q_le c6.2 c6.1) rfl rfl rfl rfl rfl rfl rfl (fun c8 => ?_) (fun c8 => ?_)
        · rw [if_pos c8] at h
          exact ih.2.1 _ hd _ _ _ _ _ _ h lv trivial
        · rw [if_neg c8] at h
          refine Vic (v := Int32.ofInt 1) rfl rfl rfl ?_
          refine Ygo rfl rfl rfl rfl rfl rfl ?_
          exact ih.2.2 _ hd _ _ _ _ _ _ h lv trivial
    · intro d hd s r0 i1 ti0 s9 r h lv _
      simp only [g_103] at h
      refine Vic (v := Int32.ofInt 0) rfl rfl rfl ?_
      exact ih.2.2 _ hd _ _ _ _ _ _ h lv trivial
    · intro d hd s r0 i1 ti0 s9 r h lv _
      simp only [g_103] at h
      have hz := y_bind h
      clear h
      obtain ⟨_, h2, h⟩ := hz
      have c1 := q_g_ok h2
      cases h
      exact Yret rfl rfl rfl rfl rfl rfl (if_pos (q_bool c1)) ⟨rfl, rfl⟩

