/-- StepRowsModel.carry -/
def g_144 (o : X_O) : Nat → Nat → Q_S → Nat → Int → Int → Int → Int → Int → Value → Int → Int → Int64 → Option (Q_S × Unit)
  | 0, _, _, _, _, _, _, _, _, _, _, _, _ => none
  | n + 1, 0, s, r0, i1, i2, i4, i5, i6, ta0, ti1, ti2, tl2 => (q_gi s 7 (.ref r0) 17).bind fun v1 => (q_rcv s 7 (.ref r0)).bind fun b7 => (g_145 o n 0 s b7 ((16 * i1)) (v1) (i2) .null 0 0).bind fun q6 => (q_pi q6.1 7 (.ref r0) 17 q6.2).bind fun s11 => (q_gi s11 7 (.ref r0) 18).bind fun v13 => (q_rcv s11 7 (.ref r0)).bind fun b19 => (g_145 o n 0 s11 b19 (((16 * i1) + 1)) (v13) (i2) .null 0 0).bind fun q18 => (q_pi q18.1 7 (.ref r0) 18 q18.2).bind fun s23 => (q_gi s23 7 (.ref r0) 19).bind fun v25 => (q_rcv s23 7 (.ref r0)).bind fun b31 => (g_145 o n 0 s23 b31 (((16 * i1) + 2)) (v25) (i2) .null 0 0).bind fun q30 => (q_pi q30.1 7 (.ref r0) 19 q30.2).bind fun s35 => (q_gi s35 7 (.ref r0) 20).bind fun v37 => (q_rcv s35 7 (.ref r0)).bind fun b43 => (g_145 o n 0 s35 b43 (((16 * i1) + 3)) (v37) (i2) .null 0 0).bind fun q42 => (q_pi q42.1 7 (.ref r0) 20 q42.2).bind fun s47 => (q_gi s47 7 (.ref r0) 21).bind fun v49 => (q_rcv s47 7 (.ref r0)).bind fun b55 => (g_145 o n 0 s47 b55 (((16 * i1) + 4)) (v49) (i2) .null 0 0).bind fun q54 => (q_pi q54.1 7 (.ref r0) 21 q54.2).bind fun s59 => (q_gi s59 7 (.ref r0) 22).bind fun v61 => (q_rcv s59 7 (.ref r0)).bind fun b67 => (g_145 o n 0 s59 b67 (((16 * i1) + 5)) (v61) (i2) .null 0 0).bind fun q66 => (q_pi q66.1 7 (.ref r0) 22 q66.2).bind fun s71 => (q_gi s71 7 (.ref r0) 23).bind fun v73 => (q_rcv s71 7 (.ref r0)).bind fun b79 => (g_145 o n 0 s71 b79 (((16 * i1) + 6)) (v73) (i2) .null 0 0).bind fun q78 => (q_pi q78.1 7 (.ref r0) 23 q78.2).bind fun s83 => (q_gi s83 7 (.ref r0) 24).bind fun v85 => (q_rcv s83 7 (.ref r0)).bind fun b91 => (g_145 o n 0 s83 b91 (((16 * i1) + 7)) (v85) (i2) .null 0 0).bind fun q90 => (q_pi q90.1 7 (.ref r0) 24 q90.2).bind fun s95 => (q_gi s95 7 (.ref r0) 25).bind fun v97 => (q_rcv s95 7 (.ref r0)).bind fun b103 => (g_145 o n 0 s95 b103 (((16 * i1) + 8)) (v97) (i2) .null 0 0).bind fun q102 => (q_pi q102.1 7 (.ref r0) 25 q102.2).bind fun s107 => (q_gi s107 7 (.ref r0) 45).bind fun v109 => (q_rcv s107 7 (.ref r0)).bind fun b115 => (g_145 o n 0 s107 b115 (((16 * i1) + 9)) (v109) (i2) .null 0 0).bind fun q114 => (q_pi q114.1 7 (.ref r0) 45 q114.2).bind fun s119 => (q_gi s119 7 (.ref r0) 17).bind fun v121 => (q_g (q_in v121)).bind fun _ => if ¬ v121 = 2 then g_144 o n 1 s119 r0 (i1) (i2) 0 0 0 ((.ref r0)) (0) 0 0 else g_144 o n 1 s119 r0 (i1) (i2) 0 0 0 ((.ref r0)) (1) 0 0
  | n + 1, 1, s, r0, i1, i2, i4, i5, i6, ta0, ti1, ti2, tl2 => (q_pz s 7 ta0 47 ti1).bind fun s1 => (q_rcv s1 7 (.ref r0)).bind fun b7 => (g_146 o n 0 s1 b7 (i1) (i2) 0 0 0 .null 0 0 0).bind fun q6 => g_144 o n 2 q6.1 r0 (i1) (i2) (0) 0 0 .null 0 0 0
  | n + 1, 2, s, r0, i1, i2, i4, i5, i6, ta0, ti1, ti2, tl2 => (q_g (q_in i4)).bind fun _ => if 6144 ≤ i4 then g_144 o n 10 s r0 (i1) (i2) (0) 0 0 .null 0 0 0 else (q_gv s 7 (.ref r0) 55).bind fun v4 => (q_g (q_in i2)).bind fun _ => if i2 = 0 then (q_gv s 7 (.ref r0) 55).bind fun v9 => (q_ba s v9 ((6144 * i1) + i4)).bind fun v11 => g_144 o n 3 s r0 (i1) (i2) (i4) (((6144 * i1) + i4)) 0 (v4) (((6144 * i1) + i4)) (v11) 0 else (q_gv s 7 (.ref r0) 35).bind fun v13 => (q_ba s v13 i4).bind fun v15 => g_144 o n 3 s r0 (i1) (i2) (i4) (((6144 * i1) + i4)) 0 (v4) (((6144 * i1) + i4)) (v15) 0
  | n + 1, 3, s, r0, i1, i2, i4, i5, i6, ta0, ti1, ti2, tl2 => (q_bs s ta0 ti1 ti2).bind fun s1 => (q_gv s1 7 (.ref r0) 35).bind fun v3 => (q_gv s1 7 (.ref r0) 55).bind fun v5 => (q_ba s1 v5 i5).bind fun v7 => (q_bs s1 v3 i4 v7).bind fun s9 => (q_gv s9 7 (.ref r0) 54).bind fun v11 => (q_g (q_in i2)).bind fun _ => if i2 = 0 then (q_gv s9 7 (.ref r0) 54).bind fun v16 => (q_la s9 v16 i5).bind fun v18 => g_144 o n 4 s9 r0 (i1) (i2) (i4) (i5) 0 (v11) (i5) 0 (v18) else (q_gv s9 7 (.ref r0) 32).bind fun v20 => (q_la s9 v20 i4).bind fun v22 => g_144 o n 4 s9 r0 (i1) (i2) (i4) (i5) 0 (v11) (i5) 0 (v22)
  | n + 1, 4, s, r0, i1, i2, i4, i5, i6, ta0, ti1, ti2, tl2 => (q_ls s ta0 ti1 tl2).bind fun s1 => (q_gv s1 7 (.ref r0) 32).bind fun v3 => (q_gv s1 7 (.ref r0) 54).bind fun v5 => (q_la s1 v5 i5).bind fun v7 => (q_ls s1 v3 i4 v7).bind fun s9 => (q_gv s9 7 (.ref r0) 53).bind fun v11 => (q_g (q_in i2)).bind fun _ => if i2 = 0 then (q_gv s9 7 (.ref r0) 53).bind fun v16 => (q_ia o s9 v16 (5 * i5)).bind fun v18 => g_144 o n 5 s9 r0 (i1) (i2) (i4) 0 ((5 * i5)) (v11) ((5 * i5)) (v18) 0 else (q_gv s9 7 (.ref r0) 29).bind fun v20 => (q_ia o s9 v20 i4).bind fun v22 => g_144 o n 5 s9 r0 (i1) (i2) (i4) 0 ((5 * i5)) (v11) ((5 * i5)) (v22) 0
  | n + 1, 5, s, r0, i1, i2, i4, i5, i6, ta0, ti1, ti2, tl2 => (q_is s ta0 ti1 ti2).bind fun s1 => (q_gv s1 7 (.ref r0) 53).bind fun v3 => (q_g (q_in i2)).bind fun _ => if i2 = 0 then (q_gv s1 7 (.ref r0) 53).bind fun v8 => (q_ia o s1 v8 (i6 + 1)).bind fun v10 => g_144 o n 6 s1 r0 (i1) (i2) (i4) 0 (i6) (v3) ((i6 + 1)) (v10) 0 else (q_gv s1 7 (.ref r0) 30).bind fun v12 => (q_ia o s1 v12 i4).bind fun v14 => g_144 o n 6 s1 r0 (i1) (i2) (i4) 0 (i6) (v3) ((i6 + 1)) (v14) 0
  | n + 1, 6, s, r0, i1, i2, i4, i5, i6, ta0, ti1, ti2, tl2 => (q_is s ta0 ti1 ti2).bind fun s1 => (q_gv s1 7 (.ref r0) 53).bind fun v3 => (q_g (q_in i2)).bind fun _ => if i2 = 0 then (q_gv s1 7 (.ref r0) 53).bind fun v8 => (q_ia o s1 v8 (i6 + 2)).bind fun v10 => g_144 o n 7 s1 r0 (i1) (i2) (i4) 0 (i6) (v3) ((i6 + 2)) (v10) 0 else (q_gv s1 7 (.ref r0) 31).bind fun v12 => (q_ia o s1 v12 i4).bind fun v14 => g_144 o n 7 s1 r0 (i1) (i2) (i4) 0 (i6) (v3) ((i6 + 2)) (v14) 0
  | n + 1, 7, s, r0, i1, i2, i4, i5, i6, ta0, ti1, ti2, tl2 => (q_is s ta0 ti1 ti2).bind fun s1 => (q_gv s1 7 (.ref r0) 53).bind fun v3 => (q_g (q_in i2)).bind fun _ => if i2 = 0 then (q_gv s1 7 (.ref r0) 53).bind fun v8 => (q_ia o s1 v8 (i6 + 3)).bind fun v10 => g_144 o n 8 s1 r0 (i1) (i2) (i4) 0 (i6) (v3) ((i6 + 3)) (v10) 0 else (q_gv s1 7 (.ref r0) 33).bind fun v12 => (q_ia o s1 v12 i4).bind fun v14 => g_144 o n 8 s1 r0 (i1) (i2) (i4) 0 (i6) (v3) ((i6 + 3)) (v14) 0
  | n + 1, 8, s, r0, i1, i2, i4, i5, i6, ta0, ti1, ti2, tl2 => (q_is s ta0 ti1 ti2).bind fun s1 => (q_gv s1 7 (.ref r0) 53).bind fun v3 => (q_g (q_in i2)).bind fun _ => if i2 = 0 then (q_gv s1 7 (.ref r0) 53).bind fun v8 => (q_ia o s1 v8 (i6 + 4)).bind fun v10 => g_144 o n 9 s1 r0 (i1) (i2) (i4) 0 (i6) (v3) ((i6 + 4)) (v10) 0 else (q_gv s1 7 (.ref r0) 34).bind fun v12 => (q_ia o s1 v12 i4).bind fun v14 => g_144 o n 9 s1 r0 (i1) (i2) (i4) 0 (i6) (v3) ((i6 + 4)) (v14) 0
  | n + 1, 9, s, r0, i1, i2, i4, i5, i6, ta0, ti1, ti2, tl2 => (q_is s ta0 ti1 ti2).bind fun s1 => (q_gv s1 7 (.ref r0) 29).bind fun v3 => (q_gv s1 7 (.ref r0) 53).bind fun v5 => (q_ia o s1 v5 i6).bind fun v7 => (q_is s1 v3 i4 v7).bind fun s9 => (q_gv s9 7 (.ref r0) 30).bind fun v11 => (q_gv s9 7 (.ref r0) 53).bind fun v13 => (q_ia o s9 v13 (i6 + 1)).bind fun v15 => (q_is s9 v11 i4 v15).bind fun s17 => (q_gv s17 7 (.ref r0) 31).bind fun v19 => (q_gv s17 7 (.ref r0) 53).bind fun v21 => (q_ia o s17 v21 (i6 + 2)).bind fun v23 => (q_is s17 v19 i4 v23).bind fun s25 => (q_gv s25 7 (.ref r0) 33).bind fun v27 => (q_gv s25 7 (.ref r0) 53).bind fun v29 => (q_ia o s25 v29 (i6 + 3)).bind fun v31 => (q_is s25 v27 i4 v31).bind fun s33 => (q_gv s33 7 (.ref r0) 34).bind fun v35 => (q_gv s33 7 (.ref r0) 53).bind fun v37 => (q_ia o s33 v37 (i6 + 4)).bind fun v39 => (q_is s33 v35 i4 v39).bind fun s41 => g_144 o n 2 s41 r0 (i1) (i2) ((i4 + 1)) 0 0 .null 0 0 0
  | n + 1, 10, s, r0, i1, i2, i4, i5, i6, ta0, ti1, ti2, tl2 => (q_g (q_in i4)).bind fun _ => if 104 ≤ i4 then some (s, ()) else (q_gv s 7 (.ref r0) 58).bind fun v4 => (q_g (q_in i2)).bind fun _ => if i2 = 0 then (q_gv s 7 (.ref r0) 58).bind fun v9 => (q_ba s v9 ((104 * i1) + i4)).bind fun v11 => g_144 o n 11 s r0 (i1) (i2) (i4) (((104 * i1) + i4)) 0 (v4) (((104 * i1) + i4)) (v11) 0 else (q_gv s 7 (.ref r0) 44).bind fun v13 => (q_ba s v13 i4).bind fun v15 => g_144 o n 11 s r0 (i1) (i2) (i4) (((104 * i1) + i4)) 0 (v4) (((104 * i1) + i4)) (v15) 0
  | n + 1, 11, s, r0, i1, i2, i4, i5, i6, ta0, ti1, ti2, tl2 => (q_bs s ta0 ti1 ti2).bind fun s1 => (q_gv s1 7 (.ref r0) 44).bind fun v3 => (q_gv s1 7 (.ref r0) 58).bind fun v5 => (q_ba s1 v5 i5).bind fun v7 => (q_bs s1 v3 i4 v7).bind fun s9 => (q_gv s9 7 (.ref r0) 56).bind fun v11 => (q_g (q_in i2)).bind fun _ => if i2 = 0 then (q_gv s9 7 (.ref r0) 56).bind fun v16 => (q_ia o s9 v16 (4 * i5)).bind fun v18 => g_144 o n 12 s9 r0 (i1) (i2) (i4) (i5) 0 (v11) ((4 * i5)) (v18) 0 else (q_gv s9 7 (.ref r0) 37).bind fun v20 => (q_ia o s9 v20 i4).bind fun v22 => g_144 o n 12 s9 r0 (i1) (i2) (i4) (i5) 0 (v11) ((4 * i5)) (v22) 0
  | n + 1, 12, s, r0, i1, i2, i4, i5, i6, ta0, ti1, ti2, tl2 => (q_is s ta0 ti1 ti2).bind fun s1 => (q_gv s1 7 (.ref r0) 56).bind fun v3 => (q_g (q_in i2)).bind fun _ => if i2 = 0 then (q_gv s1 7 (.ref r0) 56).bind fun v8 => (q_ia o s1 v8 ((4 * i5) + 1)).bind fun v10 => g_144 o n 13 s1 r0 (i1) (i2) (i4) (i5) 0 (v3) (((4 * i5) + 1)) (v10) 0 else (q_gv s1 7 (.ref r0) 38).bind fun v12 => (q_ia o s1 v12 i4).bind fun v14 => g_144 o n 13 s1 r0 (i1) (i2) (i4) (i5) 0 (v3) (((4 * i5) + 1)) (v14) 0
  | n + 1, 13, s, r0, i1, i2, i4, i5, i6, ta0, ti1, ti2, tl2 => (q_is s ta0 ti1 ti2).bind fun s1 => (q_gv s1 7 (.ref r0) 56).bind fun v3 => (q_g (q_in i2)).bind fun _ => if i2 = 0 then (q_gv s1 7 (.ref r0) 56).bind fun v8 => (q_ia o s1 v8 ((4 * i5) + 2)).bind fun v10 => g_144 o n 14 s1 r0 (i1) (i2) (i4) (i5) 0 (v3) (((4 * i5) + 2)) (v10) 0 else (q_gv s1 7 (.ref r0) 39).bind fun v12 => (q_ia o s1 v12 i4).bind fun v14 => g_144 o n 14 s1 r0 (i1) (i2) (i4) (i5) 0 (v3) (((4 * i5) + 2)) (v14) 0
  | n + 1, 14, s, r0, i1, i2, i4, i5, i6, ta0, ti1, ti2, tl2 => (q_is s ta0 ti1 ti2).bind fun s1 => (q_gv s1 7 (.ref r0) 56).bind fun v3 => (q_g (q_in i2)).bind fun _ => if i2 = 0 then (q_gv s1 7 (.ref r0) 56).bind fun v8 => (q_ia o s1 v8 ((4 * i5) + 3)).bind fun v10 => g_144 o n 15 s1 r0 (i1) (i2) (i4) (i5) 0 (v3) (((4 * i5) + 3)) (v10) 0 else (q_gv s1 7 (.ref r0) 40).bind fun v12 => (q_ia o s1 v12 i4).bind fun v14 => g_144 o n 15 s1 r0 (i1) (i2) (i4) (i5) 0 (v3) (((4 * i5) + 3)) (v14) 0
  | n + 1, 15, s, r0, i1, i2, i4, i5, i6, ta0, ti1, ti2, tl2 => (q_is s ta0 ti1 ti2).bind fun s1 => (q_gv s1 7 (.ref r0) 37).bind fun v3 => (q_gv s1 7 (.ref r0) 56).bind fun v5 => (q_ia o s1 v5 (4 * i5)).bind fun v7 => (q_is s1 v3 i4 v7).bind fun s9 => (q_gv s9 7 (.ref r0) 38).bind fun v11 => (q_gv s9 7 (.ref r0) 56).bind fun v13 => (q_ia o s9 v13 ((4 * i5) + 1)).bind fun v15 => (q_is s9 v11 i4 v15).bind fun s17 => (q_gv s17 7 (.ref r0) 39).bind fun v19 => (q_gv s17 7 (.ref r0) 56).bind fun v21 => (q_ia o s17 v21 ((4 * i5) + 2)).bind fun v23 => (q_is s17 v19 i4 v23).bind fun s25 => (q_gv s25 7 (.ref r0) 40).bind fun v27 => (q_gv s25 7 (.ref r0) 56).bind fun v29 => (q_ia o s25 v29 ((4 * i5) + 3)).bind fun v31 => (q_is s25 v27 i4 v31).bind fun s33 => (q_gv s33 7 (.ref r0) 57).bind fun v35 => (q_g (q_in i2)).bind fun _ => if i2 = 0 then (q_gv s33 7 (.ref r0) 57).bind fun v40 => (q_la s33 v40 (3 * i5)).bind fun v42 => g_144 o n 16 s33 r0 (i1) (i2) (i4) (i5) 0 (v35) ((3 * i5)) 0 (v42) else (q_gv s33 7 (.ref r0) 41).bind fun v44 => (q_la s33 v44 i4).bind fun v46 => g_144 o n 16 s33 r0 (i1) (i2) (i4) (i5) 0 (v35) ((3 * i5)) 0 (v46)
  | n + 1, 16, s, r0, i1, i2, i4, i5, i6, ta0, ti1, ti2, tl2 => (q_ls s ta0 ti1 tl2).bind fun s1 => (q_gv s1 7 (.ref r0) 57).bind fun v3 => (q_g (q_in i2)).bind fun _ => if i2 = 0 then (q_gv s1 7 (.ref r0) 57).bind fun v8 => (q_la s1 v8 ((3 * i5) + 1)).bind fun v10 => g_144 o n 17 s1 r0 (i1) (i2) (i4) (i5) 0 (v3) (((3 * i5) + 1)) 0 (v10) else (q_gv s1 7 (.ref r0) 42).bind fun v12 => (q_la s1 v12 i4).bind fun v14 => g_144 o n 17 s1 r0 (i1) (i2) (i4) (i5) 0 (v3) (((3 * i5) + 1)) 0 (v14)
  | n + 1, 17, s, r0, i1, i2, i4, i5, i6, ta0, ti1, ti2, tl2 => (q_ls s ta0 ti1 tl2).bind fun s1 => (q_gv s1 7 (.ref r0) 57).bind fun v3 => (q_g (q_in i2)).bind fun _ => if i2 = 0 then (q_gv s1 7 (.ref r0) 57).bind fun v8 => (q_la s1 v8 ((3 * i5) + 2)).bind fun v10 => g_144 o n 18 s1 r0 (i1) (i2) (i4) (i5) 0 (v3) (((3 * i5) + 2)) 0 (v10) else (q_gv s1 7 (.ref r0) 43).bind fun v12 => (q_la s1 v12 i4).bind fun v14 => g_144 o n 18 s1 r0 (i1) (i2) (i4) (i5) 0 (v3) (((3 * i5) + 2)) 0 (v14)
  | n + 1, 18, s, r0, i1, i2, i4, i5, i6, ta0, ti1, ti2, tl2 => (q_ls s ta0 ti1 tl2).bind fun s1 => (q_gv s1 7 (.ref r0) 41).bind fun v3 => (q_gv s1 7 (.ref r0) 57).bind fun v5 => (q_la s1 v5 (3 * i5)).bind fun v7 => (q_ls s1 v3 i4 v7).bind fun s9 => (q_gv s9 7 (.ref r0) 42).bind fun v11 => (q_gv s9 7 (.ref r0) 57).bind fun v13 => (q_la s9 v13 ((3 * i5) + 1)).bind fun v15 => (q_ls s9 v11 i4 v15).bind fun s17 => (q_gv s17 7 (.ref r0) 43).bind fun v19 => (q_gv s17 7 (.ref r0) 57).bind fun v21 => (q_la s17 v21 ((3 * i5) + 2)).bind fun v23 => (q_ls s17 v19 i4 v23).bind fun s25 => g_144 o n 10 s25 r0 (i1) (i2) ((i4 + 1)) 0 0 .null 0 0 0
  | _ + 1, _, _, _, _, _, _, _, _, _, _, _, _ => none
set_option maxRecDepth 100000 in
set_option maxHeartbeats 4000000 in
theorem c_144 (o : X_O) : ∀ n, (∀ (d : Nat) (hd : 1 ≤ d) (s : Q_S) (r0 : Nat) (i1 : Int) (i2 : Int) (i4 : Int) (i5 : Int) (i6 : Int) (ta0 : Value) (ti1 : Int) (ti2 : Int) (tl2 : Int64) (s9 : Q_S) (r : Unit), g_144 o n 0 s r0 i1 i2 i4 i5 i6 ta0 ti1 ti2 tl2 = some (s9, r) → ∀ lv : X_L, x_lget lv 0 = some (.ref r0) → x_lget lv 1 = some (.int (Int32.ofInt i1)) → x_lget lv 2 = some (.int (Int32.ofInt i2)) → Y o d 144 0 lv [] (q_y s) (fun s1 r1 => s1 = q_y s9 ∧ r1 = none)) ∧
    (∀ (d : Nat) (hd : 1 ≤ d) (s : Q_S) (r0 : Nat) (i1 : Int) (i2 : Int) (i4 : Int) (i5 : Int) (i6 : Int) (ta0 : Value) (ti1 : Int) (ti2 : Int) (tl2 : Int64) (s9 : Q_S) (r : Unit), g_144 o n 1 s r0 i1 i2 i4 i5 i6 ta0 ti1 ti2 tl2 = some (s9, r) → ∀ lv : X_L, x_lget lv 0 = some (.ref r0) → x_lget lv 1 = some (.int (Int32.ofInt i1)) → x_lget lv 2 = some (.int (Int32.ofInt i2)) → y_rv ta0 = true → Y o d 144 181 lv [.int (Int32.ofInt ti1), ta0] (q_y s) (fun s1 r1 => s1 = q_y s9 ∧ r1 = none)) ∧
    (∀ (d : Nat) (hd : 1 ≤ d) (s : Q_S) (r0 : Nat) (i1 : Int) (i2 : Int) (i4 : Int) (i5 : Int) (i6 : Int) (ta0 : Value) (ti1 : Int) (ti2 : Int) (tl2 : Int64) (s9 : Q_S) (r : Unit), g_144 o n 2 s r0 i1 i2 i4 i5 i6 ta0 ti1 ti2 tl2 = some (s9, r) → ∀ lv : X_L, x_lget lv 0 = some (.ref r0) → x_lget lv 1 = some (.int (Int32.ofInt i1)) → x_lget lv 2 = some (.int (Int32.ofInt i2)) → x_lget lv 4 = some (.int (Int32.ofInt i4)) → Y o d 144 193 lv [] (q_y s) (fun s1 r1 => s1 = q_y s9 ∧ r1 = none)) ∧
    (∀ (d : Nat) (hd : 1 ≤ d) (s : Q_S) (r0 : Nat) (i1 : Int) (i2 : Int) (i4 : Int) (i5 : Int) (i6 : Int) (ta0 : Value) (ti1 : Int) (ti2 : Int) (tl2 : Int64) (s9 : Q_S) (r : Unit), g_144 o n 3 s r0 i1 i2 i4 i5 i6 ta0 ti1 ti2 tl2 = some (s9, r) → ∀ lv : X_L, x_lget lv 0 = some (.ref r0) → x_lget lv 1 = some (.int (Int32.ofInt i1)) → x_lget lv 2 = some (.int (Int32.ofInt i2)) → x_lget lv 4 = some (.int (Int32.ofInt i4)) → x_lget lv 5 = some (.int (Int32.ofInt i5)) → y_rv ta0 = true → Y o d 144 238 lv [.int (Int32.ofInt ti2), .int (Int32.ofInt ti1), ta0] (q_y s) (fun s1 r1 => s1 = q_y s9 ∧ r1 = none)) ∧
    (∀ (d : Nat) (hd : 1 ≤ d) (s : Q_S) (r0 : Nat) (i1 : Int) (i2 : Int) (i4 : Int) (i5 : Int) (i6 : Int) (ta0 : Value) (ti1 : Int) (ti2 : Int) (tl2 : Int64) (s9 : Q_S) (r : Unit), g_144 o n 4 s r0 i1 i2 i4 i5 i6 ta0 ti1 ti2 tl2 = some (s9, r) → ∀ lv : X_L, x_lget lv 0 = some (.ref r0) → x_lget lv 1 = some (.int (Int32.ofInt i1)) → x_lget lv 2 = some (.int (Int32.ofInt i2)) → x_lget lv 4 = some (.int (Int32.ofInt i4)) → x_lget lv 5 = some (.int (Int32.ofInt i5)) → y_rv ta0 = true → Y o d 144 280 lv [.long tl2, .int (Int32.ofInt ti1), ta0] (q_y s) (fun s1 r1 => s1 = q_y s9 ∧ r1 = none)) ∧
    (∀ (d : Nat) (hd : 1 ≤ d) (s : Q_S) (r0 : Nat) (i1 : Int) (i2 : Int) (i4 : Int) (i5 : Int) (i6 : Int) (ta0 : Value) (ti1 : Int) (ti2 : Int) (tl2 : Int64) (s9 : Q_S) (r : Unit), g_144 o n 5 s r0 i1 i2 i4 i5 i6 ta0 ti1 ti2 tl2 = some (s9, r) → ∀ lv : X_L, x_lget lv 0 = some (.ref r0) → x_lget lv 1 = some (.int (Int32.ofInt i1)) → x_lget lv 2 = some (.int (Int32.ofInt i2)) → x_lget lv 4 = some (.int (Int32.ofInt i4)) → x_lget lv 6 = some (.int (Int32.ofInt i6)) → y_rv ta0 = true → Y o d 144 328 lv [.int (Int32.ofInt ti2), .int (Int32.ofInt ti1), ta0] (q_y s) (fun s1 r1 => s1 = q_y s9 ∧ r1 = none)) ∧
    (∀ (d : Nat) (hd : 1 ≤ d) (s : Q_S) (r0 : Nat) (i1 : Int) (i2 : Int) (i4 : Int) (i5 : Int) (i6 : Int) (ta0 : Value) (ti1 : Int) (ti2 : Int) (tl2 : Int64) (s9 : Q_S) (r : Unit), g_144 o n 6 s r0 i1 i2 i4 i5 i6 ta0 ti1 ti2 tl2 = some (s9, r) → ∀ lv : X_L, x_lget lv 0 = some (.ref r0) → x_lget lv 1 = some (.int (Int32.ofInt i1)) → x_lget lv 2 = some (.int (Int32.ofInt i2)) → x_lget lv 4 = some (.int (Int32.ofInt i4)) → x_lget lv 6 = some (.int (Int32.ofInt i6)) → y_rv ta0 = true → Y o d 144 360 lv [.int (Int32.ofInt ti2), .int (Int32.ofInt ti1), ta0] (q_y s) (fun s1 r1 => s1 = q_y s9 ∧ r1 = none)) ∧
    (∀ (d : Nat) (hd : 1 ≤ d) (s : Q_S) (r0 : Nat) (i1 : Int) (i2 : Int) (i4 : Int) (i5 : Int) (i6 : Int) (ta0 : Value) (ti1 : Int) (ti2 : Int) (tl2 : Int64) (s9 : Q_S) (r : Unit), g_144 o n 7 s r0 i1 i2 i4 i5 i6 ta0 ti1 ti2 tl2 = some (s9, r) → ∀ lv : X_L, x_lget lv 0 = some (.ref r0) → x_lget lv 1 = some (.int (Int32.ofInt i1)) → x_lget lv 2 = some (.int (Int32.ofInt i2)) → x_lget lv 4 = some (.int (Int32.ofInt i4)) → x_lget lv 6 = some (.int (Int32.ofInt i6)) → y_rv ta0 = true → Y o d 144 392 lv [.int (Int32.ofInt ti2), .int (Int32.ofInt ti1), ta0] (q_y s) (fun s1 r1 => s1 = q_y s9 ∧ r1 = none)) ∧
    (∀ (d : Nat) (hd : 1 ≤ d) (s : Q_S) (r0 : Nat) (i1 : Int) (i2 : Int) (i4 : Int) (i5 : Int) (i6 : Int) (ta0 : Value) (ti1 : Int) (ti2 : Int) (tl2 : Int64) (s9 : Q_S) (r : Unit), g_144 o n 8 s r0 i1 i2 i4 i5 i6 ta0 ti1 ti2 tl2 = some (s9, r) → ∀ lv : X_L, x_lget lv 0 = some (.ref r0) → x_lget lv 1 = some (.int (Int32.ofInt i1)) → x_lget lv 2 = some (.int (Int32.ofInt i2)) → x_lget lv 4 = some (.int (Int32.ofInt i4)) → x_lget lv 6 = some (.int (Int32.ofInt i6)) → y_rv ta0 = true → Y o d 144 424 lv [.int (Int32.ofInt ti2), .int (Int32.ofInt ti1), ta0] (q_y s) (fun s1 r1 => s1 = q_y s9 ∧ r1 = none)) ∧
    (∀ (d : Nat) (hd : 1 ≤ d) (s : Q_S) (r0 : Nat) (i1 : Int) (i2 : Int) (i4 : Int) (i5 : Int) (i6 : Int) (ta0 : Value) (ti1 : Int) (ti2 : Int) (tl2 : Int64) (s9 : Q_S) (r : Unit), g_144 o n 9 s r0 i1 i2 i4 i5 i6 ta0 ti1 ti2 tl2 = some (s9, r) → ∀ lv : X_L, x_lget lv 0 = some (.ref r0) → x_lget lv 1 = some (.int (Int32.ofInt i1)) → x_lget lv 2 = some (.int (Int32.ofInt i2)) → x_lget lv 4 = some (.int (Int32.ofInt i4)) → x_lget lv 6 = some (.int (Int32.ofInt i6)) → y_rv ta0 = true → Y o d 144 456 lv [.int (Int32.ofInt ti2), .int (Int32.ofInt ti1), ta0] (q_y s) (fun s1 r1 => s1 = q_y s9 ∧ r1 = none)) ∧
    (∀ (d : Nat) (hd : 1 ≤ d) (s : Q_S) (r0 : Nat) (i1 : Int) (i2 : Int) (i4 : Int) (i5 : Int) (i6 : Int) (ta0 : Value) (ti1 : Int) (ti2 : Int) (tl2 : Int64) (s9 : Q_S) (r : Unit), g_144 o n 10 s r0 i1 i2 i4 i5 i6 ta0 ti1 ti2 tl2 = some (s9, r) → ∀ lv : X_L, x_lget lv 0 = some (.ref r0) → x_lget lv 1 = some (.int (Int32.ofInt i1)) → x_lget lv 2 = some (.int (Int32.ofInt i2)) → x_lget lv 4 = some (.int (Int32.ofInt i4)) → Y o d 144 544 lv [] (q_y s) (fun s1 r1 => s1 = q_y s9 ∧ r1 = none)) ∧
    (∀ (d : Nat) (hd : 1 ≤ d) (s : Q_S) (r0 : Nat) (i1 : Int) (i2 : Int) (i4 : Int) (i5 : Int) (i6 : Int) (ta0 : Value) (ti1 : Int) (ti2 : Int) (tl2 : Int64) (s9 : Q_S) (r : Unit), g_144 o n 11 s r0 i1 i2 i4 i5 i6 ta0 ti1 ti2 tl2 = some (s9, r) → ∀ lv : X_L, x_lget lv 0 = some (.ref r0) → x_lget lv 1 = some (.int (Int32.ofInt i1)) → x_lget lv 2 = some (.int (Int32.ofInt i2)) → x_lget lv 4 = some (.int (Int32.ofInt i4)) → x_lget lv 5 = some (.int (Int32.ofInt i5)) → y_rv ta0 = true → Y o d 144 587 lv [.int (Int32.ofInt ti2), .int (Int32.ofInt ti1), ta0] (q_y s) (fun s1 r1 => s1 = q_y s9 ∧ r1 = none)) ∧
    (∀ (d : Nat) (hd : 1 ≤ d) (s : Q_S) (r0 : Nat) (i1 : Int) (i2 : Int) (i4 : Int) (i5 : Int) (i6 : Int) (ta0 : Value) (ti1 : Int) (ti2 : Int) (tl2 : Int64) (s9 : Q_S) (r : Unit), g_144 o n 12 s r0 i1 i2 i4 i5 i6 ta0 ti1 ti2 tl2 = some (s9, r) → ∀ lv : X_L, x_lget lv 0 = some (.ref r0) → x_lget lv 1 = some (.int (Int32.ofInt i1)) → x_lget lv 2 = some (.int (Int32.ofInt i2)) → x_lget lv 4 = some (.int (Int32.ofInt i4)) → x_lget lv 5 = some (.int (Int32.ofInt i5)) → y_rv ta0 = true → Y o d 144 633 lv [.int (Int32.ofInt ti2), .int (Int32.ofInt ti1), ta0] (q_y s) (fun s1 r1 => s1 = q_y s9 ∧ r1 = none)) ∧
    (∀ (d : Nat) (hd : 1 ≤ d) (s : Q_S) (r0 : Nat) (i1 : Int) (i2 : Int) (i4 : Int) (i5 : Int) (i6 : Int) (ta0 : Value) (ti1 : Int) (ti2 : Int) (tl2 : Int64) (s9 : Q_S) (r : Unit), g_144 o n 13 s r0 i1 i2 i4 i5 i6 ta0 ti1 ti2 tl2 = some (s9, r) → ∀ lv : X_L, x_lget lv 0 = some (.ref r0) → x_lget lv 1 = some (.int (Int32.ofInt i1)) → x_lget lv 2 = some (.int (Int32.ofInt i2)) → x_lget lv 4 = some (.int (Int32.ofInt i4)) → x_lget lv 5 = some (.int (Int32.ofInt i5)) → y_rv ta0 = true → Y o d 144 669 lv [.int (Int32.ofInt ti2), .int (Int32.ofInt ti1), ta0] (q_y s) (fun s1 r1 => s1 = q_y s9 ∧ r1 = none)) ∧
    (∀ (d : Nat) (hd : 1 ≤ d) (s : Q_S) (r0 : Nat) (i1 : Int) (i2 : Int) (i4 : Int) (i5 : Int) (i6 : Int) (ta0 : Value) (ti1 : Int) (ti2 : Int) (tl2 : Int64) (s9 : Q_S) (r : Unit), g_144 o n 14 s r0 i1 i2 i4 i5 i6 ta0 ti1 ti2 tl2 = some (s9, r) → ∀ lv : X_L, x_lget lv 0 = some (.ref r0) → x_lget lv 1 = some (.int (Int32.ofInt i1)) → x_lget lv 2 = some (.int (Int32.ofInt i2)) → x_lget lv 4 = some (.int (Int32.ofInt i4)) → x_lget lv 5 = some (.int (Int32.ofInt i5)) → y_rv ta0 = true → Y o d 144 705 lv [.int (Int32.ofInt ti2), .int (Int32.ofInt ti1), ta0] (q_y s) (fun s1 r1 => s1 = q_y s9 ∧ r1 = none)) ∧
    (∀ (d : Nat) (hd : 1 ≤ d) (s : Q_S) (r0 : Nat) (i1 : Int) (i2 : Int) (i4 : Int) (i5 : Int) (i6 : Int) (ta0 : Value) (ti1 : Int) (ti2 : Int) (tl2 : Int64) (s9 : Q_S) (r : Unit), g_144 o n 15 s r0 i1 i2 i4 i5 i6 ta0 ti1 ti2 tl2 = some (s9, r) → ∀ lv : X_L, x_lget lv 0 = some (.ref r0) → x_lget lv 1 = some (.int (Int32.ofInt i1)) → x_lget lv 2 = some (.int (Int32.ofInt i2)) → x_lget lv 4 = some (.int (Int32.ofInt i4)) → x_lget lv 5 = some (.int (Int32.ofInt i5)) → y_rv ta0 = true → Y o d 144 741 lv [.int (Int32.ofInt ti2), .int (Int32.ofInt ti1), ta0] (q_y s) (fun s1 r1 => s1 = q_y s9 ∧ r1 = none)) ∧
    (∀ (d : Nat) (hd : 1 ≤ d) (s : Q_S) (r0 : Nat) (i1 : Int) (i2 : Int) (i4 : Int) (i5 : Int) (i6 : Int) (ta0 : Value) (ti1 : Int) (ti2 : Int) (tl2 : Int64) (s9 : Q_S) (r : Unit), g_144 o n 16 s r0 i1 i2 i4 i5 i6 ta0 ti1 ti2 tl2 = some (s9, r) → ∀ lv : X_L, x_lget lv 0 = some (.ref r0) → x_lget lv 1 = some (.int (Int32.ofInt i1)) → x_lget lv 2 = some (.int (Int32.ofInt i2)) → x_lget lv 4 = some (.int (Int32.ofInt i4)) → x_lget lv 5 = some (.int (Int32.ofInt i5)) → y_rv ta0 = true → Y o d 144 843 lv [.long tl2, .int (Int32.ofInt ti1), ta0] (q_y s) (fun s1 r1 => s1 = q_y s9 ∧ r1 = none)) ∧
    (∀ (d : Nat) (hd : 1 ≤ d) (s : Q_S) (r0 : Nat) (i1 : Int) (i2 : Int) (i4 : Int) (i5 : Int) (i6 : Int) (ta0 : Value) (ti1 : Int) (ti2 : Int) (tl2 : Int64) (s9 : Q_S) (r : Unit), g_144 o n 17 s r0 i1 i2 i4 i5 i6 ta0 ti1 ti2 tl2 = some (s9, r) → ∀ lv : X_L, x_lget lv 0 = some (.ref r0) → x_lget lv 1 = some (.int (Int32.ofInt i1)) → x_lget lv 2 = some (.int (Int32.ofInt i2)) → x_lget lv 4 = some (.int (Int32.ofInt i4)) → x_lget lv 5 = some (.int (Int32.ofInt i5)) → y_rv ta0 = true → Y o d 144 879 lv [.long tl2, .int (Int32.ofInt ti1), ta0] (q_y s) (fun s1 r1 => s1 = q_y s9 ∧ r1 = none)) ∧
    (∀ (d : Nat) (hd : 1 ≤ d) (s : Q_S) (r0 : Nat) (i1 : Int) (i2 : Int) (i4 : Int) (i5 : Int) (i6 : Int) (ta0 : Value) (ti1 : Int) (ti2 : Int) (tl2 : Int64) (s9 : Q_S) (r : Unit), g_144 o n 18 s r0 i1 i2 i4 i5 i6 ta0 ti1 ti2 tl2 = some (s9, r) → ∀ lv : X_L, x_lget lv 0 = some (.ref r0) → x_lget lv 1 = some (.int (Int32.ofInt i1)) → x_lget lv 2 = some (.int (Int32.ofInt i2)) → x_lget lv 4 = some (.int (Int32.ofInt i4)) → x_lget lv 5 = some (.int (Int32.ofInt i5)) → y_rv ta0 = true → Y o d 144 915 lv [.long tl2, .int (Int32.ofInt ti1), ta0] (q_y s) (fun s1 r1 => s1 = q_y s9 ∧ r1 = none)) := by
  intro n
  induction n with
  | zero => exact ⟨fun d hd s _ _ _ _ _ _ _ _ _ _ s9 r h => (by simp only [g_144] at h; cases h), fun d hd s _ _ _ _ _ _ _ _ _ _ s9 r h => (by simp only [g_144] at h; cases h), fun d hd s _ _ _ _ _ _ _ _ _ _ s9 r h => (by simp only [g_144] at h; cases h), fun d hd s _ _ _ _ _ _ _ _ _ _ s9 r h => (by simp only [g_144] at h; cases h), fun d hd s _ _ _ _ _ _ _ _ _ _ s9 r h => (by simp only [g_144] at h; cases h), fun d hd s _ _ _ _ _ _ _ _ _ _ s9 r h => (by simp only [g_144] at h; cases h), fun d hd s _ _ _ _ _ _ _ _ _ _ s9 r h => (by simp only [g_144] at h; cases h), fun d hd s _ _ _ _ _ _ _ _ _ _ s9 r h => (by simp only [g_144] at h; cases h), fun d hd s _ _ _ _ _ _ _ _ _ _ s9 r h => (by simp only [g_144] at h; cases h), fun d hd s _ _ _ _ _ _ _ _ _ _ s9 r h => (by simp only [g_144] at h; cases h), fun d hd s _ _ _ _ _ _ _ _ _ _ s9 r h => (by simp only [g_144] at h; cases h), fun d hd s _ _ _ _ _ _ _ _ _ _ s9 r h => (by simp only [g_144] at h; cases h), fun d hd s _ _ _ _ _ _ _ _ _ _ s9 r h => (by simp only [g_144] at h; cases h), fun d hd s _ _ _ _ _ _ _ _ _ _ s9 r h => (by simp only [g_144] at h; cases h), fun d hd s _ _ _ _ _ _ _ _ _ _ s9 r h => (by simp only [g_144] at h; cases h), fun d hd s _ _ _ _ _ _ _ _ _ _ s9 r h => (by simp only [g_144] at h; cases h), fun d hd s _ _ _ _ _ _ _ _ _ _ s9 r h => (by simp only [g_144] at h; cases h), fun d hd s _ _ _ _ _ _ _ _ _ _ s9 r h => (by simp only [g_144] at h; cases h), fun d hd s _ _ _ _ _ _ _ _ _ _ s9 r h => (by simp only [g_144] at h; cases h)⟩
  | succ n ih =>
    refine ⟨?_, ?_, ?_, ?_, ?_, ?_, ?_, ?_, ?_, ?_, ?_, ?_, ?_, ?_, ?_, ?_, ?_, ?_, ?_⟩
    · intro d hd s r0 i1 i2 i4 i5 i6 ta0 ti1 ti2 tl2 s9 r h lv lk0 lk1 lk2
      obtain ⟨d, rfl⟩ : ∃ x, d = x + 1 := ⟨d - 1, by omega⟩
      simp only [g_144] at h
      refine Vbp (v := Int32.ofInt 16) rfl (by decide) rfl ?_
      refine Vin rfl lk1 rfl ?_
      refine Umul rfl rfl ?_
      refine Vsin rfl rfl (fun lv lk3 hk => ?_)
      have lk0 := hk 0 _ lk0 (by decide) (by decide) (Or.inl (by decide))
      have lk1 := hk 1 _ lk1 (by decide) (by decide) (Or.inl (by decide))
      have lk2 := hk 2 _ lk2 (by decide) (by decide) (Or.inr rfl)
      refine Van rfl lk0 rfl rfl ?_
      refine Van rfl lk0 rfl rfl ?_
      refine Vin rfl lk3 rfl ?_
      refine Van rfl lk0 rfl rfl ?_
      have hz := y_bind h
      clear h
      obtain ⟨v1, h2, h⟩ := hz
      refine Zgi (q_gi_y h2) rfl rfl rfl ?_
      refine Vin rfl lk2 rfl ?_
      have hz := y_bind h
      clear h
      obtain ⟨b7, h8, h⟩ := hz
      obtain ⟨eh8, fh8, wh8⟩ := y_rcv_ok h8
      cases eh8
      have hz := y_bind h
      clear h
      obtain ⟨⟨s3, r4⟩, h5, h⟩ := hz
      try dsimp only at h
      refine Vcv rfl rfl rfl wh8 rfl rfl ⟨(Nat.le_of_ble_eq_true rfl), (Nat.le_of_ble_eq_true rfl)⟩ rfl ((c_145 o n).1 _ (by omega) _ _ _ _ _ _ _ _ _ _ h5 _ rfl rfl rfl rfl) (fun z1 z2 zq => ?_)
      obtain ⟨rfl, rfl⟩ := zq
      try dsimp only [Option.toList, HAppend.hAppend, Append.append, List.append]
      have hz := y_bind h
      clear h
      obtain ⟨s11, h12, h⟩ := hz
      refine Zpi (q_pi_y h12) rfl rfl rfl rfl ?_
      refine Van rfl lk0 rfl rfl ?_
      refine Van rfl lk0 rfl rfl ?_
      refine Vin rfl lk3 rfl ?_
      refine Vic (v := Int32.ofInt 1) rfl rfl rfl ?_
      refine Uadd rfl rfl ?_
      refine Van rfl lk0 rfl rfl ?_
      have hz := y_bind h
      clear h
      obtain ⟨v13, h14, h⟩ := hz
      refine Zgi (q_gi_y h14) rfl rfl rfl ?_
      refine Vin rfl lk2 rfl ?_
      have hz := y_bind h
      clear h
      obtain ⟨b19, h20, h⟩ := hz
      obtain ⟨eh20, fh20, wh20⟩ := y_rcv_ok h20
      cases eh20
      have hz := y_bind h
      clear h
      obtain ⟨⟨s15, r16⟩, h17, h⟩ := hz
      try dsimp only at h
      refine Vcv rfl rfl rfl wh20 rfl rfl ⟨(Nat.le_of_ble_eq_true rfl), (Nat.le_of_ble_eq_true rfl)⟩ rfl ((c_145 o n).1 _ (by omega) _ _ _ _ _ _ _ _ _ _ h17 _ rfl rfl rfl rfl) (fun z1 z2 zq => ?_)
      obtain ⟨rfl, rfl⟩ := zq
      try dsimp only [Option.toList, HAppend.hAppend, Append.append, List.append]
      have hz := y_bind h
      clear h
      obtain ⟨s23, h24, h⟩ := hz
      refine Zpi (q_pi_y h24) rfl rfl rfl rfl ?_
      refine Van rfl lk0 rfl rfl ?_
      refine Van rfl lk0 rfl rfl ?_
      refine Vin rfl lk3 rfl ?_
      refine Vic (v := Int32.ofInt 2) rfl rfl rfl ?_
      refine Uadd rfl rfl ?_
      refine Van rfl lk0 rfl rfl ?_
      have hz := y_bind h
      clear h
      obtain ⟨v25, h26, h⟩ := hz
      refine Zgi (q_gi_y h26) rfl rfl rfl ?_
      refine Vin rfl lk2 rfl ?_
      have hz := y_bind h
      clear h
      obtain ⟨b31, h32, h⟩ := hz
      obtain ⟨eh32, fh32, wh32⟩ := y_rcv_ok h32
      cases eh32
      have hz := y_bind h
      clear h
      obtain ⟨⟨s27, r28⟩, h29, h⟩ := hz
      try dsimp only at h
      refine Vcv rfl rfl rfl wh32 rfl rfl ⟨(Nat.le_of_ble_eq_true rfl), (Nat.le_of_ble_eq_true rfl)⟩ rfl ((c_145 o n).1 _ (by omega) _ _ _ _ _ _ _ _ _ _ h29 _ rfl rfl rfl rfl) (fun z1 z2 zq => ?_)
      obtain ⟨rfl, rfl⟩ := zq
      try dsimp only [Option.toList, HAppend.hAppend, Append.append, List.append]
      have hz := y_bind h
      clear h
      obtain ⟨s35, h36, h⟩ := hz
      refine Zpi (q_pi_y h36) rfl rfl rfl rfl ?_
      refine Van rfl lk0 rfl rfl ?_
      refine Van rfl lk0 rfl rfl ?_
      refine Vin rfl lk3 rfl ?_
      refine Vic (v := Int32.ofInt 3) rfl rfl rfl ?_
      refine Uadd rfl rfl ?_
      refine Van rfl lk0 rfl rfl ?_
      have hz := y_bind h
      clear h
      obtain ⟨v37, h38, h⟩ := hz
      refine Zgi (q_gi_y h38) rfl rfl rfl ?_
      refine Vin rfl lk2 rfl ?_
      have hz := y_bind h
      clear h
      obtain ⟨b43, h44, h⟩ := hz
      obtain ⟨eh44, fh44, wh44⟩ := y_rcv_ok h44
      cases eh44
      have hz := y_bind h
      clear h
      obtain ⟨⟨s39, r40⟩, h41, h⟩ := hz
      try dsimp only at h
      refine Vcv rfl rfl rfl wh44 rfl rfl ⟨(Nat.le_of_ble_eq_true rfl), (Nat.le_of_ble_eq_true rfl)⟩ rfl ((c_145 o n).1 _ (by omega) _ _ _ _ _ _ _ _ _ _ h41 _ rfl rfl rfl rfl) (fun z1 z2 zq => ?_)
      obtain ⟨rfl, rfl⟩ := zq
      try dsimp only [Option.toList, HAppend.hAppend, Append.append, List.append]
      have hz := y_bind h
      clear h
      obtain ⟨s47, h48, h⟩ := hz
      refine Zpi (q_pi_y h48) rfl rfl rfl rfl ?_
      refine Van rfl lk0 rfl rfl ?_
      refine Van rfl lk0 rfl rfl ?_
      refine Vin rfl lk3 rfl ?_
      refine Vic (v := Int32.ofInt 4) rfl rfl rfl ?_
      refine Uadd rfl rfl ?_
      refine Van rfl lk0 rfl rfl ?_
      have hz := y_bind h
      clear h
      obtain ⟨v49, h50, h⟩ := hz
      refine Zgi (q_gi_y h50) rfl rfl rfl ?_
      refine Vin rfl lk2 rfl ?_
      have hz := y_bind h
      clear h
      obtain ⟨b55, h56, h⟩ := hz
      obtain ⟨eh56, fh56, wh56⟩ := y_rcv_ok h56
      cases eh56
      have hz := y_bind h
      clear h
      obtain ⟨⟨s51, r52⟩, h53, h⟩ := hz
      try dsimp only at h
      refine Vcv rfl rfl rfl wh56 rfl rfl ⟨(Nat.le_of_ble_eq_true rfl), (Nat.le_of_ble_eq_true rfl)⟩ rfl ((c_145 o n).1 _ (by omega) _ _ _ _ _ _ _ _ _ _ h53 _ rfl rfl rfl rfl) (fun z1 z2 zq => ?_)
      obtain ⟨rfl, rfl⟩ := zq
      try dsimp only [Option.toList, HAppend.hAppend, Append.append, List.append]
      have hz := y_bind h
      clear h
      obtain ⟨s59, h60, h⟩ := hz
      refine Zpi (q_pi_y h60) rfl rfl rfl rfl ?_
      refine Van rfl lk0 rfl rfl ?_
      refine Van rfl lk0 rfl rfl ?_
      refine Vin rfl lk3 rfl ?_
      refine Vic (v := Int32.ofInt 5) rfl rfl rfl ?_
      refine Uadd rfl rfl ?_
      refine Van rfl lk0 rfl rfl ?_
      have hz := y_bind h
      clear h
      obtain ⟨v61, h62, h⟩ := hz
      refine Zgi (q_gi_y h62) rfl rfl rfl ?_
      refine Vin rfl lk2 rfl ?_
      have hz := y_bind h
      clear h
      obtain ⟨b67, h68, h⟩ := hz
      obtain ⟨eh68, fh68, wh68⟩ := y_rcv_ok h68
      cases eh68
      have hz := y_bind h
      clear h
      obtain ⟨⟨s63, r64⟩, h65, h⟩ := hz
      try dsimp only at h
      refine Vcv rfl rfl rfl wh68 rfl rfl ⟨(Nat.le_of_ble_eq_true rfl), (Nat.le_of_ble_eq_true rfl)⟩ rfl ((c_145 o n).1 _ (by omega) _ _ _ _ _ _ _ _ _ _ h65 _ rfl rfl rfl rfl) (fun z1 z2 zq => ?_)
      obtain ⟨rfl, rfl⟩ := zq
      try dsimp only [Option.toList, HAppend.hAppend, Append.append, List.append]
      have hz := y_bind h
      clear h
      obtain ⟨s71, h72, h⟩ := hz
      refine Zpi (q_pi_y h72) rfl rfl rfl rfl ?_
      refine Van rfl lk0 rfl rfl ?_
      refine Van rfl lk0 rfl rfl ?_
      refine Vin rfl lk3 rfl ?_
      refine Vbp (v := Int32.ofInt 6) rfl (by decide) rfl ?_
      refine Uadd rfl rfl ?_
      refine Van rfl lk0 rfl rfl ?_
      have hz := y_bind h
      clear h
      obtain ⟨v73, h74, h⟩ := hz
      refine Zgi (q_gi_y h74) rfl rfl rfl ?_
      refine Vin rfl lk2 rfl ?_
      have hz := y_bind h
      clear h
      obtain ⟨b79, h80, h⟩ := hz
      obtain ⟨eh80, fh80, wh80⟩ := y_rcv_ok h80
      cases eh80
      have hz := y_bind h
      clear h
      obtain ⟨⟨s75, r76⟩, h77, h⟩ := hz
      try dsimp only at h
      refine Vcv rfl rfl rfl wh80 rfl rfl ⟨(Nat.le_of_ble_eq_true rfl), (Nat.le_of_ble_eq_true rfl)⟩ rfl ((c_145 o n).1 _ (by omega) _ _ _ _ _ _ _ _ _ _ h77 _ rfl rfl rfl rfl) (fun z1 z2 zq => ?_)
      obtain ⟨rfl, rfl⟩ := zq
      try dsimp only [Option.toList, HAppend.hAppend, Append.append, List.append]
      have hz := y_bind h
      clear h
      obtain ⟨s83, h84, h⟩ := hz
      refine Zpi (q_pi_y h84) rfl rfl rfl rfl ?_
      refine Van rfl lk0 rfl rfl ?_
      refine Van rfl lk0 rfl rfl ?_
      refine Vin rfl lk3 rfl ?_
      refine Vbp (v := Int32.ofInt 7) rfl (by decide) rfl ?_
      refine Uadd rfl rfl ?_
      refine Van rfl lk0 rfl rfl ?_
      have hz := y_bind h
      clear h
      obtain ⟨v85, h86, h⟩ := hz
      refine Zgi (q_gi_y h86) rfl rfl rfl ?_
      refine Vin rfl lk2 rfl ?_
      have hz := y_bind h
      clear h
      obtain ⟨b91, h92, h⟩ := hz
      obtain ⟨eh92, fh92, wh92⟩ := y_rcv_ok h92
      cases eh92
      have hz := y_bind h
      clear h
      obtain ⟨⟨s87, r88⟩, h89, h⟩ := hz
      try dsimp only at h
      refine Vcv rfl rfl rfl wh92 rfl rfl ⟨(Nat.le_of_ble_eq_true rfl), (Nat.le_of_ble_eq_true rfl)⟩ rfl ((c_145 o n).1 _ (by omega) _ _ _ _ _ _ _ _ _ _ h89 _ rfl rfl rfl rfl) (fun z1 z2 zq => ?_)
      obtain ⟨rfl, rfl⟩ := zq
      try dsimp only [Option.toList, HAppend.hAppend, Append.append, List.append]
      have hz := y_bind h
      clear h
      obtain ⟨s95, h96, h⟩ := hz
      refine Zpi (q_pi_y h96) rfl rfl rfl rfl ?_
      refine Van rfl lk0 rfl rfl ?_
      refine Van rfl lk0 rfl rfl ?_
      refine Vin rfl lk3 rfl ?_
      refine Vbp (v := Int32.ofInt 8) rfl (by decide) rfl ?_
      refine Uadd rfl rfl ?_
      refine Van rfl lk0 rfl rfl ?_
      have hz := y_bind h
      clear h
      obtain ⟨v97, h98, h⟩ := hz
      refine Zgi (q_gi_y h98) rfl rfl rfl ?_
      refine Vin rfl lk2 rfl ?_
      have hz := y_bind h
      clear h
      obtain ⟨b103, h104, h⟩ := hz
      obtain ⟨eh104, fh104, wh104⟩ := y_rcv_ok h104
      cases eh104
      have hz := y_bind h
      clear h
      obtain ⟨⟨s99, r100⟩, h101, h⟩ := hz
      try dsimp only at h
      refine Vcv rfl rfl rfl wh104 rfl rfl ⟨(Nat.le_of_ble_eq_true rfl), (Nat.le_of_ble_eq_true rfl)⟩ rfl ((c_145 o n).1 _ (by omega) _ _ _ _ _ _ _ _ _ _ h101 _ rfl rfl rfl rfl) (fun z1 z2 zq => ?_)
      obtain ⟨rfl, rfl⟩ := zq
      try dsimp only [Option.toList, HAppend.hAppend, Append.append, List.append]
      have hz := y_bind h
      clear h
      obtain ⟨s107, h108, h⟩ := hz
      refine Zpi (q_pi_y h108) rfl rfl rfl rfl ?_
      refine Van rfl lk0 rfl rfl ?_
      refine Van rfl lk0 rfl rfl ?_
      refine Vin rfl lk3 rfl ?_
      refine Vbp (v := Int32.ofInt 9) rfl (by decide) rfl ?_
      refine Uadd rfl rfl ?_
      refine Van rfl lk0 rfl rfl ?_
      have hz := y_bind h
      clear h
      obtain ⟨v109, h110, h⟩ := hz
      refine Zgi (q_gi_y h110) rfl rfl rfl ?_
      refine Vin rfl lk2 rfl ?_
      have hz := y_bind h
      clear h
      obtain ⟨b115, h116, h⟩ := hz
      obtain ⟨eh116, fh116, wh116⟩ := y_rcv_ok h116
      cases eh116
      have hz := y_bind h
      clear h
      obtain ⟨⟨s111, r112⟩, h113, h⟩ := hz
      try dsimp only at h
      refine Vcv rfl rfl rfl wh116 rfl rfl ⟨(Nat.le_of_ble_eq_true rfl), (Nat.le_of_ble_eq_true rfl)⟩ rfl ((c_145 o n).1 _ (by omega) _ _ _ _ _ _ _ _ _ _ h113 _ rfl rfl rfl rfl) (fun z1 z2 zq => ?_)
      obtain ⟨rfl, rfl⟩ := zq
      try dsimp only [Option.toList, HAppend.hAppend, Append.append, List.append]
      have hz := y_bind h
      clear h
      obtain ⟨s119, h120, h⟩ := hz
      refine Zpi (q_pi_y h120) rfl rfl rfl rfl ?_
      refine Van rfl lk0 rfl rfl ?_
      refine Van rfl lk0 rfl rfl ?_
      have hz := y_bind h
      clear h
      obtain ⟨v121, h122, h⟩ := hz
      refine Zgi (q_gi_y h122) rfl rfl rfl ?_
      refine Vic (v := Int32.ofInt 2) rfl rfl rfl ?_
      have hz := y_bind h
      clear h
      obtain ⟨_, h124, h⟩ := hz
      have c123 := q_g_ok h124
      refine Uif (not_congr (q_eq c123 (by decide))) rfl rfl rfl rfl rfl rfl rfl (fun c125 => ?_) (fun c125 => ?_)
      · rw [if_pos c125] at h
        refine Vic (v := Int32.ofInt 0) rfl rfl rfl ?_
        exact ih.2.1 _ hd _ _ _ _ _ _ _ _ _ _ _ _ _ h lv lk0 lk1 lk2 rfl
      · rw [if_neg c125] at h
        refine Vic (v := Int32.ofInt 1) rfl rfl rfl ?_
        refine Ygo rfl rfl rfl rfl rfl rfl ?_
        exact ih.2.1 _ hd _ _ _ _ _ _ _ _ _ _ _ _ _ h lv lk0 lk1 lk2 rfl
    · intro d hd s r0 i1 i2 i4 i5 i6 ta0 ti1 ti2 tl2 s9 r h lv lk0 lk1 lk2 rs0
      obtain ⟨d, rfl⟩ : ∃ x, d = x + 1 := ⟨d - 1, by omega⟩
      simp only [g_144] at h
      have hz := y_bind h
      clear h
      obtain ⟨s1, h2, h⟩ := hz
      refine Zpi (q_pz_y h2) rfl rfl rfl rfl ?_
      refine Van rfl lk0 rfl rfl ?_
      refine Vin rfl lk1 rfl ?_
      refine Vin rfl lk2 rfl ?_
      have hz := y_bind h
      clear h
      obtain ⟨b7, h8, h⟩ := hz
      obtain ⟨eh8, fh8, wh8⟩ := y_rcv_ok h8
      cases eh8
      have hz := y_bind h
      clear h
      obtain ⟨⟨s3, r4⟩, h5, h⟩ := hz
      try dsimp only at h
      refine Vcv rfl rfl rfl wh8 rfl rfl ⟨(Nat.le_of_ble_eq_true rfl), (Nat.le_of_ble_eq_true rfl)⟩ rfl ((c_146 o n).1 _ (by omega) _ _ _ _ _ _ _ _ _ _ _ _ _ h5 _ rfl rfl rfl) (fun z1 z2 zq => ?_)
      obtain ⟨rfl, rfl⟩ := zq
      try dsimp only [Option.toList, HAppend.hAppend, Append.append, List.append]
      refine Vic (v := Int32.ofInt 0) rfl rfl rfl ?_
      refine Vsi rfl rfl (fun lv lk4 hk => ?_)
      have lk0 := hk 0 _ lk0 (by decide) (by decide) (Or.inl (by decide))
      have lk1 := hk 1 _ lk1 (by decide) (by decide) (Or.inl (by decide))
      have lk2 := hk 2 _ lk2 (by decide) (by decide) (Or.inl (by decide))
      exact ih.2.2.1 _ hd _ _ _ _ _ _ _ _ _ _ _ _ _ h lv lk0 lk1 lk2 lk4
    · intro d hd s r0 i1 i2 i4 i5 i6 ta0 ti1 ti2 tl2 s9 r h lv lk0 lk1 lk2 lk4
      obtain ⟨d, rfl⟩ : ∃ x, d = x + 1 := ⟨d - 1, by omega⟩
      simp only [g_144] at h
      refine Vi rfl lk4 rfl ?_
      refine Vsp (v := Int32.ofInt 6144) rfl (by decide) rfl ?_
      have hz := y_bind h
      clear h
      obtain ⟨_, h2, h⟩ := hz
      have c1 := q_g_ok h2
      refine Uif (q_le (by decide) c1) rfl rfl rfl rfl rfl rfl rfl (fun c3 => ?_) (fun c3 => ?_)
      · rw [if_pos c3] at h
        refine Vic (v := Int32.ofInt 0) rfl rfl rfl ?_
        refine Vsi rfl rfl (fun lv lk4 hk => ?_)
        have lk0 := hk 0 _ lk0 (by decide) (by decide) (Or.inl (by decide))
        have lk1 := hk 1 _ lk1 (by decide) (by decide) (Or.inl (by decide))
        have lk2 := hk 2 _ lk2 (by decide) (by decide) (Or.inl (by decide))
        exact ih.2.2.2.2.2.2.2.2.2.2.1 _ hd _ _ _ _ _ _ _ _ _ _ _ _ _ h lv lk0 lk1 lk2 lk4
      · rw [if_neg c3] at h
        refine Vsp (v := Int32.ofInt 6144) rfl (by decide) rfl ?_
        refine Vin rfl lk1 rfl ?_
        refine Umul rfl rfl ?_
        refine Vi rfl lk4 rfl ?_
        refine Uadd rfl rfl ?_
        refine Vsi rfl rfl (fun lv lk5 hk => ?_)
        have lk0 := hk 0 _ lk0 (by decide) (by decide) (Or.inl (by decide))
        have lk1 := hk 1 _ lk1 (by decide) (by decide) (Or.inl (by decide))
        have lk2 := hk 2 _ lk2 (by decide) (by decide) (Or.inl (by decide))
        have lk4 := hk 4 _ lk4 (by decide) (by decide) (Or.inr rfl)
        refine Van rfl lk0 rfl rfl ?_
        have hz := y_bind h
        clear h
        obtain ⟨v4, h5, h⟩ := hz
        have wv4 := (y_gv_ok h5).2
        refine Vgv h5 rfl rfl rfl ?_
        refine Vi rfl lk5 rfl ?_
        refine Vin rfl lk2 rfl ?_
        have hz := y_bind h
        clear h
        obtain ⟨_, h7, h⟩ := hz
        have c6 := q_g_ok h7
        refine Uif (q_eq0 c6) rfl rfl rfl rfl rfl rfl rfl (fun c8 => ?_) (fun c8 => ?_)
        · rw [if_pos c8] at h
          refine Van rfl lk0 rfl rfl ?_
          have hz := y_bind h
          clear h
          obtain ⟨v9, h10, h⟩ := hz
          have wv9 := (y_gv_ok h10).2
          refine Vgv h10 rfl rfl rfl ?_
          refine Vi rfl lk5 rfl ?_
          have hz := y_bind h
          clear h
          obtain ⟨v11, h12, h⟩ := hz
          refine Zba (q_ba_y h12) rfl rfl ?_
          exact ih.2.2.2.1 _ hd _ _ _ _ _ _ _ _ _ _ _ _ _ h lv lk0 lk1 lk2 lk4 lk5 wv4
        · rw [if_neg c8] at h
          refine Van rfl lk0 rfl rfl ?_
          have hz := y_bind h
          clear h
          obtain ⟨v13, h14, h⟩ := hz
          have wv13 := (y_gv_ok h14).2
          refine Vgv h14 rfl rfl rfl ?_
          refine Vi rfl lk4 rfl ?_
          have hz := y_bind h
          clear h
          obtain ⟨v15, h16, h⟩ := hz
          refine Zba (q_ba_y h16) rfl rfl ?_
          refine Ygo rfl rfl rfl rfl rfl rfl ?_
          exact ih.2.2.2.1 _ hd _ _ _ _ _ _ _ _ _ _ _ _ _ h lv lk0 lk1 lk2 lk4 lk5 wv4
    · intro d hd s r0 i1 i2 i4 i5 i6 ta0 ti1 ti2 tl2 s9 r h lv lk0 lk1 lk2 lk4 lk5 rs0
      obtain ⟨d, rfl⟩ : ∃ x, d = x + 1 := ⟨d - 1, by omega⟩
      simp only [g_144] at h
      have hz := y_bind h
      clear h
      obtain ⟨s1, h2, h⟩ := hz
      refine Zbs (q_bs_y h2) rfl rfl ?_
      refine Van rfl lk0 rfl rfl ?_
      have hz := y_bind h
      clear h
      obtain ⟨v3, h4, h⟩ := hz
      have wv3 := (y_gv_ok h4).2
      refine Vgv h4 rfl rfl rfl ?_
      refine Vi rfl lk4 rfl ?_
      refine Van rfl lk0 rfl rfl ?_
      have hz := y_bind h
      clear h
      obtain ⟨v5, h6, h⟩ := hz
      have wv5 := (y_gv_ok h6).2
      refine Vgv h6 rfl rfl rfl ?_
      refine Vi rfl lk5 rfl ?_
      have hz := y_bind h
      clear h
      obtain ⟨v7, h8, h⟩ := hz
      refine Zba (q_ba_y h8) rfl rfl ?_
      have hz := y_bind h
      clear h
      obtain ⟨s9, h10, h⟩ := hz
      refine Zbs (q_bs_y h10) rfl rfl ?_
      refine Van rfl lk0 rfl rfl ?_
      have hz := y_bind h
      clear h
      obtain ⟨v11, h12, h⟩ := hz
      have wv11 := (y_gv_ok h12).2
      refine Vgv h12 rfl rfl rfl ?_
      refine Vi rfl lk5 rfl ?_
      refine Vin rfl lk2 rfl ?_
      have hz := y_bind h
      clear h
      obtain ⟨_, h14, h⟩ := hz
      have c13 := q_g_ok h14
      refine Uif (q_eq0 c13) rfl rfl rfl rfl rfl rfl rfl (fun c15 => ?_) (fun c15 => ?_)
      · rw [if_pos c15] at h
        refine Van rfl lk0 rfl rfl ?_
        have hz := y_bind h
        clear h
        obtain ⟨v16, h17, h⟩ := hz
        have wv16 := (y_gv_ok h17).2
        refine Vgv h17 rfl rfl rfl ?_
        refine Vi rfl lk5 rfl ?_
        have hz := y_bind h
        clear h
        obtain ⟨v18, h19, h⟩ := hz
        refine Zla (q_la_y h19) rfl rfl ?_
        exact ih.2.2.2.2.1 _ hd _ _ _ _ _ _ _ _ _ _ _ _ _ h lv lk0 lk1 lk2 lk4 lk5 wv11
      · rw [if_neg c15] at h
        refine Van rfl lk0 rfl rfl ?_
        have hz := y_bind h
        clear h
        obtain ⟨v20, h21, h⟩ := hz
        have wv20 := (y_gv_ok h21).2
        refine Vgv h21 rfl rfl rfl ?_
        refine Vi rfl lk4 rfl ?_
        have hz := y_bind h
        clear h
        obtain ⟨v22, h23, h⟩ := hz
        refine Zla (q_la_y h23) rfl rfl ?_
        refine Ygo rfl rfl rfl rfl rfl rfl ?_
        exact ih.2.2.2.2.1 _ hd _ _ _ _ _ _ _ _ _ _ _ _ _ h lv lk0 lk1 lk2 lk4 lk5 wv11
    · intro d hd s r0 i1 i2 i4 i5 i6 ta0 ti1 ti2 tl2 s9 r h lv lk0 lk1 lk2 lk4 lk5 rs0
      obtain ⟨d, rfl⟩ : ∃ x, d = x + 1 := ⟨d - 1, by omega⟩
      simp only [g_144] at h
      have hz := y_bind h
      clear h
      obtain ⟨s1, h2, h⟩ := hz
      refine Zls (q_ls_y h2) rfl rfl ?_
      refine Van rfl lk0 rfl rfl ?_
      have hz := y_bind h
      clear h
      obtain ⟨v3, h4, h⟩ := hz
      have wv3 := (y_gv_ok h4).2
      refine Vgv h4 rfl rfl rfl ?_
      refine Vi rfl lk4 rfl ?_
      refine Van rfl lk0 rfl rfl ?_
      have hz := y_bind h
      clear h
      obtain ⟨v5, h6, h⟩ := hz
      have wv5 := (y_gv_ok h6).2
      refine Vgv h6 rfl rfl rfl ?_
      refine Vi rfl lk5 rfl ?_
      have hz := y_bind h
      clear h
      obtain ⟨v7, h8, h⟩ := hz
      refine Zla (q_la_y h8) rfl rfl ?_
      have hz := y_bind h
      clear h
      obtain ⟨s9, h10, h⟩ := hz
      refine Zls (q_ls_y h10) rfl rfl ?_
      refine Vic (v := Int32.ofInt 5) rfl rfl rfl ?_
      refine Vi rfl lk5 rfl ?_
      refine Umul rfl rfl ?_
      refine Vsi rfl rfl (fun lv lk6 hk => ?_)
      have lk0 := hk 0 _ lk0 (by decide) (by decide) (Or.inl (by decide))
      have lk1 := hk 1 _ lk1 (by decide) (by decide) (Or.inl (by decide))
      have lk2 := hk 2 _ lk2 (by decide) (by decide) (Or.inl (by decide))
      have lk4 := hk 4 _ lk4 (by decide) (by decide) (Or.inl (by decide))
      refine Van rfl lk0 rfl rfl ?_
      have hz := y_bind h
      clear h
      obtain ⟨v11, h12, h⟩ := hz
      have wv11 := (y_gv_ok h12).2
      refine Vgv h12 rfl rfl rfl ?_
      refine Vi rfl lk6 rfl ?_
      refine Vin rfl lk2 rfl ?_
      have hz := y_bind h
      clear h
      obtain ⟨_, h14, h⟩ := hz
      have c13 := q_g_ok h14
      refine Uif (q_eq0 c13) rfl rfl rfl rfl rfl rfl rfl (fun c15 => ?_) (fun c15 => ?_)
      · rw [if_pos c15] at h
        refine Van rfl lk0 rfl rfl ?_
        have hz := y_bind h
        clear h
        obtain ⟨v16, h17, h⟩ := hz
        have wv16 := (y_gv_ok h17).2
        refine Vgv h17 rfl rfl rfl ?_
        refine Vi rfl lk6 rfl ?_
        have hz := y_bind h
        clear h
        obtain ⟨v18, h19, h⟩ := hz
        refine Zia (q_ia_y h19) rfl rfl ?_
        exact ih.2.2.2.2.2.1 _ hd _ _ _ _ _ _ _ _ _ _ _ _ _ h lv lk0 lk1 lk2 lk4 lk6 wv11
      · rw [if_neg c15] at h
        refine Van rfl lk0 rfl rfl ?_
        have hz := y_bind h
        clear h
        obtain ⟨v20, h21, h⟩ := hz
        have wv20 := (y_gv_ok h21).2
        refine Vgv h21 rfl rfl rfl ?_
        refine Vi rfl lk4 rfl ?_
        have hz := y_bind h
        clear h
        obtain ⟨v22, h23, h⟩ := hz
        refine Zia (q_ia_y h23) rfl rfl ?_
        refine Ygo rfl rfl rfl rfl rfl rfl ?_
        exact ih.2.2.2.2.2.1 _ hd _ _ _ _ _ _ _ _ _ _ _ _ _ h lv lk0 lk1 lk2 lk4 lk6 wv11
    · intro d hd s r0 i1 i2 i4 i5 i6 ta0 ti1 ti2 tl2 s9 r h lv lk0 lk1 lk2 lk4 lk6 rs0
      obtain ⟨d, rfl⟩ : ∃ x, d = x + 1 := ⟨d - 1, by omega⟩
      simp only [g_144] at h
      have hz := y_bind h
      clear h
      obtain ⟨s1, h2, h⟩ := hz
      refine Zis (q_is_y h2) rfl rfl ?_
      refine Van rfl lk0 rfl rfl ?_
      have hz := y_bind h
      clear h
      obtain ⟨v3, h4, h⟩ := hz
      have wv3 := (y_gv_ok h4).2
      refine Vgv h4 rfl rfl rfl ?_
      refine Vi rfl lk6 rfl ?_
      refine Vic (v := Int32.ofInt 1) rfl rfl rfl ?_
      refine Uadd rfl rfl ?_
      refine Vin rfl lk2 rfl ?_
      have hz := y_bind h
      clear h
      obtain ⟨_, h6, h⟩ := hz
      have c5 := q_g_ok h6
      refine Uif (q_eq0 c5) rfl rfl rfl rfl rfl rfl rfl (fun c7 => ?_) (fun c7 => ?_)
      · rw [if_pos c7] at h
        refine Van rfl lk0 rfl rfl ?_
        have hz := y_bind h
        clear h
        obtain ⟨v8, h9, h⟩ := hz
        have wv8 := (y_gv_ok h9).2
        refine Vgv h9 rfl rfl rfl ?_
        refine Vi rfl lk6 rfl ?_
        refine Vic (v := Int32.ofInt 1) rfl rfl rfl ?_
        refine Uadd rfl rfl ?_
        have hz := y_bind h
        clear h
        obtain ⟨v10, h11, h⟩ := hz
        refine Zia (q_ia_y h11) rfl rfl ?_
        exact ih.2.2.2.2.2.2.1 _ hd _ _ _ _ _ _ _ _ _ _ _ _ _ h lv lk0 lk1 lk2 lk4 lk6 wv3
      · rw [if_neg c7] at h
        refine Van rfl lk0 rfl rfl ?_
        have hz := y_bind h
        clear h
        obtain ⟨v12, h13, h⟩ := hz
        have wv12 := (y_gv_ok h13).2
        refine Vgv h13 rfl rfl rfl ?_
        refine Vi rfl lk4 rfl ?_
        have hz := y_bind h
        clear h
        obtain ⟨v14, h15, h⟩ := hz
        refine Zia (q_ia_y h15) rfl rfl ?_
        refine Ygo rfl rfl rfl rfl rfl rfl ?_
        exact ih.2.2.2.2.2.2.1 _ hd _ _ _ _ _ _ _ _ _ _ _ _ _ h lv lk0 lk1 lk2 lk4 lk6 wv3
    · intro d hd s r0 i1 i2 i4 i5 i6 ta0 ti1 ti2 tl2 s9 r h lv lk0 lk1 lk2 lk4 lk6 rs0
      obtain ⟨d, rfl⟩ : ∃ x, d = x + 1 := ⟨d - 1, by omega⟩
      simp only [g_144] at h
      have hz := y_bind h
      clear h
      obtain ⟨s1, h2, h⟩ := hz
      refine Zis (q_is_y h2) rfl rfl ?_
      refine Van rfl lk0 rfl rfl ?_
      have hz := y_bind h
      clear h
      obtain ⟨v3, h4, h⟩ := hz
      have wv3 := (y_gv_ok h4).2
      refine Vgv h4 rfl rfl rfl ?_
      refine Vi rfl lk6 rfl ?_
      refine Vic (v := Int32.ofInt 2) rfl rfl rfl ?_
      refine Uadd rfl rfl ?_
      refine Vin rfl lk2 rfl ?_
      have hz := y_bind h
      clear h
      obtain ⟨_, h6, h⟩ := hz
      have c5 := q_g_ok h6
      refine Uif (q_eq0 c5) rfl rfl rfl rfl rfl rfl rfl (fun c7 => ?_) (fun c7 => ?_)
      · rw [if_pos c7] at h
        refine Van rfl lk0 rfl rfl ?_
        have hz := y_bind h
        clear h
        obtain ⟨v8, h9, h⟩ := hz
        have wv8 := (y_gv_ok h9).2
        refine Vgv h9 rfl rfl rfl ?_
        refine Vi rfl lk6 rfl ?_
        refine Vic (v := Int32.ofInt 2) rfl rfl rfl ?_
        refine Uadd rfl rfl ?_
        have hz := y_bind h
        clear h
        obtain ⟨v10, h11, h⟩ := hz
        refine Zia (q_ia_y h11) rfl rfl ?_
        exact ih.2.2.2.2.2.2.2.1 _ hd _ _ _ _ _ _ _ _ _ _ _ _ _ h lv lk0 lk1 lk2 lk4 lk6 wv3
      · rw [if_neg c7] at h
        refine Van rfl lk0 rfl rfl ?_
        have hz := y_bind h
        clear h
        obtain ⟨v12, h13, h⟩ := hz
        have wv12 := (y_gv_ok h13).2
        refine Vgv h13 rfl rfl rfl ?_
        refine Vi rfl lk4 rfl ?_
        have hz := y_bind h
        clear h
        obtain ⟨v14, h15, h⟩ := hz
        refine Zia (q_ia_y h15) rfl rfl ?_
        refine Ygo rfl rfl rfl rfl rfl rfl ?_
        exact ih.2.2.2.2.2.2.2.1 _ hd _ _ _ _ _ _ _ _ _ _ _ _ _ h lv lk0 lk1 lk2 lk4 lk6 wv3
    · intro d hd s r0 i1 i2 i4 i5 i6 ta0 ti1 ti2 tl2 s9 r h lv lk0 lk1 lk2 lk4 lk6 rs0
      obtain ⟨d, rfl⟩ : ∃ x, d = x + 1 := ⟨d - 1, by omega⟩
      simp only [g_144] at h
      have hz := y_bind h
      clear h
      obtain ⟨s1, h2, h⟩ := hz
      refine Zis (q_is_y h2) rfl rfl ?_
      refine Van rfl lk0 rfl rfl ?_
      have hz := y_bind h
      clear h
      obtain ⟨v3, h4, h⟩ := hz
      have wv3 := (y_gv_ok h4).2
      refine Vgv h4 rfl rfl rfl ?_
      refine Vi rfl lk6 rfl ?_
      refine Vic (v := Int32.ofInt 3) rfl rfl rfl ?_
      refine Uadd rfl rfl ?_
      refine Vin rfl lk2 rfl ?_
      have hz := y_bind h
      clear h
      obtain ⟨_, h6, h⟩ := hz
      have c5 := q_g_ok h6
      refine Uif (q_eq0 c5) rfl rfl rfl rfl rfl rfl rfl (fun c7 => ?_) (fun c7 => ?_)
      · rw [if_pos c7] at h
        refine Van rfl lk0 rfl rfl ?_
        have hz := y_bind h
        clear h
        obtain ⟨v8, h9, h⟩ := hz
        have wv8 := (y_gv_ok h9).2
        refine Vgv h9 rfl rfl rfl ?_
        refine Vi rfl lk6 rfl ?_
        refine Vic (v := Int32.ofInt 3) rfl rfl rfl ?_
        refine Uadd rfl rfl ?_
        have hz := y_bind h
        clear h
        obtain ⟨v10, h11, h⟩ := hz
        refine Zia (q_ia_y h11) rfl rfl ?_
        exact ih.2.2.2.2.2.2.2.2.1 _ hd _ _ _ _ _ _ _ _ _ _ _ _ _ h lv lk0 lk1 lk2 lk4 lk6 wv3
      · rw [if_neg c7] at h
        refine Van rfl lk0 rfl rfl ?_
        have hz := y_bind h
        clear h
        obtain ⟨v12, h13, h⟩ := hz
        have wv12 := (y_gv_ok h13).2
        refine Vgv h13 rfl rfl rfl ?_
        refine Vi rfl lk4 rfl ?_
        have hz := y_bind h
        clear h
        obtain ⟨v14, h15, h⟩ := hz
        refine Zia (q_ia_y h15) rfl rfl ?_
        refine Ygo rfl rfl rfl rfl rfl rfl ?_
        exact ih.2.2.2.2.2.2.2.2.1 _ hd _ _ _ _ _ _ _ _ _ _ _ _ _ h lv lk0 lk1 lk2 lk4 lk6 wv3
    · intro d hd s r0 i1 i2 i4 i5 i6 ta0 ti1 ti2 tl2 s9 r h lv lk0 lk1 lk2 lk4 lk6 rs0
      obtain ⟨d, rfl⟩ : ∃ x, d = x + 1 := ⟨d - 1, by omega⟩
      simp only [g_144] at h
      have hz := y_bind h
      clear h
      obtain ⟨s1, h2, h⟩ := hz
      refine Zis (q_is_y h2) rfl rfl ?_
      refine Van rfl lk0 rfl rfl ?_
      have hz := y_bind h
      clear h
      obtain ⟨v3, h4, h⟩ := hz
      have wv3 := (y_gv_ok h4).2
      refine Vgv h4 rfl rfl rfl ?_
      refine Vi rfl lk6 rfl ?_
      refine Vic (v := Int32.ofInt 4) rfl rfl rfl ?_
      refine Uadd rfl rfl ?_
      refine Vin rfl lk2 rfl ?_
      have hz := y_bind h
      clear h
      obtain ⟨_, h6, h⟩ := hz
      have c5 := q_g_ok h6
      refine Uif (q_eq0 c5) rfl rfl rfl rfl rfl rfl rfl (fun c7 => ?_) (fun c7 => ?_)
      · rw [if_pos c7] at h
        refine Van rfl lk0 rfl rfl ?_
        have hz := y_bind h
        clear h
        obtain ⟨v8, h9, h⟩ := hz
        have wv8 := (y_gv_ok h9).2
        refine Vgv h9 rfl rfl rfl ?_
        refine Vi rfl lk6 rfl ?_
        refine Vic (v := Int32.ofInt 4) rfl rfl rfl ?_
        refine Uadd rfl rfl ?_
        have hz := y_bind h
        clear h
        obtain ⟨v10, h11, h⟩ := hz
        refine Zia (q_ia_y h11) rfl rfl ?_
        exact ih.2.2.2.2.2.2.2.2.2.1 _ hd _ _ _ _ _ _ _ _ _ _ _ _ _ h lv lk0 lk1 lk2 lk4 lk6 wv3
      · rw [if_neg c7] at h
        refine Van rfl lk0 rfl rfl ?_
        have hz := y_bind h
        clear h
        obtain ⟨v12, h13, h⟩ := hz
        have wv12 := (y_gv_ok h13).2
        refine Vgv h13 rfl rfl rfl ?_
        refine Vi rfl lk4 rfl ?_
        have hz := y_bind h
        clear h
        obtain ⟨v14, h15, h⟩ := hz
        refine Zia (q_ia_y h15) rfl rfl ?_
        refine Ygo rfl rfl rfl rfl rfl rfl ?_
        exact ih.2.2.2.2.2.2.2.2.2.1 _ hd _ _ _ _ _ _ _ _ _ _ _ _ _ h lv lk0 lk1 lk2 lk4 lk6 wv3
    · intro d hd s r0 i1 i2 i4 i5 i6 ta0 ti1 ti2 tl2 s9 r h lv lk0 lk1 lk2 lk4 lk6 rs0
      obtain ⟨d, rfl⟩ : ∃ x, d = x + 1 := ⟨d - 1, by omega⟩
      simp only [g_144] at h
      have hz := y_bind h
      clear h
      obtain ⟨s1, h2, h⟩ := hz
      refine Zis (q_is_y h2) rfl rfl ?_
      refine Van rfl lk0 rfl rfl ?_
      have hz := y_bind h
      clear h
      obtain ⟨v3, h4, h⟩ := hz
      have wv3 := (y_gv_ok h4).2
      refine Vgv h4 rfl rfl rfl ?_
      refine Vi rfl lk4 rfl ?_
      refine Van rfl lk0 rfl rfl ?_
      have hz := y_bind h
      clear h
      obtain ⟨v5, h6, h⟩ := hz
      have wv5 := (y_gv_ok h6).2
      refine Vgv h6 rfl rfl rfl ?_
      refine Vi rfl lk6 rfl ?_
      have hz := y_bind h
      clear h
      obtain ⟨v7, h8, h⟩ := hz
      refine Zia (q_ia_y h8) rfl rfl ?_
      have hz := y_bind h
      clear h
      obtain ⟨s9, h10, h⟩ := hz
      refine Zis (q_is_y h10) rfl rfl ?_
      refine Van rfl lk0 rfl rfl ?_
      have hz := y_bind h
      clear h
      obtain ⟨v11, h12, h⟩ := hz
      have wv11 := (y_gv_ok h12).2
      refine Vgv h12 rfl rfl rfl ?_
      refine Vi rfl lk4 rfl ?_
      refine Van rfl lk0 rfl rfl ?_
      have hz := y_bind h
      clear h
      obtain ⟨v13, h14, h⟩ := hz
      have wv13 := (y_gv_ok h14).2
      refine Vgv h14 rfl rfl rfl ?_
      refine Vi rfl lk6 rfl ?_
      refine Vic (v := Int32.ofInt 1) rfl rfl rfl ?_
      refine Uadd rfl rfl ?_
      have hz := y_bind h
      clear h
      obtain ⟨v15, h16, h⟩ := hz
      refine Zia (q_ia_y h16) rfl rfl ?_
      have hz := y_bind h
      clear h
      obtain ⟨s17, h18, h⟩ := hz
      refine Zis (q_is_y h18) rfl rfl ?_
      refine Van rfl lk0 rfl rfl ?_
      have hz := y_bind h
      clear h
      obtain ⟨v19, h20, h⟩ := hz
      have wv19 := (y_gv_ok h20).2
      refine Vgv h20 rfl rfl rfl ?_
      refine Vi rfl lk4 rfl ?_
      refine Van rfl lk0 rfl rfl ?_
      have hz := y_bind h
      clear h
      obtain ⟨v21, h22, h⟩ := hz
      have wv21 := (y_gv_ok h22).2
      refine Vgv h22 rfl rfl rfl ?_
      refine Vi rfl lk6 rfl ?_
      refine Vic (v := Int32.ofInt 2) rfl rfl rfl ?_
      refine Uadd rfl rfl ?_
      have hz := y_bind h
      clear h
      obtain ⟨v23, h24, h⟩ := hz
      refine Zia (q_ia_y h24) rfl rfl ?_
      have hz := y_bind h
      clear h
      obtain ⟨s25, h26, h⟩ := hz
      refine Zis (q_is_y h26) rfl rfl ?_
      refine Van rfl lk0 rfl rfl ?_
      have hz := y_bind h
      clear h
      obtain ⟨v27, h28, h⟩ := hz
      have wv27 := (y_gv_ok h28).2
      refine Vgv h28 rfl rfl rfl ?_
      refine Vi rfl lk4 rfl ?_
      refine Van rfl lk0 rfl rfl ?_
      have hz := y_bind h
      clear h
      obtain ⟨v29, h30, h⟩ := hz
      have wv29 := (y_gv_ok h30).2
      refine Vgv h30 rfl rfl rfl ?_
      refine Vi rfl lk6 rfl ?_
      refine Vic (v := Int32.ofInt 3) rfl rfl rfl ?_
      refine Uadd rfl rfl ?_
      have hz := y_bind h
      clear h
      obtain ⟨v31, h32, h⟩ := hz
      refine Zia (q_ia_y h32) rfl rfl ?_
      have hz := y_bind h
      clear h
      obtain ⟨s33, h34, h⟩ := hz
      refine Zis (q_is_y h34) rfl rfl ?_
      refine Van rfl lk0 rfl rfl ?_
      have hz := y_bind h
      clear h
      obtain ⟨v35, h36, h⟩ := hz
      have wv35 := (y_gv_ok h36).2
      refine Vgv h36 rfl rfl rfl ?_
      refine Vi rfl lk4 rfl ?_
      refine Van rfl lk0 rfl rfl ?_
      have hz := y_bind h
      clear h
      obtain ⟨v37, h38, h⟩ := hz
      have wv37 := (y_gv_ok h38).2
      refine Vgv h38 rfl rfl rfl ?_
      refine Vi rfl lk6 rfl ?_
      refine Vic (v := Int32.ofInt 4) rfl rfl rfl ?_
      refine Uadd rfl rfl ?_
      have hz := y_bind h
      clear h
      obtain ⟨v39, h40, h⟩ := hz
      refine Zia (q_ia_y h40) rfl rfl ?_
      have hz := y_bind h
      clear h
      obtain ⟨s41, h42, h⟩ := hz
      refine Zis (q_is_y h42) rfl rfl ?_
      refine Uinc rfl lk4 rfl (fun lv lk4 hk => ?_)
      have lk0 := hk 0 _ lk0 (by decide) (by decide) (Or.inl (by decide))
      have lk1 := hk 1 _ lk1 (by decide) (by decide) (Or.inl (by decide))
      have lk2 := hk 2 _ lk2 (by decide) (by decide) (Or.inl (by decide))
      refine Ygo rfl rfl rfl rfl rfl rfl ?_
      exact ih.2.2.1 _ hd _ _ _ _ _ _ _ _ _ _ _ _ _ h lv lk0 lk1 lk2 lk4
    · intro d hd s r0 i1 i2 i4 i5 i6 ta0 ti1 ti2 tl2 s9 r h lv lk0 lk1 lk2 lk4
      obtain ⟨d, rfl⟩ : ∃ x, d = x + 1 := ⟨d - 1, by omega⟩
      simp only [g_144] at h
      refine Vi rfl lk4 rfl ?_
      refine Vbp (v := Int32.ofInt 104) rfl (by decide) rfl ?_
      have hz := y_bind h
      clear h
      obtain ⟨_, h2, h⟩ := hz
      have c1 := q_g_ok h2
      refine Uif (q_le (by decide) c1) rfl rfl rfl rfl rfl rfl rfl (fun c3 => ?_) (fun c3 => ?_)
      · rw [if_pos c3] at h
        cases h
        exact Yret rfl rfl rfl rfl rfl rfl rfl ⟨rfl, rfl⟩
      · rw [if_neg c3] at h
        refine Vbp (v := Int32.ofInt 104) rfl (by decide) rfl ?_
        refine Vin rfl lk1 rfl ?_
        refine Umul rfl rfl ?_
        refine Vi rfl lk4 rfl ?_
        refine Uadd rfl rfl ?_
        refine Vsi rfl rfl (fun lv lk5 hk => ?_)
        have lk0 := hk 0 _ lk0 (by decide) (by decide) (Or.inl (by decide))
        have lk1 := hk 1 _ lk1 (by decide) (by decide) (Or.inl (by decide))
        have lk2 := hk 2 _ lk2 (by decide) (by decide) (Or.inl (by decide))
        have lk4 := hk 4 _ lk4 (by decide) (by decide) (Or.inr rfl)
        refine Van rfl lk0 rfl rfl ?_
        have hz := y_bind h
        clear h
        obtain ⟨v4, h5, h⟩ := hz
        have wv4 := (y_gv_ok h5).2
        refine Vgv h5 rfl rfl rfl ?_
        refine Vi rfl lk5 rfl ?_
        refine Vin rfl lk2 rfl ?_
        have hz := y_bind h
        clear h
        obtain ⟨_, h7, h⟩ := hz
        have c6 := q_g_ok h7
        refine Uif (q_eq0 c6) rfl rfl rfl rfl rfl rfl rfl (fun c8 => ?_) (fun c8 => ?_)
        · rw [if_pos c8] at h
          refine Van rfl lk0 rfl rfl ?_
          have hz := y_bind h
          clear h
          obtain ⟨v9, h10, h⟩ := hz
          have wv9 := (y_gv_ok h10).2
          refine Vgv h10 rfl rfl rfl ?_
          refine Vi rfl lk5 rfl ?_
          have hz := y_bind h
          clear h
          obtain ⟨v11, h12, h⟩ := hz
          refine Zba (q_ba_y h12) rfl rfl ?_
          exact ih.2.2.2.2.2.2.2.2.2.2.2.1 _ hd _ _ _ _ _ _ _ _ _ _ _ _ _ h lv lk0 lk1 lk2 lk4 lk5 wv4
        · rw [if_neg c8] at h
          refine Van rfl lk0 rfl rfl ?_
          have hz := y_bind h
          clear h
          obtain ⟨v13, h14, h⟩ := hz
          have wv13 := (y_gv_ok h14).2
          refine Vgv h14 rfl rfl rfl ?_
          refine Vi rfl lk4 rfl ?_
          have hz := y_bind h
          clear h
          obtain ⟨v15, h16, h⟩ := hz
          refine Zba (q_ba_y h16) rfl rfl ?_
          refine Ygo rfl rfl rfl rfl rfl rfl ?_
          exact ih.2.2.2.2.2.2.2.2.2.2.2.1 _ hd _ _ _ _ _ _ _ _ _ _ _ _ _ h lv lk0 lk1 lk2 lk4 lk5 wv4
    · intro d hd s r0 i1 i2 i4 i5 i6 ta0 ti1 ti2 tl2 s9 r h lv lk0 lk1 lk2 lk4 lk5 rs0
      obtain ⟨d, rfl⟩ : ∃ x, d = x + 1 := ⟨d - 1, by omega⟩
      simp only [g_144] at h
      have hz := y_bind h
      clear h
      obtain ⟨s1, h2, h⟩ := hz
      refine Zbs (q_bs_y h2) rfl rfl ?_
      refine Van rfl lk0 rfl rfl ?_
      have hz := y_bind h
      clear h
      obtain ⟨v3, h4, h⟩ := hz
      have wv3 := (y_gv_ok h4).2
      refine Vgv h4 rfl rfl rfl ?_
      refine Vi rfl lk4 rfl ?_
      refine Van rfl lk0 rfl rfl ?_
      have hz := y_bind h
      clear h
      obtain ⟨v5, h6, h⟩ := hz
      have wv5 := (y_gv_ok h6).2
      refine Vgv h6 rfl rfl rfl ?_
      refine Vi rfl lk5 rfl ?_
      have hz := y_bind h
      clear h
      obtain ⟨v7, h8, h⟩ := hz
      refine Zba (q_ba_y h8) rfl rfl ?_
      have hz := y_bind h
      clear h
      obtain ⟨s9, h10, h⟩ := hz
      refine Zbs (q_bs_y h10) rfl rfl ?_
      refine Van rfl lk0 rfl rfl ?_
      have hz := y_bind h
      clear h
      obtain ⟨v11, h12, h⟩ := hz
      have wv11 := (y_gv_ok h12).2
      refine Vgv h12 rfl rfl rfl ?_
      refine Vic (v := Int32.ofInt 4) rfl rfl rfl ?_
      refine Vi rfl lk5 rfl ?_
      refine Umul rfl rfl ?_
      refine Vin rfl lk2 rfl ?_
      have hz := y_bind h
      clear h
      obtain ⟨_, h14, h⟩ := hz
      have c13 := q_g_ok h14
      refine Uif (q_eq0 c13) rfl rfl rfl rfl rfl rfl rfl (fun c15 => ?_) (fun c15 => ?_)
      · rw [if_pos c15] at h
        refine Van rfl lk0 rfl rfl ?_
        have hz := y_bind h
        clear h
        obtain ⟨v16, h17, h⟩ := hz
        have wv16 := (y_gv_ok h17).2
        refine Vgv h17 rfl rfl rfl ?_
        refine Vic (v := Int32.ofInt 4) rfl rfl rfl ?_
        refine Vi rfl lk5 rfl ?_
        refine Umul rfl rfl ?_
        have hz := y_bind h
        clear h
        obtain ⟨v18, h19, h⟩ := hz
        refine Zia (q_ia_y h19) rfl rfl ?_
        exact ih.2.2.2.2.2.2.2.2.2.2.2.2.1 _ hd _ _ _ _ _ _ _ _ _ _ _ _ _ h lv lk0 lk1 lk2 lk4 lk5 wv11
      · rw [if_neg c15] at h
        refine Van rfl lk0 rfl rfl ?_
        have hz := y_bind h
        clear h
        obtain ⟨v20, h21, h⟩ := hz
        have wv20 := (y_gv_ok h21).2
        refine Vgv h21 rfl rfl rfl ?_
        refine Vi rfl lk4 rfl ?_
        have hz := y_bind h
        clear h
        obtain ⟨v22, h23, h⟩ := hz
        refine Zia (q_ia_y h23) rfl rfl ?_
        refine Ygo rfl rfl rfl rfl rfl rfl ?_
        exact ih.2.2.2.2.2.2.2.2.2.2.2.2.1 _ hd _ _ _ _ _ _ _ _ _ _ _ _ _ h lv lk0 lk1 lk2 lk4 lk5 wv11
    · intro d hd s r0 i1 i2 i4 i5 i6 ta0 ti1 ti2 tl2 s9 r h lv lk0 lk1 lk2 lk4 lk5 rs0
      obtain ⟨d, rfl⟩ : ∃ x, d = x + 1 := ⟨d - 1, by omega⟩
      simp only [g_144] at h
      have hz := y_bind h
      clear h
      obtain ⟨s1, h2, h⟩ := hz
      refine Zis (q_is_y h2) rfl rfl ?_
      refine Van rfl lk0 rfl rfl ?_
      have hz := y_bind h
      clear h
      obtain ⟨v3, h4, h⟩ := hz
      have wv3 := (y_gv_ok h4).2
      refine Vgv h4 rfl rfl rfl ?_
      refine Vic (v := Int32.ofInt 4) rfl rfl rfl ?_
      refine Vi rfl lk5 rfl ?_
      refine Umul rfl rfl ?_
      refine Vic (v := Int32.ofInt 1) rfl rfl rfl ?_
      refine Uadd rfl rfl ?_
      refine Vin rfl lk2 rfl ?_
      have hz := y_bind h
      clear h
      obtain ⟨_, h6, h⟩ := hz
      have c5 := q_g_ok h6
      refine Uif (q_eq0 c5) rfl rfl rfl rfl rfl rfl rfl (fun c7 => ?_) (fun c7 => ?_)
      · rw [if_pos c7] at h
        refine Van rfl lk0 rfl rfl ?_
        have hz := y_bind h
        clear h
        obtain ⟨v8, h9, h⟩ := hz
        have wv8 := (y_gv_ok h9).2
        refine Vgv h9 rfl rfl rfl ?_
        refine Vic (v := Int32.ofInt 4) rfl rfl rfl ?_
        refine Vi rfl lk5 rfl ?_
        refine Umul rfl rfl ?_
        refine Vic (v := Int32.ofInt 1) rfl rfl rfl ?_
        refine Uadd rfl rfl ?_
        have hz := y_bind h
        clear h
        obtain ⟨v10, h11, h⟩ := hz
        refine Zia (q_ia_y h11) rfl rfl ?_
        exact ih.2.2.2.2.2.2.2.2.2.2.2.2.2.1 _ hd _ _ _ _ _ _ _ _ _ _ _ _ _ h lv lk0 lk1 lk2 lk4 lk5 wv3
      · rw [if_neg c7] at h
        refine Van rfl lk0 rfl rfl ?_
        have hz := y_bind h
        clear h
        obtain ⟨v12, h13, h⟩ := hz
        have wv12 := (y_gv_ok h13).2
        refine Vgv h13 rfl rfl rfl ?_
        refine Vi rfl lk4 rfl ?_
        have hz := y_bind h
        clear h
        obtain ⟨v14, h15, h⟩ := hz
        refine Zia (q_ia_y h15) rfl rfl ?_
        refine Ygo rfl rfl rfl rfl rfl rfl ?_
        exact ih.2.2.2.2.2.2.2.2.2.2.2.2.2.1 _ hd _ _ _ _ _ _ _ _ _ _ _ _ _ h lv lk0 lk1 lk2 lk4 lk5 wv3
    · intro d hd s r0 i1 i2 i4 i5 i6 ta0 ti1 ti2 tl2 s9 r h lv lk0 lk1 lk2 lk4 lk5 rs0
      obtain ⟨d, rfl⟩ : ∃ x, d = x + 1 := ⟨d - 1, by omega⟩
      simp only [g_144] at h
      have hz := y_bind h
      clear h
      obtain ⟨s1, h2, h⟩ := hz
      refine Zis (q_is_y h2) rfl rfl ?_
      refine Van rfl lk0 rfl rfl ?_
      have hz := y_bind h
      clear h
      obtain ⟨v3, h4, h⟩ := hz
      have wv3 := (y_gv_ok h4).2
      refine Vgv h4 rfl rfl rfl ?_
      refine Vic (v := Int32.ofInt 4) rfl rfl rfl ?_
      refine Vi rfl lk5 rfl ?_
      refine Umul rfl rfl ?_
      refine Vic (v := Int32.ofInt 2) rfl rfl rfl ?_
      refine Uadd rfl rfl ?_
      refine Vin rfl lk2 rfl ?_
      have hz := y_bind h
      clear h
      obtain ⟨_, h6, h⟩ := hz
      have c5 := q_g_ok h6
      refine Uif (q_eq0 c5) rfl rfl rfl rfl rfl rfl rfl (fun c7 => ?_) (fun c7 => ?_)
      · rw [if_pos c7] at h
        refine Van rfl lk0 rfl rfl ?_
        have hz := y_bind h
        clear h
        obtain ⟨v8, h9, h⟩ := hz
        have wv8 := (y_gv_ok h9).2
        refine Vgv h9 rfl rfl rfl ?_
        refine Vic (v := Int32.ofInt 4) rfl rfl rfl ?_
        refine Vi rfl lk5 rfl ?_
        refine Umul rfl rfl ?_
        refine Vic (v := Int32.ofInt 2) rfl rfl rfl ?_
        refine Uadd rfl rfl ?_
        have hz := y_bind h
        clear h
        obtain ⟨v10, h11, h⟩ := hz
        refine Zia (q_ia_y h11) rfl rfl ?_
        exact ih.2.2.2.2.2.2.2.2.2.2.2.2.2.2.1 _ hd _ _ _ _ _ _ _ _ _ _ _ _ _ h lv lk0 lk1 lk2 lk4 lk5 wv3
      · rw [if_neg c7] at h
        refine Van rfl lk0 rfl rfl ?_
        have hz := y_bind h
        clear h
        obtain ⟨v12, h13, h⟩ := hz
        have wv12 := (y_gv_ok h13).2
        refine Vgv h13 rfl rfl rfl ?_
        refine Vi rfl lk4 rfl ?_
        have hz := y_bind h
        clear h
        obtain ⟨v14, h15, h⟩ := hz
        refine Zia (q_ia_y h15) rfl rfl ?_
        refine Ygo rfl rfl rfl rfl rfl rfl ?_
        exact ih.2.2.2.2.2.2.2.2.2.2.2.2.2.2.1 _ hd _ _ _ _ _ _ _ _ _ _ _ _ _ h lv lk0 lk1 lk2 lk4 lk5 wv3
    · intro d hd s r0 i1 i2 i4 i5 i6 ta0 ti1 ti2 tl2 s9 r h lv lk0 lk1 lk2 lk4 lk5 rs0
      obtain ⟨d, rfl⟩ : ∃ x, d = x + 1 := ⟨d - 1, by omega⟩
      simp only [g_144] at h
      have hz := y_bind h
      clear h
      obtain ⟨s1, h2, h⟩ := hz
      refine Zis (q_is_y h2) rfl rfl ?_
      refine Van rfl lk0 rfl rfl ?_
      have hz := y_bind h
      clear h
      obtain ⟨v3, h4, h⟩ := hz
      have wv3 := (y_gv_ok h4).2
      refine Vgv h4 rfl rfl rfl ?_
      refine Vic (v := Int32.ofInt 4) rfl rfl rfl ?_
      refine Vi rfl lk5 rfl ?_
      refine Umul rfl rfl ?_
      refine Vic (v := Int32.ofInt 3) rfl rfl rfl ?_
      refine Uadd rfl rfl ?_
      refine Vin rfl lk2 rfl ?_
      have hz := y_bind h
      clear h
      obtain ⟨_, h6, h⟩ := hz
      have c5 := q_g_ok h6
      refine Uif (q_eq0 c5) rfl rfl rfl rfl rfl rfl rfl (fun c7 => ?_) (fun c7 => ?_)
      · rw [if_pos c7] at h
        refine Van rfl lk0 rfl rfl ?_
        have hz := y_bind h
        clear h
        obtain ⟨v8, h9, h⟩ := hz
        have wv8 := (y_gv_ok h9).2
        refine Vgv h9 rfl rfl rfl ?_
        refine Vic (v := Int32.ofInt 4) rfl rfl rfl ?_
        refine Vi rfl lk5 rfl ?_
        refine Umul rfl rfl ?_
        refine Vic (v := Int32.ofInt 3) rfl rfl rfl ?_
        refine Uadd rfl rfl ?_
        have hz := y_bind h
        clear h
        obtain ⟨v10, h11, h⟩ := hz
        refine Zia (q_ia_y h11) rfl rfl ?_
        exact ih.2.2.2.2.2.2.2.2.2.2.2.2.2.2.2.1 _ hd _ _ _ _ _ _ _ _ _ _ _ _ _ h lv lk0 lk1 lk2 lk4 lk5 wv3
      · rw [if_neg c7] at h
        refine Van rfl lk0 rfl rfl ?_
        have hz := y_bind h
        clear h
        obtain ⟨v12, h13, h⟩ := hz
        have wv12 := (y_gv_ok h13).2
        refine Vgv h13 rfl rfl rfl ?_
        refine Vi rfl lk4 rfl ?_
        have hz := y_bind h
        clear h
        obtain ⟨v14, h15, h⟩ := hz
        refine Zia (q_ia_y h15) rfl rfl ?_
        refine Ygo rfl rfl rfl rfl rfl rfl ?_
        exact ih.2.2.2.2.2.2.2.2.2.2.2.2.2.2.2.1 _ hd _ _ _ _ _ _ _ _ _ _ _ _ _ h lv lk0 lk1 lk2 lk4 lk5 wv3
    · intro d hd s r0 i1 i2 i4 i5 i6 ta0 ti1 ti2 tl2 s9 r h lv lk0 lk1 lk2 lk4 lk5 rs0
      obtain ⟨d, rfl⟩ : ∃ x, d = x + 1 := ⟨d - 1, by omega⟩
      simp only [g_144] at h
      have hz := y_bind h
      clear h
      obtain ⟨s1, h2, h⟩ := hz
      refine Zis (q_is_y h2) rfl rfl ?_
      refine Van rfl lk0 rfl rfl ?_
      have hz := y_bind h
      clear h
      obtain ⟨v3, h4, h⟩ := hz
      have wv3 := (y_gv_ok h4).2
      refine Vgv h4 rfl rfl rfl ?_
      refine Vi rfl lk4 rfl ?_
      refine Van rfl lk0 rfl rfl ?_
      have hz := y_bind h
      clear h
      obtain ⟨v5, h6, h⟩ := hz
      have wv5 := (y_gv_ok h6).2
      refine Vgv h6 rfl rfl rfl ?_
      refine Vic (v := Int32.ofInt 4) rfl rfl rfl ?_
      refine Vi rfl lk5 rfl ?_
      refine Umul rfl rfl ?_
      have hz := y_bind h
      clear h
      obtain ⟨v7, h8, h⟩ := hz
      refine Zia (q_ia_y h8) rfl rfl ?_
      have hz := y_bind h
      clear h
      obtain ⟨s9, h10, h⟩ := hz
      refine Zis (q_is_y h10) rfl rfl ?_
      refine Van rfl lk0 rfl rfl ?_
      have hz := y_bind h
      clear h
      obtain ⟨v11, h12, h⟩ := hz
      have wv11 := (y_gv_ok h12).2
      refine Vgv h12 rfl rfl rfl ?_
      refine Vi rfl lk4 rfl ?_
      refine Van rfl lk0 rfl rfl ?_
      have hz := y_bind h
      clear h
      obtain ⟨v13, h14, h⟩ := hz
      have wv13 := (y_gv_ok h14).2
      refine Vgv h14 rfl rfl rfl ?_
      refine Vic (v := Int32.ofInt 4) rfl rfl rfl ?_
      refine Vi rfl lk5 rfl ?_
      refine Umul rfl rfl ?_
      refine Vic (v := Int32.ofInt 1) rfl rfl rfl ?_
      refine Uadd rfl rfl ?_
      have hz := y_bind h
      clear h
      obtain ⟨v15, h16, h⟩ := hz
      refine Zia (q_ia_y h16) rfl rfl ?_
      have hz := y_bind h
      clear h
      obtain ⟨s17, h18, h⟩ := hz
      refine Zis (q_is_y h18) rfl rfl ?_
      refine Van rfl lk0 rfl rfl ?_
      have hz := y_bind h
      clear h
      obtain ⟨v19, h20, h⟩ := hz
      have wv19 := (y_gv_ok h20).2
      refine Vgv h20 rfl rfl rfl ?_
      refine Vi rfl lk4 rfl ?_
      refine Van rfl lk0 rfl rfl ?_
      have hz := y_bind h
      clear h
      obtain ⟨v21, h22, h⟩ := hz
      have wv21 := (y_gv_ok h22).2
      refine Vgv h22 rfl rfl rfl ?_
      refine Vic (v := Int32.ofInt 4) rfl rfl rfl ?_
      refine Vi rfl lk5 rfl ?_
      refine Umul rfl rfl ?_
      refine Vic (v := Int32.ofInt 2) rfl rfl rfl ?_
      refine Uadd rfl rfl ?_
      have hz := y_bind h
      clear h
      obtain ⟨v23, h24, h⟩ := hz
      refine Zia (q_ia_y h24) rfl rfl ?_
      have hz := y_bind h
      clear h
      obtain ⟨s25, h26, h⟩ := hz
      refine Zis (q_is_y h26) rfl rfl ?_
      refine Van rfl lk0 rfl rfl ?_
      have hz := y_bind h
      clear h
      obtain ⟨v27, h28, h⟩ := hz
      have wv27 := (y_gv_ok h28).2
      refine Vgv h28 rfl rfl rfl ?_
      refine Vi rfl lk4 rfl ?_
      refine Van rfl lk0 rfl rfl ?_
      have hz := y_bind h
      clear h
      obtain ⟨v29, h30, h⟩ := hz
      have wv29 := (y_gv_ok h30).2
      refine Vgv h30 rfl rfl rfl ?_
      refine Vic (v := Int32.ofInt 4) rfl rfl rfl ?_
      refine Vi rfl lk5 rfl ?_
      refine Umul rfl rfl ?_
      refine Vic (v := Int32.ofInt 3) rfl rfl rfl ?_
      refine Uadd rfl rfl ?_
      have hz := y_bind h
      clear h
      obtain ⟨v31, h32, h⟩ := hz
      refine Zia (q_ia_y h32) rfl rfl ?_
      have hz := y_bind h
      clear h
      obtain ⟨s33, h34, h⟩ := hz
      refine Zis (q_is_y h34) rfl rfl ?_
      refine Van rfl lk0 rfl rfl ?_
      have hz := y_bind h
      clear h
      obtain ⟨v35, h36, h⟩ := hz
      have wv35 := (y_gv_ok h36).2
      refine Vgv h36 rfl rfl rfl ?_
      refine Vic (v := Int32.ofInt 3) rfl rfl rfl ?_
      refine Vi rfl lk5 rfl ?_
      refine Umul rfl rfl ?_
      refine Vin rfl lk2 rfl ?_
      have hz := y_bind h
      clear h
      obtain ⟨_, h38, h⟩ := hz
      have c37 := q_g_ok h38
      refine Uif (q_eq0 c37) rfl rfl rfl rfl rfl rfl rfl (fun c39 => ?_) (fun c39 => ?_)
      · rw [if_pos c39] at h
        refine Van rfl lk0 rfl rfl ?_
        have hz := y_bind h
        clear h
        obtain ⟨v40, h41, h⟩ := hz
        have wv40 := (y_gv_ok h41).2
        refine Vgv h41 rfl rfl rfl ?_
        refine Vic (v := Int32.ofInt 3) rfl rfl rfl ?_
        refine Vi rfl lk5 rfl ?_
        refine Umul rfl rfl ?_
        have hz := y_bind h
        clear h
        obtain ⟨v42, h43, h⟩ := hz
        refine Zla (q_la_y h43) rfl rfl ?_
        exact ih.2.2.2.2.2.2.2.2.2.2.2.2.2.2.2.2.1 _ hd _ _ _ _ _ _ _ _ _ _ _ _ _ h lv lk0 lk1 lk2 lk4 lk5 wv35
      · rw [if_neg c39] at h
        refine Van rfl lk0 rfl rfl ?_
        have hz := y_bind h
        clear h
        obtain ⟨v44, h45, h⟩ := hz
        have wv44 := (y_gv_ok h45).2
        refine Vgv h45 rfl rfl rfl ?_
        refine Vi rfl lk4 rfl ?_
        have hz := y_bind h
        clear h
        obtain ⟨v46, h47, h⟩ := hz
        refine Zla (q_la_y h47) rfl rfl ?_
        refine Ygo rfl rfl rfl rfl rfl rfl ?_
        exact ih.2.2.2.2.2.2.2.2.2.2.2.2.2.2.2.2.1 _ hd _ _ _ _ _ _ _ _ _ _ _ _ _ h lv lk0 lk1 lk2 lk4 lk5 wv35
    · intro d hd s r0 i1 i2 i4 i5 i6 ta0 ti1 ti2 tl2 s9 r h lv lk0 lk1 lk2 lk4 lk5 rs0
      obtain ⟨d, rfl⟩ : ∃ x, d = x + 1 := ⟨d - 1, by omega⟩
      simp only [g_144] at h
      have hz := y_bind h
      clear h
      obtain ⟨s1, h2, h⟩ := hz
      refine Zls (q_ls_y h2) rfl rfl ?_
      refine Van rfl lk0 rfl rfl ?_
      have hz := y_bind h
      clear h
      obtain ⟨v3, h4, h⟩ := hz
      have wv3 := (y_gv_ok h4).2
      refine Vgv h4 rfl rfl rfl ?_
      refine Vic (v := Int32.ofInt 3) rfl rfl rfl ?_
      refine Vi rfl lk5 rfl ?_
      refine Umul rfl rfl ?_
      refine Vic (v := Int32.ofInt 1) rfl rfl rfl ?_
      refine Uadd rfl rfl ?_
      refine Vin rfl lk2 rfl ?_
      have hz := y_bind h
      clear h
      obtain ⟨_, h6, h⟩ := hz
      have c5 := q_g_ok h6
      refine Uif (q_eq0 c5) rfl rfl rfl rfl rfl rfl rfl (fun c7 => ?_) (fun c7 => ?_)
      · rw [if_pos c7] at h
        refine Van rfl lk0 rfl rfl ?_
        have hz := y_bind h
        clear h
        obtain ⟨v8, h9, h⟩ := hz
        have wv8 := (y_gv_ok h9).2
        refine Vgv h9 rfl rfl rfl ?_
        refine Vic (v := Int32.ofInt 3) rfl rfl rfl ?_
        refine Vi rfl lk5 rfl ?_
        refine Umul rfl rfl ?_
        refine Vic (v := Int32.ofInt 1) rfl rfl rfl ?_
        refine Uadd rfl rfl ?_
        have hz := y_bind h
        clear h
        obtain ⟨v10, h11, h⟩ := hz
        refine Zla (q_la_y h11) rfl rfl ?_
        exact ih.2.2.2.2.2.2.2.2.2.2.2.2.2.2.2.2.2.1 _ hd _ _ _ _ _ _ _ _ _ _ _ _ _ h lv lk0 lk1 lk2 lk4 lk5 wv3
      · rw [if_neg c7] at h
        refine Van rfl lk0 rfl rfl ?_
        have hz := y_bind h
        clear h
        obtain ⟨v12, h13, h⟩ := hz
        have wv12 := (y_gv_ok h13).2
        refine Vgv h13 rfl rfl rfl ?_
        refine Vi rfl lk4 rfl ?_
        have hz := y_bind h
        clear h
        obtain ⟨v14, h15, h⟩ := hz
        refine Zla (q_la_y h15) rfl rfl ?_
        refine Ygo rfl rfl rfl rfl rfl rfl ?_
        exact ih.2.2.2.2.2.2.2.2.2.2.2.2.2.2.2.2.2.1 _ hd _ _ _ _ _ _ _ _ _ _ _ _ _ h lv lk0 lk1 lk2 lk4 lk5 wv3
    · intro d hd s r0 i1 i2 i4 i5 i6 ta0 ti1 ti2 tl2 s9 r h lv lk0 lk1 lk2 lk4 lk5 rs0
      obtain ⟨d, rfl⟩ : ∃ x, d = x + 1 := ⟨d - 1, by omega⟩
      simp only [g_144] at h
      have hz := y_bind h
      clear h
      obtain ⟨s1, h2, h⟩ := hz
      refine Zls (q_ls_y h2) rfl rfl ?_
      refine Van rfl lk0 rfl rfl ?_
      have hz := y_bind h
      clear h
      obtain ⟨v3, h4, h⟩ := hz
      have wv3 := (y_gv_ok h4).2
      refine Vgv h4 rfl rfl rfl ?_
      refine Vic (v := Int32.ofInt 3) rfl rfl rfl ?_
      refine Vi rfl lk5 rfl ?_
      refine Umul rfl rfl ?_
      refine Vic (v := Int32.ofInt 2) rfl rfl rfl ?_
      refine Uadd rfl rfl ?_
      refine Vin rfl lk2 rfl ?_
      have hz := y_bind h
      clear h
      obtain ⟨_, h6, h⟩ := hz
      have c5 := q_g_ok h6
      refine Uif (q_eq0 c5) rfl rfl rfl rfl rfl rfl rfl (fun c7 => ?_) (fun c7 => ?_)
      · rw [if_pos c7] at h
        refine Van rfl lk0 rfl rfl ?_
        have hz := y_bind h
        clear h
        obtain ⟨v8, h9, h⟩ := hz
        have wv8 := (y_gv_ok h9).2
        refine Vgv h9 rfl rfl rfl ?_
        refine Vic (v := Int32.ofInt 3) rfl rfl rfl ?_
        refine Vi rfl lk5 rfl ?_
        refine Umul rfl rfl ?_
        refine Vic (v := Int32.ofInt 2) rfl rfl rfl ?_
        refine Uadd rfl rfl ?_
        have hz := y_bind h
        clear h
        obtain ⟨v10, h11, h⟩ := hz
        refine Zla (q_la_y h11) rfl rfl ?_
        exact ih.2.2.2.2.2.2.2.2.2.2.2.2.2.2.2.2.2.2 _ hd _ _ _ _ _ _ _ _ _ _ _ _ _ h lv lk0 lk1 lk2 lk4 lk5 wv3
      · rw [if_neg c7] at h
        refine Van rfl lk0 rfl rfl ?_
        have hz := y_bind h
        clear h
        obtain ⟨v12, h13, h⟩ := hz
        have wv12 := (y_gv_ok h13).2
        refine Vgv h13 rfl rfl rfl ?_
        refine Vi rfl lk4 rfl ?_
        have hz := y_bind h
        clear h
        obtain ⟨v14, h15, h⟩ := hz
        refine Zla (q_la_y h15) rfl rfl ?_
        refine Ygo rfl rfl rfl rfl rfl rfl ?_
        exact ih.2.2.2.2.2.2.2.2.2.2.2.2.2.2.2.2.2.2 _ hd _ _ _ _ _ _ _ _ _ _ _ _ _ h lv lk0 lk1 lk2 lk4 lk5 wv3
    · intro d hd s r0 i1 i2 i4 i5 i6 ta0 ti1 ti2 tl2 s9 r h lv lk0 lk1 lk2 lk4 lk5 rs0
      obtain ⟨d, rfl⟩ : ∃ x, d = x + 1 := ⟨d - 1, by omega⟩
      simp only [g_144] at h
      have hz := y_bind h
      clear h
      obtain ⟨s1, h2, h⟩ := hz
      refine Zls (q_ls_y h2) rfl rfl ?_
      refine Van rfl lk0 rfl rfl ?_
      have hz := y_bind h
      clear h
      obtain ⟨v3, h4, h⟩ := hz
      have wv3 := (y_gv_ok h4).2
      refine Vgv h4 rfl rfl rfl ?_
      refine Vi rfl lk4 rfl ?_
      refine Van rfl lk0 rfl rfl ?_
      have hz := y_bind h
      clear h
      obtain ⟨v5, h6, h⟩ := hz
      have wv5 := (y_gv_ok h6).2
      refine Vgv h6 rfl rfl rfl ?_
      refine Vic (v := Int32.ofInt 3) rfl rfl rfl ?_
      refine Vi rfl lk5 rfl ?_
      refine Umul rfl rfl ?_
      have hz := y_bind h
      clear h
      obtain ⟨v7, h8, h⟩ := hz
      refine Zla (q_la_y h8) rfl rfl ?_
      have hz := y_bind h
      clear h
      obtain ⟨s9, h10, h⟩ := hz
      refine Zls (q_ls_y h10) rfl rfl ?_
      refine Van rfl lk0 rfl rfl ?_
      have hz := y_bind h
      clear h
      obtain ⟨v11, h12, h⟩ := hz
      have wv11 := (y_gv_ok h12).2
      refine Vgv h12 rfl rfl rfl ?_
      refine Vi rfl lk4 rfl ?_
      refine Van rfl lk0 rfl rfl ?_
      have hz := y_bind h
      clear h
      obtain ⟨v13, h14, h⟩ := hz
      have wv13 := (y_gv_ok h14).2
      refine Vgv h14 rfl rfl rfl ?_
      refine Vic (v := Int32.ofInt 3) rfl rfl rfl ?_
      refine Vi rfl lk5 rfl ?_
      refine Umul rfl rfl ?_
      refine Vic (v := Int32.ofInt 1) rfl rfl rfl ?_
      refine Uadd rfl rfl ?_
      have hz := y_bind h
      clear h
      obtain ⟨v15, h16, h⟩ := hz
      refine Zla (q_la_y h16) rfl rfl ?_
      have hz := y_bind h
      clear h
      obtain ⟨s17, h18, h⟩ := hz
      refine Zls (q_ls_y h18) rfl rfl ?_
      refine Van rfl lk0 rfl rfl ?_
      have hz := y_bind h
      clear h
      obtain ⟨v19, h20, h⟩ := hz
      have wv19 := (y_gv_ok h20).2
      refine Vgv h20 rfl rfl rfl ?_
      refine Vi rfl lk4 rfl ?_
      refine Van rfl lk0 rfl rfl ?_
      have hz := y_bind h
      clear h
      obtain ⟨v21, h22, h⟩ := hz
      have wv21 := (y_gv_ok h22).2
      refine Vgv h22 rfl rfl rfl ?_
      refine Vic (v := Int32.ofInt 3) rfl rfl rfl ?_
      refine Vi rfl lk5 rfl ?_
      refine Umul rfl rfl ?_
      refine Vic (v := Int32.ofInt 2) rfl rfl rfl ?_
      refine Uadd rfl rfl ?_
      have hz := y_bind h
      clear h
      obtain ⟨v23, h24, h⟩ := hz
      refine Zla (q_la_y h24) rfl rfl ?_
      have hz := y_bind h
      clear h
      obtain ⟨s25, h26, h⟩ := hz
      refine Zls (q_ls_y h26) rfl rfl ?_
      refine Uinc rfl lk4 rfl (fun lv lk4 hk => ?_)
      have lk0 := hk 0 _ lk0 (by decide) (by decide) (Or.inl (by decide))
      have lk1 := hk 1 _ lk1 (by decide) (by decide) (Or.inl (by decide))
      have lk2 := hk 2 _ lk2 (by decide) (by decide) (Or.inl (by decide))
      refine Ygo rfl rfl rfl rfl rfl rfl ?_
      exact ih.2.2.2.2.2.2.2.2.2.2.1 _ hd _ _ _ _ _ _ _ _ _ _ _ _ _ h lv lk0 lk1 lk2 lk4

/-- StepRowsModel.save -/
def g_143 (o : X_O) : Nat → Nat → Q_S → Nat → Option (Q_S × Int)
  | 0, _, _, _ => none
  | n + 1, 0, s, r0 => (q_pi s 7 (.ref r0) 0 0).bind fun s1 => (q_gi s1 7 (.ref r0) 17).bind fun v3 => (q_g (q_in v3)).bind fun _ => if ¬ v3 = 3 then (q_gi s1 7 (.ref r0) 50).bind fun v8 => (q_g (q_in v8)).bind fun _ => if ¬ v8 = 8 then (q_gi s1 7 (.ref r0) 50).bind fun v13 => (q_rcv s1 7 (.ref r0)).bind fun b19 => (g_144 o n 0 s1 b19 (v13) (1) 0 0 0 .null 0 0 0).bind fun q18 => (q_gi q18.1 7 (.ref r0) 50).bind fun v23 => (q_pi q18.1 7 (.ref r0) 50 (v23 + 1)).bind fun s25 => (q_gi s25 7 (.ref r0) 50).bind fun v27 => some (s25, (v27 - 1)) else some (s1, (-2)) else some (s1, (-1))
  | _ + 1, _, _, _ => none
set_option maxRecDepth 100000 in
set_option maxHeartbeats 4000000 in
theorem c_143 (o : X_O) : ∀ n, (∀ (d : Nat) (hd : 2 ≤ d) (s : Q_S) (r0 : Nat) (s9 : Q_S) (r : Int), g_143 o n 0 s r0 = some (s9, r) → ∀ lv : X_L, x_lget lv 0 = some (.ref r0) → Y o d 143 0 lv [] (q_y s) (fun s1 r1 => s1 = q_y s9 ∧ r1 = some (.int (Int32.ofInt r)))) := by
  intro n
  induction n with
  | zero => exact fun d hd s _ s9 r h => (by simp only [g_143] at h; cases h)
  | succ n ih =>
    intro d hd s r0 s9 r h lv lk0
    obtain ⟨d, rfl⟩ : ∃ x, d = x + 1 := ⟨d - 1, by omega⟩
    simp only [g_143] at h
    refine Van rfl lk0 rfl rfl ?_
    refine Vic (v := Int32.ofInt 0) rfl rfl rfl ?_
    have hz := y_bind h
    clear h
    obtain ⟨s1, h2, h⟩ := hz
    refine Zpi (q_pi_y h2) rfl rfl rfl rfl ?_
    refine Van rfl lk0 rfl rfl ?_
    have hz := y_bind h
    clear h
    obtain ⟨v3, h4, h⟩ := hz
    refine Zgi (q_gi_y h4) rfl rfl rfl ?_
    refine Vic (v := Int32.ofInt 3) rfl rfl rfl ?_
    have hz := y_bind h
    clear h
    obtain ⟨_, h6, h⟩ := hz
    have c5 := q_g_ok h6
    refine Uif (not_congr (q_eq c5 (by decide))) rfl rfl rfl rfl rfl rfl rfl (fun c7 => ?_) (fun c7 => ?_)
    · rw [if_pos c7] at h
      refine Van rfl lk0 rfl rfl ?_
      have hz := y_bind h
      clear h
      obtain ⟨v8, h9, h⟩ := hz
      refine Zgi (q_gi_y h9) rfl rfl rfl ?_
      refine Vbp (v := Int32.ofInt 8) rfl (by decide) rfl ?_
      have hz := y_bind h
      clear h
      obtain ⟨_, h11, h⟩ := hz
      have c10 := q_g_ok h11
      refine Uif (not_congr (q_eq c10 (by decide))) rfl rfl rfl rfl rfl rfl rfl (fun c12 => ?_) (fun c12 => ?_)
      · rw [if_pos c12] at h
        refine Van rfl lk0 rfl rfl ?_
        refine Van rfl lk0 rfl rfl ?_
        have hz := y_bind h
        clear h
        obtain ⟨v13, h14, h⟩ := hz
        refine Zgi (q_gi_y h14) rfl rfl rfl ?_
        refine Vic (v := Int32.ofInt 1) rfl rfl rfl ?_
        have hz := y_bind h
        clear h
        obtain ⟨b19, h20, h⟩ := hz
        obtain ⟨eh20, fh20, wh20⟩ := y_rcv_ok h20
        cases eh20
        have hz := y_bind h
        clear h
        obtain ⟨⟨s15, r16⟩, h17, h⟩ := hz
        try dsimp only at h
        refine Vcv rfl rfl rfl wh20 rfl rfl ⟨(Nat.le_of_ble_eq_true rfl), (Nat.le_of_ble_eq_true rfl)⟩ rfl ((c_144 o n).1 _ (by omega) _ _ _ _ _ _ _ _ _ _ _ _ _ h17 _ rfl rfl rfl) (fun z1 z2 zq => ?_)
        obtain ⟨rfl, rfl⟩ := zq
        try dsimp only [Option.toList, HAppend.hAppend, Append.append, List.append]
        refine Van rfl lk0 rfl rfl ?_
        refine Vdup rfl rfl rfl ?_
        have hz := y_bind h
        clear h
        obtain ⟨v23, h24, h⟩ := hz
        refine Zgi (q_gi_y h24) rfl rfl rfl ?_
        refine Vic (v := Int32.ofInt 1) rfl rfl rfl ?_
        refine Uadd rfl rfl ?_
        have hz := y_bind h
        clear h
        obtain ⟨s25, h26, h⟩ := hz
        refine Zpi (q_pi_y h26) rfl rfl rfl rfl ?_
        refine Van rfl lk0 rfl rfl ?_
        have hz := y_bind h
        clear h
        obtain ⟨v27, h28, h⟩ := hz
        refine Zgi (q_gi_y h28) rfl rfl rfl ?_
        refine Vic (v := Int32.ofInt 1) rfl rfl rfl ?_
        refine Usub rfl rfl ?_
        cases h
        exact Yret rfl rfl rfl rfl rfl rfl rfl ⟨rfl, rfl⟩
      · rw [if_neg c12] at h
        refine Vbp (v := Int32.ofInt (-2)) rfl (by decide) rfl ?_
        cases h
        exact Yret rfl rfl rfl rfl rfl rfl rfl ⟨rfl, rfl⟩
    · rw [if_neg c7] at h
      refine Vic (v := Int32.ofInt (-1)) rfl rfl rfl ?_
      cases h
      exact Yret rfl rfl rfl rfl rfl rfl rfl ⟨rfl, rfl⟩

/-- StepRowsModel.back -/
def g_147 (o : X_O) : Nat → Nat → Q_S → Nat → Int → Option (Q_S × Int)
  | 0, _, _, _, _ => none
  | n + 1, 0, s, r0, i1 => (q_pi s 7 (.ref r0) 0 0).bind fun s1 => (q_g (q_in i1)).bind fun _ => if i1 < 0 then g_147 o n 1 s1 0 0 else (q_gi s1 7 (.ref r0) 50).bind fun v6 => (q_g (q_in i1 ∧ q_in v6)).bind fun _ => if i1 < v6 then (q_rcv s1 7 (.ref r0)).bind fun b15 => (g_144 o n 0 s1 b15 (i1) (0) 0 0 0 .null 0 0 0).bind fun q14 => some (q14.1, 1) else g_147 o n 1 s1 0 0
  | n + 1, 1, s, r0, i1 => some (s, 0)
  | _ + 1, _, _, _, _ => none
set_option maxRecDepth 100000 in
set_option maxHeartbeats 4000000 in
theorem c_147 (o : X_O) : ∀ n, (∀ (d : Nat) (hd : 2 ≤ d) (s : Q_S) (r0 : Nat) (i1 : Int) (s9 : Q_S) (r : Int), g_147 o n 0 s r0 i1 = some (s9, r) → ∀ lv : X_L, x_lget lv 0 = some (.ref r0) → x_lget lv 1 = some (.int (Int32.ofInt i1)) → Y o d 147 0 lv [] (q_y s) (fun s1 r1 => s1 = q_y s9 ∧ r1 = some (.int (Int32.ofInt r)))) ∧
    (∀ (d : Nat) (hd : 2 ≤ d) (s : Q_S) (r0 : Nat) (i1 : Int) (s9 : Q_S) (r : Int), g_147 o n 1 s r0 i1 = some (s9, r) → ∀ lv : X_L, True → Y o d 147 17 lv [] (q_y s) (fun s1 r1 => s1 = q_y s9 ∧ r1 = some (.int (Int32.ofInt r)))) := by
  intro n
  induction n with
  | zero => exact ⟨fun d hd s _ _ s9 r h => (by simp only [g_147] at h; cases h), fun d hd s _ _ s9 r h => (by simp only [g_147] at h; cases h)⟩
  | succ n ih =>
    refine ⟨?_, ?_⟩
    · intro d hd s r0 i1 s9 r h lv lk0 lk1
      obtain ⟨d, rfl⟩ : ∃ x, d = x + 1 := ⟨d - 1, by omega⟩
      simp only [g_147] at h
      refine Van rfl lk0 rfl rfl ?_
      refine Vic (v := Int32.ofInt 0) rfl rfl rfl ?_
      have hz := y_bind h
      clear h
      obtain ⟨s1, h2, h⟩ := hz
      refine Zpi (q_pi_y h2) rfl rfl rfl rfl ?_
      refine Vin rfl lk1 rfl ?_
      have hz := y_bind h
      clear h
      obtain ⟨_, h4, h⟩ := hz
      have c3 := q_g_ok h4
      refine Uif (q_lt0 c3) rfl rfl rfl rfl rfl rfl rfl (fun c5 => ?_) (fun c5 => ?_)
      · rw [if_pos c5] at h
        exact ih.2 _ hd _ _ _ _ _ h lv trivial
      · rw [if_neg c5] at h
        refine Vin rfl lk1 rfl ?_
        refine Van rfl lk0 rfl rfl ?_
        have hz := y_bind h
        clear h
        obtain ⟨v6, h7, h⟩ := hz
        refine Zgi (q_gi_y h7) rfl rfl rfl ?_
        have hz := y_bind h
        clear h
        obtain ⟨_, h9, h⟩ := hz
        have c8 := q_g_ok h9
        refine Uif (q_lt c8.1 c8.2) rfl rfl rfl rfl rfl rfl rfl (fun c10 => ?_) (fun c10 => ?_)
        · rw [if_pos c10] at h
          refine Van rfl lk0 rfl rfl ?_
          refine Vin rfl lk1 rfl ?_
          refine Vic (v := Int32.ofInt 0) rfl rfl rfl ?_
          have hz := y_bind h
          clear h
          obtain ⟨b15, h16, h⟩ := hz
          obtain ⟨eh16, fh16, wh16⟩ := y_rcv_ok h16
          cases eh16
          have hz := y_bind h
          clear h
          obtain ⟨⟨s11, r12⟩, h13, h⟩ := hz
          try dsimp only at h
          refine Vcv rfl rfl rfl wh16 rfl rfl ⟨(Nat.le_of_ble_eq_true rfl), (Nat.le_of_ble_eq_true rfl)⟩ rfl ((c_144 o n).1 _ (by omega) _ _ _ _ _ _ _ _ _ _ _ _ _ h13 _ rfl rfl rfl) (fun z1 z2 zq => ?_)
          obtain ⟨rfl, rfl⟩ := zq
          try dsimp only [Option.toList, HAppend.hAppend, Append.append, List.append]
          refine Vic (v := Int32.ofInt 1) rfl rfl rfl ?_
          cases h
          exact Yret rfl rfl rfl rfl rfl rfl rfl ⟨rfl, rfl⟩
        · rw [if_neg c10] at h
          exact ih.2 _ hd _ _ _ _ _ h lv trivial
    · intro d hd s r0 i1 s9 r h lv _
      obtain ⟨d, rfl⟩ : ∃ x, d = x + 1 := ⟨d - 1, by omega⟩
      simp only [g_147] at h
      refine Vic (v := Int32.ofInt 0) rfl rfl rfl ?_
      cases h
      exact Yret rfl rfl rfl rfl rfl rfl rfl ⟨rfl, rfl⟩

