theorem x_chk_0 (q : Nat × Instr) (hq : q ∈ x_codes.getD 0 []) : x_one 0 q = true := x_chk_of (m := 2) (by decide +kernel) (fun k hk => match k, hk with | 0, _ => x_chk_0_0 | 1, _ => x_chk_0_1 | n + 2, h => absurd h (by omega)) hq
theorem x_chk_1 (q : Nat × Instr) (hq : q ∈ x_codes.getD 1 []) : x_one 1 q = true := x_chk_of (m := 1) (by decide +kernel) (fun k hk => match k, hk with | 0, _ => x_chk_1_0 | n + 1, h => absurd h (by omega)) hq
theorem x_chk_2 (q : Nat × Instr) (hq : q ∈ x_codes.getD 2 []) : x_one 2 q = true := x_chk_of (m := 1) (by decide +kernel) (fun k hk => match k, hk with | 0, _ => x_chk_2_0 | n + 1, h => absurd h (by omega)) hq
theorem x_chk_3 (q : Nat × Instr) (hq : q ∈ x_codes.getD 3 []) : x_one 3 q = true := x_chk_of (m := 2) (by decide +kernel) (fun k hk => match k, hk with | 0, _ => x_chk_3_0 | 1, _ => x_chk_3_1 | n + 2, h => absurd h (by omega)) hq
theorem x_chk_4 (q : Nat × Instr) (hq : q ∈ x_codes.getD 4 []) : x_one 4 q = true := x_chk_of (m := 1) (by decide +kernel) (fun k hk => match k, hk with | 0, _ => x_chk_4_0 | n + 1, h => absurd h (by omega)) hq
theorem x_chk_5 (q : Nat × Instr) (hq : q ∈ x_codes.getD 5 []) : x_one 5 q = true := x_chk_of (m := 1) (by decide +kernel) (fun k hk => match k, hk with | 0, _ => x_chk_5_0 | n + 1, h => absurd h (by omega)) hq
theorem x_chk_6 (q : Nat × Instr) (hq : q ∈ x_codes.getD 6 []) : x_one 6 q = true := x_chk_of (m := 1) (by decide +kernel) (fun k hk => match k, hk with | 0, _ => x_chk_6_0 | n + 1, h => absurd h (by omega)) hq
theorem x_chk_7 (q : Nat × Instr) (hq : q ∈ x_codes.getD 7 []) : x_one 7 q = true := x_chk_of (m := 1) (by decide +kernel) (fun k hk => match k, hk with | 0, _ => x_chk_7_0 | n + 1, h => absurd h (by omega)) hq
theorem x_chk_8 (q : Nat × Instr) (hq : q ∈ x_codes.getD 8 []) : x_one 8 q = true := x_chk_of (m := 2) (by decide +kernel) (fun k hk => match k, hk with | 0, _ => x_chk_8_0 | 1, _ => x_chk_8_1 | n + 2, h => absurd h (by omega)) hq
theorem x_chk_9 (q : Nat × Instr) (hq : q ∈ x_codes.getD 9 []) : x_one 9 q = true := x_chk_of (m := 1) (by decide +kernel) (fun k hk => match k, hk with | 0, _ => x_chk_9_0 | n + 1, h => absurd h (by omega)) hq
theorem x_chk_10 (q : Nat × Instr) (hq : q ∈ x_codes.getD 10 []) : x_one 10 q = true := x_chk_of (m := 1) (by decide +kernel) (fun k hk => match k, hk with | 0, _ => x_chk_10_0 | n + 1, h => absurd h (by omega)) hq
theorem x_chk_11 (q : Nat × Instr) (hq : q ∈ x_codes.getD 11 []) : x_one 11 q = true := x_chk_of (m := 1) (by decide +kernel) (fun k hk => match k, hk with | 0, _ => x_chk_11_0 | n + 1, h => absurd h (by omega)) hq
theorem x_chk_12 (q : Nat × Instr) (hq : q ∈ x_codes.getD 12 []) : x_one 12 q = true := x_chk_of (m := 2) (by decide +kernel) (fun k hk => match k, hk with | 0, _ => x_chk_12_0 | 1, _ => x_chk_12_1 | n + 2, h => absurd h (by omega)) hq
theorem x_chk_13 (q : Nat × Instr) (hq : q ∈ x_codes.getD 13 []) : x_one 13 q = true := x_chk_of (m := 1) (by decide +kernel) (fun k hk => match k, hk with | 0, _ => x_chk_13_0 | n + 1, h => absurd h (by omega)) hq
theorem x_chk_14 (q : Nat × Instr) (hq : q ∈ x_codes.getD 14 []) : x_one 14 q = true := x_chk_of (m := 1) (by decide +kernel) (fun k hk => match k, hk with | 0, _ => x_chk_14_0 | n + 1, h => absurd h (by omega)) hq
theorem x_chk_15 (q : Nat × Instr) (hq : q ∈ x_codes.getD 15 []) : x_one 15 q = true := x_chk_of (m := 1) (by decide +kernel) (fun k hk => match k, hk with | 0, _ => x_chk_15_0 | n + 1, h => absurd h (by omega)) hq
theorem x_chk_16 (q : Nat × Instr) (hq : q ∈ x_codes.getD 16 []) : x_one 16 q = true := x_chk_of (m := 1) (by decide +kernel) (fun k hk => match k, hk with | 0, _ => x_chk_16_0 | n + 1, h => absurd h (by omega)) hq
theorem x_chk_17 (q : Nat × Instr) (hq : q ∈ x_codes.getD 17 []) : x_one 17 q = true := x_chk_of (m := 2) (by decide +kernel) (fun k hk => match k, hk with | 0, _ => x_chk_17_0 | 1, _ => x_chk_17_1 | n + 2, h => absurd h (by omega)) hq
theorem x_chk_18 (q : Nat × Instr) (hq : q ∈ x_codes.getD 18 []) : x_one 18 q = true := x_chk_of (m := 1) (by decide +kernel) (fun k hk => match k, hk with | 0, _ => x_chk_18_0 | n + 1, h => absurd h (by omega)) hq
theorem x_chk_19 (q : Nat × Instr) (hq : q ∈ x_codes.getD 19 []) : x_one 19 q = true := x_chk_of (m := 1) (by decide +kernel) (fun k hk => match k, hk with | 0, _ => x_chk_19_0 | n + 1, h => absurd h (by omega)) hq
theorem x_chk_20 (q : Nat × Instr) (hq : q ∈ x_codes.getD 20 []) : x_one 20 q = true := x_chk_of (m := 3) (by decide +kernel) (fun k hk => match k, hk with | 0, _ => x_chk_20_0 | 1, _ => x_chk_20_1 | 2, _ => x_chk_20_2 | n + 3, h => absurd h (by omega)) hq
theorem x_chk_21 (q : Nat × Instr) (hq : q ∈ x_codes.getD 21 []) : x_one 21 q = true := x_chk_of (m := 4) (by decide +kernel) (fun k hk => match k, hk with | 0, _ => x_chk_21_0 | 1, _ => x_chk_21_1 | 2, _ => x_chk_21_2 | 3, _ => x_chk_21_3 | n + 4, h => absurd h (by omega)) hq
theorem x_chk_22 (q : Nat × Instr) (hq : q ∈ x_codes.getD 22 []) : x_one 22 q = true := x_chk_of (m := 1) (by decide +kernel) (fun k hk => match k, hk with | 0, _ => x_chk_22_0 | n + 1, h => absurd h (by omega)) hq
theorem x_chk_23 (q : Nat × Instr) (hq : q ∈ x_codes.getD 23 []) : x_one 23 q = true := x_chk_of (m := 2) (by decide +kernel) (fun k hk => match k, hk with | 0, _ => x_chk_23_0 | 1, _ => x_chk_23_1 | n + 2, h => absurd h (by omega)) hq
theorem x_chk_24 (q : Nat × Instr) (hq : q ∈ x_codes.getD 24 []) : x_one 24 q = true := x_chk_of (m := 1) (by decide +kernel) (fun k hk => match k, hk with | 0, _ => x_chk_24_0 | n + 1, h => absurd h (by omega)) hq
theorem x_chk_25 (q : Nat × Instr) (hq : q ∈ x_codes.getD 25 []) : x_one 25 q = true := x_chk_of (m := 1) (by decide +kernel) (fun k hk => match k, hk with | 0, _ => x_chk_25_0 | n + 1, h => absurd h (by omega)) hq
theorem x_chk_26 (q : Nat × Instr) (hq : q ∈ x_codes.getD 26 []) : x_one 26 q = true := x_chk_of (m := 1) (by decide +kernel) (fun k hk => match k, hk with | 0, _ => x_chk_26_0 | n + 1, h => absurd h (by omega)) hq
theorem x_chk_27 (q : Nat × Instr) (hq : q ∈ x_codes.getD 27 []) : x_one 27 q = true := x_chk_of (m := 2) (by decide +kernel) (fun k hk => match k, hk with | 0, _ => x_chk_27_0 | 1, _ => x_chk_27_1 | n + 2, h => absurd h (by omega)) hq
theorem x_chk_28 (q : Nat × Instr) (hq : q ∈ x_codes.getD 28 []) : x_one 28 q = true := x_chk_of (m := 2) (by decide +kernel) (fun k hk => match k, hk with | 0, _ => x_chk_28_0 | 1, _ => x_chk_28_1 | n + 2, h => absurd h (by omega)) hq
theorem x_chk_29 (q : Nat × Instr) (hq : q ∈ x_codes.getD 29 []) : x_one 29 q = true := x_chk_of (m := 1) (by decide +kernel) (fun k hk => match k, hk with | 0, _ => x_chk_29_0 | n + 1, h => absurd h (by omega)) hq
theorem x_chk_30 (q : Nat × Instr) (hq : q ∈ x_codes.getD 30 []) : x_one 30 q = true := x_chk_of (m := 1) (by decide +kernel) (fun k hk => match k, hk with | 0, _ => x_chk_30_0 | n + 1, h => absurd h (by omega)) hq
theorem x_chk_31 (q : Nat × Instr) (hq : q ∈ x_codes.getD 31 []) : x_one 31 q = true := x_chk_of (m := 3) (by decide +kernel) (fun k hk => match k, hk with | 0, _ => x_chk_31_0 | 1, _ => x_chk_31_1 | 2, _ => x_chk_31_2 | n + 3, h => absurd h (by omega)) hq
theorem x_chk_32 (q : Nat × Instr) (hq : q ∈ x_codes.getD 32 []) : x_one 32 q = true := x_chk_of (m := 1) (by decide +kernel) (fun k hk => match k, hk with | 0, _ => x_chk_32_0 | n + 1, h => absurd h (by omega)) hq
theorem x_chk_33 (q : Nat × Instr) (hq : q ∈ x_codes.getD 33 []) : x_one 33 q = true := x_chk_of (m := 4) (by decide +kernel) (fun k hk => match k, hk with | 0, _ => x_chk_33_0 | 1, _ => x_chk_33_1 | 2, _ => x_chk_33_2 | 3, _ => x_chk_33_3 | n + 4, h => absurd h (by omega)) hq
theorem x_chk_34 (q : Nat × Instr) (hq : q ∈ x_codes.getD 34 []) : x_one 34 q = true := x_chk_of (m := 6) (by decide +kernel) (fun k hk => match k, hk with | 0, _ => x_chk_34_0 | 1, _ => x_chk_34_1 | 2, _ => x_chk_34_2 | 3, _ => x_chk_34_3 | 4, _ => x_chk_34_4 | 5, _ => x_chk_34_5 | n + 6, h => absurd h (by omega)) hq
theorem x_chk_35 (q : Nat × Instr) (hq : q ∈ x_codes.getD 35 []) : x_one 35 q = true := x_chk_of (m := 1) (by decide +kernel) (fun k hk => match k, hk with | 0, _ => x_chk_35_0 | n + 1, h => absurd h (by omega)) hq
theorem x_chk_36 (q : Nat × Instr) (hq : q ∈ x_codes.getD 36 []) : x_one 36 q = true := x_chk_of (m := 2) (by decide +kernel) (fun k hk => match k, hk with | 0, _ => x_chk_36_0 | 1, _ => x_chk_36_1 | n + 2, h => absurd h (by omega)) hq
theorem x_chk_37 (q : Nat × Instr) (hq : q ∈ x_codes.getD 37 []) : x_one 37 q = true := x_chk_of (m := 1) (by decide +kernel) (fun k hk => match k, hk with | 0, _ => x_chk_37_0 | n + 1, h => absurd h (by omega)) hq
theorem x_chk_38 (q : Nat × Instr) (hq : q ∈ x_codes.getD 38 []) : x_one 38 q = true := x_chk_of (m := 1) (by decide +kernel) (fun k hk => match k, hk with | 0, _ => x_chk_38_0 | n + 1, h => absurd h (by omega)) hq
theorem x_chk_39 (q : Nat × Instr) (hq : q ∈ x_codes.getD 39 []) : x_one 39 q = true := x_chk_of (m := 2) (by decide +kernel) (fun k hk => match k, hk with | 0, _ => x_chk_39_0 | 1, _ => x_chk_39_1 | n + 2, h => absurd h (by omega)) hq
theorem x_chk_40 (q : Nat × Instr) (hq : q ∈ x_codes.getD 40 []) : x_one 40 q = true := x_chk_of (m := 3) (by decide +kernel) (fun k hk => match k, hk with | 0, _ => x_chk_40_0 | 1, _ => x_chk_40_1 | 2, _ => x_chk_40_2 | n + 3, h => absurd h (by omega)) hq
theorem x_chk_41 (q : Nat × Instr) (hq : q ∈ x_codes.getD 41 []) : x_one 41 q = true := x_chk_of (m := 1) (by decide +kernel) (fun k hk => match k, hk with | 0, _ => x_chk_41_0 | n + 1, h => absurd h (by omega)) hq
theorem x_chk_42 (q : Nat × Instr) (hq : q ∈ x_codes.getD 42 []) : x_one 42 q = true := x_chk_of (m := 2) (by decide +kernel) (fun k hk => match k, hk with | 0, _ => x_chk_42_0 | 1, _ => x_chk_42_1 | n + 2, h => absurd h (by omega)) hq
theorem x_chk_43 (q : Nat × Instr) (hq : q ∈ x_codes.getD 43 []) : x_one 43 q = true := x_chk_of (m := 1) (by decide +kernel) (fun k hk => match k, hk with | 0, _ => x_chk_43_0 | n + 1, h => absurd h (by omega)) hq
theorem x_chk_44 (q : Nat × Instr) (hq : q ∈ x_codes.getD 44 []) : x_one 44 q = true := x_chk_of (m := 1) (by decide +kernel) (fun k hk => match k, hk with | 0, _ => x_chk_44_0 | n + 1, h => absurd h (by omega)) hq
theorem x_chk_45 (q : Nat × Instr) (hq : q ∈ x_codes.getD 45 []) : x_one 45 q = true := x_chk_of (m := 1) (by decide +kernel) (fun k hk => match k, hk with | 0, _ => x_chk_45_0 | n + 1, h => absurd h (by omega)) hq
theorem x_chk_46 (q : Nat × Instr) (hq : q ∈ x_codes.getD 46 []) : x_one 46 q = true := x_chk_of (m := 3) (by decide +kernel) (fun k hk => match k, hk with | 0, _ => x_chk_46_0 | 1, _ => x_chk_46_1 | 2, _ => x_chk_46_2 | n + 3, h => absurd h (by omega)) hq
theorem x_chk_47 (q : Nat × Instr) (hq : q ∈ x_codes.getD 47 []) : x_one 47 q = true := x_chk_of (m := 2) (by decide +kernel) (fun k hk => match k, hk with | 0, _ => x_chk_47_0 | 1, _ => x_chk_47_1 | n + 2, h => absurd h (by omega)) hq
theorem x_chk_48 (q : Nat × Instr) (hq : q ∈ x_codes.getD 48 []) : x_one 48 q = true := x_chk_of (m := 1) (by decide +kernel) (fun k hk => match k, hk with | 0, _ => x_chk_48_0 | n + 1, h => absurd h (by omega)) hq
theorem x_chk_49 (q : Nat × Instr) (hq : q ∈ x_codes.getD 49 []) : x_one 49 q = true := x_chk_of (m := 4) (by decide +kernel) (fun k hk => match k, hk with | 0, _ => x_chk_49_0 | 1, _ => x_chk_49_1 | 2, _ => x_chk_49_2 | 3, _ => x_chk_49_3 | n + 4, h => absurd h (by omega)) hq
theorem x_chk_50 (q : Nat × Instr) (hq : q ∈ x_codes.getD 50 []) : x_one 50 q = true := x_chk_of (m := 3) (by decide +kernel) (fun k hk => match k, hk with | 0, _ => x_chk_50_0 | 1, _ => x_chk_50_1 | 2, _ => x_chk_50_2 | n + 3, h => absurd h (by omega)) hq
theorem x_chk_51 (q : Nat × Instr) (hq : q ∈ x_codes.getD 51 []) : x_one 51 q = true := x_chk_of (m := 1) (by decide +kernel) (fun k hk => match k, hk with | 0, _ => x_chk_51_0 | n + 1, h => absurd h (by omega)) hq
theorem x_chk_52 (q : Nat × Instr) (hq : q ∈ x_codes.getD 52 []) : x_one 52 q = true := x_chk_of (m := 2) (by decide +kernel) (fun k hk => match k, hk with | 0, _ => x_chk_52_0 | 1, _ => x_chk_52_1 | n + 2, h => absurd h (by omega)) hq
theorem x_chk_53 (q : Nat × Instr) (hq : q ∈ x_codes.getD 53 []) : x_one 53 q = true := x_chk_of (m := 1) (by decide +kernel) (fun k hk => match k, hk with | 0, _ => x_chk_53_0 | n + 1, h => absurd h (by omega)) hq
theorem x_chk_54 (q : Nat × Instr) (hq : q ∈ x_codes.getD 54 []) : x_one 54 q = true := x_chk_of (m := 2) (by decide +kernel) (fun k hk => match k, hk with | 0, _ => x_chk_54_0 | 1, _ => x_chk_54_1 | n + 2, h => absurd h (by omega)) hq
theorem x_chk_55 (q : Nat × Instr) (hq : q ∈ x_codes.getD 55 []) : x_one 55 q = true := x_chk_of (m := 1) (by decide +kernel) (fun k hk => match k, hk with | 0, _ => x_chk_55_0 | n + 1, h => absurd h (by omega)) hq
theorem x_chk_56 (q : Nat × Instr) (hq : q ∈ x_codes.getD 56 []) : x_one 56 q = true := x_chk_of (m := 2) (by decide +kernel) (fun k hk => match k, hk with | 0, _ => x_chk_56_0 | 1, _ => x_chk_56_1 | n + 2, h => absurd h (by omega)) hq
theorem x_chk_57 (q : Nat × Instr) (hq : q ∈ x_codes.getD 57 []) : x_one 57 q = true := x_chk_of (m := 1) (by decide +kernel) (fun k hk => match k, hk with | 0, _ => x_chk_57_0 | n + 1, h => absurd h (by omega)) hq
theorem x_chk_58 (q : Nat × Instr) (hq : q ∈ x_codes.getD 58 []) : x_one 58 q = true := x_chk_of (m := 2) (by decide +kernel) (fun k hk => match k, hk with | 0, _ => x_chk_58_0 | 1, _ => x_chk_58_1 | n + 2, h => absurd h (by omega)) hq
theorem x_chk_59 (q : Nat × Instr) (hq : q ∈ x_codes.getD 59 []) : x_one 59 q = true := x_chk_of (m := 4) (by decide +kernel) (fun k hk => match k, hk with | 0, _ => x_chk_59_0 | 1, _ => x_chk_59_1 | 2, _ => x_chk_59_2 | 3, _ => x_chk_59_3 | n + 4, h => absurd h (by omega)) hq
theorem x_chk_60 (q : Nat × Instr) (hq : q ∈ x_codes.getD 60 []) : x_one 60 q = true := x_chk_of (m := 1) (by decide +kernel) (fun k hk => match k, hk with | 0, _ => x_chk_60_0 | n + 1, h => absurd h (by omega)) hq
theorem x_chk_61 (q : Nat × Instr) (hq : q ∈ x_codes.getD 61 []) : x_one 61 q = true := x_chk_of (m := 2) (by decide +kernel) (fun k hk => match k, hk with | 0, _ => x_chk_61_0 | 1, _ => x_chk_61_1 | n + 2, h => absurd h (by omega)) hq
theorem x_chk_62 (q : Nat × Instr) (hq : q ∈ x_codes.getD 62 []) : x_one 62 q = true := x_chk_of (m := 2) (by decide +kernel) (fun k hk => match k, hk with | 0, _ => x_chk_62_0 | 1, _ => x_chk_62_1 | n + 2, h => absurd h (by omega)) hq
theorem x_chk_63 (q : Nat × Instr) (hq : q ∈ x_codes.getD 63 []) : x_one 63 q = true := x_chk_of (m := 4) (by decide +kernel) (fun k hk => match k, hk with | 0, _ => x_chk_63_0 | 1, _ => x_chk_63_1 | 2, _ => x_chk_63_2 | 3, _ => x_chk_63_3 | n + 4, h => absurd h (by omega)) hq
theorem x_chk_64 (q : Nat × Instr) (hq : q ∈ x_codes.getD 64 []) : x_one 64 q = true := x_chk_of (m := 1) (by decide +kernel) (fun k hk => match k, hk with | 0, _ => x_chk_64_0 | n + 1, h => absurd h (by omega)) hq
theorem x_chk_65 (q : Nat × Instr) (hq : q ∈ x_codes.getD 65 []) : x_one 65 q = true := x_chk_of (m := 1) (by decide +kernel) (fun k hk => match k, hk with | 0, _ => x_chk_65_0 | n + 1, h => absurd h (by omega)) hq
theorem x_chk_66 (q : Nat × Instr) (hq : q ∈ x_codes.getD 66 []) : x_one 66 q = true := x_chk_of (m := 2) (by decide +kernel) (fun k hk => match k, hk with | 0, _ => x_chk_66_0 | 1, _ => x_chk_66_1 | n + 2, h => absurd h (by omega)) hq
theorem x_chk_67 (q : Nat × Instr) (hq : q ∈ x_codes.getD 67 []) : x_one 67 q = true := x_chk_of (m := 1) (by decide +kernel) (fun k hk => match k, hk with | 0, _ => x_chk_67_0 | n + 1, h => absurd h (by omega)) hq
theorem x_chk_68 (q : Nat × Instr) (hq : q ∈ x_codes.getD 68 []) : x_one 68 q = true := x_chk_of (m := 2) (by decide +kernel) (fun k hk => match k, hk with | 0, _ => x_chk_68_0 | 1, _ => x_chk_68_1 | n + 2, h => absurd h (by omega)) hq
theorem x_chk_69 (q : Nat × Instr) (hq : q ∈ x_codes.getD 69 []) : x_one 69 q = true := x_chk_of (m := 4) (by decide +kernel) (fun k hk => match k, hk with | 0, _ => x_chk_69_0 | 1, _ => x_chk_69_1 | 2, _ => x_chk_69_2 | 3, _ => x_chk_69_3 | n + 4, h => absurd h (by omega)) hq
theorem x_chk_70 (q : Nat × Instr) (hq : q ∈ x_codes.getD 70 []) : x_one 70 q = true := x_chk_of (m := 1) (by decide +kernel) (fun k hk => match k, hk with | 0, _ => x_chk_70_0 | n + 1, h => absurd h (by omega)) hq
theorem x_chk_71 (q : Nat × Instr) (hq : q ∈ x_codes.getD 71 []) : x_one 71 q = true := x_chk_of (m := 1) (by decide +kernel) (fun k hk => match k, hk with | 0, _ => x_chk_71_0 | n + 1, h => absurd h (by omega)) hq
theorem x_chk_72 (q : Nat × Instr) (hq : q ∈ x_codes.getD 72 []) : x_one 72 q = true := x_chk_of (m := 1) (by decide +kernel) (fun k hk => match k, hk with | 0, _ => x_chk_72_0 | n + 1, h => absurd h (by omega)) hq
theorem x_chk_73 (q : Nat × Instr) (hq : q ∈ x_codes.getD 73 []) : x_one 73 q = true := x_chk_of (m := 1) (by decide +kernel) (fun k hk => match k, hk with | 0, _ => x_chk_73_0 | n + 1, h => absurd h (by omega)) hq
theorem x_chk_74 (q : Nat × Instr) (hq : q ∈ x_codes.getD 74 []) : x_one 74 q = true := x_chk_of (m := 1) (by decide +kernel) (fun k hk => match k, hk with | 0, _ => x_chk_74_0 | n + 1, h => absurd h (by omega)) hq
theorem x_chk_75 (q : Nat × Instr) (hq : q ∈ x_codes.getD 75 []) : x_one 75 q = true := x_chk_of (m := 1) (by decide +kernel) (fun k hk => match k, hk with | 0, _ => x_chk_75_0 | n + 1, h => absurd h (by omega)) hq
theorem x_chk_76 (q : Nat × Instr) (hq : q ∈ x_codes.getD 76 []) : x_one 76 q = true := x_chk_of (m := 3) (by decide +kernel) (fun k hk => match k, hk with | 0, _ => x_chk_76_0 | 1, _ => x_chk_76_1 | 2, _ => x_chk_76_2 | n + 3, h => absurd h (by omega)) hq
theorem x_chk_77 (q : Nat × Instr) (hq : q ∈ x_codes.getD 77 []) : x_one 77 q = true := x_chk_of (m := 2) (by decide +kernel) (fun k hk => match k, hk with | 0, _ => x_chk_77_0 | 1, _ => x_chk_77_1 | n + 2, h => absurd h (by omega)) hq
theorem x_chk_78 (q : Nat × Instr) (hq : q ∈ x_codes.getD 78 []) : x_one 78 q = true := x_chk_of (m := 2) (by decide +kernel) (fun k hk => match k, hk with | 0, _ => x_chk_78_0 | 1, _ => x_chk_78_1 | n + 2, h => absurd h (by omega)) hq
theorem x_chk_79 (q : Nat × Instr) (hq : q ∈ x_codes.getD 79 []) : x_one 79 q = true := x_chk_of (m := 1) (by decide +kernel) (fun k hk => match k, hk with | 0, _ => x_chk_79_0 | n + 1, h => absurd h (by omega)) hq
theorem x_chk_80 (q : Nat × Instr) (hq : q ∈ x_codes.getD 80 []) : x_one 80 q = true := x_chk_of (m := 2) (by decide +kernel) (fun k hk => match k, hk with | 0, _ => x_chk_80_0 | 1, _ => x_chk_80_1 | n + 2, h => absurd h (by omega)) hq
theorem x_chk_81 (q : Nat × Instr) (hq : q ∈ x_codes.getD 81 []) : x_one 81 q = true := x_chk_of (m := 2) (by decide +kernel) (fun k hk => match k, hk with | 0, _ => x_chk_81_0 | 1, _ => x_chk_81_1 | n + 2, h => absurd h (by omega)) hq
theorem x_chk_82 (q : Nat × Instr) (hq : q ∈ x_codes.getD 82 []) : x_one 82 q = true := x_chk_of (m := 1) (by decide +kernel) (fun k hk => match k, hk with | 0, _ => x_chk_82_0 | n + 1, h => absurd h (by omega)) hq
theorem x_chk_83 (q : Nat × Instr) (hq : q ∈ x_codes.getD 83 []) : x_one 83 q = true := x_chk_of (m := 1) (by decide +kernel) (fun k hk => match k, hk with | 0, _ => x_chk_83_0 | n + 1, h => absurd h (by omega)) hq
theorem x_chk_84 (q : Nat × Instr) (hq : q ∈ x_codes.getD 84 []) : x_one 84 q = true := x_chk_of (m := 1) (by decide +kernel) (fun k hk => match k, hk with | 0, _ => x_chk_84_0 | n + 1, h => absurd h (by omega)) hq
theorem x_chk_85 (q : Nat × Instr) (hq : q ∈ x_codes.getD 85 []) : x_one 85 q = true := x_chk_of (m := 2) (by decide +kernel) (fun k hk => match k, hk with | 0, _ => x_chk_85_0 | 1, _ => x_chk_85_1 | n + 2, h => absurd h (by omega)) hq
theorem x_chk_86 (q : Nat × Instr) (hq : q ∈ x_codes.getD 86 []) : x_one 86 q = true := x_chk_of (m := 2) (by decide +kernel) (fun k hk => match k, hk with | 0, _ => x_chk_86_0 | 1, _ => x_chk_86_1 | n + 2, h => absurd h (by omega)) hq
theorem x_chk_87 (q : Nat × Instr) (hq : q ∈ x_codes.getD 87 []) : x_one 87 q = true := x_chk_of (m := 2) (by decide +kernel) (fun k hk => match k, hk with | 0, _ => x_chk_87_0 | 1, _ => x_chk_87_1 | n + 2, h => absurd h (by omega)) hq
theorem x_chk_88 (q : Nat × Instr) (hq : q ∈ x_codes.getD 88 []) : x_one 88 q = true := x_chk_of (m := 2) (by decide +kernel) (fun k hk => match k, hk with | 0, _ => x_chk_88_0 | 1, _ => x_chk_88_1 | n + 2, h => absurd h (by omega)) hq
theorem x_chk_89 (q : Nat × Instr) (hq : q ∈ x_codes.getD 89 []) : x_one 89 q = true := x_chk_of (m := 3) (by decide +kernel) (fun k hk => match k, hk with | 0, _ => x_chk_89_0 | 1, _ => x_chk_89_1 | 2, _ => x_chk_89_2 | n + 3, h => absurd h (by omega)) hq
theorem x_chk_90 (q : Nat × Instr) (hq : q ∈ x_codes.getD 90 []) : x_one 90 q = true := x_chk_of (m := 2) (by decide +kernel) (fun k hk => match k, hk with | 0, _ => x_chk_90_0 | 1, _ => x_chk_90_1 | n + 2, h => absurd h (by omega)) hq
theorem x_chk_91 (q : Nat × Instr) (hq : q ∈ x_codes.getD 91 []) : x_one 91 q = true := x_chk_of (m := 6) (by decide +kernel) (fun k hk => match k, hk with | 0, _ => x_chk_91_0 | 1, _ => x_chk_91_1 | 2, _ => x_chk_91_2 | 3, _ => x_chk_91_3 | 4, _ => x_chk_91_4 | 5, _ => x_chk_91_5 | n + 6, h => absurd h (by omega)) hq
theorem x_chk_92 (q : Nat × Instr) (hq : q ∈ x_codes.getD 92 []) : x_one 92 q = true := x_chk_of (m := 1) (by decide +kernel) (fun k hk => match k, hk with | 0, _ => x_chk_92_0 | n + 1, h => absurd h (by omega)) hq
theorem x_chk_93 (q : Nat × Instr) (hq : q ∈ x_codes.getD 93 []) : x_one 93 q = true := x_chk_of (m := 1) (by decide +kernel) (fun k hk => match k, hk with | 0, _ => x_chk_93_0 | n + 1, h => absurd h (by omega)) hq
theorem x_chk_94 (q : Nat × Instr) (hq : q ∈ x_codes.getD 94 []) : x_one 94 q = true := x_chk_of (m := 2) (by decide +kernel) (fun k hk => match k, hk with | 0, _ => x_chk_94_0 | 1, _ => x_chk_94_1 | n + 2, h => absurd h (by omega)) hq
theorem x_chk_95 (q : Nat × Instr) (hq : q ∈ x_codes.getD 95 []) : x_one 95 q = true := x_chk_of (m := 8) (by decide +kernel) (fun k hk => match k, hk with | 0, _ => x_chk_95_0 | 1, _ => x_chk_95_1 | 2, _ => x_chk_95_2 | 3, _ => x_chk_95_3 | 4, _ => x_chk_95_4 | 5, _ => x_chk_95_5 | 6, _ => x_chk_95_6 | 7, _ => x_chk_95_7 | n + 8, h => absurd h (by omega)) hq
theorem x_chk_96 (q : Nat × Instr) (hq : q ∈ x_codes.getD 96 []) : x_one 96 q = true := x_chk_of (m := 1) (by decide +kernel) (fun k hk => match k, hk with | 0, _ => x_chk_96_0 | n + 1, h => absurd h (by omega)) hq
theorem x_chk_97 (q : Nat × Instr) (hq : q ∈ x_codes.getD 97 []) : x_one 97 q = true := x_chk_of (m := 1) (by decide +kernel) (fun k hk => match k, hk with | 0, _ => x_chk_97_0 | n + 1, h => absurd h (by omega)) hq
theorem x_chk_98 (q : Nat × Instr) (hq : q ∈ x_codes.getD 98 []) : x_one 98 q = true := x_chk_of (m := 1) (by decide +kernel) (fun k hk => match k, hk with | 0, _ => x_chk_98_0 | n + 1, h => absurd h (by omega)) hq
theorem x_chk_99 (q : Nat × Instr) (hq : q ∈ x_codes.getD 99 []) : x_one 99 q = true := x_chk_of (m := 2) (by decide +kernel) (fun k hk => match k, hk with | 0, _ => x_chk_99_0 | 1, _ => x_chk_99_1 | n + 2, h => absurd h (by omega)) hq
theorem x_chk_100 (q : Nat × Instr) (hq : q ∈ x_codes.getD 100 []) : x_one 100 q = true := x_chk_of (m := 2) (by decide +kernel) (fun k hk => match k, hk with | 0, _ => x_chk_100_0 | 1, _ => x_chk_100_1 | n + 2, h => absurd h (by omega)) hq
theorem x_chk_101 (q : Nat × Instr) (hq : q ∈ x_codes.getD 101 []) : x_one 101 q = true := x_chk_of (m := 6) (by decide +kernel) (fun k hk => match k, hk with | 0, _ => x_chk_101_0 | 1, _ => x_chk_101_1 | 2, _ => x_chk_101_2 | 3, _ => x_chk_101_3 | 4, _ => x_chk_101_4 | 5, _ => x_chk_101_5 | n + 6, h => absurd h (by omega)) hq
theorem x_chk_102 (q : Nat × Instr) (hq : q ∈ x_codes.getD 102 []) : x_one 102 q = true := x_chk_of (m := 1) (by decide +kernel) (fun k hk => match k, hk with | 0, _ => x_chk_102_0 | n + 1, h => absurd h (by omega)) hq
theorem x_chk_103 (q : Nat × Instr) (hq : q ∈ x_codes.getD 103 []) : x_one 103 q = true := x_chk_of (m := 1) (by decide +kernel) (fun k hk => match k, hk with | 0, _ => x_chk_103_0 | n + 1, h => absurd h (by omega)) hq
theorem x_chk_104 (q : Nat × Instr) (hq : q ∈ x_codes.getD 104 []) : x_one 104 q = true := x_chk_of (m := 3) (by decide +kernel) (fun k hk => match k, hk with | 0, _ => x_chk_104_0 | 1, _ => x_chk_104_1 | 2, _ => x_chk_104_2 | n + 3, h => absurd h (by omega)) hq
theorem x_chk_105 (q : Nat × Instr) (hq : q ∈ x_codes.getD 105 []) : x_one 105 q = true := x_chk_of (m := 1) (by decide +kernel) (fun k hk => match k, hk with | 0, _ => x_chk_105_0 | n + 1, h => absurd h (by omega)) hq
theorem x_chk_106 (q : Nat × Instr) (hq : q ∈ x_codes.getD 106 []) : x_one 106 q = true := x_chk_of (m := 4) (by decide +kernel) (fun k hk => match k, hk with | 0, _ => x_chk_106_0 | 1, _ => x_chk_106_1 | 2, _ => x_chk_106_2 | 3, _ => x_chk_106_3 | n + 4, h => absurd h (by omega)) hq
theorem x_chk_107 (q : Nat × Instr) (hq : q ∈ x_codes.getD 107 []) : x_one 107 q = true := x_chk_of (m := 2) (by decide +kernel) (fun k hk => match k, hk with | 0, _ => x_chk_107_0 | 1, _ => x_chk_107_1 | n + 2, h => absurd h (by omega)) hq
theorem x_chk_108 (q : Nat × Instr) (hq : q ∈ x_codes.getD 108 []) : x_one 108 q = true := x_chk_of (m := 1) (by decide +kernel) (fun k hk => match k, hk with | 0, _ => x_chk_108_0 | n + 1, h => absurd h (by omega)) hq
theorem x_chk_109 (q : Nat × Instr) (hq : q ∈ x_codes.getD 109 []) : x_one 109 q = true := x_chk_of (m := 2) (by decide +kernel) (fun k hk => match k, hk with | 0, _ => x_chk_109_0 | 1, _ => x_chk_109_1 | n + 2, h => absurd h (by omega)) hq
theorem x_chk_110 (q : Nat × Instr) (hq : q ∈ x_codes.getD 110 []) : x_one 110 q = true := x_chk_of (m := 4) (by decide +kernel) (fun k hk => match k, hk with | 0, _ => x_chk_110_0 | 1, _ => x_chk_110_1 | 2, _ => x_chk_110_2 | 3, _ => x_chk_110_3 | n + 4, h => absurd h (by omega)) hq
theorem x_chk_111 (q : Nat × Instr) (hq : q ∈ x_codes.getD 111 []) : x_one 111 q = true := x_chk_of (m := 1) (by decide +kernel) (fun k hk => match k, hk with | 0, _ => x_chk_111_0 | n + 1, h => absurd h (by omega)) hq
theorem x_chk_112 (q : Nat × Instr) (hq : q ∈ x_codes.getD 112 []) : x_one 112 q = true := x_chk_of (m := 1) (by decide +kernel) (fun k hk => match k, hk with | 0, _ => x_chk_112_0 | n + 1, h => absurd h (by omega)) hq
theorem x_chk_113 (q : Nat × Instr) (hq : q ∈ x_codes.getD 113 []) : x_one 113 q = true := x_chk_of (m := 5) (by decide +kernel) (fun k hk => match k, hk with | 0, _ => x_chk_113_0 | 1, _ => x_chk_113_1 | 2, _ => x_chk_113_2 | 3, _ => x_chk_113_3 | 4, _ => x_chk_113_4 | n + 5, h => absurd h (by omega)) hq
theorem x_chk_114 (q : Nat × Instr) (hq : q ∈ x_codes.getD 114 []) : x_one 114 q = true := x_chk_of (m := 1) (by decide +kernel) (fun k hk => match k, hk with | 0, _ => x_chk_114_0 | n + 1, h => absurd h (by omega)) hq
theorem x_chk_115 (q : Nat × Instr) (hq : q ∈ x_codes.getD 115 []) : x_one 115 q = true := x_chk_of (m := 1) (by decide +kernel) (fun k hk => match k, hk with | 0, _ => x_chk_115_0 | n + 1, h => absurd h (by omega)) hq
theorem x_chk_116 (q : Nat × Instr) (hq : q ∈ x_codes.getD 116 []) : x_one 116 q = true := x_chk_of (m := 1) (by decide +kernel) (fun k hk => match k, hk with | 0, _ => x_chk_116_0 | n + 1, h => absurd h (by omega)) hq
theorem x_chk_117 (q : Nat × Instr) (hq : q ∈ x_codes.getD 117 []) : x_one 117 q = true := x_chk_of (m := 2) (by decide +kernel) (fun k hk => match k, hk with | 0, _ => x_chk_117_0 | 1, _ => x_chk_117_1 | n + 2, h => absurd h (by omega)) hq
theorem x_chk_118 (q : Nat × Instr) (hq : q ∈ x_codes.getD 118 []) : x_one 118 q = true := x_chk_of (m := 1) (by decide +kernel) (fun k hk => match k, hk with | 0, _ => x_chk_118_0 | n + 1, h => absurd h (by omega)) hq
theorem x_chk_119 (q : Nat × Instr) (hq : q ∈ x_codes.getD 119 []) : x_one 119 q = true := x_chk_of (m := 1) (by decide +kernel) (fun k hk => match k, hk with | 0, _ => x_chk_119_0 | n + 1, h => absurd h (by omega)) hq
theorem x_chk_120 (q : Nat × Instr) (hq : q ∈ x_codes.getD 120 []) : x_one 120 q = true := x_chk_of (m := 1) (by decide +kernel) (fun k hk => match k, hk with | 0, _ => x_chk_120_0 | n + 1, h => absurd h (by omega)) hq
theorem x_chk_121 (q : Nat × Instr) (hq : q ∈ x_codes.getD 121 []) : x_one 121 q = true := x_chk_of (m := 6) (by decide +kernel) (fun k hk => match k, hk with | 0, _ => x_chk_121_0 | 1, _ => x_chk_121_1 | 2, _ => x_chk_121_2 | 3, _ => x_chk_121_3 | 4, _ => x_chk_121_4 | 5, _ => x_chk_121_5 | n + 6, h => absurd h (by omega)) hq
theorem x_chk_122 (q : Nat × Instr) (hq : q ∈ x_codes.getD 122 []) : x_one 122 q = true := x_chk_of (m := 9) (by decide +kernel) (fun k hk => match k, hk with | 0, _ => x_chk_122_0 | 1, _ => x_chk_122_1 | 2, _ => x_chk_122_2 | 3, _ => x_chk_122_3 | 4, _ => x_chk_122_4 | 5, _ => x_chk_122_5 | 6, _ => x_chk_122_6 | 7, _ => x_chk_122_7 | 8, _ => x_chk_122_8 | n + 9, h => absurd h (by omega)) hq
theorem x_chk_123 (q : Nat × Instr) (hq : q ∈ x_codes.getD 123 []) : x_one 123 q = true := x_chk_of (m := 2) (by decide +kernel) (fun k hk => match k, hk with | 0, _ => x_chk_123_0 | 1, _ => x_chk_123_1 | n + 2, h => absurd h (by omega)) hq
theorem x_chk_124 (q : Nat × Instr) (hq : q ∈ x_codes.getD 124 []) : x_one 124 q = true := x_chk_of (m := 1) (by decide +kernel) (fun k hk => match k, hk with | 0, _ => x_chk_124_0 | n + 1, h => absurd h (by omega)) hq
theorem x_chk_125 (q : Nat × Instr) (hq : q ∈ x_codes.getD 125 []) : x_one 125 q = true := x_chk_of (m := 3) (by decide +kernel) (fun k hk => match k, hk with | 0, _ => x_chk_125_0 | 1, _ => x_chk_125_1 | 2, _ => x_chk_125_2 | n + 3, h => absurd h (by omega)) hq
theorem x_chk_126 (q : Nat × Instr) (hq : q ∈ x_codes.getD 126 []) : x_one 126 q = true := x_chk_of (m := 3) (by decide +kernel) (fun k hk => match k, hk with | 0, _ => x_chk_126_0 | 1, _ => x_chk_126_1 | 2, _ => x_chk_126_2 | n + 3, h => absurd h (by omega)) hq
theorem x_chk_127 (q : Nat × Instr) (hq : q ∈ x_codes.getD 127 []) : x_one 127 q = true := x_chk_of (m := 1) (by decide +kernel) (fun k hk => match k, hk with | 0, _ => x_chk_127_0 | n + 1, h => absurd h (by omega)) hq
theorem x_chk_128 (q : Nat × Instr) (hq : q ∈ x_codes.getD 128 []) : x_one 128 q = true := x_chk_of (m := 3) (by decide +kernel) (fun k hk => match k, hk with | 0, _ => x_chk_128_0 | 1, _ => x_chk_128_1 | 2, _ => x_chk_128_2 | n + 3, h => absurd h (by omega)) hq
theorem x_chk_129 (q : Nat × Instr) (hq : q ∈ x_codes.getD 129 []) : x_one 129 q = true := x_chk_of (m := 5) (by decide +kernel) (fun k hk => match k, hk with | 0, _ => x_chk_129_0 | 1, _ => x_chk_129_1 | 2, _ => x_chk_129_2 | 3, _ => x_chk_129_3 | 4, _ => x_chk_129_4 | n + 5, h => absurd h (by omega)) hq
theorem x_chk_130 (q : Nat × Instr) (hq : q ∈ x_codes.getD 130 []) : x_one 130 q = true := x_chk_of (m := 1) (by decide +kernel) (fun k hk => match k, hk with | 0, _ => x_chk_130_0 | n + 1, h => absurd h (by omega)) hq
theorem x_chk_131 (q : Nat × Instr) (hq : q ∈ x_codes.getD 131 []) : x_one 131 q = true := x_chk_of (m := 1) (by decide +kernel) (fun k hk => match k, hk with | 0, _ => x_chk_131_0 | n + 1, h => absurd h (by omega)) hq
theorem x_chk_132 (q : Nat × Instr) (hq : q ∈ x_codes.getD 132 []) : x_one 132 q = true := x_chk_of (m := 2) (by decide +kernel) (fun k hk => match k, hk with | 0, _ => x_chk_132_0 | 1, _ => x_chk_132_1 | n + 2, h => absurd h (by omega)) hq
theorem x_chk_133 (q : Nat × Instr) (hq : q ∈ x_codes.getD 133 []) : x_one 133 q = true := x_chk_of (m := 2) (by decide +kernel) (fun k hk => match k, hk with | 0, _ => x_chk_133_0 | 1, _ => x_chk_133_1 | n + 2, h => absurd h (by omega)) hq
theorem x_chk_134 (q : Nat × Instr) (hq : q ∈ x_codes.getD 134 []) : x_one 134 q = true := x_chk_of (m := 3) (by decide +kernel) (fun k hk => match k, hk with | 0, _ => x_chk_134_0 | 1, _ => x_chk_134_1 | 2, _ => x_chk_134_2 | n + 3, h => absurd h (by omega)) hq
theorem x_chk_135 (q : Nat × Instr) (hq : q ∈ x_codes.getD 135 []) : x_one 135 q = true := x_chk_of (m := 1) (by decide +kernel) (fun k hk => match k, hk with | 0, _ => x_chk_135_0 | n + 1, h => absurd h (by omega)) hq
theorem x_chk_136 (q : Nat × Instr) (hq : q ∈ x_codes.getD 136 []) : x_one 136 q = true := x_chk_of (m := 1) (by decide +kernel) (fun k hk => match k, hk with | 0, _ => x_chk_136_0 | n + 1, h => absurd h (by omega)) hq
theorem x_chk_137 (q : Nat × Instr) (hq : q ∈ x_codes.getD 137 []) : x_one 137 q = true := x_chk_of (m := 1) (by decide +kernel) (fun k hk => match k, hk with | 0, _ => x_chk_137_0 | n + 1, h => absurd h (by omega)) hq
theorem x_chk_138 (q : Nat × Instr) (hq : q ∈ x_codes.getD 138 []) : x_one 138 q = true := x_chk_of (m := 2) (by decide +kernel) (fun k hk => match k, hk with | 0, _ => x_chk_138_0 | 1, _ => x_chk_138_1 | n + 2, h => absurd h (by omega)) hq
theorem x_chk_139 (q : Nat × Instr) (hq : q ∈ x_codes.getD 139 []) : x_one 139 q = true := x_chk_of (m := 2) (by decide +kernel) (fun k hk => match k, hk with | 0, _ => x_chk_139_0 | 1, _ => x_chk_139_1 | n + 2, h => absurd h (by omega)) hq
theorem x_chk_140 (q : Nat × Instr) (hq : q ∈ x_codes.getD 140 []) : x_one 140 q = true := x_chk_of (m := 1) (by decide +kernel) (fun k hk => match k, hk with | 0, _ => x_chk_140_0 | n + 1, h => absurd h (by omega)) hq
theorem x_chk_141 (q : Nat × Instr) (hq : q ∈ x_codes.getD 141 []) : x_one 141 q = true := x_chk_of (m := 1) (by decide +kernel) (fun k hk => match k, hk with | 0, _ => x_chk_141_0 | n + 1, h => absurd h (by omega)) hq
theorem x_chk_142 (q : Nat × Instr) (hq : q ∈ x_codes.getD 142 []) : x_one 142 q = true := x_chk_of (m := 2) (by decide +kernel) (fun k hk => match k, hk with | 0, _ => x_chk_142_0 | 1, _ => x_chk_142_1 | n + 2, h => absurd h (by omega)) hq
theorem x_chk_143 (q : Nat × Instr) (hq : q ∈ x_codes.getD 143 []) : x_one 143 q = true := x_chk_of (m := 2) (by decide +kernel) (fun k hk => match k, hk with | 0, _ => x_chk_143_0 | 1, _ => x_chk_143_1 | n + 2, h => absurd h (by omega)) hq
theorem x_chk_144 (q : Nat × Instr) (hq : q ∈ x_codes.getD 144 []) : x_one 144 q = true := x_chk_of (m := 20) (by decide +kernel) (fun k hk => match k, hk with | 0, _ => x_chk_144_0 | 1, _ => x_chk_144_1 | 2, _ => x_chk_144_2 | 3, _ => x_chk_144_3 | 4, _ => x_chk_144_4 | 5, _ => x_chk_144_5 | 6, _ => x_chk_144_6 | 7, _ => x_chk_144_7 | 8, _ => x_chk_144_8 | 9, _ => x_chk_144_9 | 10, _ => x_chk_144_10 | 11, _ => x_chk_144_11 | 12, _ => x_chk_144_12 | 13, _ => x_chk_144_13 | 14, _ => x_chk_144_14 | 15, _ => x_chk_144_15 | 16, _ => x_chk_144_16 | 17, _ => x_chk_144_17 | 18, _ => x_chk_144_18 | 19, _ => x_chk_144_19 | n + 20, h => absurd h (by omega)) hq
theorem x_chk_145 (q : Nat × Instr) (hq : q ∈ x_codes.getD 145 []) : x_one 145 q = true := x_chk_of (m := 1) (by decide +kernel) (fun k hk => match k, hk with | 0, _ => x_chk_145_0 | n + 1, h => absurd h (by omega)) hq
theorem x_chk_146 (q : Nat × Instr) (hq : q ∈ x_codes.getD 146 []) : x_one 146 q = true := x_chk_of (m := 4) (by decide +kernel) (fun k hk => match k, hk with | 0, _ => x_chk_146_0 | 1, _ => x_chk_146_1 | 2, _ => x_chk_146_2 | 3, _ => x_chk_146_3 | n + 4, h => absurd h (by omega)) hq
theorem x_chk_147 (q : Nat × Instr) (hq : q ∈ x_codes.getD 147 []) : x_one 147 q = true := x_chk_of (m := 1) (by decide +kernel) (fun k hk => match k, hk with | 0, _ => x_chk_147_0 | n + 1, h => absurd h (by omega)) hq
theorem x_chk_148 (q : Nat × Instr) (hq : q ∈ x_codes.getD 148 []) : x_one 148 q = true := x_chk_of (m := 1) (by decide +kernel) (fun k hk => match k, hk with | 0, _ => x_chk_148_0 | n + 1, h => absurd h (by omega)) hq
theorem x_chk_149 (q : Nat × Instr) (hq : q ∈ x_codes.getD 149 []) : x_one 149 q = true := x_chk_of (m := 1) (by decide +kernel) (fun k hk => match k, hk with | 0, _ => x_chk_149_0 | n + 1, h => absurd h (by omega)) hq
theorem x_chk_150 (q : Nat × Instr) (hq : q ∈ x_codes.getD 150 []) : x_one 150 q = true := x_chk_of (m := 1) (by decide +kernel) (fun k hk => match k, hk with | 0, _ => x_chk_150_0 | n + 1, h => absurd h (by omega)) hq
theorem x_chk_151 (q : Nat × Instr) (hq : q ∈ x_codes.getD 151 []) : x_one 151 q = true := x_chk_of (m := 1) (by decide +kernel) (fun k hk => match k, hk with | 0, _ => x_chk_151_0 | n + 1, h => absurd h (by omega)) hq
theorem x_chk_152 (q : Nat × Instr) (hq : q ∈ x_codes.getD 152 []) : x_one 152 q = true := x_chk_of (m := 15) (by decide +kernel) (fun k hk => match k, hk with | 0, _ => x_chk_152_0 | 1, _ => x_chk_152_1 | 2, _ => x_chk_152_2 | 3, _ => x_chk_152_3 | 4, _ => x_chk_152_4 | 5, _ => x_chk_152_5 | 6, _ => x_chk_152_6 | 7, _ => x_chk_152_7 | 8, _ => x_chk_152_8 | 9, _ => x_chk_152_9 | 10, _ => x_chk_152_10 | 11, _ => x_chk_152_11 | 12, _ => x_chk_152_12 | 13, _ => x_chk_152_13 | 14, _ => x_chk_152_14 | n + 15, h => absurd h (by omega)) hq
theorem x_chk_all (mi : Nat) (h : mi < 153) : ∀ q ∈ x_codes.getD mi [], x_one mi q = true := by
  match mi, h with
  | 0, _ => exact x_chk_0
  | 1, _ => exact x_chk_1
  | 2, _ => exact x_chk_2
  | 3, _ => exact x_chk_3
  | 4, _ => exact x_chk_4
  | 5, _ => exact x_chk_5
  | 6, _ => exact x_chk_6
  | 7, _ => exact x_chk_7
  | 8, _ => exact x_chk_8
  | 9, _ => exact x_chk_9
  | 10, _ => exact x_chk_10
  | 11, _ => exact x_chk_11
  | 12, _ => exact x_chk_12
  | 13, _ => exact x_chk_13
  | 14, _ => exact x_chk_14
  | 15, _ => exact x_chk_15
  | 16, _ => exact x_chk_16
  | 17, _ => exact x_chk_17
  | 18, _ => exact x_chk_18
  | 19, _ => exact x_chk_19
  | 20, _ => exact x_chk_20
  | 21, _ => exact x_chk_21
  | 22, _ => exact x_chk_22
  | 23, _ => exact x_chk_23
  | 24, _ => exact x_chk_24
  | 25, _ => exact x_chk_25
  | 26, _ => exact x_chk_26
  | 27, _ => exact x_chk_27
  | 28, _ => exact x_chk_28
  | 29, _ => exact x_chk_29
  | 30, _ => exact x_chk_30
  | 31, _ => exact x_chk_31
  | 32, _ => exact x_chk_32
  | 33, _ => exact x_chk_33
  | 34, _ => exact x_chk_34
  | 35, _ => exact x_chk_35
  | 36, _ => exact x_chk_36
  | 37, _ => exact x_chk_37
  | 38, _ => exact x_chk_38
  | 39, _ => exact x_chk_39
  | 40, _ => exact x_chk_40
  | 41, _ => exact x_chk_41
  | 42, _ => exact x_chk_42
  | 43, _ => exact x_chk_43
  | 44, _ => exact x_chk_44
  | 45, _ => exact x_chk_45
  | 46, _ => exact x_chk_46
  | 47, _ => exact x_chk_47
  | 48, _ => exact x_chk_48
  | 49, _ => exact x_chk_49
  | 50, _ => exact x_chk_50
  | 51, _ => exact x_chk_51
  | 52, _ => exact x_chk_52
  | 53, _ => exact x_chk_53
  | 54, _ => exact x_chk_54
  | 55, _ => exact x_chk_55
  | 56, _ => exact x_chk_56
  | 57, _ => exact x_chk_57
  | 58, _ => exact x_chk_58
  | 59, _ => exact x_chk_59
  | 60, _ => exact x_chk_60
  | 61, _ => exact x_chk_61
  | 62, _ => exact x_chk_62
  | 63, _ => exact x_chk_63
  | 64, _ => exact x_chk_64
  | 65, _ => exact x_chk_65
  | 66, _ => exact x_chk_66
  | 67, _ => exact x_chk_67
  | 68, _ => exact x_chk_68
  | 69, _ => exact x_chk_69
  | 70, _ => exact x_chk_70
  | 71, _ => exact x_chk_71
  | 72, _ => exact x_chk_72
  | 73, _ => exact x_chk_73
  | 74, _ => exact x_chk_74
  | 75, _ => exact x_chk_75
  | 76, _ => exact x_chk_76
  | 77, _ => exact x_chk_77
  | 78, _ => exact x_chk_78
  | 79, _ => exact x_chk_79
  | 80, _ => exact x_chk_80
  | 81, _ => exact x_chk_81
  | 82, _ => exact x_chk_82
  | 83, _ => exact x_chk_83
  | 84, _ => exact x_chk_84
  | 85, _ => exact x_chk_85
  | 86, _ => exact x_chk_86
  | 87, _ => exact x_chk_87
  | 88, _ => exact x_chk_88
  | 89, _ => exact x_chk_89
  | 90, _ => exact x_chk_90
  | 91, _ => exact x_chk_91
  | 92, _ => exact x_chk_92
  | 93, _ => exact x_chk_93
  | 94, _ => exact x_chk_94
  | 95, _ => exact x_chk_95
  | 96, _ => exact x_chk_96
  | 97, _ => exact x_chk_97
  | 98, _ => exact x_chk_98
  | 99, _ => exact x_chk_99
  | 100, _ => exact x_chk_100
  | 101, _ => exact x_chk_101
  | 102, _ => exact x_chk_102
  | 103, _ => exact x_chk_103
  | 104, _ => exact x_chk_104
  | 105, _ => exact x_chk_105
  | 106, _ => exact x_chk_106
  | 107, _ => exact x_chk_107
  | 108, _ => exact x_chk_108
  | 109, _ => exact x_chk_109
  | 110, _ => exact x_chk_110
  | 111, _ => exact x_chk_111
  | 112, _ => exact x_chk_112
  | 113, _ => exact x_chk_113
  | 114, _ => exact x_chk_114
  | 115, _ => exact x_chk_115
  | 116, _ => exact x_chk_116
  | 117, _ => exact x_chk_117
  | 118, _ => exact x_chk_118
  | 119, _ => exact x_chk_119
  | 120, _ => exact x_chk_120
  | 121, _ => exact x_chk_121
  | 122, _ => exact x_chk_122
  | 123, _ => exact x_chk_123
  | 124, _ => exact x_chk_124
  | 125, _ => exact x_chk_125
  | 126, _ => exact x_chk_126
  | 127, _ => exact x_chk_127
  | 128, _ => exact x_chk_128
  | 129, _ => exact x_chk_129
  | 130, _ => exact x_chk_130
  | 131, _ => exact x_chk_131
  | 132, _ => exact x_chk_132
  | 133, _ => exact x_chk_133
  | 134, _ => exact x_chk_134
  | 135, _ => exact x_chk_135
  | 136, _ => exact x_chk_136
  | 137, _ => exact x_chk_137
  | 138, _ => exact x_chk_138
  | 139, _ => exact x_chk_139
  | 140, _ => exact x_chk_140
  | 141, _ => exact x_chk_141
  | 142, _ => exact x_chk_142
  | 143, _ => exact x_chk_143
  | 144, _ => exact x_chk_144
  | 145, _ => exact x_chk_145
  | 146, _ => exact x_chk_146
  | 147, _ => exact x_chk_147
  | 148, _ => exact x_chk_148
  | 149, _ => exact x_chk_149
  | 150, _ => exact x_chk_150
  | 151, _ => exact x_chk_151
  | 152, _ => exact x_chk_152
  | n + 153, h => exact absurd h (by omega)
theorem x_code_ok {mi pc : Nat} {i : Instr} (h : x_code mi pc = some i) : ∃ len, decode (x_bytes mi) pc = .ok (i, len) ∧ (x_sw i = false → len = x_len i) ∧ x_lim i ≤ x_mL mi ∧ x_offok pc i = true := by
  have hm : mi < 153 := by
    rcases Nat.lt_or_ge mi 153 with h1 | h1
    · exact h1
    · unfold x_code at h
      rw [x_getD_out (by exact h1)] at h
      cases h
  have h2 := x_chk_all mi hm _ (x_look_mem h)
  unfold x_one at h2
  dsimp only at h2
  split at h2
  · rename_i j len hd
    simp only [Bool.and_eq_true, Bool.or_eq_true, decide_eq_true_eq] at h2
    obtain ⟨⟨⟨e1, e2⟩, e3⟩, e4⟩ := h2
    subst e1
    exact ⟨len, hd, fun z => e2.resolve_left (by rw [z]; decide), e3, e4⟩
  · cases h2
/-- the words that a warmer machine keeps -/
def x_tbl : List Cond := lw_tbl.filter goodWord
theorem x_good {w : Cond} (h : w ∈ lw_tbl) (hg : goodWord w = true) : w ∈ x_tbl := List.mem_filter.mpr ⟨h, hg⟩
theorem x_lay_good (C : String) (T : u_T) (k : Nat) : goodWord (u_lay C T k) = true := by
  unfold u_lay
  split <;> rfl
/-- a class's words -/
def x_okC (ci : Nat) (C : String) (T : u_T) (N : Nat) : Prop := (∀ w ∈ u_ws C T N, w ∈ x_tbl) ∧ (∀ k, k < N → parseFieldDescriptor (T k).2.2.1 = some (x_fty ci k)) ∧ (∀ a, a < N → ∀ b, b < N → a ≠ b → (T a).2.1 ≠ (T b).2.1) ∧ Cond.instantiable C N ∈ lw_tbl ∧ Cond.initialized C ∈ lw_tbl ∧ (x_dfl ci).length = N ∧ (∀ j, j < N → defaultValue (x_fty ci j) = vp_V (x_dfl ci) j) ∧ (∀ k, k < N → x_fin ci k = (T k).2.2.2 ∧ (T k).1 = C) ∧ x_cnms.getD ci "" = C ∧ ∀ v ∈ x_dfl ci, v = .null ∨ v = .int 0 ∨ v = .long 0
theorem x_lays {ci : Nat} {C : String} {T : u_T} {N : Nat} (h : ∀ k, k < N → lw_tbl[(x_lps.getD ci []).getD k 0]? = some (u_lay C T k)) : ∀ w ∈ u_ws C T N, w ∈ x_tbl := by
  intro w hw
  obtain ⟨k, hk, rfl⟩ := List.mem_map.mp hw
  exact x_good (List.mem_of_getElem? (h k (List.mem_range.mp hk))) (x_lay_good C T k)
theorem x_okC_0 : x_okC 0 "StepRows" xT_0 9 := ⟨x_lays (ci := 0) (by decide +kernel), by decide +kernel, by decide +kernel, List.mem_of_getElem? (i := (x_ips.getD 0 (0, 0)).1) (by decide +kernel), List.mem_of_getElem? (i := (x_ips.getD 0 (0, 0)).2) (by decide +kernel), by decide +kernel, by decide +kernel, by decide +kernel, by decide +kernel, by decide +kernel⟩
theorem x_okC_1 : x_okC 1 "StepRows$Nodes" xT_1 5 := ⟨x_lays (ci := 1) (by decide +kernel), by decide +kernel, by decide +kernel, List.mem_of_getElem? (i := (x_ips.getD 1 (0, 0)).1) (by decide +kernel), List.mem_of_getElem? (i := (x_ips.getD 1 (0, 0)).2) (by decide +kernel), by decide +kernel, by decide +kernel, by decide +kernel, by decide +kernel, by decide +kernel⟩
theorem x_okC_2 : x_okC 2 "StepRows$Layout" xT_2 6 := ⟨x_lays (ci := 2) (by decide +kernel), by decide +kernel, by decide +kernel, List.mem_of_getElem? (i := (x_ips.getD 2 (0, 0)).1) (by decide +kernel), List.mem_of_getElem? (i := (x_ips.getD 2 (0, 0)).2) (by decide +kernel), by decide +kernel, by decide +kernel, by decide +kernel, by decide +kernel, by decide +kernel⟩
theorem x_okC_3 : x_okC 3 "StepRows$Rows" xT_3 10 := ⟨x_lays (ci := 3) (by decide +kernel), by decide +kernel, by decide +kernel, List.mem_of_getElem? (i := (x_ips.getD 3 (0, 0)).1) (by decide +kernel), List.mem_of_getElem? (i := (x_ips.getD 3 (0, 0)).2) (by decide +kernel), by decide +kernel, by decide +kernel, by decide +kernel, by decide +kernel, by decide +kernel⟩
theorem x_okC_4 : x_okC 4 "StepRows$Run" xT_4 12 := ⟨x_lays (ci := 4) (by decide +kernel), by decide +kernel, by decide +kernel, List.mem_of_getElem? (i := (x_ips.getD 4 (0, 0)).1) (by decide +kernel), List.mem_of_getElem? (i := (x_ips.getD 4 (0, 0)).2) (by decide +kernel), by decide +kernel, by decide +kernel, by decide +kernel, by decide +kernel, by decide +kernel⟩
theorem x_okC_5 : x_okC 5 "StepRows$Frames" xT_5 14 := ⟨x_lays (ci := 5) (by decide +kernel), by decide +kernel, by decide +kernel, List.mem_of_getElem? (i := (x_ips.getD 5 (0, 0)).1) (by decide +kernel), List.mem_of_getElem? (i := (x_ips.getD 5 (0, 0)).2) (by decide +kernel), by decide +kernel, by decide +kernel, by decide +kernel, by decide +kernel, by decide +kernel⟩
theorem x_okC_6 : x_okC 6 "StepRows$Walker" xT_6 7 := ⟨x_lays (ci := 6) (by decide +kernel), by decide +kernel, by decide +kernel, List.mem_of_getElem? (i := (x_ips.getD 6 (0, 0)).1) (by decide +kernel), List.mem_of_getElem? (i := (x_ips.getD 6 (0, 0)).2) (by decide +kernel), by decide +kernel, by decide +kernel, by decide +kernel, by decide +kernel, by decide +kernel⟩
theorem x_okC_7 : x_okC 7 "StepRowsModel" xT_7 60 := ⟨x_lays (ci := 7) (by decide +kernel), by decide +kernel, by decide +kernel, List.mem_of_getElem? (i := (x_ips.getD 7 (0, 0)).1) (by decide +kernel), List.mem_of_getElem? (i := (x_ips.getD 7 (0, 0)).2) (by decide +kernel), by decide +kernel, by decide +kernel, by decide +kernel, by decide +kernel, by decide +kernel⟩
theorem x_okC_all {ci : Nat} {C : String} {T : u_T} {N : Nat} (h : vwCl[ci]? = some (C, T, N)) : x_okC ci C T N := by
  match ci, h with
  | 0, h => cases h; exact x_okC_0
  | 1, h => cases h; exact x_okC_1
  | 2, h => cases h; exact x_okC_2
  | 3, h => cases h; exact x_okC_3
  | 4, h => cases h; exact x_okC_4
  | 5, h => cases h; exact x_okC_5
  | 6, h => cases h; exact x_okC_6
  | 7, h => cases h; exact x_okC_7
  | n + 8, h => cases h
theorem x_dfl_v (b : Nat) (oa : Nat → Nat) {ci : Nat} {C : String} {T : u_T} {N : Nat} (h : x_okC ci C T N) : (x_dfl ci).map (x_v b oa) = x_dfl ci := by
  have h9 := h.2.2.2.2.2.2.2.2.2
  refine (List.map_congr_left (fun v hv => ?_)).trans (List.map_id _)
  rcases h9 v hv with e | e | e <;> subst e <;> rfl
def x_fchk (c : Nat) : Bool := (x_fldL.getD c []).all fun q => match vwCl[q.2.1]? with
  | some (_, T, N) => decide (q.2.2.1 < N) && decide (lw_tbl[q.2.2.2]? = some (Cond.fieldLink (x_cnms.getD c "") q.1 (T q.2.2.1).1 (T q.2.2.1).2.1 (T q.2.2.1).2.2.1))
  | none => false
theorem x_fchk_all : ∀ c, c < 11 → x_fchk c = true := by decide +kernel
theorem x_cno_lt (mi : Nat) : x_cno mi < 11 := by
  have h : ∀ m, m < 153 → x_cno m < 11 := by decide +kernel
  rcases Nat.lt_or_ge mi 153 with h1 | h1
  · exact h mi h1
  · unfold x_cno
    rw [x_getD_out (by exact h1)]
    decide
theorem x_fld_ok {mi idx ci k : Nat} (h : x_fld mi idx = some (ci, k)) : ∃ C T N, vwCl[ci]? = some (C, T, N) ∧ k < N ∧ Cond.fieldLink (x_cname mi) idx (T k).1 (T k).2.1 (T k).2.2.1 ∈ lw_tbl ∧ x_okC ci C T N := by
  unfold x_fld at h
  cases h1 : x_look (x_fldL.getD (x_cno mi) []) idx with
  | none => rw [h1] at h; cases h
  | some q =>
    rw [h1] at h
    cases h
    have h2 := List.all_eq_true.mp (x_fchk_all _ (x_cno_lt mi)) _ (x_look_mem h1)
    dsimp only at h2
    split at h2
    · rename_i C T N hq
      simp only [Bool.and_eq_true, decide_eq_true_eq] at h2
      exact ⟨C, T, N, hq, h2.1, List.mem_of_getElem? h2.2, x_okC_all hq⟩
    · cases h2
theorem x_pok_ok {mi ci k : Nat} {C : String} {T : u_T} {N : Nat} (h : x_pok mi ci k = true) (hcl : x_okC ci C T N) (hk : k < N) : (T k).2.2.2 = false ∨ ((T k).2.2.2 = true ∧ (x_nm mi).name = "<init>" ∧ (T k).1 = x_cname mi) := by
  obtain ⟨-, -, -, -, -, -, -, h8, h9, -⟩ := hcl
  obtain ⟨e1, e2⟩ := h8 k hk
  unfold x_pok at h
  rw [e1] at h
  cases hf : (T k).2.2.2 with
  | false => exact Or.inl rfl
  | true =>
    rw [hf] at h
    simp only [Bool.not_true, Bool.false_or, Bool.and_eq_true, decide_eq_true_eq] at h
    refine Or.inr ⟨rfl, h.1, ?_⟩
    unfold x_cname
    rw [h.2, h9, e2]
def x_cchk (c : Nat) : Bool := (x_clkL.getD c []).all fun q => match vwCl[q.2.1]? with
  | some (C, _, _) => decide (lw_tbl[q.2.2]? = some (Cond.classLink (x_cnms.getD c "") q.1 C))
  | none => false
theorem x_cchk_all : ∀ c, c < 11 → x_cchk c = true := by decide +kernel
theorem x_cls_ok {mi idx ci : Nat} (h : x_cls mi idx = some ci) : ∃ C T N, vwCl[ci]? = some (C, T, N) ∧ Cond.classLink (x_cname mi) idx C ∈ lw_tbl ∧ x_okC ci C T N := by
  unfold x_cls at h
  cases h1 : x_look (x_clkL.getD (x_cno mi) []) idx with
  | none => rw [h1] at h; cases h
  | some q =>
    rw [h1] at h
    cases h
    have h2 := List.all_eq_true.mp (x_cchk_all _ (x_cno_lt mi)) _ (x_look_mem h1)
    dsimp only at h2
    split at h2
    · rename_i C T N hq
      simp only [decide_eq_true_eq] at h2
      exact ⟨C, T, N, hq, List.mem_of_getElem? h2, x_okC_all hq⟩
    · cases h2
/-- words of nest mates and of arrays of objects: said of the state itself -/
def x_odd (U : State) : Prop := (∀ q ∈ x_oddF, va_Nw (.fieldLinkNest q.1 q.2.1 q.2.2.1 q.2.2.2.1 q.2.2.2.2 "StepRows") U) ∧ (∀ q ∈ x_oddM, va_Nw (.methodLinkNest q.1 q.2.1 q.2.2 "StepRows") U) ∧ ∀ C, x_et (.object C) = true → va_AO C U
theorem x_odd_warm {s U : State} (hW : s.WarmedH U.vm) (h : x_odd s) : x_odd U := ⟨fun q hq => (h.1 q hq).warmF hW, fun q hq => (h.2.1 q hq).warmM hW, fun C hC => (h.2.2 C hC).moved hW.alike⟩
theorem x_odd_same {s U : State} (hv : s.vm = U.vm) (h : x_odd s) : x_odd U := ⟨fun q hq => (h.1 q hq).same rfl hv, fun q hq => (h.2.1 q hq).same rfl hv, fun C hC => (h.2.2 C hC).moved (by rw [hv]; exact Vm.Alike.refl _)⟩
theorem x_arrs : ∀ t ∈ ([.int, .long, .boolean] : List FieldType), Cond.arrayClass t ∈ lw_tbl := by decide +kernel
def x_schk (c : Nat) : Bool := (x_staL.getD c []).all fun q => x_stats.any fun z => decide (z.2.2.2 = q.2.1) && (decide (lw_tbl[q.2.2.1]? = some (Cond.fieldLink (x_cnms.getD c "") q.1 z.1 z.2.1 z.2.2.1)) || decide ((x_cnms.getD c "", q.1, z.1, z.2.1, z.2.2.1) ∈ x_oddF))
theorem x_schk_all : ∀ c, c < 11 → x_schk c = true := by decide +kernel
theorem x_sta_ok {mi idx j : Nat} (h : x_sta mi idx = some j) : ∃ C n d, (C, n, d, j) ∈ x_stats ∧ (Cond.fieldLink (x_cname mi) idx C n d ∈ lw_tbl ∨ (x_cname mi, idx, C, n, d) ∈ x_oddF) := by
  unfold x_sta at h
  cases h1 : x_look (x_staL.getD (x_cno mi) []) idx with
  | none => rw [h1] at h; cases h
  | some q =>
    rw [h1] at h
    cases h
    have h2 := List.all_eq_true.mp (x_schk_all _ (x_cno_lt mi)) _ (x_look_mem h1)
    dsimp only at h2
    obtain ⟨z, hz, h3⟩ := List.any_eq_true.mp h2
    obtain ⟨C, n, d, j2⟩ := z
    simp only [Bool.and_eq_true, Bool.or_eq_true, decide_eq_true_eq] at h3
    obtain ⟨e1, h3⟩ := h3
    subst e1
    exact ⟨C, n, d, hz, h3.imp List.mem_of_getElem? id⟩
def x_kchk (c : Nat) : Bool := (x_conL.getD c []).all fun q => match q.2.1 with
  | .int v => decide (lw_tbl[q.2.2]? = some (Cond.constant (x_cnms.getD c "") q.1 v))
  | .long v => decide (lw_tbl[q.2.2]? = some (Cond.constantLong (x_cnms.getD c "") q.1 v))
  | _ => false
theorem x_kchk_all : ∀ c, c < 11 → x_kchk c = true := by decide +kernel
theorem x_con_ok {mi idx : Nat} {v : Int32} (h : x_con mi idx = some (.int v)) : Cond.constant (x_cname mi) idx v ∈ lw_tbl := by
  unfold x_con at h
  cases h1 : x_look (x_conL.getD (x_cno mi) []) idx with
  | none => rw [h1] at h; cases h
  | some q =>
    obtain ⟨u, p⟩ := q
    rw [h1] at h
    cases h
    have h2 := List.all_eq_true.mp (x_kchk_all _ (x_cno_lt mi)) _ (x_look_mem h1)
    dsimp only at h2
    exact List.mem_of_getElem? (of_decide_eq_true h2)
theorem x_conL_ok {mi idx : Nat} {v : Int64} (h : x_con mi idx = some (.long v)) : Cond.constantLong (x_cname mi) idx v ∈ lw_tbl := by
  unfold x_con at h
  cases h1 : x_look (x_conL.getD (x_cno mi) []) idx with
  | none => rw [h1] at h; cases h
  | some q =>
    obtain ⟨u, p⟩ := q
    rw [h1] at h
    cases h
    have h2 := List.all_eq_true.mp (x_kchk_all _ (x_cno_lt mi)) _ (x_look_mem h1)
    dsimp only at h2
    exact List.mem_of_getElem? (of_decide_eq_true h2)
