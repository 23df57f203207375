/-! THE TABLES' CALLS are the Statement's -/
def x_ychk (y : Nat) : Bool := decide ((x_nm y).cls = x_cname y) && plainName (x_nm y).cls && decide ((x_nm y).cls ≠ "java/lang/invoke/MethodHandle") && decide ((x_nm y).cls ≠ "java/lang/invoke/VarHandle") && decide (x_mL y ≤ 45) && decide (lw_tbl[(x_oddY.getD y (0, 0, 0, 0)).2.2.1]? = some (Cond.initialized (x_nm y).cls))
set_option maxRecDepth 100000 in
theorem x_cw_0 : lw_tbl[99]? = some (Cond.code (x_nm 0) (x_bytes 0) (x_mL 0) (x_ret 0)) := rfl
set_option maxRecDepth 100000 in
theorem x_cw_1 : lw_tbl[400]? = some (Cond.code (x_nm 1) (x_bytes 1) (x_mL 1) (x_ret 1)) := rfl
set_option maxRecDepth 100000 in
theorem x_cw_2 : lw_tbl[408]? = some (Cond.code (x_nm 2) (x_bytes 2) (x_mL 2) (x_ret 2)) := rfl
set_option maxRecDepth 100000 in
theorem x_cw_3 : lw_tbl[449]? = some (Cond.code (x_nm 3) (x_bytes 3) (x_mL 3) (x_ret 3)) := rfl
set_option maxRecDepth 100000 in
theorem x_cw_4 : lw_tbl[488]? = some (Cond.code (x_nm 4) (x_bytes 4) (x_mL 4) (x_ret 4)) := rfl
set_option maxRecDepth 100000 in
theorem x_cw_5 : lw_tbl[505]? = some (Cond.code (x_nm 5) (x_bytes 5) (x_mL 5) (x_ret 5)) := rfl
set_option maxRecDepth 100000 in
theorem x_cw_6 : lw_tbl[509]? = some (Cond.code (x_nm 6) (x_bytes 6) (x_mL 6) (x_ret 6)) := rfl
set_option maxRecDepth 100000 in
theorem x_cw_7 : lw_tbl[513]? = some (Cond.code (x_nm 7) (x_bytes 7) (x_mL 7) (x_ret 7)) := rfl
set_option maxRecDepth 100000 in
theorem x_cw_8 : lw_tbl[563]? = some (Cond.code (x_nm 8) (x_bytes 8) (x_mL 8) (x_ret 8)) := rfl
set_option maxRecDepth 100000 in
theorem x_cw_9 : lw_tbl[735]? = some (Cond.code (x_nm 9) (x_bytes 9) (x_mL 9) (x_ret 9)) := rfl
set_option maxRecDepth 100000 in
theorem x_cw_10 : lw_tbl[739]? = some (Cond.code (x_nm 10) (x_bytes 10) (x_mL 10) (x_ret 10)) := rfl
set_option maxRecDepth 100000 in
theorem x_cw_11 : lw_tbl[748]? = some (Cond.code (x_nm 11) (x_bytes 11) (x_mL 11) (x_ret 11)) := rfl
set_option maxRecDepth 100000 in
theorem x_cw_12 : lw_tbl[752]? = some (Cond.code (x_nm 12) (x_bytes 12) (x_mL 12) (x_ret 12)) := rfl
set_option maxRecDepth 100000 in
theorem x_cw_13 : lw_tbl[766]? = some (Cond.code (x_nm 13) (x_bytes 13) (x_mL 13) (x_ret 13)) := rfl
set_option maxRecDepth 100000 in
theorem x_cw_14 : lw_tbl[770]? = some (Cond.code (x_nm 14) (x_bytes 14) (x_mL 14) (x_ret 14)) := rfl
set_option maxRecDepth 100000 in
theorem x_cw_15 : lw_tbl[774]? = some (Cond.code (x_nm 15) (x_bytes 15) (x_mL 15) (x_ret 15)) := rfl
set_option maxRecDepth 100000 in
theorem x_cw_16 : lw_tbl[778]? = some (Cond.code (x_nm 16) (x_bytes 16) (x_mL 16) (x_ret 16)) := rfl
set_option maxRecDepth 100000 in
theorem x_cw_17 : lw_tbl[782]? = some (Cond.code (x_nm 17) (x_bytes 17) (x_mL 17) (x_ret 17)) := rfl
set_option maxRecDepth 100000 in
theorem x_cw_18 : lw_tbl[790]? = some (Cond.code (x_nm 18) (x_bytes 18) (x_mL 18) (x_ret 18)) := rfl
set_option maxRecDepth 100000 in
theorem x_cw_19 : lw_tbl[107]? = some (Cond.code (x_nm 19) (x_bytes 19) (x_mL 19) (x_ret 19)) := rfl
set_option maxRecDepth 100000 in
theorem x_cw_20 : lw_tbl[404]? = some (Cond.code (x_nm 20) (x_bytes 20) (x_mL 20) (x_ret 20)) := rfl
set_option maxRecDepth 100000 in
theorem x_cw_21 : lw_tbl[412]? = some (Cond.code (x_nm 21) (x_bytes 21) (x_mL 21) (x_ret 21)) := rfl
set_option maxRecDepth 100000 in
theorem x_cw_22 : lw_tbl[416]? = some (Cond.code (x_nm 22) (x_bytes 22) (x_mL 22) (x_ret 22)) := rfl
set_option maxRecDepth 100000 in
theorem x_cw_23 : lw_tbl[422]? = some (Cond.code (x_nm 23) (x_bytes 23) (x_mL 23) (x_ret 23)) := rfl
set_option maxRecDepth 100000 in
theorem x_cw_24 : lw_tbl[426]? = some (Cond.code (x_nm 24) (x_bytes 24) (x_mL 24) (x_ret 24)) := rfl
set_option maxRecDepth 100000 in
theorem x_cw_25 : lw_tbl[430]? = some (Cond.code (x_nm 25) (x_bytes 25) (x_mL 25) (x_ret 25)) := rfl
set_option maxRecDepth 100000 in
theorem x_cw_26 : lw_tbl[434]? = some (Cond.code (x_nm 26) (x_bytes 26) (x_mL 26) (x_ret 26)) := rfl
set_option maxRecDepth 100000 in
theorem x_cw_27 : lw_tbl[438]? = some (Cond.code (x_nm 27) (x_bytes 27) (x_mL 27) (x_ret 27)) := rfl
set_option maxRecDepth 100000 in
theorem x_cw_28 : lw_tbl[442]? = some (Cond.code (x_nm 28) (x_bytes 28) (x_mL 28) (x_ret 28)) := rfl
set_option maxRecDepth 100000 in
theorem x_cw_29 : lw_tbl[466]? = some (Cond.code (x_nm 29) (x_bytes 29) (x_mL 29) (x_ret 29)) := rfl
set_option maxRecDepth 100000 in
theorem x_cw_30 : lw_tbl[135]? = some (Cond.code (x_nm 30) (x_bytes 30) (x_mL 30) (x_ret 30)) := rfl
set_option maxRecDepth 100000 in
theorem x_cw_31 : lw_tbl[454]? = some (Cond.code (x_nm 31) (x_bytes 31) (x_mL 31) (x_ret 31)) := rfl
set_option maxRecDepth 100000 in
theorem x_cw_32 : lw_tbl[458]? = some (Cond.code (x_nm 32) (x_bytes 32) (x_mL 32) (x_ret 32)) := rfl
set_option maxRecDepth 100000 in
theorem x_cw_33 : lw_tbl[462]? = some (Cond.code (x_nm 33) (x_bytes 33) (x_mL 33) (x_ret 33)) := rfl
set_option maxRecDepth 100000 in
theorem x_cw_34 : lw_tbl[471]? = some (Cond.code (x_nm 34) (x_bytes 34) (x_mL 34) (x_ret 34)) := rfl
set_option maxRecDepth 100000 in
theorem x_cw_35 : lw_tbl[484]? = some (Cond.code (x_nm 35) (x_bytes 35) (x_mL 35) (x_ret 35)) := rfl
set_option maxRecDepth 100000 in
theorem x_cw_36 : lw_tbl[141]? = some (Cond.code (x_nm 36) (x_bytes 36) (x_mL 36) (x_ret 36)) := rfl
set_option maxRecDepth 100000 in
theorem x_cw_37 : lw_tbl[475]? = some (Cond.code (x_nm 37) (x_bytes 37) (x_mL 37) (x_ret 37)) := rfl
set_option maxRecDepth 100000 in
theorem x_cw_38 : lw_tbl[479]? = some (Cond.code (x_nm 38) (x_bytes 38) (x_mL 38) (x_ret 38)) := rfl
set_option maxRecDepth 100000 in
theorem x_cw_39 : lw_tbl[492]? = some (Cond.code (x_nm 39) (x_bytes 39) (x_mL 39) (x_ret 39)) := rfl
set_option maxRecDepth 100000 in
theorem x_cw_40 : lw_tbl[496]? = some (Cond.code (x_nm 40) (x_bytes 40) (x_mL 40) (x_ret 40)) := rfl
set_option maxRecDepth 100000 in
theorem x_cw_41 : lw_tbl[220]? = some (Cond.code (x_nm 41) (x_bytes 41) (x_mL 41) (x_ret 41)) := rfl
set_option maxRecDepth 100000 in
theorem x_cw_42 : lw_tbl[517]? = some (Cond.code (x_nm 42) (x_bytes 42) (x_mL 42) (x_ret 42)) := rfl
set_option maxRecDepth 100000 in
theorem x_cw_43 : lw_tbl[567]? = some (Cond.code (x_nm 43) (x_bytes 43) (x_mL 43) (x_ret 43)) := rfl
set_option maxRecDepth 100000 in
theorem x_cw_44 : lw_tbl[595]? = some (Cond.code (x_nm 44) (x_bytes 44) (x_mL 44) (x_ret 44)) := rfl
set_option maxRecDepth 100000 in
theorem x_cw_45 : lw_tbl[723]? = some (Cond.code (x_nm 45) (x_bytes 45) (x_mL 45) (x_ret 45)) := rfl
set_option maxRecDepth 100000 in
theorem x_cw_46 : lw_tbl[756]? = some (Cond.code (x_nm 46) (x_bytes 46) (x_mL 46) (x_ret 46)) := rfl
set_option maxRecDepth 100000 in
theorem x_cw_47 : lw_tbl[226]? = some (Cond.code (x_nm 47) (x_bytes 47) (x_mL 47) (x_ret 47)) := rfl
set_option maxRecDepth 100000 in
theorem x_cw_48 : lw_tbl[527]? = some (Cond.code (x_nm 48) (x_bytes 48) (x_mL 48) (x_ret 48)) := rfl
set_option maxRecDepth 100000 in
theorem x_cw_49 : lw_tbl[531]? = some (Cond.code (x_nm 49) (x_bytes 49) (x_mL 49) (x_ret 49)) := rfl
set_option maxRecDepth 100000 in
theorem x_cw_50 : lw_tbl[535]? = some (Cond.code (x_nm 50) (x_bytes 50) (x_mL 50) (x_ret 50)) := rfl
set_option maxRecDepth 100000 in
theorem x_cw_51 : lw_tbl[559]? = some (Cond.code (x_nm 51) (x_bytes 51) (x_mL 51) (x_ret 51)) := rfl
set_option maxRecDepth 100000 in
theorem x_cw_52 : lw_tbl[607]? = some (Cond.code (x_nm 52) (x_bytes 52) (x_mL 52) (x_ret 52)) := rfl
set_option maxRecDepth 100000 in
theorem x_cw_53 : lw_tbl[612]? = some (Cond.code (x_nm 53) (x_bytes 53) (x_mL 53) (x_ret 53)) := rfl
set_option maxRecDepth 100000 in
theorem x_cw_54 : lw_tbl[616]? = some (Cond.code (x_nm 54) (x_bytes 54) (x_mL 54) (x_ret 54)) := rfl
set_option maxRecDepth 100000 in
theorem x_cw_55 : lw_tbl[621]? = some (Cond.code (x_nm 55) (x_bytes 55) (x_mL 55) (x_ret 55)) := rfl
set_option maxRecDepth 100000 in
theorem x_cw_56 : lw_tbl[625]? = some (Cond.code (x_nm 56) (x_bytes 56) (x_mL 56) (x_ret 56)) := rfl
set_option maxRecDepth 100000 in
theorem x_cw_57 : lw_tbl[633]? = some (Cond.code (x_nm 57) (x_bytes 57) (x_mL 57) (x_ret 57)) := rfl
set_option maxRecDepth 100000 in
theorem x_cw_58 : lw_tbl[743]? = some (Cond.code (x_nm 58) (x_bytes 58) (x_mL 58) (x_ret 58)) := rfl
set_option maxRecDepth 100000 in
theorem x_cw_59 : lw_tbl[761]? = some (Cond.code (x_nm 59) (x_bytes 59) (x_mL 59) (x_ret 59)) := rfl
set_option maxRecDepth 100000 in
theorem x_cw_60 : lw_tbl[344]? = some (Cond.code (x_nm 60) (x_bytes 60) (x_mL 60) (x_ret 60)) := rfl
set_option maxRecDepth 100000 in
theorem x_cw_61 : lw_tbl[571]? = some (Cond.code (x_nm 61) (x_bytes 61) (x_mL 61) (x_ret 61)) := rfl
set_option maxRecDepth 100000 in
theorem x_cw_62 : lw_tbl[577]? = some (Cond.code (x_nm 62) (x_bytes 62) (x_mL 62) (x_ret 62)) := rfl
set_option maxRecDepth 100000 in
theorem x_cw_63 : lw_tbl[581]? = some (Cond.code (x_nm 63) (x_bytes 63) (x_mL 63) (x_ret 63)) := rfl
set_option maxRecDepth 100000 in
theorem x_cw_64 : lw_tbl[585]? = some (Cond.code (x_nm 64) (x_bytes 64) (x_mL 64) (x_ret 64)) := rfl
set_option maxRecDepth 100000 in
theorem x_cw_65 : lw_tbl[589]? = some (Cond.code (x_nm 65) (x_bytes 65) (x_mL 65) (x_ret 65)) := rfl
set_option maxRecDepth 100000 in
theorem x_cw_66 : lw_tbl[599]? = some (Cond.code (x_nm 66) (x_bytes 66) (x_mL 66) (x_ret 66)) := rfl
set_option maxRecDepth 100000 in
theorem x_cw_67 : lw_tbl[603]? = some (Cond.code (x_nm 67) (x_bytes 67) (x_mL 67) (x_ret 67)) := rfl
set_option maxRecDepth 100000 in
theorem x_cw_68 : lw_tbl[629]? = some (Cond.code (x_nm 68) (x_bytes 68) (x_mL 68) (x_ret 68)) := rfl
set_option maxRecDepth 100000 in
theorem x_cw_69 : lw_tbl[638]? = some (Cond.code (x_nm 69) (x_bytes 69) (x_mL 69) (x_ret 69)) := rfl
set_option maxRecDepth 100000 in
theorem x_cw_70 : lw_tbl[642]? = some (Cond.code (x_nm 70) (x_bytes 70) (x_mL 70) (x_ret 70)) := rfl
set_option maxRecDepth 100000 in
theorem x_cw_71 : lw_tbl[646]? = some (Cond.code (x_nm 71) (x_bytes 71) (x_mL 71) (x_ret 71)) := rfl
set_option maxRecDepth 100000 in
theorem x_cw_72 : lw_tbl[650]? = some (Cond.code (x_nm 72) (x_bytes 72) (x_mL 72) (x_ret 72)) := rfl
set_option maxRecDepth 100000 in
theorem x_cw_73 : lw_tbl[654]? = some (Cond.code (x_nm 73) (x_bytes 73) (x_mL 73) (x_ret 73)) := rfl
set_option maxRecDepth 100000 in
theorem x_cw_74 : lw_tbl[658]? = some (Cond.code (x_nm 74) (x_bytes 74) (x_mL 74) (x_ret 74)) := rfl
set_option maxRecDepth 100000 in
theorem x_cw_75 : lw_tbl[664]? = some (Cond.code (x_nm 75) (x_bytes 75) (x_mL 75) (x_ret 75)) := rfl
set_option maxRecDepth 100000 in
theorem x_cw_76 : lw_tbl[669]? = some (Cond.code (x_nm 76) (x_bytes 76) (x_mL 76) (x_ret 76)) := rfl
set_option maxRecDepth 100000 in
theorem x_cw_77 : lw_tbl[673]? = some (Cond.code (x_nm 77) (x_bytes 77) (x_mL 77) (x_ret 77)) := rfl
set_option maxRecDepth 100000 in
theorem x_cw_78 : lw_tbl[677]? = some (Cond.code (x_nm 78) (x_bytes 78) (x_mL 78) (x_ret 78)) := rfl
set_option maxRecDepth 100000 in
theorem x_cw_79 : lw_tbl[681]? = some (Cond.code (x_nm 79) (x_bytes 79) (x_mL 79) (x_ret 79)) := rfl
set_option maxRecDepth 100000 in
theorem x_cw_80 : lw_tbl[686]? = some (Cond.code (x_nm 80) (x_bytes 80) (x_mL 80) (x_ret 80)) := rfl
set_option maxRecDepth 100000 in
theorem x_cw_81 : lw_tbl[690]? = some (Cond.code (x_nm 81) (x_bytes 81) (x_mL 81) (x_ret 81)) := rfl
set_option maxRecDepth 100000 in
theorem x_cw_82 : lw_tbl[694]? = some (Cond.code (x_nm 82) (x_bytes 82) (x_mL 82) (x_ret 82)) := rfl
set_option maxRecDepth 100000 in
theorem x_cw_83 : lw_tbl[698]? = some (Cond.code (x_nm 83) (x_bytes 83) (x_mL 83) (x_ret 83)) := rfl
set_option maxRecDepth 100000 in
theorem x_cw_84 : lw_tbl[702]? = some (Cond.code (x_nm 84) (x_bytes 84) (x_mL 84) (x_ret 84)) := rfl
set_option maxRecDepth 100000 in
theorem x_cw_85 : lw_tbl[706]? = some (Cond.code (x_nm 85) (x_bytes 85) (x_mL 85) (x_ret 85)) := rfl
set_option maxRecDepth 100000 in
theorem x_cw_86 : lw_tbl[710]? = some (Cond.code (x_nm 86) (x_bytes 86) (x_mL 86) (x_ret 86)) := rfl
set_option maxRecDepth 100000 in
theorem x_cw_87 : lw_tbl[715]? = some (Cond.code (x_nm 87) (x_bytes 87) (x_mL 87) (x_ret 87)) := rfl
set_option maxRecDepth 100000 in
theorem x_cw_88 : lw_tbl[719]? = some (Cond.code (x_nm 88) (x_bytes 88) (x_mL 88) (x_ret 88)) := rfl
set_option maxRecDepth 100000 in
theorem x_cw_89 : lw_tbl[727]? = some (Cond.code (x_nm 89) (x_bytes 89) (x_mL 89) (x_ret 89)) := rfl
set_option maxRecDepth 100000 in
theorem x_cw_90 : lw_tbl[731]? = some (Cond.code (x_nm 90) (x_bytes 90) (x_mL 90) (x_ret 90)) := rfl
set_option maxRecDepth 100000 in
theorem x_cw_91 : lw_tbl[862]? = some (Cond.code (x_nm 91) (x_bytes 91) (x_mL 91) (x_ret 91)) := rfl
set_option maxRecDepth 100000 in
theorem x_cw_92 : lw_tbl[1050]? = some (Cond.code (x_nm 92) (x_bytes 92) (x_mL 92) (x_ret 92)) := rfl
set_option maxRecDepth 100000 in
theorem x_cw_93 : lw_tbl[1054]? = some (Cond.code (x_nm 93) (x_bytes 93) (x_mL 93) (x_ret 93)) := rfl
set_option maxRecDepth 100000 in
theorem x_cw_94 : lw_tbl[1059]? = some (Cond.code (x_nm 94) (x_bytes 94) (x_mL 94) (x_ret 94)) := rfl
set_option maxRecDepth 100000 in
theorem x_cw_95 : lw_tbl[1063]? = some (Cond.code (x_nm 95) (x_bytes 95) (x_mL 95) (x_ret 95)) := rfl
set_option maxRecDepth 100000 in
theorem x_cw_96 : lw_tbl[1067]? = some (Cond.code (x_nm 96) (x_bytes 96) (x_mL 96) (x_ret 96)) := rfl
set_option maxRecDepth 100000 in
theorem x_cw_97 : lw_tbl[1071]? = some (Cond.code (x_nm 97) (x_bytes 97) (x_mL 97) (x_ret 97)) := rfl
set_option maxRecDepth 100000 in
theorem x_cw_98 : lw_tbl[1075]? = some (Cond.code (x_nm 98) (x_bytes 98) (x_mL 98) (x_ret 98)) := rfl
set_option maxRecDepth 100000 in
theorem x_cw_99 : lw_tbl[1079]? = some (Cond.code (x_nm 99) (x_bytes 99) (x_mL 99) (x_ret 99)) := rfl
set_option maxRecDepth 100000 in
theorem x_cw_100 : lw_tbl[1083]? = some (Cond.code (x_nm 100) (x_bytes 100) (x_mL 100) (x_ret 100)) := rfl
set_option maxRecDepth 100000 in
theorem x_cw_101 : lw_tbl[1087]? = some (Cond.code (x_nm 101) (x_bytes 101) (x_mL 101) (x_ret 101)) := rfl
set_option maxRecDepth 100000 in
theorem x_cw_102 : lw_tbl[1091]? = some (Cond.code (x_nm 102) (x_bytes 102) (x_mL 102) (x_ret 102)) := rfl
set_option maxRecDepth 100000 in
theorem x_cw_103 : lw_tbl[1095]? = some (Cond.code (x_nm 103) (x_bytes 103) (x_mL 103) (x_ret 103)) := rfl
set_option maxRecDepth 100000 in
theorem x_cw_104 : lw_tbl[1099]? = some (Cond.code (x_nm 104) (x_bytes 104) (x_mL 104) (x_ret 104)) := rfl
set_option maxRecDepth 100000 in
theorem x_cw_105 : lw_tbl[1103]? = some (Cond.code (x_nm 105) (x_bytes 105) (x_mL 105) (x_ret 105)) := rfl
set_option maxRecDepth 100000 in
theorem x_cw_106 : lw_tbl[1107]? = some (Cond.code (x_nm 106) (x_bytes 106) (x_mL 106) (x_ret 106)) := rfl
set_option maxRecDepth 100000 in
theorem x_cw_107 : lw_tbl[1111]? = some (Cond.code (x_nm 107) (x_bytes 107) (x_mL 107) (x_ret 107)) := rfl
set_option maxRecDepth 100000 in
theorem x_cw_108 : lw_tbl[1115]? = some (Cond.code (x_nm 108) (x_bytes 108) (x_mL 108) (x_ret 108)) := rfl
set_option maxRecDepth 100000 in
theorem x_cw_109 : lw_tbl[1119]? = some (Cond.code (x_nm 109) (x_bytes 109) (x_mL 109) (x_ret 109)) := rfl
set_option maxRecDepth 100000 in
theorem x_cw_110 : lw_tbl[1123]? = some (Cond.code (x_nm 110) (x_bytes 110) (x_mL 110) (x_ret 110)) := rfl
set_option maxRecDepth 100000 in
theorem x_cw_111 : lw_tbl[1127]? = some (Cond.code (x_nm 111) (x_bytes 111) (x_mL 111) (x_ret 111)) := rfl
set_option maxRecDepth 100000 in
theorem x_cw_112 : lw_tbl[1131]? = some (Cond.code (x_nm 112) (x_bytes 112) (x_mL 112) (x_ret 112)) := rfl
set_option maxRecDepth 100000 in
theorem x_cw_113 : lw_tbl[1135]? = some (Cond.code (x_nm 113) (x_bytes 113) (x_mL 113) (x_ret 113)) := rfl
set_option maxRecDepth 100000 in
theorem x_cw_114 : lw_tbl[1140]? = some (Cond.code (x_nm 114) (x_bytes 114) (x_mL 114) (x_ret 114)) := rfl
set_option maxRecDepth 100000 in
theorem x_cw_115 : lw_tbl[1143]? = some (Cond.code (x_nm 115) (x_bytes 115) (x_mL 115) (x_ret 115)) := rfl
set_option maxRecDepth 100000 in
theorem x_cw_116 : lw_tbl[1147]? = some (Cond.code (x_nm 116) (x_bytes 116) (x_mL 116) (x_ret 116)) := rfl
set_option maxRecDepth 100000 in
theorem x_cw_117 : lw_tbl[1151]? = some (Cond.code (x_nm 117) (x_bytes 117) (x_mL 117) (x_ret 117)) := rfl
set_option maxRecDepth 100000 in
theorem x_cw_118 : lw_tbl[1155]? = some (Cond.code (x_nm 118) (x_bytes 118) (x_mL 118) (x_ret 118)) := rfl
set_option maxRecDepth 100000 in
theorem x_cw_119 : lw_tbl[1159]? = some (Cond.code (x_nm 119) (x_bytes 119) (x_mL 119) (x_ret 119)) := rfl
set_option maxRecDepth 100000 in
theorem x_cw_120 : lw_tbl[1163]? = some (Cond.code (x_nm 120) (x_bytes 120) (x_mL 120) (x_ret 120)) := rfl
set_option maxRecDepth 100000 in
theorem x_cw_121 : lw_tbl[1167]? = some (Cond.code (x_nm 121) (x_bytes 121) (x_mL 121) (x_ret 121)) := rfl
set_option maxRecDepth 100000 in
theorem x_cw_122 : lw_tbl[1171]? = some (Cond.code (x_nm 122) (x_bytes 122) (x_mL 122) (x_ret 122)) := rfl
set_option maxRecDepth 100000 in
theorem x_cw_123 : lw_tbl[1175]? = some (Cond.code (x_nm 123) (x_bytes 123) (x_mL 123) (x_ret 123)) := rfl
set_option maxRecDepth 100000 in
theorem x_cw_124 : lw_tbl[1179]? = some (Cond.code (x_nm 124) (x_bytes 124) (x_mL 124) (x_ret 124)) := rfl
set_option maxRecDepth 100000 in
theorem x_cw_125 : lw_tbl[1183]? = some (Cond.code (x_nm 125) (x_bytes 125) (x_mL 125) (x_ret 125)) := rfl
set_option maxRecDepth 100000 in
theorem x_cw_126 : lw_tbl[1187]? = some (Cond.code (x_nm 126) (x_bytes 126) (x_mL 126) (x_ret 126)) := rfl
set_option maxRecDepth 100000 in
theorem x_cw_127 : lw_tbl[1191]? = some (Cond.code (x_nm 127) (x_bytes 127) (x_mL 127) (x_ret 127)) := rfl
set_option maxRecDepth 100000 in
theorem x_cw_128 : lw_tbl[1195]? = some (Cond.code (x_nm 128) (x_bytes 128) (x_mL 128) (x_ret 128)) := rfl
set_option maxRecDepth 100000 in
theorem x_cw_129 : lw_tbl[1199]? = some (Cond.code (x_nm 129) (x_bytes 129) (x_mL 129) (x_ret 129)) := rfl
set_option maxRecDepth 100000 in
theorem x_cw_130 : lw_tbl[1203]? = some (Cond.code (x_nm 130) (x_bytes 130) (x_mL 130) (x_ret 130)) := rfl
set_option maxRecDepth 100000 in
theorem x_cw_131 : lw_tbl[1207]? = some (Cond.code (x_nm 131) (x_bytes 131) (x_mL 131) (x_ret 131)) := rfl
set_option maxRecDepth 100000 in
theorem x_cw_132 : lw_tbl[1211]? = some (Cond.code (x_nm 132) (x_bytes 132) (x_mL 132) (x_ret 132)) := rfl
set_option maxRecDepth 100000 in
theorem x_cw_133 : lw_tbl[1215]? = some (Cond.code (x_nm 133) (x_bytes 133) (x_mL 133) (x_ret 133)) := rfl
set_option maxRecDepth 100000 in
theorem x_cw_134 : lw_tbl[1219]? = some (Cond.code (x_nm 134) (x_bytes 134) (x_mL 134) (x_ret 134)) := rfl
set_option maxRecDepth 100000 in
theorem x_cw_135 : lw_tbl[1223]? = some (Cond.code (x_nm 135) (x_bytes 135) (x_mL 135) (x_ret 135)) := rfl
set_option maxRecDepth 100000 in
theorem x_cw_136 : lw_tbl[1227]? = some (Cond.code (x_nm 136) (x_bytes 136) (x_mL 136) (x_ret 136)) := rfl
set_option maxRecDepth 100000 in
theorem x_cw_137 : lw_tbl[1231]? = some (Cond.code (x_nm 137) (x_bytes 137) (x_mL 137) (x_ret 137)) := rfl
set_option maxRecDepth 100000 in
theorem x_cw_138 : lw_tbl[1235]? = some (Cond.code (x_nm 138) (x_bytes 138) (x_mL 138) (x_ret 138)) := rfl
set_option maxRecDepth 100000 in
theorem x_cw_139 : lw_tbl[1239]? = some (Cond.code (x_nm 139) (x_bytes 139) (x_mL 139) (x_ret 139)) := rfl
set_option maxRecDepth 100000 in
theorem x_cw_140 : lw_tbl[1243]? = some (Cond.code (x_nm 140) (x_bytes 140) (x_mL 140) (x_ret 140)) := rfl
set_option maxRecDepth 100000 in
theorem x_cw_141 : lw_tbl[1247]? = some (Cond.code (x_nm 141) (x_bytes 141) (x_mL 141) (x_ret 141)) := rfl
set_option maxRecDepth 100000 in
theorem x_cw_142 : lw_tbl[1251]? = some (Cond.code (x_nm 142) (x_bytes 142) (x_mL 142) (x_ret 142)) := rfl
set_option maxRecDepth 100000 in
theorem x_cw_143 : lw_tbl[1255]? = some (Cond.code (x_nm 143) (x_bytes 143) (x_mL 143) (x_ret 143)) := rfl
set_option maxRecDepth 100000 in
theorem x_cw_144 : lw_tbl[1259]? = some (Cond.code (x_nm 144) (x_bytes 144) (x_mL 144) (x_ret 144)) := rfl
set_option maxRecDepth 100000 in
theorem x_cw_145 : lw_tbl[1263]? = some (Cond.code (x_nm 145) (x_bytes 145) (x_mL 145) (x_ret 145)) := rfl
set_option maxRecDepth 100000 in
theorem x_cw_146 : lw_tbl[1267]? = some (Cond.code (x_nm 146) (x_bytes 146) (x_mL 146) (x_ret 146)) := rfl
set_option maxRecDepth 100000 in
theorem x_cw_147 : lw_tbl[1271]? = some (Cond.code (x_nm 147) (x_bytes 147) (x_mL 147) (x_ret 147)) := rfl
set_option maxRecDepth 100000 in
theorem x_cw_148 : lw_tbl[520]? = some (Cond.code (x_nm 148) (x_bytes 148) (x_mL 148) (x_ret 148)) := rfl
set_option maxRecDepth 100000 in
theorem x_cw_149 : lw_tbl[523]? = some (Cond.code (x_nm 149) (x_bytes 149) (x_mL 149) (x_ret 149)) := rfl
set_option maxRecDepth 100000 in
theorem x_cw_150 : lw_tbl[538]? = some (Cond.code (x_nm 150) (x_bytes 150) (x_mL 150) (x_ret 150)) := rfl
set_option maxRecDepth 100000 in
theorem x_cw_151 : lw_tbl[550]? = some (Cond.code (x_nm 151) (x_bytes 151) (x_mL 151) (x_ret 151)) := rfl
theorem x_cw (y : Nat) (h : y < 152) : Cond.code (x_nm y) (x_bytes y) (x_mL y) (x_ret y) ∈ lw_tbl := by
  match y, h with
  | 0, _ => exact List.mem_of_getElem? x_cw_0
  | 1, _ => exact List.mem_of_getElem? x_cw_1
  | 2, _ => exact List.mem_of_getElem? x_cw_2
  | 3, _ => exact List.mem_of_getElem? x_cw_3
  | 4, _ => exact List.mem_of_getElem? x_cw_4
  | 5, _ => exact List.mem_of_getElem? x_cw_5
  | 6, _ => exact List.mem_of_getElem? x_cw_6
  | 7, _ => exact List.mem_of_getElem? x_cw_7
  | 8, _ => exact List.mem_of_getElem? x_cw_8
  | 9, _ => exact List.mem_of_getElem? x_cw_9
  | 10, _ => exact List.mem_of_getElem? x_cw_10
  | 11, _ => exact List.mem_of_getElem? x_cw_11
  | 12, _ => exact List.mem_of_getElem? x_cw_12
  | 13, _ => exact List.mem_of_getElem? x_cw_13
  | 14, _ => exact List.mem_of_getElem? x_cw_14
  | 15, _ => exact List.mem_of_getElem? x_cw_15
  | 16, _ => exact List.mem_of_getElem? x_cw_16
  | 17, _ => exact List.mem_of_getElem? x_cw_17
  | 18, _ => exact List.mem_of_getElem? x_cw_18
  | 19, _ => exact List.mem_of_getElem? x_cw_19
  | 20, _ => exact List.mem_of_getElem? x_cw_20
  | 21, _ => exact List.mem_of_getElem? x_cw_21
  | 22, _ => exact List.mem_of_getElem? x_cw_22
  | 23, _ => exact List.mem_of_getElem? x_cw_23
  | 24, _ => exact List.mem_of_getElem? x_cw_24
  | 25, _ => exact List.mem_of_getElem? x_cw_25
  | 26, _ => exact List.mem_of_getElem? x_cw_26
  | 27, _ => exact List.mem_of_getElem? x_cw_27
  | 28, _ => exact List.mem_of_getElem? x_cw_28
  | 29, _ => exact List.mem_of_getElem? x_cw_29
  | 30, _ => exact List.mem_of_getElem? x_cw_30
  | 31, _ => exact List.mem_of_getElem? x_cw_31
  | 32, _ => exact List.mem_of_getElem? x_cw_32
  | 33, _ => exact List.mem_of_getElem? x_cw_33
  | 34, _ => exact List.mem_of_getElem? x_cw_34
  | 35, _ => exact List.mem_of_getElem? x_cw_35
  | 36, _ => exact List.mem_of_getElem? x_cw_36
  | 37, _ => exact List.mem_of_getElem? x_cw_37
  | 38, _ => exact List.mem_of_getElem? x_cw_38
  | 39, _ => exact List.mem_of_getElem? x_cw_39
  | 40, _ => exact List.mem_of_getElem? x_cw_40
  | 41, _ => exact List.mem_of_getElem? x_cw_41
  | 42, _ => exact List.mem_of_getElem? x_cw_42
  | 43, _ => exact List.mem_of_getElem? x_cw_43
  | 44, _ => exact List.mem_of_getElem? x_cw_44
  | 45, _ => exact List.mem_of_getElem? x_cw_45
  | 46, _ => exact List.mem_of_getElem? x_cw_46
  | 47, _ => exact List.mem_of_getElem? x_cw_47
  | 48, _ => exact List.mem_of_getElem? x_cw_48
  | 49, _ => exact List.mem_of_getElem? x_cw_49
  | 50, _ => exact List.mem_of_getElem? x_cw_50
  | 51, _ => exact List.mem_of_getElem? x_cw_51
  | 52, _ => exact List.mem_of_getElem? x_cw_52
  | 53, _ => exact List.mem_of_getElem? x_cw_53
  | 54, _ => exact List.mem_of_getElem? x_cw_54
  | 55, _ => exact List.mem_of_getElem? x_cw_55
  | 56, _ => exact List.mem_of_getElem? x_cw_56
  | 57, _ => exact List.mem_of_getElem? x_cw_57
  | 58, _ => exact List.mem_of_getElem? x_cw_58
  | 59, _ => exact List.mem_of_getElem? x_cw_59
  | 60, _ => exact List.mem_of_getElem? x_cw_60
  | 61, _ => exact List.mem_of_getElem? x_cw_61
  | 62, _ => exact List.mem_of_getElem? x_cw_62
  | 63, _ => exact List.mem_of_getElem? x_cw_63
  | 64, _ => exact List.mem_of_getElem? x_cw_64
  | 65, _ => exact List.mem_of_getElem? x_cw_65
  | 66, _ => exact List.mem_of_getElem? x_cw_66
  | 67, _ => exact List.mem_of_getElem? x_cw_67
  | 68, _ => exact List.mem_of_getElem? x_cw_68
  | 69, _ => exact List.mem_of_getElem? x_cw_69
  | 70, _ => exact List.mem_of_getElem? x_cw_70
  | 71, _ => exact List.mem_of_getElem? x_cw_71
  | 72, _ => exact List.mem_of_getElem? x_cw_72
  | 73, _ => exact List.mem_of_getElem? x_cw_73
  | 74, _ => exact List.mem_of_getElem? x_cw_74
  | 75, _ => exact List.mem_of_getElem? x_cw_75
  | 76, _ => exact List.mem_of_getElem? x_cw_76
  | 77, _ => exact List.mem_of_getElem? x_cw_77
  | 78, _ => exact List.mem_of_getElem? x_cw_78
  | 79, _ => exact List.mem_of_getElem? x_cw_79
  | 80, _ => exact List.mem_of_getElem? x_cw_80
  | 81, _ => exact List.mem_of_getElem? x_cw_81
  | 82, _ => exact List.mem_of_getElem? x_cw_82
  | 83, _ => exact List.mem_of_getElem? x_cw_83
  | 84, _ => exact List.mem_of_getElem? x_cw_84
  | 85, _ => exact List.mem_of_getElem? x_cw_85
  | 86, _ => exact List.mem_of_getElem? x_cw_86
  | 87, _ => exact List.mem_of_getElem? x_cw_87
  | 88, _ => exact List.mem_of_getElem? x_cw_88
  | 89, _ => exact List.mem_of_getElem? x_cw_89
  | 90, _ => exact List.mem_of_getElem? x_cw_90
  | 91, _ => exact List.mem_of_getElem? x_cw_91
  | 92, _ => exact List.mem_of_getElem? x_cw_92
  | 93, _ => exact List.mem_of_getElem? x_cw_93
  | 94, _ => exact List.mem_of_getElem? x_cw_94
  | 95, _ => exact List.mem_of_getElem? x_cw_95
  | 96, _ => exact List.mem_of_getElem? x_cw_96
  | 97, _ => exact List.mem_of_getElem? x_cw_97
  | 98, _ => exact List.mem_of_getElem? x_cw_98
  | 99, _ => exact List.mem_of_getElem? x_cw_99
  | 100, _ => exact List.mem_of_getElem? x_cw_100
  | 101, _ => exact List.mem_of_getElem? x_cw_101
  | 102, _ => exact List.mem_of_getElem? x_cw_102
  | 103, _ => exact List.mem_of_getElem? x_cw_103
  | 104, _ => exact List.mem_of_getElem? x_cw_104
  | 105, _ => exact List.mem_of_getElem? x_cw_105
  | 106, _ => exact List.mem_of_getElem? x_cw_106
  | 107, _ => exact List.mem_of_getElem? x_cw_107
  | 108, _ => exact List.mem_of_getElem? x_cw_108
  | 109, _ => exact List.mem_of_getElem? x_cw_109
  | 110, _ => exact List.mem_of_getElem? x_cw_110
  | 111, _ => exact List.mem_of_getElem? x_cw_111
  | 112, _ => exact List.mem_of_getElem? x_cw_112
  | 113, _ => exact List.mem_of_getElem? x_cw_113
  | 114, _ => exact List.mem_of_getElem? x_cw_114
  | 115, _ => exact List.mem_of_getElem? x_cw_115
  | 116, _ => exact List.mem_of_getElem? x_cw_116
  | 117, _ => exact List.mem_of_getElem? x_cw_117
  | 118, _ => exact List.mem_of_getElem? x_cw_118
  | 119, _ => exact List.mem_of_getElem? x_cw_119
  | 120, _ => exact List.mem_of_getElem? x_cw_120
  | 121, _ => exact List.mem_of_getElem? x_cw_121
  | 122, _ => exact List.mem_of_getElem? x_cw_122
  | 123, _ => exact List.mem_of_getElem? x_cw_123
  | 124, _ => exact List.mem_of_getElem? x_cw_124
  | 125, _ => exact List.mem_of_getElem? x_cw_125
  | 126, _ => exact List.mem_of_getElem? x_cw_126
  | 127, _ => exact List.mem_of_getElem? x_cw_127
  | 128, _ => exact List.mem_of_getElem? x_cw_128
  | 129, _ => exact List.mem_of_getElem? x_cw_129
  | 130, _ => exact List.mem_of_getElem? x_cw_130
  | 131, _ => exact List.mem_of_getElem? x_cw_131
  | 132, _ => exact List.mem_of_getElem? x_cw_132
  | 133, _ => exact List.mem_of_getElem? x_cw_133
  | 134, _ => exact List.mem_of_getElem? x_cw_134
  | 135, _ => exact List.mem_of_getElem? x_cw_135
  | 136, _ => exact List.mem_of_getElem? x_cw_136
  | 137, _ => exact List.mem_of_getElem? x_cw_137
  | 138, _ => exact List.mem_of_getElem? x_cw_138
  | 139, _ => exact List.mem_of_getElem? x_cw_139
  | 140, _ => exact List.mem_of_getElem? x_cw_140
  | 141, _ => exact List.mem_of_getElem? x_cw_141
  | 142, _ => exact List.mem_of_getElem? x_cw_142
  | 143, _ => exact List.mem_of_getElem? x_cw_143
  | 144, _ => exact List.mem_of_getElem? x_cw_144
  | 145, _ => exact List.mem_of_getElem? x_cw_145
  | 146, _ => exact List.mem_of_getElem? x_cw_146
  | 147, _ => exact List.mem_of_getElem? x_cw_147
  | 148, _ => exact List.mem_of_getElem? x_cw_148
  | 149, _ => exact List.mem_of_getElem? x_cw_149
  | 150, _ => exact List.mem_of_getElem? x_cw_150
  | 151, _ => exact List.mem_of_getElem? x_cw_151
  | n + 152, h => exact absurd h (by omega)
theorem x_ychk_all : ∀ y, y < 152 → x_ychk y = true := by decide +kernel
theorem x_ychk_ok {y : Nat} (h : y < 152) : Cond.code (x_nm y) (x_bytes y) (x_mL y) (x_ret y) ∈ lw_tbl ∧ (x_nm y).cls = x_cname y ∧ plainName (x_nm y).cls = true ∧ (x_nm y).cls ≠ "java/lang/invoke/MethodHandle" ∧ (x_nm y).cls ≠ "java/lang/invoke/VarHandle" ∧ x_mL y ≤ 45 ∧ Cond.initialized (x_nm y).cls ∈ lw_tbl := by
  have h1 := x_ychk_all y h
  unfold x_ychk at h1
  simp only [Bool.and_eq_true, decide_eq_true_eq] at h1
  obtain ⟨⟨⟨⟨⟨a2, a3⟩, a4⟩, a5⟩, a6⟩, a7⟩ := h1
  exact ⟨x_cw y h, a2, a3, a4, a5, a6, List.mem_of_getElem? a7⟩
def x_tabName : MethodName := ⟨"StepRowsLaw", "table", "(LStepRows;I[J)I"⟩
def x_mone (c : Nat) (q : Nat × Nat × Nat × Nat × Nat) : Bool :=
  if q.2.1 = 6 then decide (lw_tbl[q.2.2.2.2]? = some (Cond.methodLink (x_cnms.getD c "") q.1 objectInit))
  else if q.2.1 = 7 then decide (lw_tbl[q.2.2.2.2]? = some (Cond.methodLink (x_cnms.getD c "") q.1 arraycopyName))
  else if q.2.1 = 8 then decide (lw_tbl[q.2.2.2.2]? = some (Cond.methodLink (x_cnms.getD c "") q.1 Lib.Math.min.name))
  else if q.2.1 = 9 then decide (c = 8 ∧ lw_tbl[q.2.2.2.2]? = some (Cond.methodLink (x_cnms.getD c "") q.1 x_tabName))
  else decide (q.2.2.1 < 152) && decide ((parseMethodDescriptor (x_nm q.2.2.1).desc).map (fun d => d.parameters.length) = some q.2.2.2.1) &&
    (if q.2.1 = 0 then decide (lw_tbl[q.2.2.2.2]? = some (Cond.methodLink (x_cnms.getD c "") q.1 (x_nm q.2.2.1))) && decide (lw_tbl[(x_oddY.getD q.2.2.1 (0, 0, 0, 0)).1]? = some (Cond.instanceMethod (x_nm q.2.2.1))) && decide (lw_tbl[(x_oddY.getD q.2.2.1 (0, 0, 0, 0)).2.1]? = some (Cond.selects (x_nm q.2.2.1).cls (x_nm q.2.2.1) (x_nm q.2.2.1)))
    else if q.2.1 = 2 then decide (lw_tbl[q.2.2.2.2]? = some (Cond.methodLink (x_cnms.getD c "") q.1 (x_nm q.2.2.1))) && decide (lw_tbl[(x_oddY.getD q.2.2.1 (0, 0, 0, 0)).1]? = some (Cond.instanceMethod (x_nm q.2.2.1))) && decide ((x_nm q.2.2.1).name = "<init>") && decide (x_ret q.2.2.1 = none)
    else if q.2.1 = 3 then decide ((x_cnms.getD c "", q.1, x_nm q.2.2.1) ∈ x_oddM) && decide (lw_tbl[(x_oddY.getD q.2.2.1 (0, 0, 0, 0)).1]? = some (Cond.instanceMethod (x_nm q.2.2.1))) && decide ((x_nm q.2.2.1).name = "<init>") && decide (x_ret q.2.2.1 = none)
    else if q.2.1 = 5 then decide (lw_tbl[q.2.2.2.2]? = some (Cond.methodLink (x_cnms.getD c "") q.1 (x_nm q.2.2.1))) && decide (lw_tbl[(x_oddY.getD q.2.2.1 (0, 0, 0, 0)).2.2.2]? = some (Cond.static (x_nm q.2.2.1)))
    else false)
def x_mchk (c k : Nat) : Bool := (((x_mthL.getD c []).drop (12 * k)).take 12).all (x_mone c)
theorem x_mchk_0_0 : x_mchk 0 0 = true := by decide +kernel
theorem x_mchk_0_1 : x_mchk 0 1 = true := by decide +kernel
theorem x_mchk_0_2 : x_mchk 0 2 = true := by decide +kernel
theorem x_mchk_0_3 : x_mchk 0 3 = true := by decide +kernel
theorem x_mchk_1_0 : x_mchk 1 0 = true := by decide +kernel
theorem x_mchk_1_1 : x_mchk 1 1 = true := by decide +kernel
theorem x_mchk_1_2 : x_mchk 1 2 = true := by decide +kernel
theorem x_mchk_1_3 : x_mchk 1 3 = true := by decide +kernel
theorem x_mchk_2_0 : x_mchk 2 0 = true := by decide +kernel
theorem x_mchk_2_1 : x_mchk 2 1 = true := by decide +kernel
theorem x_mchk_2_2 : x_mchk 2 2 = true := by decide +kernel
theorem x_mchk_2_3 : x_mchk 2 3 = true := by decide +kernel
theorem x_mchk_3_0 : x_mchk 3 0 = true := by decide +kernel
theorem x_mchk_3_1 : x_mchk 3 1 = true := by decide +kernel
theorem x_mchk_3_2 : x_mchk 3 2 = true := by decide +kernel
theorem x_mchk_3_3 : x_mchk 3 3 = true := by decide +kernel
theorem x_mchk_4_0 : x_mchk 4 0 = true := by decide +kernel
theorem x_mchk_4_1 : x_mchk 4 1 = true := by decide +kernel
theorem x_mchk_4_2 : x_mchk 4 2 = true := by decide +kernel
theorem x_mchk_4_3 : x_mchk 4 3 = true := by decide +kernel
theorem x_mchk_5_0 : x_mchk 5 0 = true := by decide +kernel
theorem x_mchk_5_1 : x_mchk 5 1 = true := by decide +kernel
theorem x_mchk_5_2 : x_mchk 5 2 = true := by decide +kernel
theorem x_mchk_5_3 : x_mchk 5 3 = true := by decide +kernel
theorem x_mchk_6_0 : x_mchk 6 0 = true := by decide +kernel
theorem x_mchk_6_1 : x_mchk 6 1 = true := by decide +kernel
theorem x_mchk_6_2 : x_mchk 6 2 = true := by decide +kernel
theorem x_mchk_6_3 : x_mchk 6 3 = true := by decide +kernel
theorem x_mchk_7_0 : x_mchk 7 0 = true := by decide +kernel
theorem x_mchk_7_1 : x_mchk 7 1 = true := by decide +kernel
theorem x_mchk_7_2 : x_mchk 7 2 = true := by decide +kernel
theorem x_mchk_7_3 : x_mchk 7 3 = true := by decide +kernel
theorem x_mchk_8_0 : x_mchk 8 0 = true := by decide +kernel
theorem x_mchk_8_1 : x_mchk 8 1 = true := by decide +kernel
theorem x_mchk_8_2 : x_mchk 8 2 = true := by decide +kernel
theorem x_mchk_8_3 : x_mchk 8 3 = true := by decide +kernel
theorem x_mchk_9_0 : x_mchk 9 0 = true := by decide +kernel
theorem x_mchk_9_1 : x_mchk 9 1 = true := by decide +kernel
theorem x_mchk_9_2 : x_mchk 9 2 = true := by decide +kernel
theorem x_mchk_9_3 : x_mchk 9 3 = true := by decide +kernel
theorem x_mchk_10_0 : x_mchk 10 0 = true := by decide +kernel
theorem x_mchk_10_1 : x_mchk 10 1 = true := by decide +kernel
theorem x_mchk_10_2 : x_mchk 10 2 = true := by decide +kernel
theorem x_mchk_10_3 : x_mchk 10 3 = true := by decide +kernel
theorem x_mchk_all (c : Nat) (h : c < 11) (k : Nat) (hk : k < 4) : x_mchk c k = true := by
  match c, h, k, hk with
  | 0, _, 0, _ => exact x_mchk_0_0
  | 0, _, 1, _ => exact x_mchk_0_1
  | 0, _, 2, _ => exact x_mchk_0_2
  | 0, _, 3, _ => exact x_mchk_0_3
  | 1, _, 0, _ => exact x_mchk_1_0
  | 1, _, 1, _ => exact x_mchk_1_1
  | 1, _, 2, _ => exact x_mchk_1_2
  | 1, _, 3, _ => exact x_mchk_1_3
  | 2, _, 0, _ => exact x_mchk_2_0
  | 2, _, 1, _ => exact x_mchk_2_1
  | 2, _, 2, _ => exact x_mchk_2_2
  | 2, _, 3, _ => exact x_mchk_2_3
  | 3, _, 0, _ => exact x_mchk_3_0
  | 3, _, 1, _ => exact x_mchk_3_1
  | 3, _, 2, _ => exact x_mchk_3_2
  | 3, _, 3, _ => exact x_mchk_3_3
  | 4, _, 0, _ => exact x_mchk_4_0
  | 4, _, 1, _ => exact x_mchk_4_1
  | 4, _, 2, _ => exact x_mchk_4_2
  | 4, _, 3, _ => exact x_mchk_4_3
  | 5, _, 0, _ => exact x_mchk_5_0
  | 5, _, 1, _ => exact x_mchk_5_1
  | 5, _, 2, _ => exact x_mchk_5_2
  | 5, _, 3, _ => exact x_mchk_5_3
  | 6, _, 0, _ => exact x_mchk_6_0
  | 6, _, 1, _ => exact x_mchk_6_1
  | 6, _, 2, _ => exact x_mchk_6_2
  | 6, _, 3, _ => exact x_mchk_6_3
  | 7, _, 0, _ => exact x_mchk_7_0
  | 7, _, 1, _ => exact x_mchk_7_1
  | 7, _, 2, _ => exact x_mchk_7_2
  | 7, _, 3, _ => exact x_mchk_7_3
  | 8, _, 0, _ => exact x_mchk_8_0
  | 8, _, 1, _ => exact x_mchk_8_1
  | 8, _, 2, _ => exact x_mchk_8_2
  | 8, _, 3, _ => exact x_mchk_8_3
  | 9, _, 0, _ => exact x_mchk_9_0
  | 9, _, 1, _ => exact x_mchk_9_1
  | 9, _, 2, _ => exact x_mchk_9_2
  | 9, _, 3, _ => exact x_mchk_9_3
  | 10, _, 0, _ => exact x_mchk_10_0
  | 10, _, 1, _ => exact x_mchk_10_1
  | 10, _, 2, _ => exact x_mchk_10_2
  | 10, _, 3, _ => exact x_mchk_10_3
  | n + 11, h, _, _ => exact absurd h (by omega)
  | _, _, n + 4, h => exact absurd h (by omega)
theorem x_mlen : ∀ c, c < 11 → (x_mthL.getD c []).length ≤ 12 * 4 := by decide +kernel
theorem x_mone_all (c : Nat) (h : c < 11) {q : Nat × Nat × Nat × Nat × Nat} (hq : q ∈ x_mthL.getD c []) : x_mone c q = true := by
  obtain ⟨i, hi⟩ := List.getElem?_of_mem hq
  have hlt := (List.getElem?_eq_some_iff.mp hi).1
  have hk := x_mlen c h
  refine List.all_eq_true.mp (x_mchk_all c h (i / 12) (by omega)) q (List.mem_of_getElem? (i := i % 12) ?_)
  rw [List.getElem?_take_of_lt (Nat.mod_lt _ (by decide)), List.getElem?_drop, Nat.div_add_mod]
  exact hi
theorem x_mth_ok {mi idx kd y na : Nat} (h : x_mth mi idx = some (kd, y, na)) : ∃ pos, x_mone (x_cno mi) (idx, kd, y, na, pos) = true := by
  unfold x_mth at h
  cases h1 : x_look (x_mthL.getD (x_cno mi) []) idx with
  | none => rw [h1] at h; cases h
  | some q =>
    obtain ⟨a, b, c, pos⟩ := q
    rw [h1] at h
    cases h
    exact ⟨pos, x_mone_all _ (x_cno_lt mi) (x_look_mem h1)⟩
theorem x_mth6 {mi idx y na : Nat} (h : x_mth mi idx = some (6, y, na)) : Cond.methodLink (x_cname mi) idx objectInit ∈ lw_tbl := by
  obtain ⟨pos, h1⟩ := x_mth_ok h
  exact List.mem_of_getElem? (of_decide_eq_true h1)
theorem x_mth7 {mi idx y na : Nat} (h : x_mth mi idx = some (7, y, na)) : Cond.methodLink (x_cname mi) idx arraycopyName ∈ lw_tbl := by
  obtain ⟨pos, h1⟩ := x_mth_ok h
  exact List.mem_of_getElem? (of_decide_eq_true h1)
theorem x_mth8 {mi idx y na : Nat} (h : x_mth mi idx = some (8, y, na)) : Cond.methodLink (x_cname mi) idx Lib.Math.min.name ∈ lw_tbl := by
  obtain ⟨pos, h1⟩ := x_mth_ok h
  exact List.mem_of_getElem? (of_decide_eq_true h1)
theorem x_mth9 {mi idx y na : Nat} (h : x_mth mi idx = some (9, y, na)) : x_cno mi = 8 ∧ Cond.methodLink (x_cname mi) idx x_tabName ∈ lw_tbl := by
  obtain ⟨pos, h1⟩ := x_mth_ok h
  have h2 := of_decide_eq_true h1
  exact ⟨h2.1, List.mem_of_getElem? h2.2⟩
theorem x_mth_in {mi idx kd y na : Nat} (h : x_mth mi idx = some (kd, y, na)) (h6 : ¬ kd = 6) (h7 : ¬ kd = 7) (h8 : ¬ kd = 8) (h9 : ¬ kd = 9) : y < 152 ∧ (parseMethodDescriptor (x_nm y).desc).map (fun d => d.parameters.length) = some na ∧
    ((kd = 0 ∧ Cond.methodLink (x_cname mi) idx (x_nm y) ∈ lw_tbl ∧ Cond.instanceMethod (x_nm y) ∈ lw_tbl ∧ Cond.selects (x_nm y).cls (x_nm y) (x_nm y) ∈ lw_tbl) ∨
     (kd = 2 ∧ Cond.methodLink (x_cname mi) idx (x_nm y) ∈ lw_tbl ∧ Cond.instanceMethod (x_nm y) ∈ lw_tbl ∧ (x_nm y).name = "<init>" ∧ x_ret y = none) ∨
     (kd = 3 ∧ (x_cname mi, idx, x_nm y) ∈ x_oddM ∧ Cond.instanceMethod (x_nm y) ∈ lw_tbl ∧ (x_nm y).name = "<init>" ∧ x_ret y = none) ∨
     (kd = 5 ∧ Cond.methodLink (x_cname mi) idx (x_nm y) ∈ lw_tbl ∧ Cond.static (x_nm y) ∈ lw_tbl)) := by
  obtain ⟨pos, h1⟩ := x_mth_ok h
  unfold x_mone at h1
  dsimp only at h1
  rw [if_neg h6, if_neg h7, if_neg h8, if_neg h9] at h1
  simp only [Bool.and_eq_true, decide_eq_true_eq] at h1
  obtain ⟨⟨a1, a2⟩, h2⟩ := h1
  refine ⟨a1, a2, ?_⟩
  split at h2
  · rename_i e
    simp only [Bool.and_eq_true, decide_eq_true_eq] at h2
    exact Or.inl ⟨e, List.mem_of_getElem? h2.1.1, List.mem_of_getElem? h2.1.2, List.mem_of_getElem? h2.2⟩
  split at h2
  · rename_i e
    simp only [Bool.and_eq_true, decide_eq_true_eq] at h2
    exact Or.inr (Or.inl ⟨e, List.mem_of_getElem? h2.1.1.1, List.mem_of_getElem? h2.1.1.2, h2.1.2, h2.2⟩)
  split at h2
  · rename_i e
    simp only [Bool.and_eq_true, decide_eq_true_eq] at h2
    exact Or.inr (Or.inr (Or.inl ⟨e, h2.1.1.1, List.mem_of_getElem? h2.1.1.2, h2.1.2, h2.2⟩))
  split at h2
  · rename_i e
    simp only [Bool.and_eq_true, decide_eq_true_eq] at h2
    exact Or.inr (Or.inr (Or.inr ⟨e, List.mem_of_getElem? h2.1, List.mem_of_getElem? h2.2⟩))
  · cases h2
theorem x_words_min : Cond.static Lib.Math.min.name ∈ lw_tbl ∧ Cond.initialized "java/lang/Math" ∈ lw_tbl ∧ Cond.code Lib.Math.min.name Lib.Math.min.code 2 (some .int) ∈ lw_tbl := by decide +kernel
theorem x_words_few : Cond.instanceMethod objectInit ∈ lw_tbl ∧ Cond.code objectInit ⟨#[0xb1]⟩ 1 none ∈ lw_tbl ∧ Cond.native arraycopyName ∈ lw_tbl ∧ Cond.static arraycopyName ∈ lw_tbl ∧ Cond.initialized "java/lang/System" ∈ lw_tbl := by decide +kernel
