set_option maxRecDepth 100000 in
theorem mw_0 : tables_1[126]? = some (Cond.code (yM 0) (bM 0) (lM 0) (rM 0)) := rfl
set_option maxRecDepth 100000 in
theorem mw_1 : tables_1[789]? = some (Cond.code (yM 1) (bM 1) (lM 1) (rM 1)) := rfl
set_option maxRecDepth 100000 in
theorem mw_2 : tables_1[347]? = some (Cond.code (yM 2) (bM 2) (lM 2) (rM 2)) := rfl
set_option maxRecDepth 100000 in
theorem mw_3 : tables_1[781]? = some (Cond.code (yM 3) (bM 3) (lM 3) (rM 3)) := rfl
set_option maxRecDepth 100000 in
theorem mw_4 : tables_1[764]? = some (Cond.code (yM 4) (bM 4) (lM 4) (rM 4)) := rfl
set_option maxRecDepth 100000 in
theorem mw_5 : tables_1[407]? = some (Cond.code (yM 5) (bM 5) (lM 5) (rM 5)) := rfl
set_option maxRecDepth 100000 in
theorem mw_6 : tables_1[772]? = some (Cond.code (yM 6) (bM 6) (lM 6) (rM 6)) := rfl
set_option maxRecDepth 100000 in
theorem mw_7 : tables_1[199]? = some (Cond.code (yM 7) (bM 7) (lM 7) (rM 7)) := rfl
set_option maxRecDepth 100000 in
theorem mw_8 : tables_1[527]? = some (Cond.code (yM 8) (bM 8) (lM 8) (rM 8)) := rfl
set_option maxRecDepth 100000 in
theorem mw_9 : tables_1[615]? = some (Cond.code (yM 9) (bM 9) (lM 9) (rM 9)) := rfl
set_option maxRecDepth 100000 in
theorem mw_10 : tables_1[557]? = some (Cond.code (yM 10) (bM 10) (lM 10) (rM 10)) := rfl
set_option maxRecDepth 100000 in
theorem mw_11 : tables_1[565]? = some (Cond.code (yM 11) (bM 11) (lM 11) (rM 11)) := rfl
set_option maxRecDepth 100000 in
theorem mw_12 : tables_1[628]? = some (Cond.code (yM 12) (bM 12) (lM 12) (rM 12)) := rfl
set_option maxRecDepth 100000 in
theorem mw_13 : tables_1[542]? = some (Cond.code (yM 13) (bM 13) (lM 13) (rM 13)) := rfl
set_option maxRecDepth 100000 in
theorem mw_14 : tables_1[726]? = some (Cond.code (yM 14) (bM 14) (lM 14) (rM 14)) := rfl
set_option maxRecDepth 100000 in
theorem mw_15 : tables_1[624]? = some (Cond.code (yM 15) (bM 15) (lM 15) (rM 15)) := rfl
set_option maxRecDepth 100000 in
theorem mw_16 : tables_1[538]? = some (Cond.code (yM 16) (bM 16) (lM 16) (rM 16)) := rfl
set_option maxRecDepth 100000 in
theorem mw_17 : tables_1[550]? = some (Cond.code (yM 17) (bM 17) (lM 17) (rM 17)) := rfl
set_option maxRecDepth 100000 in
theorem mw_18 : tables_1[607]? = some (Cond.code (yM 18) (bM 18) (lM 18) (rM 18)) := rfl
set_option maxRecDepth 100000 in
theorem mw_19 : tables_1[611]? = some (Cond.code (yM 19) (bM 19) (lM 19) (rM 19)) := rfl
set_option maxRecDepth 100000 in
theorem mw_20 : tables_1[561]? = some (Cond.code (yM 20) (bM 20) (lM 20) (rM 20)) := rfl
set_option maxRecDepth 100000 in
theorem mw_21 : tables_1[546]? = some (Cond.code (yM 21) (bM 21) (lM 21) (rM 21)) := rfl
set_option maxRecDepth 100000 in
theorem mw_22 : tables_1[58]? = some (Cond.code (yM 22) (bM 22) (lM 22) (rM 22)) := rfl
set_option maxRecDepth 100000 in
theorem mw_23 : tables_1[374]? = some (Cond.code (yM 23) (bM 23) (lM 23) (rM 23)) := rfl
set_option maxRecDepth 100000 in
theorem mw_24 : tables_1[370]? = some (Cond.code (yM 24) (bM 24) (lM 24) (rM 24)) := rfl
set_option maxRecDepth 100000 in
theorem mw_25 : tables_1[378]? = some (Cond.code (yM 25) (bM 25) (lM 25) (rM 25)) := rfl
set_option maxRecDepth 100000 in
theorem mw_26 : tables_1[395]? = some (Cond.code (yM 26) (bM 26) (lM 26) (rM 26)) := rfl
set_option maxRecDepth 100000 in
theorem mw_27 : tables_1[398]? = some (Cond.code (yM 27) (bM 27) (lM 27) (rM 27)) := rfl
set_option maxRecDepth 100000 in
theorem mw_28 : tables_1[71]? = some (Cond.code (yM 28) (bM 28) (lM 28) (rM 28)) := rfl
set_option maxRecDepth 100000 in
theorem mw_29 : tables_1[479]? = some (Cond.code (yM 29) (bM 29) (lM 29) (rM 29)) := rfl
set_option maxRecDepth 100000 in
theorem mw_30 : tables_1[423]? = some (Cond.code (yM 30) (bM 30) (lM 30) (rM 30)) := rfl
set_option maxRecDepth 100000 in
theorem mw_31 : tables_1[427]? = some (Cond.code (yM 31) (bM 31) (lM 31) (rM 31)) := rfl
set_option maxRecDepth 100000 in
theorem mw_32 : tables_1[442]? = some (Cond.code (yM 32) (bM 32) (lM 32) (rM 32)) := rfl
set_option maxRecDepth 100000 in
theorem mw_33 : tables_1[451]? = some (Cond.code (yM 33) (bM 33) (lM 33) (rM 33)) := rfl
set_option maxRecDepth 100000 in
theorem mw_34 : tables_1[455]? = some (Cond.code (yM 34) (bM 34) (lM 34) (rM 34)) := rfl
set_option maxRecDepth 100000 in
theorem mw_35 : tables_1[459]? = some (Cond.code (yM 35) (bM 35) (lM 35) (rM 35)) := rfl
set_option maxRecDepth 100000 in
theorem mw_36 : tables_1[178]? = some (Cond.code (yM 36) (bM 36) (lM 36) (rM 36)) := rfl
set_option maxRecDepth 100000 in
theorem mw_37 : tables_1[351]? = some (Cond.code (yM 37) (bM 37) (lM 37) (rM 37)) := rfl
set_option maxRecDepth 100000 in
theorem mw_38 : tables_1[366]? = some (Cond.code (yM 38) (bM 38) (lM 38) (rM 38)) := rfl
set_option maxRecDepth 100000 in
theorem mw_39 : tables_1[419]? = some (Cond.code (yM 39) (bM 39) (lM 39) (rM 39)) := rfl
set_option maxRecDepth 100000 in
theorem mw_40 : tables_1[499]? = some (Cond.code (yM 40) (bM 40) (lM 40) (rM 40)) := rfl
set_option maxRecDepth 100000 in
theorem mw_41 : tables_1[415]? = some (Cond.code (yM 41) (bM 41) (lM 41) (rM 41)) := rfl
set_option maxRecDepth 100000 in
theorem mw_42 : tables_1[154]? = some (Cond.code (yM 42) (bM 42) (lM 42) (rM 42)) := rfl
set_option maxRecDepth 100000 in
theorem mw_43 : tables_1[212]? = some (Cond.code (yM 43) (bM 43) (lM 43) (rM 43)) := rfl
set_option maxRecDepth 100000 in
theorem mw_44 : tables_1[591]? = some (Cond.code (yM 44) (bM 44) (lM 44) (rM 44)) := rfl
set_option maxRecDepth 100000 in
theorem mw_45 : tables_1[743]? = some (Cond.code (yM 45) (bM 45) (lM 45) (rM 45)) := rfl
set_option maxRecDepth 100000 in
theorem mw_46 : tables_1[756]? = some (Cond.code (yM 46) (bM 46) (lM 46) (rM 46)) := rfl
set_option maxRecDepth 100000 in
theorem mw_47 : tables_1[599]? = some (Cond.code (yM 47) (bM 47) (lM 47) (rM 47)) := rfl
set_option maxRecDepth 100000 in
theorem mw_48 : tables_1[620]? = some (Cond.code (yM 48) (bM 48) (lM 48) (rM 48)) := rfl
set_option maxRecDepth 100000 in
theorem mw_49 : tables_1[633]? = some (Cond.code (yM 49) (bM 49) (lM 49) (rM 49)) := rfl
set_option maxRecDepth 100000 in
theorem mw_50 : tables_1[692]? = some (Cond.code (yM 50) (bM 50) (lM 50) (rM 50)) := rfl
set_option maxRecDepth 100000 in
theorem mw_51 : tables_1[730]? = some (Cond.code (yM 51) (bM 51) (lM 51) (rM 51)) := rfl
set_option maxRecDepth 100000 in
theorem mw_52 : tables_1[737]? = some (Cond.code (yM 52) (bM 52) (lM 52) (rM 52)) := rfl
set_option maxRecDepth 100000 in
theorem mw_53 : tables_1[700]? = some (Cond.code (yM 53) (bM 53) (lM 53) (rM 53)) := rfl
set_option maxRecDepth 100000 in
theorem mw_54 : tables_1[709]? = some (Cond.code (yM 54) (bM 54) (lM 54) (rM 54)) := rfl
set_option maxRecDepth 100000 in
theorem mw_55 : tables_1[718]? = some (Cond.code (yM 55) (bM 55) (lM 55) (rM 55)) := rfl
set_option maxRecDepth 100000 in
theorem mw_56 : tables_1[638]? = some (Cond.code (yM 56) (bM 56) (lM 56) (rM 56)) := rfl
set_option maxRecDepth 100000 in
theorem mw_57 : tables_1[696]? = some (Cond.code (yM 57) (bM 57) (lM 57) (rM 57)) := rfl
set_option maxRecDepth 100000 in
theorem mw_58 : tables_1[77]? = some (Cond.code (yM 58) (bM 58) (lM 58) (rM 58)) := rfl
set_option maxRecDepth 100000 in
theorem mw_59 : tables_1[432]? = some (Cond.code (yM 59) (bM 59) (lM 59) (rM 59)) := rfl
set_option maxRecDepth 100000 in
theorem mw_60 : tables_1[438]? = some (Cond.code (yM 60) (bM 60) (lM 60) (rM 60)) := rfl
set_option maxRecDepth 100000 in
theorem mw_61 : tables_1[474]? = some (Cond.code (yM 61) (bM 61) (lM 61) (rM 61)) := rfl
set_option maxRecDepth 100000 in
theorem mw_62 : tables_1[470]? = some (Cond.code (yM 62) (bM 62) (lM 62) (rM 62)) := rfl
set_option maxRecDepth 100000 in
theorem mw_63 : tables_1[446]? = some (Cond.code (yM 63) (bM 63) (lM 63) (rM 63)) := rfl
set_option maxRecDepth 100000 in
theorem mw_64 : tables_1[31]? = some (Cond.code (yM 64) (bM 64) (lM 64) (rM 64)) := rfl
set_option maxRecDepth 100000 in
theorem mw_65 : tables_1[354]? = some (Cond.code (yM 65) (bM 65) (lM 65) (rM 65)) := rfl
set_option maxRecDepth 100000 in
theorem mw_66 : tables_1[327]? = some (Cond.code (yM 66) (bM 66) (lM 66) (rM 66)) := rfl
set_option maxRecDepth 100000 in
theorem mw_67 : tables_1[335]? = some (Cond.code (yM 67) (bM 67) (lM 67) (rM 67)) := rfl
set_option maxRecDepth 100000 in
theorem mw_68 : tables_1[382]? = some (Cond.code (yM 68) (bM 68) (lM 68) (rM 68)) := rfl
set_option maxRecDepth 100000 in
theorem mw_69 : tables_1[292]? = some (Cond.code (yM 69) (bM 69) (lM 69) (rM 69)) := rfl
set_option maxRecDepth 100000 in
theorem mw_70 : tables_1[464]? = some (Cond.code (yM 70) (bM 70) (lM 70) (rM 70)) := rfl
set_option maxRecDepth 100000 in
theorem mw_71 : tables_1[296]? = some (Cond.code (yM 71) (bM 71) (lM 71) (rM 71)) := rfl
set_option maxRecDepth 100000 in
theorem mw_72 : tables_1[390]? = some (Cond.code (yM 72) (bM 72) (lM 72) (rM 72)) := rfl
set_option maxRecDepth 100000 in
theorem mw_73 : tables_1[284]? = some (Cond.code (yM 73) (bM 73) (lM 73) (rM 73)) := rfl
set_option maxRecDepth 100000 in
theorem mw_74 : tables_1[300]? = some (Cond.code (yM 74) (bM 74) (lM 74) (rM 74)) := rfl
set_option maxRecDepth 100000 in
theorem mw_75 : tables_1[311]? = some (Cond.code (yM 75) (bM 75) (lM 75) (rM 75)) := rfl
set_option maxRecDepth 100000 in
theorem mw_76 : tables_1[319]? = some (Cond.code (yM 76) (bM 76) (lM 76) (rM 76)) := rfl
set_option maxRecDepth 100000 in
theorem mw_77 : tables_1[358]? = some (Cond.code (yM 77) (bM 77) (lM 77) (rM 77)) := rfl
set_option maxRecDepth 100000 in
theorem mw_78 : tables_1[386]? = some (Cond.code (yM 78) (bM 78) (lM 78) (rM 78)) := rfl
set_option maxRecDepth 100000 in
theorem mw_79 : tables_1[36]? = some (Cond.code (yM 79) (bM 79) (lM 79) (rM 79)) := rfl
set_option maxRecDepth 100000 in
theorem mw_80 : tables_1[193]? = some (Cond.code (yM 80) (bM 80) (lM 80) (rM 80)) := rfl
set_option maxRecDepth 100000 in
theorem mw_81 : tables_1[521]? = some (Cond.code (yM 81) (bM 81) (lM 81) (rM 81)) := rfl
set_option maxRecDepth 100000 in
theorem mw_82 : tables_1[573]? = some (Cond.code (yM 82) (bM 82) (lM 82) (rM 82)) := rfl
set_option maxRecDepth 100000 in
theorem mw_83 : tables_1[582]? = some (Cond.code (yM 83) (bM 83) (lM 83) (rM 83)) := rfl
set_option maxRecDepth 100000 in
theorem mw_84 : tables_1[752]? = some (Cond.code (yM 84) (bM 84) (lM 84) (rM 84)) := rfl
set_option maxRecDepth 100000 in
theorem mw_85 : tables_1[534]? = some (Cond.code (yM 85) (bM 85) (lM 85) (rM 85)) := rfl
set_option maxRecDepth 100000 in
theorem mw_86 : tables_1[586]? = some (Cond.code (yM 86) (bM 86) (lM 86) (rM 86)) := rfl
set_option maxRecDepth 100000 in
theorem mw_87 : tables_1[595]? = some (Cond.code (yM 87) (bM 87) (lM 87) (rM 87)) := rfl
set_option maxRecDepth 100000 in
theorem mw_88 : tables_1[603]? = some (Cond.code (yM 88) (bM 88) (lM 88) (rM 88)) := rfl
set_option maxRecDepth 100000 in
theorem mw_89 : tables_1[23]? = some (Cond.code (yM 89) (bM 89) (lM 89) (rM 89)) := rfl
set_option maxRecDepth 100000 in
theorem mw_90 : tables_1[277]? = some (Cond.code (yM 90) (bM 90) (lM 90) (rM 90)) := rfl
set_option maxRecDepth 100000 in
theorem mw_91 : tables_1[288]? = some (Cond.code (yM 91) (bM 91) (lM 91) (rM 91)) := rfl
set_option maxRecDepth 100000 in
theorem mw_92 : tables_1[307]? = some (Cond.code (yM 92) (bM 92) (lM 92) (rM 92)) := rfl
set_option maxRecDepth 100000 in
theorem mw_93 : tables_1[315]? = some (Cond.code (yM 93) (bM 93) (lM 93) (rM 93)) := rfl
set_option maxRecDepth 100000 in
theorem mw_94 : tables_1[323]? = some (Cond.code (yM 94) (bM 94) (lM 94) (rM 94)) := rfl
set_option maxRecDepth 100000 in
theorem mw_95 : tables_1[331]? = some (Cond.code (yM 95) (bM 95) (lM 95) (rM 95)) := rfl
set_option maxRecDepth 100000 in
theorem mw_96 : tables_1[339]? = some (Cond.code (yM 96) (bM 96) (lM 96) (rM 96)) := rfl
set_option maxRecDepth 100000 in
theorem mw_97 : tables_1[483]? = some (Cond.code (yM 97) (bM 97) (lM 97) (rM 97)) := rfl
set_option maxRecDepth 100000 in
theorem mw_98 : tables_1[491]? = some (Cond.code (yM 98) (bM 98) (lM 98) (rM 98)) := rfl
set_option maxRecDepth 100000 in
theorem mw_99 : tables_1[503]? = some (Cond.code (yM 99) (bM 99) (lM 99) (rM 99)) := rfl
set_option maxRecDepth 100000 in
theorem mw_100 : tables_1[508]? = some (Cond.code (yM 100) (bM 100) (lM 100) (rM 100)) := rfl
set_option maxRecDepth 100000 in
theorem mw_101 : tables_1[495]? = some (Cond.code (yM 101) (bM 101) (lM 101) (rM 101)) := rfl
set_option maxRecDepth 100000 in
theorem mw_102 : tables_1[513]? = some (Cond.code (yM 102) (bM 102) (lM 102) (rM 102)) := rfl
set_option maxRecDepth 100000 in
theorem mw_103 : tables_1[517]? = some (Cond.code (yM 103) (bM 103) (lM 103) (rM 103)) := rfl
set_option maxRecDepth 100000 in
theorem mw_104 : tables_1[569]? = some (Cond.code (yM 104) (bM 104) (lM 104) (rM 104)) := rfl
set_option maxRecDepth 100000 in
theorem mw_105 : tables_1[578]? = some (Cond.code (yM 105) (bM 105) (lM 105) (rM 105)) := rfl
set_option maxRecDepth 100000 in
theorem mw_106 : tables_1[748]? = some (Cond.code (yM 106) (bM 106) (lM 106) (rM 106)) := rfl
set_option maxRecDepth 100000 in
theorem mw_107 : tables_1[760]? = some (Cond.code (yM 107) (bM 107) (lM 107) (rM 107)) := rfl
set_option maxRecDepth 100000 in
theorem mw_108 : tables_1[768]? = some (Cond.code (yM 108) (bM 108) (lM 108) (rM 108)) := rfl
set_option maxRecDepth 100000 in
theorem mw_109 : tables_1[785]? = some (Cond.code (yM 109) (bM 109) (lM 109) (rM 109)) := rfl
set_option maxRecDepth 100000 in
theorem mw_110 : tables_1[280]? = some (Cond.code (yM 110) (bM 110) (lM 110) (rM 110)) := rfl
set_option maxRecDepth 100000 in
theorem mw_111 : tables_1[553]? = some (Cond.code (yM 111) (bM 111) (lM 111) (rM 111)) := rfl
set_option maxRecDepth 100000 in
theorem mw_112 : tables_1[343]? = some (Cond.code (yM 112) (bM 112) (lM 112) (rM 112)) := rfl
set_option maxRecDepth 100000 in
theorem mw_113 : tables_1[487]? = some (Cond.code (yM 113) (bM 113) (lM 113) (rM 113)) := rfl
set_option maxRecDepth 100000 in
theorem mw_114 : tables_1[362]? = some (Cond.code (yM 114) (bM 114) (lM 114) (rM 114)) := rfl
set_option maxRecDepth 100000 in
theorem mw_115 : tables_1[403]? = some (Cond.code (yM 115) (bM 115) (lM 115) (rM 115)) := rfl
set_option maxRecDepth 100000 in
theorem mw_116 : tables_1[411]? = some (Cond.code (yM 116) (bM 116) (lM 116) (rM 116)) := rfl
set_option maxRecDepth 100000 in
theorem mw_117 : tables_1[777]? = some (Cond.code (yM 117) (bM 117) (lM 117) (rM 117)) := rfl
set_option maxRecDepth 100000 in
theorem mw_118 : tables_1[797]? = some (Cond.code (yM 118) (bM 118) (lM 118) (rM 118)) := rfl
set_option maxRecDepth 100000 in
theorem mw_119 : tables_1[889]? = some (Cond.code (yM 119) (bM 119) (lM 119) (rM 119)) := rfl
set_option maxRecDepth 100000 in
theorem mw_120 : tables_1[909]? = some (Cond.code (yM 120) (bM 120) (lM 120) (rM 120)) := rfl
set_option maxRecDepth 100000 in
theorem mw_121 : tables_1[917]? = some (Cond.code (yM 121) (bM 121) (lM 121) (rM 121)) := rfl
set_option maxRecDepth 100000 in
theorem mw_122 : tables_1[921]? = some (Cond.code (yM 122) (bM 122) (lM 122) (rM 122)) := rfl
set_option maxRecDepth 100000 in
theorem mw_123 : tables_1[913]? = some (Cond.code (yM 123) (bM 123) (lM 123) (rM 123)) := rfl
set_option maxRecDepth 100000 in
theorem mw_124 : tables_1[941]? = some (Cond.code (yM 124) (bM 124) (lM 124) (rM 124)) := rfl
set_option maxRecDepth 100000 in
theorem mw_125 : tables_1[905]? = some (Cond.code (yM 125) (bM 125) (lM 125) (rM 125)) := rfl
set_option maxRecDepth 100000 in
theorem mw_126 : tables_1[925]? = some (Cond.code (yM 126) (bM 126) (lM 126) (rM 126)) := rfl
set_option maxRecDepth 100000 in
theorem mw_127 : tables_1[873]? = some (Cond.code (yM 127) (bM 127) (lM 127) (rM 127)) := rfl
set_option maxRecDepth 100000 in
theorem mw_128 : tables_1[877]? = some (Cond.code (yM 128) (bM 128) (lM 128) (rM 128)) := rfl
set_option maxRecDepth 100000 in
theorem mw_129 : tables_1[893]? = some (Cond.code (yM 129) (bM 129) (lM 129) (rM 129)) := rfl
set_option maxRecDepth 100000 in
theorem mw_130 : tables_1[953]? = some (Cond.code (yM 130) (bM 130) (lM 130) (rM 130)) := rfl
set_option maxRecDepth 100000 in
theorem mw_131 : tables_1[901]? = some (Cond.code (yM 131) (bM 131) (lM 131) (rM 131)) := rfl
set_option maxRecDepth 100000 in
theorem mw_132 : tables_1[897]? = some (Cond.code (yM 132) (bM 132) (lM 132) (rM 132)) := rfl
set_option maxRecDepth 100000 in
theorem mw_133 : tables_1[961]? = some (Cond.code (yM 133) (bM 133) (lM 133) (rM 133)) := rfl
set_option maxRecDepth 100000 in
theorem mw_134 : tables_1[885]? = some (Cond.code (yM 134) (bM 134) (lM 134) (rM 134)) := rfl
set_option maxRecDepth 100000 in
theorem mw_135 : tables_1[881]? = some (Cond.code (yM 135) (bM 135) (lM 135) (rM 135)) := rfl
set_option maxRecDepth 100000 in
theorem mw_136 : tables_1[929]? = some (Cond.code (yM 136) (bM 136) (lM 136) (rM 136)) := rfl
set_option maxRecDepth 100000 in
theorem mw_137 : tables_1[870]? = some (Cond.code (yM 137) (bM 137) (lM 137) (rM 137)) := rfl
set_option maxRecDepth 100000 in
theorem mw_138 : tables_1[933]? = some (Cond.code (yM 138) (bM 138) (lM 138) (rM 138)) := rfl
set_option maxRecDepth 100000 in
theorem mw_139 : tables_1[937]? = some (Cond.code (yM 139) (bM 139) (lM 139) (rM 139)) := rfl
set_option maxRecDepth 100000 in
theorem mw_140 : tables_1[945]? = some (Cond.code (yM 140) (bM 140) (lM 140) (rM 140)) := rfl
set_option maxRecDepth 100000 in
theorem mw_141 : tables_1[949]? = some (Cond.code (yM 141) (bM 141) (lM 141) (rM 141)) := rfl
set_option maxRecDepth 100000 in
theorem mw_142 : tables_1[957]? = some (Cond.code (yM 142) (bM 142) (lM 142) (rM 142)) := rfl
set_option maxRecDepth 100000 in
theorem mw_143 : tables_1[965]? = some (Cond.code (yM 143) (bM 143) (lM 143) (rM 143)) := rfl
set_option maxRecDepth 100000 in
theorem mw_144 : tables_1[969]? = some (Cond.code (yM 144) (bM 144) (lM 144) (rM 144)) := rfl
set_option maxRecDepth 100000 in
theorem mw_145 : tables_1[973]? = some (Cond.code (yM 145) (bM 145) (lM 145) (rM 145)) := rfl
set_option maxRecDepth 100000 in
theorem mw_146 : tables_1[981]? = some (Cond.code (yM 146) (bM 146) (lM 146) (rM 146)) := rfl
set_option maxRecDepth 100000 in
theorem mw_147 : tables_1[977]? = some (Cond.code (yM 147) (bM 147) (lM 147) (rM 147)) := rfl
set_option maxRecDepth 100000 in
theorem mw_148 : tables_1[985]? = some (Cond.code (yM 148) (bM 148) (lM 148) (rM 148)) := rfl
set_option maxRecDepth 100000 in
theorem mw_149 : tables_1[989]? = some (Cond.code (yM 149) (bM 149) (lM 149) (rM 149)) := rfl
set_option maxRecDepth 100000 in
theorem mw_150 : tables_1[993]? = some (Cond.code (yM 150) (bM 150) (lM 150) (rM 150)) := rfl
set_option maxRecDepth 100000 in
theorem mw_151 : tables_1[997]? = some (Cond.code (yM 151) (bM 151) (lM 151) (rM 151)) := rfl
set_option maxRecDepth 100000 in
theorem mw_152 : tables_1[1001]? = some (Cond.code (yM 152) (bM 152) (lM 152) (rM 152)) := rfl
set_option maxRecDepth 100000 in
theorem mw_153 : tables_1[1013]? = some (Cond.code (yM 153) (bM 153) (lM 153) (rM 153)) := rfl
set_option maxRecDepth 100000 in
theorem mw_154 : tables_1[1021]? = some (Cond.code (yM 154) (bM 154) (lM 154) (rM 154)) := rfl
set_option maxRecDepth 100000 in
theorem mw_155 : tables_1[1017]? = some (Cond.code (yM 155) (bM 155) (lM 155) (rM 155)) := rfl
set_option maxRecDepth 100000 in
theorem mw_156 : tables_1[1025]? = some (Cond.code (yM 156) (bM 156) (lM 156) (rM 156)) := rfl
set_option maxRecDepth 100000 in
theorem mw_157 : tables_1[1009]? = some (Cond.code (yM 157) (bM 157) (lM 157) (rM 157)) := rfl
set_option maxRecDepth 100000 in
theorem mw_158 : tables_1[1005]? = some (Cond.code (yM 158) (bM 158) (lM 158) (rM 158)) := rfl
set_option maxRecDepth 100000 in
theorem mw_159 : tables_1[1029]? = some (Cond.code (yM 159) (bM 159) (lM 159) (rM 159)) := rfl
set_option maxRecDepth 100000 in
theorem mw_160 : tables_1[1057]? = some (Cond.code (yM 160) (bM 160) (lM 160) (rM 160)) := rfl
set_option maxRecDepth 100000 in
theorem mw_161 : tables_1[1053]? = some (Cond.code (yM 161) (bM 161) (lM 161) (rM 161)) := rfl
set_option maxRecDepth 100000 in
theorem mw_162 : tables_1[1065]? = some (Cond.code (yM 162) (bM 162) (lM 162) (rM 162)) := rfl
set_option maxRecDepth 100000 in
theorem mw_163 : tables_1[1061]? = some (Cond.code (yM 163) (bM 163) (lM 163) (rM 163)) := rfl
set_option maxRecDepth 100000 in
theorem mw_164 : tables_1[1049]? = some (Cond.code (yM 164) (bM 164) (lM 164) (rM 164)) := rfl
set_option maxRecDepth 100000 in
theorem mw_165 : tables_1[1045]? = some (Cond.code (yM 165) (bM 165) (lM 165) (rM 165)) := rfl
set_option maxRecDepth 100000 in
theorem mw_166 : tables_1[1041]? = some (Cond.code (yM 166) (bM 166) (lM 166) (rM 166)) := rfl
set_option maxRecDepth 100000 in
theorem mw_167 : tables_1[1037]? = some (Cond.code (yM 167) (bM 167) (lM 167) (rM 167)) := rfl
set_option maxRecDepth 100000 in
theorem mw_168 : tables_1[1033]? = some (Cond.code (yM 168) (bM 168) (lM 168) (rM 168)) := rfl
set_option maxRecDepth 100000 in
theorem mw_169 : tables_1[1069]? = some (Cond.code (yM 169) (bM 169) (lM 169) (rM 169)) := rfl
set_option maxRecDepth 100000 in
theorem mw_170 : tables_1[1073]? = some (Cond.code (yM 170) (bM 170) (lM 170) (rM 170)) := rfl
set_option maxRecDepth 100000 in
theorem mw_171 : tables_1[1077]? = some (Cond.code (yM 171) (bM 171) (lM 171) (rM 171)) := rfl
set_option maxRecDepth 100000 in
theorem mw_172 : tables_1[1081]? = some (Cond.code (yM 172) (bM 172) (lM 172) (rM 172)) := rfl
set_option maxRecDepth 100000 in
theorem mw_173 : tables_1[792]? = some (Cond.code (yM 173) (bM 173) (lM 173) (rM 173)) := rfl
def cpos (m : Nat) : Nat := (sm_nth ([126, 789, 347, 781, 764, 407, 772, 199, 527, 615, 557, 565, 628, 542, 726, 624, 538, 550, 607, 611, 561, 546, 58, 374, 370, 378, 395, 398, 71, 479, 423, 427, 442, 451, 455, 459, 178, 351, 366, 419, 499, 415, 154, 212, 591, 743, 756, 599, 620, 633, 692, 730, 737, 700, 709, 718, 638, 696, 77, 432, 438, 474, 470, 446, 31, 354, 327, 335, 382, 292, 464, 296, 390, 284, 300, 311, 319, 358, 386, 36, 193, 521, 573, 582, 752, 534, 586, 595, 603, 23, 277, 288, 307, 315, 323, 331, 339, 483, 491, 503, 508, 495, 513, 517, 569, 578, 748, 760, 768, 785, 280, 553, 343, 487, 362, 403, 411, 777, 797, 889, 909, 917, 921, 913, 941, 905, 925, 873, 877, 893, 953, 901, 897, 961, 885, 881, 929, 870, 933, 937, 945, 949, 957, 965, 969, 973, 981, 977, 985, 989, 993, 997, 1001, 1013, 1021, 1017, 1025, 1009, 1005, 1029, 1057, 1053, 1065, 1061, 1049, 1045, 1041, 1037, 1033, 1069, 1073, 1077, 1081, 792] : List Nat) m).getD 0
set_option maxRecDepth 100000 in
theorem MW_all : AllQ (fun m => tables_1[cpos m]? = some (Cond.code (yM m) (bM m) (lM m) (rM m))) 0 174 := ⟨mw_0, mw_1, mw_2, mw_3, mw_4, mw_5, mw_6, mw_7, mw_8, mw_9, mw_10, mw_11, mw_12, mw_13, mw_14, mw_15, mw_16, mw_17, mw_18, mw_19, mw_20, mw_21, mw_22, mw_23, mw_24, mw_25, mw_26, mw_27, mw_28, mw_29, mw_30, mw_31, mw_32, mw_33, mw_34, mw_35, mw_36, mw_37, mw_38, mw_39, mw_40, mw_41, mw_42, mw_43, mw_44, mw_45, mw_46, mw_47, mw_48, mw_49, mw_50, mw_51, mw_52, mw_53, mw_54, mw_55, mw_56, mw_57, mw_58, mw_59, mw_60, mw_61, mw_62, mw_63, mw_64, mw_65, mw_66, mw_67, mw_68, mw_69, mw_70, mw_71, mw_72, mw_73, mw_74, mw_75, mw_76, mw_77, mw_78, mw_79, mw_80, mw_81, mw_82, mw_83, mw_84, mw_85, mw_86, mw_87, mw_88, mw_89, mw_90, mw_91, mw_92, mw_93, mw_94, mw_95, mw_96, mw_97, mw_98, mw_99, mw_100, mw_101, mw_102, mw_103, mw_104, mw_105, mw_106, mw_107, mw_108, mw_109, mw_110, mw_111, mw_112, mw_113, mw_114, mw_115, mw_116, mw_117, mw_118, mw_119, mw_120, mw_121, mw_122, mw_123, mw_124, mw_125, mw_126, mw_127, mw_128, mw_129, mw_130, mw_131, mw_132, mw_133, mw_134, mw_135, mw_136, mw_137, mw_138, mw_139, mw_140, mw_141, mw_142, mw_143, mw_144, mw_145, mw_146, mw_147, mw_148, mw_149, mw_150, mw_151, mw_152, mw_153, mw_154, mw_155, mw_156, mw_157, mw_158, mw_159, mw_160, mw_161, mw_162, mw_163, mw_164, mw_165, mw_166, mw_167, mw_168, mw_169, mw_170, mw_171, mw_172, mw_173, trivial⟩
theorem MW_ok (m : Nat) (h : m < nM) : Cond.code (yM m) (bM m) (lM m) (rM m) ∈ lw_tbl := by
  have := AllQ.at nM 0 m MW_all h
  rw [Nat.zero_add] at this
  exact List.mem_append_right _ (List.mem_of_getElem? this)
theorem MI_chk : ((List.range nM).zip MIP).all miB = true := by decide +kernel
set_option maxRecDepth 100000 in
theorem MI_ok (mm : Nat) (h : mm < nM) : miW mm := by
  obtain ⟨p, hp⟩ := zip_all MI_chk (Nat.le_of_ble_eq_true rfl) mm (List.mem_range.mpr h)
  simp only [miB, Bool.and_eq_true, Bool.or_eq_true, Bool.not_eq_true', decide_eq_true_eq, decide_eq_false_iff_not, List.any_eq_true] at hp
  obtain ⟨⟨⟨⟨⟨⟨⟨a2, a3⟩, a4⟩, a5⟩, a6⟩, a7⟩, a8⟩, a9⟩ := hp
  refine ⟨MW_ok mm h, wB_mem a2, a3, a4, a5, a6, a7, a8, ?_⟩
  rcases a9 with ⟨⟨⟨b1, b2⟩, b3⟩, b4⟩ | ⟨⟨⟨⟨⟨⟨b1, b2⟩, b3⟩, b4⟩, b5⟩, b6⟩, b7⟩
  · exact Or.inl ⟨b1, b2, wB_mem b3, b4⟩
  · refine Or.inr ⟨b1, b2, b3, wB_mem b4, b5, fun h0 => ?_, fun h2 => ?_⟩
    · rcases b6 with (h1 | h1) | ⟨z, hz, hz2⟩
      · exact absurd h0 h1
      · exact wB_mem h1
      · rw [← hz2]
        exact List.mem_append_left _ (List.mem_map.mpr ⟨z, hz, rfl⟩)
    · rcases b7 with h1 | h1
      · exact absurd h2 h1
      · exact h1
theorem mI_ok (mm : Nat) (h : mm < nM) (hi : mI mm = true) : (yM mm).name = "<init>" := by
  obtain ⟨-, -, -, -, -, -, -, -, h9⟩ := MI_ok mm h
  have hk : mK mm = 2 := of_decide_eq_true hi
  rcases h9 with ⟨h1, -⟩ | ⟨-, -, -, -, -, -, h1⟩
  · omega
  · exact (h1 hk).1
set_option maxRecDepth 100000 in
theorem mR_chk : ∀ mm, mm < nM → ((mR mm < 4 → (rM mm).map tcode = some (mR mm)) ∧ (mR mm = 4 → rM mm = none)) := by decide +kernel
theorem mR_int (mm : Nat) (h : mm < nM) (h3 : mR mm < 3) : ∃ ty, rM mm = some ty ∧ tcode ty = mR mm := by
  have h1 := (mR_chk mm h).1 (by omega)
  cases hr : rM mm with
  | none => rw [hr] at h1; cases h1
  | some ty => rw [hr] at h1; exact ⟨ty, rfl, Option.some.inj h1⟩
theorem mR_ref (mm : Nat) (h : mm < nM) (h3 : mR mm = 3) : ∃ ty, rM mm = some ty ∧ ((∃ n, ty = .object n) ∨ ∃ t, ty = .array t) := by
  have h1 := (mR_chk mm h).1 (by omega)
  cases hr : rM mm with
  | none => rw [hr] at h1; cases h1
  | some ty =>
    rw [hr] at h1
    have h2 := Option.some.inj h1
    rw [h3] at h2
    refine ⟨ty, rfl, ?_⟩
    cases ty <;> simp only [tcode] at h2 <;> first
      | omega
      | exact Or.inl ⟨_, rfl⟩
      | exact Or.inr ⟨_, rfl⟩
theorem mR_none (mm : Nat) (h : mm < nM) (h3 : mR mm = 4) : rM mm = none := (mR_chk mm h).2 h3
