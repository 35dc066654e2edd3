section
set_option maxRecDepth 100000 in
theorem cb_0 : wdw ((mhw 0).getD 0 (99, 99)) = some (.code (ymw 0) (bmw 0) (mlw 0) (rtw 0)) := rfl
set_option maxRecDepth 100000 in
theorem cb_1 : wdw ((mhw 1).getD 0 (99, 99)) = some (.code (ymw 1) (bmw 1) (mlw 1) (rtw 1)) := rfl
set_option maxRecDepth 100000 in
theorem cb_2 : wdw ((mhw 2).getD 0 (99, 99)) = some (.code (ymw 2) (bmw 2) (mlw 2) (rtw 2)) := rfl
set_option maxRecDepth 100000 in
theorem cb_3 : wdw ((mhw 3).getD 0 (99, 99)) = some (.code (ymw 3) (bmw 3) (mlw 3) (rtw 3)) := rfl
set_option maxRecDepth 100000 in
theorem cb_4 : wdw ((mhw 4).getD 0 (99, 99)) = some (.code (ymw 4) (bmw 4) (mlw 4) (rtw 4)) := rfl
set_option maxRecDepth 100000 in
theorem cb_5 : wdw ((mhw 5).getD 0 (99, 99)) = some (.code (ymw 5) (bmw 5) (mlw 5) (rtw 5)) := rfl
set_option maxRecDepth 100000 in
theorem cb_6 : wdw ((mhw 6).getD 0 (99, 99)) = some (.code (ymw 6) (bmw 6) (mlw 6) (rtw 6)) := rfl
set_option maxRecDepth 100000 in
theorem cb_7 : wdw ((mhw 7).getD 0 (99, 99)) = some (.code (ymw 7) (bmw 7) (mlw 7) (rtw 7)) := rfl
set_option maxRecDepth 100000 in
theorem cb_8 : wdw ((mhw 8).getD 0 (99, 99)) = some (.code (ymw 8) (bmw 8) (mlw 8) (rtw 8)) := rfl
set_option maxRecDepth 100000 in
theorem cb_9 : wdw ((mhw 9).getD 0 (99, 99)) = some (.code (ymw 9) (bmw 9) (mlw 9) (rtw 9)) := rfl
set_option maxRecDepth 100000 in
theorem cb_10 : wdw ((mhw 10).getD 0 (99, 99)) = some (.code (ymw 10) (bmw 10) (mlw 10) (rtw 10)) := rfl
set_option maxRecDepth 100000 in
theorem cb_11 : wdw ((mhw 11).getD 0 (99, 99)) = some (.code (ymw 11) (bmw 11) (mlw 11) (rtw 11)) := rfl
set_option maxRecDepth 100000 in
theorem cb_12 : wdw ((mhw 12).getD 0 (99, 99)) = some (.code (ymw 12) (bmw 12) (mlw 12) (rtw 12)) := rfl
set_option maxRecDepth 100000 in
theorem cb_13 : wdw ((mhw 13).getD 0 (99, 99)) = some (.code (ymw 13) (bmw 13) (mlw 13) (rtw 13)) := rfl
set_option maxRecDepth 100000 in
theorem cb_14 : wdw ((mhw 14).getD 0 (99, 99)) = some (.code (ymw 14) (bmw 14) (mlw 14) (rtw 14)) := rfl
set_option maxRecDepth 100000 in
theorem cb_15 : wdw ((mhw 15).getD 0 (99, 99)) = some (.code (ymw 15) (bmw 15) (mlw 15) (rtw 15)) := rfl
set_option maxRecDepth 100000 in
theorem cb_16 : wdw ((mhw 16).getD 0 (99, 99)) = some (.code (ymw 16) (bmw 16) (mlw 16) (rtw 16)) := rfl
set_option maxRecDepth 100000 in
theorem cb_17 : wdw ((mhw 17).getD 0 (99, 99)) = some (.code (ymw 17) (bmw 17) (mlw 17) (rtw 17)) := rfl
set_option maxRecDepth 100000 in
theorem cb_18 : wdw ((mhw 18).getD 0 (99, 99)) = some (.code (ymw 18) (bmw 18) (mlw 18) (rtw 18)) := rfl
set_option maxRecDepth 100000 in
theorem cb_19 : wdw ((mhw 19).getD 0 (99, 99)) = some (.code (ymw 19) (bmw 19) (mlw 19) (rtw 19)) := rfl
set_option maxRecDepth 100000 in
theorem cb_20 : wdw ((mhw 20).getD 0 (99, 99)) = some (.code (ymw 20) (bmw 20) (mlw 20) (rtw 20)) := rfl
set_option maxRecDepth 100000 in
theorem cb_21 : wdw ((mhw 21).getD 0 (99, 99)) = some (.code (ymw 21) (bmw 21) (mlw 21) (rtw 21)) := rfl
set_option maxRecDepth 100000 in
theorem cb_22 : wdw ((mhw 22).getD 0 (99, 99)) = some (.code (ymw 22) (bmw 22) (mlw 22) (rtw 22)) := rfl
set_option maxRecDepth 100000 in
theorem cb_23 : wdw ((mhw 23).getD 0 (99, 99)) = some (.code (ymw 23) (bmw 23) (mlw 23) (rtw 23)) := rfl
set_option maxRecDepth 100000 in
theorem cb_24 : wdw ((mhw 24).getD 0 (99, 99)) = some (.code (ymw 24) (bmw 24) (mlw 24) (rtw 24)) := rfl
set_option maxRecDepth 100000 in
theorem cb_25 : wdw ((mhw 25).getD 0 (99, 99)) = some (.code (ymw 25) (bmw 25) (mlw 25) (rtw 25)) := rfl
set_option maxRecDepth 100000 in
theorem cb_26 : wdw ((mhw 26).getD 0 (99, 99)) = some (.code (ymw 26) (bmw 26) (mlw 26) (rtw 26)) := rfl
set_option maxRecDepth 100000 in
theorem cb_27 : wdw ((mhw 27).getD 0 (99, 99)) = some (.code (ymw 27) (bmw 27) (mlw 27) (rtw 27)) := rfl
set_option maxRecDepth 100000 in
theorem cb_28 : wdw ((mhw 28).getD 0 (99, 99)) = some (.code (ymw 28) (bmw 28) (mlw 28) (rtw 28)) := rfl
set_option maxRecDepth 100000 in
theorem cb_29 : wdw ((mhw 29).getD 0 (99, 99)) = some (.code (ymw 29) (bmw 29) (mlw 29) (rtw 29)) := rfl
set_option maxRecDepth 100000 in
theorem cb_30 : wdw ((mhw 30).getD 0 (99, 99)) = some (.code (ymw 30) (bmw 30) (mlw 30) (rtw 30)) := rfl
set_option maxRecDepth 100000 in
theorem cb_31 : wdw ((mhw 31).getD 0 (99, 99)) = some (.code (ymw 31) (bmw 31) (mlw 31) (rtw 31)) := rfl
set_option maxRecDepth 100000 in
theorem cb_32 : wdw ((mhw 32).getD 0 (99, 99)) = some (.code (ymw 32) (bmw 32) (mlw 32) (rtw 32)) := rfl
set_option maxRecDepth 100000 in
theorem cb_33 : wdw ((mhw 33).getD 0 (99, 99)) = some (.code (ymw 33) (bmw 33) (mlw 33) (rtw 33)) := rfl
set_option maxRecDepth 100000 in
theorem cb_34 : wdw ((mhw 34).getD 0 (99, 99)) = some (.code (ymw 34) (bmw 34) (mlw 34) (rtw 34)) := rfl
set_option maxRecDepth 100000 in
theorem cb_35 : wdw ((mhw 35).getD 0 (99, 99)) = some (.code (ymw 35) (bmw 35) (mlw 35) (rtw 35)) := rfl
set_option maxRecDepth 100000 in
theorem cb_36 : wdw ((mhw 36).getD 0 (99, 99)) = some (.code (ymw 36) (bmw 36) (mlw 36) (rtw 36)) := rfl
set_option maxRecDepth 100000 in
theorem cb_37 : wdw ((mhw 37).getD 0 (99, 99)) = some (.code (ymw 37) (bmw 37) (mlw 37) (rtw 37)) := rfl
set_option maxRecDepth 100000 in
theorem cb_38 : wdw ((mhw 38).getD 0 (99, 99)) = some (.code (ymw 38) (bmw 38) (mlw 38) (rtw 38)) := rfl
set_option maxRecDepth 100000 in
theorem cb_39 : wdw ((mhw 39).getD 0 (99, 99)) = some (.code (ymw 39) (bmw 39) (mlw 39) (rtw 39)) := rfl
set_option maxRecDepth 100000 in
theorem cb_40 : wdw ((mhw 40).getD 0 (99, 99)) = some (.code (ymw 40) (bmw 40) (mlw 40) (rtw 40)) := rfl
set_option maxRecDepth 100000 in
theorem cb_41 : wdw ((mhw 41).getD 0 (99, 99)) = some (.code (ymw 41) (bmw 41) (mlw 41) (rtw 41)) := rfl
set_option maxRecDepth 100000 in
theorem cb_42 : wdw ((mhw 42).getD 0 (99, 99)) = some (.code (ymw 42) (bmw 42) (mlw 42) (rtw 42)) := rfl
set_option maxRecDepth 100000 in
theorem cb_43 : wdw ((mhw 43).getD 0 (99, 99)) = some (.code (ymw 43) (bmw 43) (mlw 43) (rtw 43)) := rfl
set_option maxRecDepth 100000 in
theorem cb_44 : wdw ((mhw 44).getD 0 (99, 99)) = some (.code (ymw 44) (bmw 44) (mlw 44) (rtw 44)) := rfl
set_option maxRecDepth 100000 in
theorem cb_45 : wdw ((mhw 45).getD 0 (99, 99)) = some (.code (ymw 45) (bmw 45) (mlw 45) (rtw 45)) := rfl
set_option maxRecDepth 100000 in
theorem cb_46 : wdw ((mhw 46).getD 0 (99, 99)) = some (.code (ymw 46) (bmw 46) (mlw 46) (rtw 46)) := rfl
set_option maxRecDepth 100000 in
theorem cb_47 : wdw ((mhw 47).getD 0 (99, 99)) = some (.code (ymw 47) (bmw 47) (mlw 47) (rtw 47)) := rfl
set_option maxRecDepth 100000 in
theorem cb_48 : wdw ((mhw 48).getD 0 (99, 99)) = some (.code (ymw 48) (bmw 48) (mlw 48) (rtw 48)) := rfl
set_option maxRecDepth 100000 in
theorem cb_49 : wdw ((mhw 49).getD 0 (99, 99)) = some (.code (ymw 49) (bmw 49) (mlw 49) (rtw 49)) := rfl
set_option maxRecDepth 100000 in
theorem cb_50 : wdw ((mhw 50).getD 0 (99, 99)) = some (.code (ymw 50) (bmw 50) (mlw 50) (rtw 50)) := rfl
set_option maxRecDepth 100000 in
theorem cb_51 : wdw ((mhw 51).getD 0 (99, 99)) = some (.code (ymw 51) (bmw 51) (mlw 51) (rtw 51)) := rfl
set_option maxRecDepth 100000 in
theorem cb_52 : wdw ((mhw 52).getD 0 (99, 99)) = some (.code (ymw 52) (bmw 52) (mlw 52) (rtw 52)) := rfl
set_option maxRecDepth 100000 in
theorem cb_53 : wdw ((mhw 53).getD 0 (99, 99)) = some (.code (ymw 53) (bmw 53) (mlw 53) (rtw 53)) := rfl
set_option maxRecDepth 100000 in
theorem cb_54 : wdw ((mhw 54).getD 0 (99, 99)) = some (.code (ymw 54) (bmw 54) (mlw 54) (rtw 54)) := rfl
set_option maxRecDepth 100000 in
theorem cb_55 : wdw ((mhw 55).getD 0 (99, 99)) = some (.code (ymw 55) (bmw 55) (mlw 55) (rtw 55)) := rfl
set_option maxRecDepth 100000 in
theorem cb_56 : wdw ((mhw 56).getD 0 (99, 99)) = some (.code (ymw 56) (bmw 56) (mlw 56) (rtw 56)) := rfl
set_option maxRecDepth 100000 in
theorem cb_57 : wdw ((mhw 57).getD 0 (99, 99)) = some (.code (ymw 57) (bmw 57) (mlw 57) (rtw 57)) := rfl
set_option maxRecDepth 100000 in
theorem cb_58 : wdw ((mhw 58).getD 0 (99, 99)) = some (.code (ymw 58) (bmw 58) (mlw 58) (rtw 58)) := rfl
set_option maxRecDepth 100000 in
theorem cb_59 : wdw ((mhw 59).getD 0 (99, 99)) = some (.code (ymw 59) (bmw 59) (mlw 59) (rtw 59)) := rfl
set_option maxRecDepth 100000 in
theorem cb_60 : wdw ((mhw 60).getD 0 (99, 99)) = some (.code (ymw 60) (bmw 60) (mlw 60) (rtw 60)) := rfl
set_option maxRecDepth 100000 in
theorem cb_61 : wdw ((mhw 61).getD 0 (99, 99)) = some (.code (ymw 61) (bmw 61) (mlw 61) (rtw 61)) := rfl
set_option maxRecDepth 100000 in
theorem cb_62 : wdw ((mhw 62).getD 0 (99, 99)) = some (.code (ymw 62) (bmw 62) (mlw 62) (rtw 62)) := rfl
set_option maxRecDepth 100000 in
theorem cb_63 : wdw ((mhw 63).getD 0 (99, 99)) = some (.code (ymw 63) (bmw 63) (mlw 63) (rtw 63)) := rfl
set_option maxRecDepth 100000 in
theorem cb_64 : wdw ((mhw 64).getD 0 (99, 99)) = some (.code (ymw 64) (bmw 64) (mlw 64) (rtw 64)) := rfl
set_option maxRecDepth 100000 in
theorem cb_65 : wdw ((mhw 65).getD 0 (99, 99)) = some (.code (ymw 65) (bmw 65) (mlw 65) (rtw 65)) := rfl
set_option maxRecDepth 100000 in
theorem cb_66 : wdw ((mhw 66).getD 0 (99, 99)) = some (.code (ymw 66) (bmw 66) (mlw 66) (rtw 66)) := rfl
set_option maxRecDepth 100000 in
theorem cb_67 : wdw ((mhw 67).getD 0 (99, 99)) = some (.code (ymw 67) (bmw 67) (mlw 67) (rtw 67)) := rfl
set_option maxRecDepth 100000 in
theorem cb_68 : wdw ((mhw 68).getD 0 (99, 99)) = some (.code (ymw 68) (bmw 68) (mlw 68) (rtw 68)) := rfl
set_option maxRecDepth 100000 in
theorem cb_69 : wdw ((mhw 69).getD 0 (99, 99)) = some (.code (ymw 69) (bmw 69) (mlw 69) (rtw 69)) := rfl
set_option maxRecDepth 100000 in
theorem cb_70 : wdw ((mhw 70).getD 0 (99, 99)) = some (.code (ymw 70) (bmw 70) (mlw 70) (rtw 70)) := rfl
set_option maxRecDepth 100000 in
theorem cb_71 : wdw ((mhw 71).getD 0 (99, 99)) = some (.code (ymw 71) (bmw 71) (mlw 71) (rtw 71)) := rfl
set_option maxRecDepth 100000 in
theorem cb_72 : wdw ((mhw 72).getD 0 (99, 99)) = some (.code (ymw 72) (bmw 72) (mlw 72) (rtw 72)) := rfl
set_option maxRecDepth 100000 in
theorem cb_73 : wdw ((mhw 73).getD 0 (99, 99)) = some (.code (ymw 73) (bmw 73) (mlw 73) (rtw 73)) := rfl
set_option maxRecDepth 100000 in
theorem cb_74 : wdw ((mhw 74).getD 0 (99, 99)) = some (.code (ymw 74) (bmw 74) (mlw 74) (rtw 74)) := rfl
set_option maxRecDepth 100000 in
theorem cb_75 : wdw ((mhw 75).getD 0 (99, 99)) = some (.code (ymw 75) (bmw 75) (mlw 75) (rtw 75)) := rfl
set_option maxRecDepth 100000 in
theorem cb_76 : wdw ((mhw 76).getD 0 (99, 99)) = some (.code (ymw 76) (bmw 76) (mlw 76) (rtw 76)) := rfl
set_option maxRecDepth 100000 in
theorem cb_77 : wdw ((mhw 77).getD 0 (99, 99)) = some (.code (ymw 77) (bmw 77) (mlw 77) (rtw 77)) := rfl
set_option maxRecDepth 100000 in
theorem cb_78 : wdw ((mhw 78).getD 0 (99, 99)) = some (.code (ymw 78) (bmw 78) (mlw 78) (rtw 78)) := rfl
set_option maxRecDepth 100000 in
theorem cb_79 : wdw ((mhw 79).getD 0 (99, 99)) = some (.code (ymw 79) (bmw 79) (mlw 79) (rtw 79)) := rfl
set_option maxRecDepth 100000 in
theorem cb_80 : wdw ((mhw 80).getD 0 (99, 99)) = some (.code (ymw 80) (bmw 80) (mlw 80) (rtw 80)) := rfl
set_option maxRecDepth 100000 in
theorem cb_81 : wdw ((mhw 81).getD 0 (99, 99)) = some (.code (ymw 81) (bmw 81) (mlw 81) (rtw 81)) := rfl
set_option maxRecDepth 100000 in
theorem cb_82 : wdw ((mhw 82).getD 0 (99, 99)) = some (.code (ymw 82) (bmw 82) (mlw 82) (rtw 82)) := rfl
set_option maxRecDepth 100000 in
theorem cb_83 : wdw ((mhw 83).getD 0 (99, 99)) = some (.code (ymw 83) (bmw 83) (mlw 83) (rtw 83)) := rfl
set_option maxRecDepth 100000 in
theorem cb_84 : wdw ((mhw 84).getD 0 (99, 99)) = some (.code (ymw 84) (bmw 84) (mlw 84) (rtw 84)) := rfl
set_option maxRecDepth 100000 in
theorem cb_85 : wdw ((mhw 85).getD 0 (99, 99)) = some (.code (ymw 85) (bmw 85) (mlw 85) (rtw 85)) := rfl
set_option maxRecDepth 100000 in
theorem cb_86 : wdw ((mhw 86).getD 0 (99, 99)) = some (.code (ymw 86) (bmw 86) (mlw 86) (rtw 86)) := rfl
set_option maxRecDepth 100000 in
theorem cb_87 : wdw ((mhw 87).getD 0 (99, 99)) = some (.code (ymw 87) (bmw 87) (mlw 87) (rtw 87)) := rfl
set_option maxRecDepth 100000 in
theorem cb_88 : wdw ((mhw 88).getD 0 (99, 99)) = some (.code (ymw 88) (bmw 88) (mlw 88) (rtw 88)) := rfl
set_option maxRecDepth 100000 in
theorem cb_89 : wdw ((mhw 89).getD 0 (99, 99)) = some (.code (ymw 89) (bmw 89) (mlw 89) (rtw 89)) := rfl
set_option maxRecDepth 100000 in
theorem cb_90 : wdw ((mhw 90).getD 0 (99, 99)) = some (.code (ymw 90) (bmw 90) (mlw 90) (rtw 90)) := rfl
set_option maxRecDepth 100000 in
theorem cb_91 : wdw ((mhw 91).getD 0 (99, 99)) = some (.code (ymw 91) (bmw 91) (mlw 91) (rtw 91)) := rfl
set_option maxRecDepth 100000 in
theorem cb_92 : wdw ((mhw 92).getD 0 (99, 99)) = some (.code (ymw 92) (bmw 92) (mlw 92) (rtw 92)) := rfl
set_option maxRecDepth 100000 in
theorem cb_93 : wdw ((mhw 93).getD 0 (99, 99)) = some (.code (ymw 93) (bmw 93) (mlw 93) (rtw 93)) := rfl
set_option maxRecDepth 100000 in
theorem cb_94 : wdw ((mhw 94).getD 0 (99, 99)) = some (.code (ymw 94) (bmw 94) (mlw 94) (rtw 94)) := rfl
set_option maxRecDepth 100000 in
theorem cb_95 : wdw ((mhw 95).getD 0 (99, 99)) = some (.code (ymw 95) (bmw 95) (mlw 95) (rtw 95)) := rfl
set_option maxRecDepth 100000 in
theorem cb_96 : wdw ((mhw 96).getD 0 (99, 99)) = some (.code (ymw 96) (bmw 96) (mlw 96) (rtw 96)) := rfl
set_option maxRecDepth 100000 in
theorem cb_97 : wdw ((mhw 97).getD 0 (99, 99)) = some (.code (ymw 97) (bmw 97) (mlw 97) (rtw 97)) := rfl
set_option maxRecDepth 100000 in
theorem cb_98 : wdw ((mhw 98).getD 0 (99, 99)) = some (.code (ymw 98) (bmw 98) (mlw 98) (rtw 98)) := rfl
set_option maxRecDepth 100000 in
theorem cb_99 : wdw ((mhw 99).getD 0 (99, 99)) = some (.code (ymw 99) (bmw 99) (mlw 99) (rtw 99)) := rfl
set_option maxRecDepth 100000 in
theorem cb_100 : wdw ((mhw 100).getD 0 (99, 99)) = some (.code (ymw 100) (bmw 100) (mlw 100) (rtw 100)) := rfl
set_option maxRecDepth 100000 in
theorem cb_101 : wdw ((mhw 101).getD 0 (99, 99)) = some (.code (ymw 101) (bmw 101) (mlw 101) (rtw 101)) := rfl
set_option maxRecDepth 100000 in
theorem cb_102 : wdw ((mhw 102).getD 0 (99, 99)) = some (.code (ymw 102) (bmw 102) (mlw 102) (rtw 102)) := rfl
set_option maxRecDepth 100000 in
theorem cb_103 : wdw ((mhw 103).getD 0 (99, 99)) = some (.code (ymw 103) (bmw 103) (mlw 103) (rtw 103)) := rfl
set_option maxRecDepth 100000 in
theorem cb_104 : wdw ((mhw 104).getD 0 (99, 99)) = some (.code (ymw 104) (bmw 104) (mlw 104) (rtw 104)) := rfl
set_option maxRecDepth 100000 in
theorem cb_105 : wdw ((mhw 105).getD 0 (99, 99)) = some (.code (ymw 105) (bmw 105) (mlw 105) (rtw 105)) := rfl
set_option maxRecDepth 100000 in
theorem cb_106 : wdw ((mhw 106).getD 0 (99, 99)) = some (.code (ymw 106) (bmw 106) (mlw 106) (rtw 106)) := rfl
set_option maxRecDepth 100000 in
theorem cb_107 : wdw ((mhw 107).getD 0 (99, 99)) = some (.code (ymw 107) (bmw 107) (mlw 107) (rtw 107)) := rfl
set_option maxRecDepth 100000 in
theorem cb_108 : wdw ((mhw 108).getD 0 (99, 99)) = some (.code (ymw 108) (bmw 108) (mlw 108) (rtw 108)) := rfl
set_option maxRecDepth 100000 in
theorem cb_109 : wdw ((mhw 109).getD 0 (99, 99)) = some (.code (ymw 109) (bmw 109) (mlw 109) (rtw 109)) := rfl
set_option maxRecDepth 100000 in
theorem cb_110 : wdw ((mhw 110).getD 0 (99, 99)) = some (.code (ymw 110) (bmw 110) (mlw 110) (rtw 110)) := rfl
set_option maxRecDepth 100000 in
theorem cb_111 : wdw ((mhw 111).getD 0 (99, 99)) = some (.code (ymw 111) (bmw 111) (mlw 111) (rtw 111)) := rfl
set_option maxRecDepth 100000 in
theorem cb_112 : wdw ((mhw 112).getD 0 (99, 99)) = some (.code (ymw 112) (bmw 112) (mlw 112) (rtw 112)) := rfl
set_option maxRecDepth 100000 in
theorem cb_113 : wdw ((mhw 113).getD 0 (99, 99)) = some (.code (ymw 113) (bmw 113) (mlw 113) (rtw 113)) := rfl
set_option maxRecDepth 100000 in
theorem cb_114 : wdw ((mhw 114).getD 0 (99, 99)) = some (.code (ymw 114) (bmw 114) (mlw 114) (rtw 114)) := rfl
set_option maxRecDepth 100000 in
theorem cb_115 : wdw ((mhw 115).getD 0 (99, 99)) = some (.code (ymw 115) (bmw 115) (mlw 115) (rtw 115)) := rfl
set_option maxRecDepth 100000 in
theorem cb_116 : wdw ((mhw 116).getD 0 (99, 99)) = some (.code (ymw 116) (bmw 116) (mlw 116) (rtw 116)) := rfl
set_option maxRecDepth 100000 in
theorem cb_117 : wdw ((mhw 117).getD 0 (99, 99)) = some (.code (ymw 117) (bmw 117) (mlw 117) (rtw 117)) := rfl
set_option maxRecDepth 100000 in
theorem cb_118 : wdw ((mhw 118).getD 0 (99, 99)) = some (.code (ymw 118) (bmw 118) (mlw 118) (rtw 118)) := rfl
set_option maxRecDepth 100000 in
theorem cb_119 : wdw ((mhw 119).getD 0 (99, 99)) = some (.code (ymw 119) (bmw 119) (mlw 119) (rtw 119)) := rfl
set_option maxRecDepth 100000 in
theorem cb_120 : wdw ((mhw 120).getD 0 (99, 99)) = some (.code (ymw 120) (bmw 120) (mlw 120) (rtw 120)) := rfl
set_option maxRecDepth 100000 in
theorem cb_121 : wdw ((mhw 121).getD 0 (99, 99)) = some (.code (ymw 121) (bmw 121) (mlw 121) (rtw 121)) := rfl
set_option maxRecDepth 100000 in
theorem cb_122 : wdw ((mhw 122).getD 0 (99, 99)) = some (.code (ymw 122) (bmw 122) (mlw 122) (rtw 122)) := rfl
set_option maxRecDepth 100000 in
theorem cb_123 : wdw ((mhw 123).getD 0 (99, 99)) = some (.code (ymw 123) (bmw 123) (mlw 123) (rtw 123)) := rfl
set_option maxRecDepth 100000 in
theorem cb_124 : wdw ((mhw 124).getD 0 (99, 99)) = some (.code (ymw 124) (bmw 124) (mlw 124) (rtw 124)) := rfl
set_option maxRecDepth 100000 in
theorem cb_125 : wdw ((mhw 125).getD 0 (99, 99)) = some (.code (ymw 125) (bmw 125) (mlw 125) (rtw 125)) := rfl
set_option maxRecDepth 100000 in
theorem cb_126 : wdw ((mhw 126).getD 0 (99, 99)) = some (.code (ymw 126) (bmw 126) (mlw 126) (rtw 126)) := rfl
set_option maxRecDepth 100000 in
theorem cb_127 : wdw ((mhw 127).getD 0 (99, 99)) = some (.code (ymw 127) (bmw 127) (mlw 127) (rtw 127)) := rfl
set_option maxRecDepth 100000 in
theorem cb_128 : wdw ((mhw 128).getD 0 (99, 99)) = some (.code (ymw 128) (bmw 128) (mlw 128) (rtw 128)) := rfl
set_option maxRecDepth 100000 in
theorem cb_129 : wdw ((mhw 129).getD 0 (99, 99)) = some (.code (ymw 129) (bmw 129) (mlw 129) (rtw 129)) := rfl
set_option maxRecDepth 100000 in
theorem cb_130 : wdw ((mhw 130).getD 0 (99, 99)) = some (.code (ymw 130) (bmw 130) (mlw 130) (rtw 130)) := rfl
set_option maxRecDepth 100000 in
theorem cb_131 : wdw ((mhw 131).getD 0 (99, 99)) = some (.code (ymw 131) (bmw 131) (mlw 131) (rtw 131)) := rfl
set_option maxRecDepth 100000 in
theorem cb_132 : wdw ((mhw 132).getD 0 (99, 99)) = some (.code (ymw 132) (bmw 132) (mlw 132) (rtw 132)) := rfl
set_option maxRecDepth 100000 in
theorem cb_133 : wdw ((mhw 133).getD 0 (99, 99)) = some (.code (ymw 133) (bmw 133) (mlw 133) (rtw 133)) := rfl
set_option maxRecDepth 100000 in
theorem cb_134 : wdw ((mhw 134).getD 0 (99, 99)) = some (.code (ymw 134) (bmw 134) (mlw 134) (rtw 134)) := rfl
set_option maxRecDepth 100000 in
theorem cb_135 : wdw ((mhw 135).getD 0 (99, 99)) = some (.code (ymw 135) (bmw 135) (mlw 135) (rtw 135)) := rfl
set_option maxRecDepth 100000 in
theorem cb_136 : wdw ((mhw 136).getD 0 (99, 99)) = some (.code (ymw 136) (bmw 136) (mlw 136) (rtw 136)) := rfl
set_option maxRecDepth 100000 in
theorem cb_137 : wdw ((mhw 137).getD 0 (99, 99)) = some (.code (ymw 137) (bmw 137) (mlw 137) (rtw 137)) := rfl
set_option maxRecDepth 100000 in
theorem cb_138 : wdw ((mhw 138).getD 0 (99, 99)) = some (.code (ymw 138) (bmw 138) (mlw 138) (rtw 138)) := rfl
set_option maxRecDepth 100000 in
theorem cb_139 : wdw ((mhw 139).getD 0 (99, 99)) = some (.code (ymw 139) (bmw 139) (mlw 139) (rtw 139)) := rfl
set_option maxRecDepth 100000 in
theorem cb_140 : wdw ((mhw 140).getD 0 (99, 99)) = some (.code (ymw 140) (bmw 140) (mlw 140) (rtw 140)) := rfl
set_option maxRecDepth 100000 in
theorem cb_141 : wdw ((mhw 141).getD 0 (99, 99)) = some (.code (ymw 141) (bmw 141) (mlw 141) (rtw 141)) := rfl
set_option maxRecDepth 100000 in
theorem cb_142 : wdw ((mhw 142).getD 0 (99, 99)) = some (.code (ymw 142) (bmw 142) (mlw 142) (rtw 142)) := rfl
set_option maxRecDepth 100000 in
theorem cb_143 : wdw ((mhw 143).getD 0 (99, 99)) = some (.code (ymw 143) (bmw 143) (mlw 143) (rtw 143)) := rfl
set_option maxRecDepth 100000 in
theorem cb_144 : wdw ((mhw 144).getD 0 (99, 99)) = some (.code (ymw 144) (bmw 144) (mlw 144) (rtw 144)) := rfl
set_option maxRecDepth 100000 in
theorem cb_145 : wdw ((mhw 145).getD 0 (99, 99)) = some (.code (ymw 145) (bmw 145) (mlw 145) (rtw 145)) := rfl
set_option maxRecDepth 100000 in
theorem cb_146 : wdw ((mhw 146).getD 0 (99, 99)) = some (.code (ymw 146) (bmw 146) (mlw 146) (rtw 146)) := rfl
set_option maxRecDepth 100000 in
theorem cb_147 : wdw ((mhw 147).getD 0 (99, 99)) = some (.code (ymw 147) (bmw 147) (mlw 147) (rtw 147)) := rfl
set_option maxRecDepth 100000 in
theorem cb_148 : wdw ((mhw 148).getD 0 (99, 99)) = some (.code (ymw 148) (bmw 148) (mlw 148) (rtw 148)) := rfl
set_option maxRecDepth 100000 in
theorem cb_149 : wdw ((mhw 149).getD 0 (99, 99)) = some (.code (ymw 149) (bmw 149) (mlw 149) (rtw 149)) := rfl
set_option maxRecDepth 100000 in
theorem cb_150 : wdw ((mhw 150).getD 0 (99, 99)) = some (.code (ymw 150) (bmw 150) (mlw 150) (rtw 150)) := rfl
set_option maxRecDepth 100000 in
theorem cb_151 : wdw ((mhw 151).getD 0 (99, 99)) = some (.code (ymw 151) (bmw 151) (mlw 151) (rtw 151)) := rfl
set_option maxRecDepth 100000 in
theorem cb_152 : wdw ((mhw 152).getD 0 (99, 99)) = some (.code (ymw 152) (bmw 152) (mlw 152) (rtw 152)) := rfl
set_option maxRecDepth 100000 in
theorem cb_153 : wdw ((mhw 153).getD 0 (99, 99)) = some (.code (ymw 153) (bmw 153) (mlw 153) (rtw 153)) := rfl
set_option maxRecDepth 100000 in
theorem cb_154 : wdw ((mhw 154).getD 0 (99, 99)) = some (.code (ymw 154) (bmw 154) (mlw 154) (rtw 154)) := rfl
set_option maxRecDepth 100000 in
theorem cb_155 : wdw ((mhw 155).getD 0 (99, 99)) = some (.code (ymw 155) (bmw 155) (mlw 155) (rtw 155)) := rfl
set_option maxRecDepth 100000 in
theorem cb_156 : wdw ((mhw 156).getD 0 (99, 99)) = some (.code (ymw 156) (bmw 156) (mlw 156) (rtw 156)) := rfl
set_option maxRecDepth 100000 in
theorem cb_157 : wdw ((mhw 157).getD 0 (99, 99)) = some (.code (ymw 157) (bmw 157) (mlw 157) (rtw 157)) := rfl
set_option maxRecDepth 100000 in
theorem cb_158 : wdw ((mhw 158).getD 0 (99, 99)) = some (.code (ymw 158) (bmw 158) (mlw 158) (rtw 158)) := rfl
set_option maxRecDepth 100000 in
theorem cb_159 : wdw ((mhw 159).getD 0 (99, 99)) = some (.code (ymw 159) (bmw 159) (mlw 159) (rtw 159)) := rfl
set_option maxRecDepth 100000 in
theorem cb_160 : wdw ((mhw 160).getD 0 (99, 99)) = some (.code (ymw 160) (bmw 160) (mlw 160) (rtw 160)) := rfl
set_option maxRecDepth 100000 in
theorem cb_161 : wdw ((mhw 161).getD 0 (99, 99)) = some (.code (ymw 161) (bmw 161) (mlw 161) (rtw 161)) := rfl
set_option maxRecDepth 100000 in
theorem cb_162 : wdw ((mhw 162).getD 0 (99, 99)) = some (.code (ymw 162) (bmw 162) (mlw 162) (rtw 162)) := rfl
set_option maxRecDepth 100000 in
theorem cb_163 : wdw ((mhw 163).getD 0 (99, 99)) = some (.code (ymw 163) (bmw 163) (mlw 163) (rtw 163)) := rfl
set_option maxRecDepth 100000 in
theorem cb_164 : wdw ((mhw 164).getD 0 (99, 99)) = some (.code (ymw 164) (bmw 164) (mlw 164) (rtw 164)) := rfl
set_option maxRecDepth 100000 in
theorem cb_165 : wdw ((mhw 165).getD 0 (99, 99)) = some (.code (ymw 165) (bmw 165) (mlw 165) (rtw 165)) := rfl
set_option maxRecDepth 100000 in
theorem cb_166 : wdw ((mhw 166).getD 0 (99, 99)) = some (.code (ymw 166) (bmw 166) (mlw 166) (rtw 166)) := rfl
set_option maxRecDepth 100000 in
theorem cb_167 : wdw ((mhw 167).getD 0 (99, 99)) = some (.code (ymw 167) (bmw 167) (mlw 167) (rtw 167)) := rfl
set_option maxRecDepth 100000 in
theorem cb_168 : wdw ((mhw 168).getD 0 (99, 99)) = some (.code (ymw 168) (bmw 168) (mlw 168) (rtw 168)) := rfl
set_option maxRecDepth 100000 in
theorem cb_169 : wdw ((mhw 169).getD 0 (99, 99)) = some (.code (ymw 169) (bmw 169) (mlw 169) (rtw 169)) := rfl
set_option maxRecDepth 100000 in
theorem cb_170 : wdw ((mhw 170).getD 0 (99, 99)) = some (.code (ymw 170) (bmw 170) (mlw 170) (rtw 170)) := rfl
set_option maxRecDepth 100000 in
theorem cb_171 : wdw ((mhw 171).getD 0 (99, 99)) = some (.code (ymw 171) (bmw 171) (mlw 171) (rtw 171)) := rfl
set_option maxRecDepth 100000 in
theorem cb_172 : wdw ((mhw 172).getD 0 (99, 99)) = some (.code (ymw 172) (bmw 172) (mlw 172) (rtw 172)) := rfl
set_option maxRecDepth 100000 in
theorem cb_173 : wdw ((mhw 173).getD 0 (99, 99)) = some (.code (ymw 173) (bmw 173) (mlw 173) (rtw 173)) := rfl
set_option maxRecDepth 100000 in
theorem cb_174 : wdw ((mhw 174).getD 0 (99, 99)) = some (.code (ymw 174) (bmw 174) (mlw 174) (rtw 174)) := rfl
set_option maxRecDepth 100000 in
theorem cb_175 : wdw ((mhw 175).getD 0 (99, 99)) = some (.code (ymw 175) (bmw 175) (mlw 175) (rtw 175)) := rfl
set_option maxRecDepth 100000 in
theorem cb_176 : wdw ((mhw 176).getD 0 (99, 99)) = some (.code (ymw 176) (bmw 176) (mlw 176) (rtw 176)) := rfl
set_option maxRecDepth 100000 in
theorem cb_177 : wdw ((mhw 177).getD 0 (99, 99)) = some (.code (ymw 177) (bmw 177) (mlw 177) (rtw 177)) := rfl
set_option maxRecDepth 100000 in
theorem cb_178 : wdw ((mhw 178).getD 0 (99, 99)) = some (.code (ymw 178) (bmw 178) (mlw 178) (rtw 178)) := rfl
set_option maxRecDepth 100000 in
theorem cb_179 : wdw ((mhw 179).getD 0 (99, 99)) = some (.code (ymw 179) (bmw 179) (mlw 179) (rtw 179)) := rfl
set_option maxRecDepth 100000 in
theorem cb_180 : wdw ((mhw 180).getD 0 (99, 99)) = some (.code (ymw 180) (bmw 180) (mlw 180) (rtw 180)) := rfl
set_option maxRecDepth 100000 in
theorem cb_181 : wdw ((mhw 181).getD 0 (99, 99)) = some (.code (ymw 181) (bmw 181) (mlw 181) (rtw 181)) := rfl
set_option maxRecDepth 100000 in
theorem cb_182 : wdw ((mhw 182).getD 0 (99, 99)) = some (.code (ymw 182) (bmw 182) (mlw 182) (rtw 182)) := rfl
set_option maxRecDepth 100000 in
theorem cb_183 : wdw ((mhw 183).getD 0 (99, 99)) = some (.code (ymw 183) (bmw 183) (mlw 183) (rtw 183)) := rfl
set_option maxRecDepth 100000 in
theorem cb_184 : wdw ((mhw 184).getD 0 (99, 99)) = some (.code (ymw 184) (bmw 184) (mlw 184) (rtw 184)) := rfl
set_option maxRecDepth 100000 in
theorem cb_185 : wdw ((mhw 185).getD 0 (99, 99)) = some (.code (ymw 185) (bmw 185) (mlw 185) (rtw 185)) := rfl
set_option maxRecDepth 100000 in
theorem cb_186 : wdw ((mhw 186).getD 0 (99, 99)) = some (.code (ymw 186) (bmw 186) (mlw 186) (rtw 186)) := rfl
set_option maxRecDepth 100000 in
theorem cb_187 : wdw ((mhw 187).getD 0 (99, 99)) = some (.code (ymw 187) (bmw 187) (mlw 187) (rtw 187)) := rfl
set_option maxRecDepth 100000 in
theorem cb_188 : wdw ((mhw 188).getD 0 (99, 99)) = some (.code (ymw 188) (bmw 188) (mlw 188) (rtw 188)) := rfl
set_option maxRecDepth 100000 in
theorem cb_189 : wdw ((mhw 189).getD 0 (99, 99)) = some (.code (ymw 189) (bmw 189) (mlw 189) (rtw 189)) := rfl
set_option maxRecDepth 100000 in
theorem cb_190 : wdw ((mhw 190).getD 0 (99, 99)) = some (.code (ymw 190) (bmw 190) (mlw 190) (rtw 190)) := rfl
set_option maxRecDepth 100000 in
theorem cb_191 : wdw ((mhw 191).getD 0 (99, 99)) = some (.code (ymw 191) (bmw 191) (mlw 191) (rtw 191)) := rfl
set_option maxRecDepth 100000 in
theorem cb_192 : wdw ((mhw 192).getD 0 (99, 99)) = some (.code (ymw 192) (bmw 192) (mlw 192) (rtw 192)) := rfl
set_option maxRecDepth 100000 in
theorem cb_193 : wdw ((mhw 193).getD 0 (99, 99)) = some (.code (ymw 193) (bmw 193) (mlw 193) (rtw 193)) := rfl
set_option maxRecDepth 100000 in
theorem cb_194 : wdw ((mhw 194).getD 0 (99, 99)) = some (.code (ymw 194) (bmw 194) (mlw 194) (rtw 194)) := rfl
set_option maxRecDepth 100000 in
theorem cb_195 : wdw ((mhw 195).getD 0 (99, 99)) = some (.code (ymw 195) (bmw 195) (mlw 195) (rtw 195)) := rfl
set_option maxRecDepth 100000 in
theorem cb_196 : wdw ((mhw 196).getD 0 (99, 99)) = some (.code (ymw 196) (bmw 196) (mlw 196) (rtw 196)) := rfl
set_option maxRecDepth 100000 in
theorem cb_197 : wdw ((mhw 197).getD 0 (99, 99)) = some (.code (ymw 197) (bmw 197) (mlw 197) (rtw 197)) := rfl
set_option maxRecDepth 100000 in
theorem cb_198 : wdw ((mhw 198).getD 0 (99, 99)) = some (.code (ymw 198) (bmw 198) (mlw 198) (rtw 198)) := rfl
set_option maxRecDepth 100000 in
theorem cb_199 : wdw ((mhw 199).getD 0 (99, 99)) = some (.code (ymw 199) (bmw 199) (mlw 199) (rtw 199)) := rfl
set_option maxRecDepth 100000 in
theorem cb_200 : wdw ((mhw 200).getD 0 (99, 99)) = some (.code (ymw 200) (bmw 200) (mlw 200) (rtw 200)) := rfl
set_option maxRecDepth 100000 in
theorem cb_201 : wdw ((mhw 201).getD 0 (99, 99)) = some (.code (ymw 201) (bmw 201) (mlw 201) (rtw 201)) := rfl
set_option maxRecDepth 100000 in
theorem cb_202 : wdw ((mhw 202).getD 0 (99, 99)) = some (.code (ymw 202) (bmw 202) (mlw 202) (rtw 202)) := rfl
set_option maxRecDepth 100000 in
theorem cb_203 : wdw ((mhw 203).getD 0 (99, 99)) = some (.code (ymw 203) (bmw 203) (mlw 203) (rtw 203)) := rfl
set_option maxRecDepth 100000 in
theorem cb_204 : wdw ((mhw 204).getD 0 (99, 99)) = some (.code (ymw 204) (bmw 204) (mlw 204) (rtw 204)) := rfl
set_option maxRecDepth 100000 in
theorem cb_205 : wdw ((mhw 205).getD 0 (99, 99)) = some (.code (ymw 205) (bmw 205) (mlw 205) (rtw 205)) := rfl
set_option maxRecDepth 100000 in
theorem cb_206 : wdw ((mhw 206).getD 0 (99, 99)) = some (.code (ymw 206) (bmw 206) (mlw 206) (rtw 206)) := rfl
set_option maxRecDepth 100000 in
theorem cb_207 : wdw ((mhw 207).getD 0 (99, 99)) = some (.code (ymw 207) (bmw 207) (mlw 207) (rtw 207)) := rfl
set_option maxRecDepth 100000 in
theorem cb_208 : wdw ((mhw 208).getD 0 (99, 99)) = some (.code (ymw 208) (bmw 208) (mlw 208) (rtw 208)) := rfl
set_option maxRecDepth 100000 in
theorem cb_209 : wdw ((mhw 209).getD 0 (99, 99)) = some (.code (ymw 209) (bmw 209) (mlw 209) (rtw 209)) := rfl
set_option maxRecDepth 100000 in
theorem cb_210 : wdw ((mhw 210).getD 0 (99, 99)) = some (.code (ymw 210) (bmw 210) (mlw 210) (rtw 210)) := rfl
set_option maxRecDepth 100000 in
theorem cb_211 : wdw ((mhw 211).getD 0 (99, 99)) = some (.code (ymw 211) (bmw 211) (mlw 211) (rtw 211)) := rfl
set_option maxRecDepth 100000 in
theorem cb_212 : wdw ((mhw 212).getD 0 (99, 99)) = some (.code (ymw 212) (bmw 212) (mlw 212) (rtw 212)) := rfl
set_option maxRecDepth 100000 in
theorem cb_213 : wdw ((mhw 213).getD 0 (99, 99)) = some (.code (ymw 213) (bmw 213) (mlw 213) (rtw 213)) := rfl
set_option maxRecDepth 100000 in
theorem cb_214 : wdw ((mhw 214).getD 0 (99, 99)) = some (.code (ymw 214) (bmw 214) (mlw 214) (rtw 214)) := rfl
set_option maxRecDepth 100000 in
theorem cb_215 : wdw ((mhw 215).getD 0 (99, 99)) = some (.code (ymw 215) (bmw 215) (mlw 215) (rtw 215)) := rfl
set_option maxRecDepth 100000 in
theorem cb_216 : wdw ((mhw 216).getD 0 (99, 99)) = some (.code (ymw 216) (bmw 216) (mlw 216) (rtw 216)) := rfl
set_option maxRecDepth 100000 in
theorem cb_217 : wdw ((mhw 217).getD 0 (99, 99)) = some (.code (ymw 217) (bmw 217) (mlw 217) (rtw 217)) := rfl
set_option maxRecDepth 100000 in
theorem cb_218 : wdw ((mhw 218).getD 0 (99, 99)) = some (.code (ymw 218) (bmw 218) (mlw 218) (rtw 218)) := rfl
set_option maxRecDepth 100000 in
theorem cb_219 : wdw ((mhw 219).getD 0 (99, 99)) = some (.code (ymw 219) (bmw 219) (mlw 219) (rtw 219)) := rfl
set_option maxRecDepth 100000 in
theorem cb_220 : wdw ((mhw 220).getD 0 (99, 99)) = some (.code (ymw 220) (bmw 220) (mlw 220) (rtw 220)) := rfl
set_option maxRecDepth 100000 in
theorem cb_221 : wdw ((mhw 221).getD 0 (99, 99)) = some (.code (ymw 221) (bmw 221) (mlw 221) (rtw 221)) := rfl
set_option maxRecDepth 100000 in
theorem cb_222 : wdw ((mhw 222).getD 0 (99, 99)) = some (.code (ymw 222) (bmw 222) (mlw 222) (rtw 222)) := rfl
set_option maxRecDepth 100000 in
theorem cb_223 : wdw ((mhw 223).getD 0 (99, 99)) = some (.code (ymw 223) (bmw 223) (mlw 223) (rtw 223)) := rfl
set_option maxRecDepth 100000 in
theorem cb_224 : wdw ((mhw 224).getD 0 (99, 99)) = some (.code (ymw 224) (bmw 224) (mlw 224) (rtw 224)) := rfl
set_option maxRecDepth 100000 in
theorem cb_225 : wdw ((mhw 225).getD 0 (99, 99)) = some (.code (ymw 225) (bmw 225) (mlw 225) (rtw 225)) := rfl
set_option maxRecDepth 100000 in
theorem cb_226 : wdw ((mhw 226).getD 0 (99, 99)) = some (.code (ymw 226) (bmw 226) (mlw 226) (rtw 226)) := rfl
set_option maxRecDepth 100000 in
theorem cb_227 : wdw ((mhw 227).getD 0 (99, 99)) = some (.code (ymw 227) (bmw 227) (mlw 227) (rtw 227)) := rfl
set_option maxRecDepth 100000 in
theorem cb_228 : wdw ((mhw 228).getD 0 (99, 99)) = some (.code (ymw 228) (bmw 228) (mlw 228) (rtw 228)) := rfl
set_option maxRecDepth 100000 in
theorem cb_229 : wdw ((mhw 229).getD 0 (99, 99)) = some (.code (ymw 229) (bmw 229) (mlw 229) (rtw 229)) := rfl
set_option maxRecDepth 100000 in
theorem cb_230 : wdw ((mhw 230).getD 0 (99, 99)) = some (.code (ymw 230) (bmw 230) (mlw 230) (rtw 230)) := rfl
set_option maxRecDepth 100000 in
theorem cb_231 : wdw ((mhw 231).getD 0 (99, 99)) = some (.code (ymw 231) (bmw 231) (mlw 231) (rtw 231)) := rfl
set_option maxRecDepth 100000 in
theorem cb_232 : wdw ((mhw 232).getD 0 (99, 99)) = some (.code (ymw 232) (bmw 232) (mlw 232) (rtw 232)) := rfl
set_option maxRecDepth 100000 in
theorem cb_233 : wdw ((mhw 233).getD 0 (99, 99)) = some (.code (ymw 233) (bmw 233) (mlw 233) (rtw 233)) := rfl
set_option maxRecDepth 100000 in
theorem cb_234 : wdw ((mhw 234).getD 0 (99, 99)) = some (.code (ymw 234) (bmw 234) (mlw 234) (rtw 234)) := rfl
set_option maxRecDepth 100000 in
theorem cb_235 : wdw ((mhw 235).getD 0 (99, 99)) = some (.code (ymw 235) (bmw 235) (mlw 235) (rtw 235)) := rfl
set_option maxRecDepth 100000 in
theorem cb_236 : wdw ((mhw 236).getD 0 (99, 99)) = some (.code (ymw 236) (bmw 236) (mlw 236) (rtw 236)) := rfl
set_option maxRecDepth 100000 in
theorem cb_237 : wdw ((mhw 237).getD 0 (99, 99)) = some (.code (ymw 237) (bmw 237) (mlw 237) (rtw 237)) := rfl
set_option maxRecDepth 100000 in
theorem cb_238 : wdw ((mhw 238).getD 0 (99, 99)) = some (.code (ymw 238) (bmw 238) (mlw 238) (rtw 238)) := rfl
set_option maxRecDepth 100000 in
theorem cb_239 : wdw ((mhw 239).getD 0 (99, 99)) = some (.code (ymw 239) (bmw 239) (mlw 239) (rtw 239)) := rfl
set_option maxRecDepth 100000 in
theorem cb_240 : wdw ((mhw 240).getD 0 (99, 99)) = some (.code (ymw 240) (bmw 240) (mlw 240) (rtw 240)) := rfl
set_option maxRecDepth 100000 in
theorem cb_241 : wdw ((mhw 241).getD 0 (99, 99)) = some (.code (ymw 241) (bmw 241) (mlw 241) (rtw 241)) := rfl
set_option maxRecDepth 100000 in
theorem cb_242 : wdw ((mhw 242).getD 0 (99, 99)) = some (.code (ymw 242) (bmw 242) (mlw 242) (rtw 242)) := rfl
set_option maxRecDepth 100000 in
theorem cb_243 : wdw ((mhw 243).getD 0 (99, 99)) = some (.code (ymw 243) (bmw 243) (mlw 243) (rtw 243)) := rfl
set_option maxRecDepth 100000 in
theorem cb_244 : wdw ((mhw 244).getD 0 (99, 99)) = some (.code (ymw 244) (bmw 244) (mlw 244) (rtw 244)) := rfl
set_option maxRecDepth 100000 in
theorem cb_245 : wdw ((mhw 245).getD 0 (99, 99)) = some (.code (ymw 245) (bmw 245) (mlw 245) (rtw 245)) := rfl
set_option maxRecDepth 100000 in
theorem cb_246 : wdw ((mhw 246).getD 0 (99, 99)) = some (.code (ymw 246) (bmw 246) (mlw 246) (rtw 246)) := rfl
set_option maxRecDepth 100000 in
theorem cb_247 : wdw ((mhw 247).getD 0 (99, 99)) = some (.code (ymw 247) (bmw 247) (mlw 247) (rtw 247)) := rfl
set_option maxRecDepth 100000 in
theorem cb_248 : wdw ((mhw 248).getD 0 (99, 99)) = some (.code (ymw 248) (bmw 248) (mlw 248) (rtw 248)) := rfl
set_option maxRecDepth 100000 in
theorem cb_249 : wdw ((mhw 249).getD 0 (99, 99)) = some (.code (ymw 249) (bmw 249) (mlw 249) (rtw 249)) := rfl
set_option maxRecDepth 100000 in
theorem cb_250 : wdw ((mhw 250).getD 0 (99, 99)) = some (.code (ymw 250) (bmw 250) (mlw 250) (rtw 250)) := rfl
set_option maxRecDepth 100000 in
theorem cb_251 : wdw ((mhw 251).getD 0 (99, 99)) = some (.code (ymw 251) (bmw 251) (mlw 251) (rtw 251)) := rfl
set_option maxRecDepth 100000 in
theorem cb_252 : wdw ((mhw 252).getD 0 (99, 99)) = some (.code (ymw 252) (bmw 252) (mlw 252) (rtw 252)) := rfl
set_option maxRecDepth 100000 in
theorem cb_253 : wdw ((mhw 253).getD 0 (99, 99)) = some (.code (ymw 253) (bmw 253) (mlw 253) (rtw 253)) := rfl
set_option maxRecDepth 100000 in
theorem cb_254 : wdw ((mhw 254).getD 0 (99, 99)) = some (.code (ymw 254) (bmw 254) (mlw 254) (rtw 254)) := rfl
set_option maxRecDepth 100000 in
theorem cb_255 : wdw ((mhw 255).getD 0 (99, 99)) = some (.code (ymw 255) (bmw 255) (mlw 255) (rtw 255)) := rfl
set_option maxRecDepth 100000 in
theorem cb_256 : wdw ((mhw 256).getD 0 (99, 99)) = some (.code (ymw 256) (bmw 256) (mlw 256) (rtw 256)) := rfl
set_option maxRecDepth 100000 in
theorem cb_257 : wdw ((mhw 257).getD 0 (99, 99)) = some (.code (ymw 257) (bmw 257) (mlw 257) (rtw 257)) := rfl
set_option maxRecDepth 100000 in
theorem cb_258 : wdw ((mhw 258).getD 0 (99, 99)) = some (.code (ymw 258) (bmw 258) (mlw 258) (rtw 258)) := rfl
set_option maxRecDepth 100000 in
theorem cb_259 : wdw ((mhw 259).getD 0 (99, 99)) = some (.code (ymw 259) (bmw 259) (mlw 259) (rtw 259)) := rfl
set_option maxRecDepth 100000 in
theorem cb_260 : wdw ((mhw 260).getD 0 (99, 99)) = some (.code (ymw 260) (bmw 260) (mlw 260) (rtw 260)) := rfl
set_option maxRecDepth 100000 in
theorem cb_261 : wdw ((mhw 261).getD 0 (99, 99)) = some (.code (ymw 261) (bmw 261) (mlw 261) (rtw 261)) := rfl
set_option maxRecDepth 100000 in
theorem cb_262 : wdw ((mhw 262).getD 0 (99, 99)) = some (.code (ymw 262) (bmw 262) (mlw 262) (rtw 262)) := rfl
set_option maxRecDepth 100000 in
theorem cb_263 : wdw ((mhw 263).getD 0 (99, 99)) = some (.code (ymw 263) (bmw 263) (mlw 263) (rtw 263)) := rfl
set_option maxRecDepth 100000 in
theorem cb_264 : wdw ((mhw 264).getD 0 (99, 99)) = some (.code (ymw 264) (bmw 264) (mlw 264) (rtw 264)) := rfl
set_option maxRecDepth 100000 in
theorem cb_265 : wdw ((mhw 265).getD 0 (99, 99)) = some (.code (ymw 265) (bmw 265) (mlw 265) (rtw 265)) := rfl
set_option maxRecDepth 100000 in
theorem cb_266 : wdw ((mhw 266).getD 0 (99, 99)) = some (.code (ymw 266) (bmw 266) (mlw 266) (rtw 266)) := rfl
set_option maxRecDepth 100000 in
theorem cb_267 : wdw ((mhw 267).getD 0 (99, 99)) = some (.code (ymw 267) (bmw 267) (mlw 267) (rtw 267)) := rfl
set_option maxRecDepth 100000 in
theorem cb_268 : wdw ((mhw 268).getD 0 (99, 99)) = some (.code (ymw 268) (bmw 268) (mlw 268) (rtw 268)) := rfl
set_option maxRecDepth 100000 in
theorem cb_269 : wdw ((mhw 269).getD 0 (99, 99)) = some (.code (ymw 269) (bmw 269) (mlw 269) (rtw 269)) := rfl
set_option maxRecDepth 100000 in
theorem cb_270 : wdw ((mhw 270).getD 0 (99, 99)) = some (.code (ymw 270) (bmw 270) (mlw 270) (rtw 270)) := rfl
set_option maxRecDepth 100000 in
theorem cb_271 : wdw ((mhw 271).getD 0 (99, 99)) = some (.code (ymw 271) (bmw 271) (mlw 271) (rtw 271)) := rfl
set_option maxRecDepth 100000 in
theorem cb_272 : wdw ((mhw 272).getD 0 (99, 99)) = some (.code (ymw 272) (bmw 272) (mlw 272) (rtw 272)) := rfl
set_option maxRecDepth 100000 in
theorem cb_273 : wdw ((mhw 273).getD 0 (99, 99)) = some (.code (ymw 273) (bmw 273) (mlw 273) (rtw 273)) := rfl
set_option maxRecDepth 100000 in
theorem cb_274 : wdw ((mhw 274).getD 0 (99, 99)) = some (.code (ymw 274) (bmw 274) (mlw 274) (rtw 274)) := rfl
set_option maxRecDepth 100000 in
theorem cb_275 : wdw ((mhw 275).getD 0 (99, 99)) = some (.code (ymw 275) (bmw 275) (mlw 275) (rtw 275)) := rfl
set_option maxRecDepth 100000 in
theorem cb_276 : wdw ((mhw 276).getD 0 (99, 99)) = some (.code (ymw 276) (bmw 276) (mlw 276) (rtw 276)) := rfl
set_option maxRecDepth 100000 in
theorem cb_277 : wdw ((mhw 277).getD 0 (99, 99)) = some (.code (ymw 277) (bmw 277) (mlw 277) (rtw 277)) := rfl
set_option maxRecDepth 100000 in
theorem cb_278 : wdw ((mhw 278).getD 0 (99, 99)) = some (.code (ymw 278) (bmw 278) (mlw 278) (rtw 278)) := rfl
set_option maxRecDepth 100000 in
theorem cb_279 : wdw ((mhw 279).getD 0 (99, 99)) = some (.code (ymw 279) (bmw 279) (mlw 279) (rtw 279)) := rfl
set_option maxRecDepth 100000 in
theorem cb_280 : wdw ((mhw 280).getD 0 (99, 99)) = some (.code (ymw 280) (bmw 280) (mlw 280) (rtw 280)) := rfl
set_option maxRecDepth 100000 in
theorem cb_281 : wdw ((mhw 281).getD 0 (99, 99)) = some (.code (ymw 281) (bmw 281) (mlw 281) (rtw 281)) := rfl
set_option maxRecDepth 100000 in
theorem cb_282 : wdw ((mhw 282).getD 0 (99, 99)) = some (.code (ymw 282) (bmw 282) (mlw 282) (rtw 282)) := rfl
set_option maxRecDepth 100000 in
theorem cb_283 : wdw ((mhw 283).getD 0 (99, 99)) = some (.code (ymw 283) (bmw 283) (mlw 283) (rtw 283)) := rfl
set_option maxRecDepth 100000 in
theorem cb_284 : wdw ((mhw 284).getD 0 (99, 99)) = some (.code (ymw 284) (bmw 284) (mlw 284) (rtw 284)) := rfl
set_option maxRecDepth 100000 in
theorem cb_285 : wdw ((mhw 285).getD 0 (99, 99)) = some (.code (ymw 285) (bmw 285) (mlw 285) (rtw 285)) := rfl
set_option maxRecDepth 100000 in
theorem cb_286 : wdw ((mhw 286).getD 0 (99, 99)) = some (.code (ymw 286) (bmw 286) (mlw 286) (rtw 286)) := rfl
set_option maxRecDepth 100000 in
theorem cb_287 : wdw ((mhw 287).getD 0 (99, 99)) = some (.code (ymw 287) (bmw 287) (mlw 287) (rtw 287)) := rfl
set_option maxRecDepth 100000 in
theorem cb_288 : wdw ((mhw 288).getD 0 (99, 99)) = some (.code (ymw 288) (bmw 288) (mlw 288) (rtw 288)) := rfl
set_option maxRecDepth 100000 in
theorem cb_289 : wdw ((mhw 289).getD 0 (99, 99)) = some (.code (ymw 289) (bmw 289) (mlw 289) (rtw 289)) := rfl
set_option maxRecDepth 100000 in
theorem cb_290 : wdw ((mhw 290).getD 0 (99, 99)) = some (.code (ymw 290) (bmw 290) (mlw 290) (rtw 290)) := rfl
set_option maxRecDepth 100000 in
theorem cb_291 : wdw ((mhw 291).getD 0 (99, 99)) = some (.code (ymw 291) (bmw 291) (mlw 291) (rtw 291)) := rfl
set_option maxRecDepth 100000 in
theorem cb_292 : wdw ((mhw 292).getD 0 (99, 99)) = some (.code (ymw 292) (bmw 292) (mlw 292) (rtw 292)) := rfl
set_option maxRecDepth 100000 in
theorem cb_293 : wdw ((mhw 293).getD 0 (99, 99)) = some (.code (ymw 293) (bmw 293) (mlw 293) (rtw 293)) := rfl
set_option maxRecDepth 100000 in
theorem cb_294 : wdw ((mhw 294).getD 0 (99, 99)) = some (.code (ymw 294) (bmw 294) (mlw 294) (rtw 294)) := rfl
set_option maxRecDepth 100000 in
theorem cb_295 : wdw ((mhw 295).getD 0 (99, 99)) = some (.code (ymw 295) (bmw 295) (mlw 295) (rtw 295)) := rfl
set_option maxRecDepth 100000 in
theorem cb_296 : wdw ((mhw 296).getD 0 (99, 99)) = some (.code (ymw 296) (bmw 296) (mlw 296) (rtw 296)) := rfl
set_option maxRecDepth 100000 in
theorem cb_297 : wdw ((mhw 297).getD 0 (99, 99)) = some (.code (ymw 297) (bmw 297) (mlw 297) (rtw 297)) := rfl
set_option maxRecDepth 100000 in
theorem cb_298 : wdw ((mhw 298).getD 0 (99, 99)) = some (.code (ymw 298) (bmw 298) (mlw 298) (rtw 298)) := rfl
set_option maxRecDepth 100000 in
theorem cb_299 : wdw ((mhw 299).getD 0 (99, 99)) = some (.code (ymw 299) (bmw 299) (mlw 299) (rtw 299)) := rfl
set_option maxRecDepth 100000 in
theorem cb_300 : wdw ((mhw 300).getD 0 (99, 99)) = some (.code (ymw 300) (bmw 300) (mlw 300) (rtw 300)) := rfl
set_option maxRecDepth 100000 in
theorem cb_301 : wdw ((mhw 301).getD 0 (99, 99)) = some (.code (ymw 301) (bmw 301) (mlw 301) (rtw 301)) := rfl
set_option maxRecDepth 100000 in
theorem cb_302 : wdw ((mhw 302).getD 0 (99, 99)) = some (.code (ymw 302) (bmw 302) (mlw 302) (rtw 302)) := rfl
set_option maxRecDepth 100000 in
theorem cb_303 : wdw ((mhw 303).getD 0 (99, 99)) = some (.code (ymw 303) (bmw 303) (mlw 303) (rtw 303)) := rfl
set_option maxRecDepth 100000 in
theorem cb_304 : wdw ((mhw 304).getD 0 (99, 99)) = some (.code (ymw 304) (bmw 304) (mlw 304) (rtw 304)) := rfl
set_option maxRecDepth 100000 in
theorem cb_305 : wdw ((mhw 305).getD 0 (99, 99)) = some (.code (ymw 305) (bmw 305) (mlw 305) (rtw 305)) := rfl
set_option maxRecDepth 100000 in
theorem cb_306 : wdw ((mhw 306).getD 0 (99, 99)) = some (.code (ymw 306) (bmw 306) (mlw 306) (rtw 306)) := rfl
set_option maxRecDepth 100000 in
theorem cb_307 : wdw ((mhw 307).getD 0 (99, 99)) = some (.code (ymw 307) (bmw 307) (mlw 307) (rtw 307)) := rfl
set_option maxRecDepth 100000 in
theorem cb_308 : wdw ((mhw 308).getD 0 (99, 99)) = some (.code (ymw 308) (bmw 308) (mlw 308) (rtw 308)) := rfl
set_option maxRecDepth 100000 in
theorem cb_309 : wdw ((mhw 309).getD 0 (99, 99)) = some (.code (ymw 309) (bmw 309) (mlw 309) (rtw 309)) := rfl
set_option maxRecDepth 100000 in
theorem cb_310 : wdw ((mhw 310).getD 0 (99, 99)) = some (.code (ymw 310) (bmw 310) (mlw 310) (rtw 310)) := rfl
set_option maxRecDepth 100000 in
theorem cb_311 : wdw ((mhw 311).getD 0 (99, 99)) = some (.code (ymw 311) (bmw 311) (mlw 311) (rtw 311)) := rfl
theorem cm_0 : (List.range 16).all (fun i => chkM (0 + i)) = true := by decide +kernel
theorem cm_1 : (List.range 16).all (fun i => chkM (16 + i)) = true := by decide +kernel
theorem cm_2 : (List.range 16).all (fun i => chkM (32 + i)) = true := by decide +kernel
theorem cm_3 : (List.range 16).all (fun i => chkM (48 + i)) = true := by decide +kernel
theorem cm_4 : (List.range 16).all (fun i => chkM (64 + i)) = true := by decide +kernel
theorem cm_5 : (List.range 16).all (fun i => chkM (80 + i)) = true := by decide +kernel
theorem cm_6 : (List.range 16).all (fun i => chkM (96 + i)) = true := by decide +kernel
theorem cm_7 : (List.range 16).all (fun i => chkM (112 + i)) = true := by decide +kernel
theorem cm_8 : (List.range 16).all (fun i => chkM (128 + i)) = true := by decide +kernel
theorem cm_9 : (List.range 16).all (fun i => chkM (144 + i)) = true := by decide +kernel
theorem cm_10 : (List.range 16).all (fun i => chkM (160 + i)) = true := by decide +kernel
theorem cm_11 : (List.range 16).all (fun i => chkM (176 + i)) = true := by decide +kernel
theorem cm_12 : (List.range 16).all (fun i => chkM (192 + i)) = true := by decide +kernel
theorem cm_13 : (List.range 16).all (fun i => chkM (208 + i)) = true := by decide +kernel
theorem cm_14 : (List.range 16).all (fun i => chkM (224 + i)) = true := by decide +kernel
theorem cm_15 : (List.range 16).all (fun i => chkM (240 + i)) = true := by decide +kernel
theorem cm_16 : (List.range 16).all (fun i => chkM (256 + i)) = true := by decide +kernel
theorem cm_17 : (List.range 16).all (fun i => chkM (272 + i)) = true := by decide +kernel
theorem cm_18 : (List.range 16).all (fun i => chkM (288 + i)) = true := by decide +kernel
theorem cm_19 : (List.range 8).all (fun i => chkM (304 + i)) = true := by decide +kernel
end
