theorem em_tb1 {w : Jvm.Cond} (h : w ∈ tables_1_1) : w ∈ lw_tbl := List.mem_append_right _ (List.mem_append_left _ h)
theorem em_tb2 {w : Jvm.Cond} (h : w ∈ tables_1_2) : w ∈ lw_tbl := List.mem_append_right _ (List.mem_append_right _ (List.mem_append_left _ h))
theorem em_tb3 {w : Jvm.Cond} (h : w ∈ tables_1_3) : w ∈ lw_tbl := List.mem_append_right _ (List.mem_append_right _ (List.mem_append_right _ (List.mem_append_left _ h)))
theorem em_tb4 {w : Jvm.Cond} (h : w ∈ tables_1_4) : w ∈ lw_tbl := List.mem_append_right _ (List.mem_append_right _ (List.mem_append_right _ (List.mem_append_right _ (List.mem_append_left _ h))))
theorem em_tb5 {w : Jvm.Cond} (h : w ∈ tables_1_5) : w ∈ lw_tbl := List.mem_append_right _ (List.mem_append_right _ (List.mem_append_right _ (List.mem_append_right _ (List.mem_append_right _ (List.mem_append_left _ h)))))
theorem em_tb6 {w : Jvm.Cond} (h : w ∈ tables_1_6) : w ∈ lw_tbl := List.mem_append_right _ (List.mem_append_right _ (List.mem_append_right _ (List.mem_append_right _ (List.mem_append_right _ (List.mem_append_right _ (List.mem_append_left _ h))))))
theorem em_tb7 {w : Jvm.Cond} (h : w ∈ tables_1_7) : w ∈ lw_tbl := List.mem_append_right _ (List.mem_append_right _ (List.mem_append_right _ (List.mem_append_right _ (List.mem_append_right _ (List.mem_append_right _ (List.mem_append_right _ (List.mem_append_left _ h)))))))
theorem em_tb8 {w : Jvm.Cond} (h : w ∈ tables_1_8) : w ∈ lw_tbl := List.mem_append_right _ (List.mem_append_right _ (List.mem_append_right _ (List.mem_append_right _ (List.mem_append_right _ (List.mem_append_right _ (List.mem_append_right _ (List.mem_append_right _ (h))))))))
set_option maxRecDepth 100000 in
theorem em_cw_0 : Cond.code (em_nm 0) (em_cd 0) (em_mx 0) (em_rt 0) ∈ lw_tbl := em_tb2 (List.mem_of_getElem? (i := 124) rfl)
set_option maxRecDepth 100000 in
theorem em_cw_1 : Cond.code (em_nm 1) (em_cd 1) (em_mx 1) (em_rt 1) ∈ lw_tbl := em_tb4 (List.mem_of_getElem? (i := 53) rfl)
set_option maxRecDepth 100000 in
theorem em_cw_2 : Cond.code (em_nm 2) (em_cd 2) (em_mx 2) (em_rt 2) ∈ lw_tbl := em_tb4 (List.mem_of_getElem? (i := 201) rfl)
set_option maxRecDepth 100000 in
theorem em_cw_3 : Cond.code (em_nm 3) (em_cd 3) (em_mx 3) (em_rt 3) ∈ lw_tbl := em_tb4 (List.mem_of_getElem? (i := 197) rfl)
set_option maxRecDepth 100000 in
theorem em_cw_4 : Cond.code (em_nm 4) (em_cd 4) (em_mx 4) (em_rt 4) ∈ lw_tbl := em_tb5 (List.mem_of_getElem? (i := 192) rfl)
set_option maxRecDepth 100000 in
theorem em_cw_5 : Cond.code (em_nm 5) (em_cd 5) (em_mx 5) (em_rt 5) ∈ lw_tbl := em_tb4 (List.mem_of_getElem? (i := 206) rfl)
set_option maxRecDepth 100000 in
theorem em_cw_6 : Cond.code (em_nm 6) (em_cd 6) (em_mx 6) (em_rt 6) ∈ lw_tbl := em_tb4 (List.mem_of_getElem? (i := 213) rfl)
set_option maxRecDepth 100000 in
theorem em_cw_7 : Cond.code (em_nm 7) (em_cd 7) (em_mx 7) (em_rt 7) ∈ lw_tbl := em_tb1 (List.mem_of_getElem? (i := 131) rfl)
set_option maxRecDepth 100000 in
theorem em_cw_8 : Cond.code (em_nm 8) (em_cd 8) (em_mx 8) (em_rt 8) ∈ lw_tbl := em_tb1 (List.mem_of_getElem? (i := 164) rfl)
set_option maxRecDepth 100000 in
theorem em_cw_9 : Cond.code (em_nm 9) (em_cd 9) (em_mx 9) (em_rt 9) ∈ lw_tbl := em_tb1 (List.mem_of_getElem? (i := 160) rfl)
set_option maxRecDepth 100000 in
theorem em_cw_10 : Cond.code (em_nm 10) (em_cd 10) (em_mx 10) (em_rt 10) ∈ lw_tbl := em_tb1 (List.mem_of_getElem? (i := 168) rfl)
set_option maxRecDepth 100000 in
theorem em_cw_11 : Cond.code (em_nm 11) (em_cd 11) (em_mx 11) (em_rt 11) ∈ lw_tbl := em_tb4 (List.mem_of_getElem? (i := 5) rfl)
set_option maxRecDepth 100000 in
theorem em_cw_12 : Cond.code (em_nm 12) (em_cd 12) (em_mx 12) (em_rt 12) ∈ lw_tbl := em_tb4 (List.mem_of_getElem? (i := 9) rfl)
set_option maxRecDepth 100000 in
theorem em_cw_13 : Cond.code (em_nm 13) (em_cd 13) (em_mx 13) (em_rt 13) ∈ lw_tbl := em_tb4 (List.mem_of_getElem? (i := 13) rfl)
set_option maxRecDepth 100000 in
theorem em_cw_14 : Cond.code (em_nm 14) (em_cd 14) (em_mx 14) (em_rt 14) ∈ lw_tbl := em_tb4 (List.mem_of_getElem? (i := 36) rfl)
set_option maxRecDepth 100000 in
theorem em_cw_15 : Cond.code (em_nm 15) (em_cd 15) (em_mx 15) (em_rt 15) ∈ lw_tbl := em_tb4 (List.mem_of_getElem? (i := 94) rfl)
set_option maxRecDepth 100000 in
theorem em_cw_16 : Cond.code (em_nm 16) (em_cd 16) (em_mx 16) (em_rt 16) ∈ lw_tbl := em_tb2 (List.mem_of_getElem? (i := 77) rfl)
set_option maxRecDepth 100000 in
theorem em_cw_17 : Cond.code (em_nm 17) (em_cd 17) (em_mx 17) (em_rt 17) ∈ lw_tbl := em_tb4 (List.mem_of_getElem? (i := 121) rfl)
set_option maxRecDepth 100000 in
theorem em_cw_18 : Cond.code (em_nm 18) (em_cd 18) (em_mx 18) (em_rt 18) ∈ lw_tbl := em_tb4 (List.mem_of_getElem? (i := 184) rfl)
set_option maxRecDepth 100000 in
theorem em_cw_19 : Cond.code (em_nm 19) (em_cd 19) (em_mx 19) (em_rt 19) ∈ lw_tbl := em_tb4 (List.mem_of_getElem? (i := 41) rfl)
set_option maxRecDepth 100000 in
theorem em_cw_20 : Cond.code (em_nm 20) (em_cd 20) (em_mx 20) (em_rt 20) ∈ lw_tbl := em_tb6 (List.mem_of_getElem? (i := 14) rfl)
set_option maxRecDepth 100000 in
theorem em_cw_21 : Cond.code (em_nm 21) (em_cd 21) (em_mx 21) (em_rt 21) ∈ lw_tbl := em_tb6 (List.mem_of_getElem? (i := 23) rfl)
set_option maxRecDepth 100000 in
theorem em_cw_22 : Cond.code (em_nm 22) (em_cd 22) (em_mx 22) (em_rt 22) ∈ lw_tbl := em_tb6 (List.mem_of_getElem? (i := 31) rfl)
set_option maxRecDepth 100000 in
theorem em_cw_23 : Cond.code (em_nm 23) (em_cd 23) (em_mx 23) (em_rt 23) ∈ lw_tbl := em_tb4 (List.mem_of_getElem? (i := 45) rfl)
set_option maxRecDepth 100000 in
theorem em_cw_24 : Cond.code (em_nm 24) (em_cd 24) (em_mx 24) (em_rt 24) ∈ lw_tbl := em_tb2 (List.mem_of_getElem? (i := 32) rfl)
set_option maxRecDepth 100000 in
theorem em_cw_25 : Cond.code (em_nm 25) (em_cd 25) (em_mx 25) (em_rt 25) ∈ lw_tbl := em_tb3 (List.mem_of_getElem? (i := 10) rfl)
set_option maxRecDepth 100000 in
theorem em_cw_26 : Cond.code (em_nm 26) (em_cd 26) (em_mx 26) (em_rt 26) ∈ lw_tbl := em_tb4 (List.mem_of_getElem? (i := 125) rfl)
set_option maxRecDepth 100000 in
theorem em_cw_27 : Cond.code (em_nm 27) (em_cd 27) (em_mx 27) (em_rt 27) ∈ lw_tbl := em_tb4 (List.mem_of_getElem? (i := 74) rfl)
set_option maxRecDepth 100000 in
theorem em_cw_28 : Cond.code (em_nm 28) (em_cd 28) (em_mx 28) (em_rt 28) ∈ lw_tbl := em_tb4 (List.mem_of_getElem? (i := 143) rfl)
set_option maxRecDepth 100000 in
theorem em_cw_29 : Cond.code (em_nm 29) (em_cd 29) (em_mx 29) (em_rt 29) ∈ lw_tbl := em_tb4 (List.mem_of_getElem? (i := 146) rfl)
set_option maxRecDepth 100000 in
theorem em_cw_30 : Cond.code (em_nm 30) (em_cd 30) (em_mx 30) (em_rt 30) ∈ lw_tbl := em_tb1 (List.mem_of_getElem? (i := 125) rfl)
set_option maxRecDepth 100000 in
theorem em_cw_31 : Cond.code (em_nm 31) (em_cd 31) (em_mx 31) (em_rt 31) ∈ lw_tbl := em_tb1 (List.mem_of_getElem? (i := 153) rfl)
set_option maxRecDepth 100000 in
theorem em_cw_32 : Cond.code (em_nm 32) (em_cd 32) (em_mx 32) (em_rt 32) ∈ lw_tbl := em_tb4 (List.mem_of_getElem? (i := 29) rfl)
set_option maxRecDepth 100000 in
theorem em_cw_33 : Cond.code (em_nm 33) (em_cd 33) (em_mx 33) (em_rt 33) ∈ lw_tbl := em_tb3 (List.mem_of_getElem? (i := 203) rfl)
set_option maxRecDepth 100000 in
theorem em_cw_34 : Cond.code (em_nm 34) (em_cd 34) (em_mx 34) (em_rt 34) ∈ lw_tbl := em_tb3 (List.mem_of_getElem? (i := 215) rfl)
set_option maxRecDepth 100000 in
theorem em_cw_35 : Cond.code (em_nm 35) (em_cd 35) (em_mx 35) (em_rt 35) ∈ lw_tbl := em_tb3 (List.mem_of_getElem? (i := 223) rfl)
set_option maxRecDepth 100000 in
theorem em_cw_36 : Cond.code (em_nm 36) (em_cd 36) (em_mx 36) (em_rt 36) ∈ lw_tbl := em_tb4 (List.mem_of_getElem? (i := 65) rfl)
set_option maxRecDepth 100000 in
theorem em_cw_37 : Cond.code (em_nm 37) (em_cd 37) (em_mx 37) (em_rt 37) ∈ lw_tbl := em_tb4 (List.mem_of_getElem? (i := 192) rfl)
set_option maxRecDepth 100000 in
theorem em_cw_38 : Cond.code (em_nm 38) (em_cd 38) (em_mx 38) (em_rt 38) ∈ lw_tbl := em_tb4 (List.mem_of_getElem? (i := 135) rfl)
set_option maxRecDepth 100000 in
theorem em_cw_39 : Cond.code (em_nm 39) (em_cd 39) (em_mx 39) (em_rt 39) ∈ lw_tbl := em_tb4 (List.mem_of_getElem? (i := 82) rfl)
set_option maxRecDepth 100000 in
theorem em_cw_40 : Cond.code (em_nm 40) (em_cd 40) (em_mx 40) (em_rt 40) ∈ lw_tbl := em_tb4 (List.mem_of_getElem? (i := 86) rfl)
set_option maxRecDepth 100000 in
theorem em_cw_41 : Cond.code (em_nm 41) (em_cd 41) (em_mx 41) (em_rt 41) ∈ lw_tbl := em_tb4 (List.mem_of_getElem? (i := 70) rfl)
set_option maxRecDepth 100000 in
theorem em_cw_42 : Cond.code (em_nm 42) (em_cd 42) (em_mx 42) (em_rt 42) ∈ lw_tbl := em_tb4 (List.mem_of_getElem? (i := 78) rfl)
set_option maxRecDepth 100000 in
theorem em_cw_43 : Cond.code (em_nm 43) (em_cd 43) (em_mx 43) (em_rt 43) ∈ lw_tbl := em_tb4 (List.mem_of_getElem? (i := 90) rfl)
set_option maxRecDepth 100000 in
theorem em_cw_44 : Cond.code (em_nm 44) (em_cd 44) (em_mx 44) (em_rt 44) ∈ lw_tbl := em_tb4 (List.mem_of_getElem? (i := 98) rfl)
set_option maxRecDepth 100000 in
theorem em_cw_45 : Cond.code (em_nm 45) (em_cd 45) (em_mx 45) (em_rt 45) ∈ lw_tbl := em_tb4 (List.mem_of_getElem? (i := 105) rfl)
set_option maxRecDepth 100000 in
theorem em_cw_46 : Cond.code (em_nm 46) (em_cd 46) (em_mx 46) (em_rt 46) ∈ lw_tbl := em_tb4 (List.mem_of_getElem? (i := 109) rfl)
set_option maxRecDepth 100000 in
theorem em_cw_47 : Cond.code (em_nm 47) (em_cd 47) (em_mx 47) (em_rt 47) ∈ lw_tbl := em_tb4 (List.mem_of_getElem? (i := 218) rfl)
set_option maxRecDepth 100000 in
theorem em_cw_48 : Cond.code (em_nm 48) (em_cd 48) (em_mx 48) (em_rt 48) ∈ lw_tbl := em_tb4 (List.mem_of_getElem? (i := 168) rfl)
set_option maxRecDepth 100000 in
theorem em_cw_49 : Cond.code (em_nm 49) (em_cd 49) (em_mx 49) (em_rt 49) ∈ lw_tbl := em_tb4 (List.mem_of_getElem? (i := 155) rfl)
set_option maxRecDepth 100000 in
theorem em_cw_50 : Cond.code (em_nm 50) (em_cd 50) (em_mx 50) (em_rt 50) ∈ lw_tbl := em_tb4 (List.mem_of_getElem? (i := 159) rfl)
set_option maxRecDepth 100000 in
theorem em_cw_51 : Cond.code (em_nm 51) (em_cd 51) (em_mx 51) (em_rt 51) ∈ lw_tbl := em_tb4 (List.mem_of_getElem? (i := 162) rfl)
set_option maxRecDepth 100000 in
theorem em_cw_52 : Cond.code (em_nm 52) (em_cd 52) (em_mx 52) (em_rt 52) ∈ lw_tbl := em_tb5 (List.mem_of_getElem? (i := 60) rfl)
set_option maxRecDepth 100000 in
theorem em_cw_53 : Cond.code (em_nm 53) (em_cd 53) (em_mx 53) (em_rt 53) ∈ lw_tbl := em_tb4 (List.mem_of_getElem? (i := 233) rfl)
set_option maxRecDepth 100000 in
theorem em_cw_54 : Cond.code (em_nm 54) (em_cd 54) (em_mx 54) (em_rt 54) ∈ lw_tbl := em_tb5 (List.mem_of_getElem? (i := 138) rfl)
set_option maxRecDepth 100000 in
theorem em_cw_55 : Cond.code (em_nm 55) (em_cd 55) (em_mx 55) (em_rt 55) ∈ lw_tbl := em_tb5 (List.mem_of_getElem? (i := 69) rfl)
set_option maxRecDepth 100000 in
theorem em_cw_56 : Cond.code (em_nm 56) (em_cd 56) (em_mx 56) (em_rt 56) ∈ lw_tbl := em_tb5 (List.mem_of_getElem? (i := 77) rfl)
set_option maxRecDepth 100000 in
theorem em_cw_57 : Cond.code (em_nm 57) (em_cd 57) (em_mx 57) (em_rt 57) ∈ lw_tbl := em_tb2 (List.mem_of_getElem? (i := 210) rfl)
set_option maxRecDepth 100000 in
theorem em_cw_58 : Cond.code (em_nm 58) (em_cd 58) (em_mx 58) (em_rt 58) ∈ lw_tbl := em_tb5 (List.mem_of_getElem? (i := 25) rfl)
set_option maxRecDepth 100000 in
theorem em_cw_59 : Cond.code (em_nm 59) (em_cd 59) (em_mx 59) (em_rt 59) ∈ lw_tbl := em_tb5 (List.mem_of_getElem? (i := 31) rfl)
set_option maxRecDepth 100000 in
theorem em_cw_60 : Cond.code (em_nm 60) (em_cd 60) (em_mx 60) (em_rt 60) ∈ lw_tbl := em_tb5 (List.mem_of_getElem? (i := 85) rfl)
set_option maxRecDepth 100000 in
theorem em_cw_61 : Cond.code (em_nm 61) (em_cd 61) (em_mx 61) (em_rt 61) ∈ lw_tbl := em_tb5 (List.mem_of_getElem? (i := 147) rfl)
set_option maxRecDepth 100000 in
theorem em_cw_62 : Cond.code (em_nm 62) (em_cd 62) (em_mx 62) (em_rt 62) ∈ lw_tbl := em_tb5 (List.mem_of_getElem? (i := 151) rfl)
set_option maxRecDepth 100000 in
theorem em_cw_63 : Cond.code (em_nm 63) (em_cd 63) (em_mx 63) (em_rt 63) ∈ lw_tbl := em_tb5 (List.mem_of_getElem? (i := 217) rfl)
set_option maxRecDepth 100000 in
theorem em_cw_64 : Cond.code (em_nm 64) (em_cd 64) (em_mx 64) (em_rt 64) ∈ lw_tbl := em_tb5 (List.mem_of_getElem? (i := 226) rfl)
set_option maxRecDepth 100000 in
theorem em_cw_65 : Cond.code (em_nm 65) (em_cd 65) (em_mx 65) (em_rt 65) ∈ lw_tbl := em_tb6 (List.mem_of_getElem? (i := 0) rfl)
set_option maxRecDepth 100000 in
theorem em_cw_66 : Cond.code (em_nm 66) (em_cd 66) (em_mx 66) (em_rt 66) ∈ lw_tbl := em_tb6 (List.mem_of_getElem? (i := 5) rfl)
set_option maxRecDepth 100000 in
theorem em_cw_67 : Cond.code (em_nm 67) (em_cd 67) (em_mx 67) (em_rt 67) ∈ lw_tbl := em_tb1 (List.mem_of_getElem? (i := 228) rfl)
set_option maxRecDepth 100000 in
theorem em_cw_68 : Cond.code (em_nm 68) (em_cd 68) (em_mx 68) (em_rt 68) ∈ lw_tbl := em_tb3 (List.mem_of_getElem? (i := 67) rfl)
set_option maxRecDepth 100000 in
theorem em_cw_69 : Cond.code (em_nm 69) (em_cd 69) (em_mx 69) (em_rt 69) ∈ lw_tbl := em_tb3 (List.mem_of_getElem? (i := 71) rfl)
set_option maxRecDepth 100000 in
theorem em_cw_70 : Cond.code (em_nm 70) (em_cd 70) (em_mx 70) (em_rt 70) ∈ lw_tbl := em_tb3 (List.mem_of_getElem? (i := 171) rfl)
set_option maxRecDepth 100000 in
theorem em_cw_71 : Cond.code (em_nm 71) (em_cd 71) (em_mx 71) (em_rt 71) ∈ lw_tbl := em_tb3 (List.mem_of_getElem? (i := 175) rfl)
set_option maxRecDepth 100000 in
theorem em_cw_72 : Cond.code (em_nm 72) (em_cd 72) (em_mx 72) (em_rt 72) ∈ lw_tbl := em_tb3 (List.mem_of_getElem? (i := 187) rfl)
set_option maxRecDepth 100000 in
theorem em_cw_73 : Cond.code (em_nm 73) (em_cd 73) (em_mx 73) (em_rt 73) ∈ lw_tbl := em_tb3 (List.mem_of_getElem? (i := 211) rfl)
set_option maxRecDepth 100000 in
theorem em_cw_74 : Cond.code (em_nm 74) (em_cd 74) (em_mx 74) (em_rt 74) ∈ lw_tbl := em_tb4 (List.mem_of_getElem? (i := 17) rfl)
set_option maxRecDepth 100000 in
theorem em_cw_75 : Cond.code (em_nm 75) (em_cd 75) (em_mx 75) (em_rt 75) ∈ lw_tbl := em_tb4 (List.mem_of_getElem? (i := 21) rfl)
set_option maxRecDepth 100000 in
theorem em_cw_76 : Cond.code (em_nm 76) (em_cd 76) (em_mx 76) (em_rt 76) ∈ lw_tbl := em_tb4 (List.mem_of_getElem? (i := 25) rfl)
set_option maxRecDepth 100000 in
theorem em_cw_77 : Cond.code (em_nm 77) (em_cd 77) (em_mx 77) (em_rt 77) ∈ lw_tbl := em_tb3 (List.mem_of_getElem? (i := 227) rfl)
set_option maxRecDepth 100000 in
theorem em_cw_78 : Cond.code (em_nm 78) (em_cd 78) (em_mx 78) (em_rt 78) ∈ lw_tbl := em_tb3 (List.mem_of_getElem? (i := 232) rfl)
set_option maxRecDepth 100000 in
theorem em_cw_79 : Cond.code (em_nm 79) (em_cd 79) (em_mx 79) (em_rt 79) ∈ lw_tbl := em_tb3 (List.mem_of_getElem? (i := 236) rfl)
set_option maxRecDepth 100000 in
theorem em_cw_80 : Cond.code (em_nm 80) (em_cd 80) (em_mx 80) (em_rt 80) ∈ lw_tbl := em_tb4 (List.mem_of_getElem? (i := 0) rfl)
set_option maxRecDepth 100000 in
theorem em_cw_81 : Cond.code (em_nm 81) (em_cd 81) (em_mx 81) (em_rt 81) ∈ lw_tbl := em_tb3 (List.mem_of_getElem? (i := 207) rfl)
set_option maxRecDepth 100000 in
theorem em_cw_82 : Cond.code (em_nm 82) (em_cd 82) (em_mx 82) (em_rt 82) ∈ lw_tbl := em_tb3 (List.mem_of_getElem? (i := 195) rfl)
set_option maxRecDepth 100000 in
theorem em_cw_83 : Cond.code (em_nm 83) (em_cd 83) (em_mx 83) (em_rt 83) ∈ lw_tbl := em_tb3 (List.mem_of_getElem? (i := 199) rfl)
set_option maxRecDepth 100000 in
theorem em_cw_84 : Cond.code (em_nm 84) (em_cd 84) (em_mx 84) (em_rt 84) ∈ lw_tbl := em_tb3 (List.mem_of_getElem? (i := 183) rfl)
set_option maxRecDepth 100000 in
theorem em_cw_85 : Cond.code (em_nm 85) (em_cd 85) (em_mx 85) (em_rt 85) ∈ lw_tbl := em_tb3 (List.mem_of_getElem? (i := 179) rfl)
set_option maxRecDepth 100000 in
theorem em_cw_86 : Cond.code (em_nm 86) (em_cd 86) (em_mx 86) (em_rt 86) ∈ lw_tbl := em_tb3 (List.mem_of_getElem? (i := 191) rfl)
set_option maxRecDepth 100000 in
theorem em_cw_87 : Cond.code (em_nm 87) (em_cd 87) (em_mx 87) (em_rt 87) ∈ lw_tbl := em_tb2 (List.mem_of_getElem? (i := 104) rfl)
set_option maxRecDepth 100000 in
theorem em_cw_88 : Cond.code (em_nm 88) (em_cd 88) (em_mx 88) (em_rt 88) ∈ lw_tbl := em_tb5 (List.mem_of_getElem? (i := 205) rfl)
set_option maxRecDepth 100000 in
theorem em_cw_89 : Cond.code (em_nm 89) (em_cd 89) (em_mx 89) (em_rt 89) ∈ lw_tbl := em_tb4 (List.mem_of_getElem? (i := 49) rfl)
set_option maxRecDepth 100000 in
theorem em_cw_90 : Cond.code (em_nm 90) (em_cd 90) (em_mx 90) (em_rt 90) ∈ lw_tbl := em_tb5 (List.mem_of_getElem? (i := 221) rfl)
set_option maxRecDepth 100000 in
theorem em_cw_91 : Cond.code (em_nm 91) (em_cd 91) (em_mx 91) (em_rt 91) ∈ lw_tbl := em_tb5 (List.mem_of_getElem? (i := 231) rfl)
set_option maxRecDepth 100000 in
theorem em_cw_92 : Cond.code (em_nm 92) (em_cd 92) (em_mx 92) (em_rt 92) ∈ lw_tbl := em_tb1 (List.mem_of_getElem? (i := 35) rfl)
set_option maxRecDepth 100000 in
theorem em_cw_93 : Cond.code (em_nm 93) (em_cd 93) (em_mx 93) (em_rt 93) ∈ lw_tbl := em_tb3 (List.mem_of_getElem? (i := 55) rfl)
set_option maxRecDepth 100000 in
theorem em_cw_94 : Cond.code (em_nm 94) (em_cd 94) (em_mx 94) (em_rt 94) ∈ lw_tbl := em_tb3 (List.mem_of_getElem? (i := 76) rfl)
set_option maxRecDepth 100000 in
theorem em_cw_95 : Cond.code (em_nm 95) (em_cd 95) (em_mx 95) (em_rt 95) ∈ lw_tbl := em_tb3 (List.mem_of_getElem? (i := 80) rfl)
set_option maxRecDepth 100000 in
theorem em_cw_96 : Cond.code (em_nm 96) (em_cd 96) (em_mx 96) (em_rt 96) ∈ lw_tbl := em_tb3 (List.mem_of_getElem? (i := 84) rfl)
set_option maxRecDepth 100000 in
theorem em_cw_97 : Cond.code (em_nm 97) (em_cd 97) (em_mx 97) (em_rt 97) ∈ lw_tbl := em_tb3 (List.mem_of_getElem? (i := 94) rfl)
set_option maxRecDepth 100000 in
theorem em_cw_98 : Cond.code (em_nm 98) (em_cd 98) (em_mx 98) (em_rt 98) ∈ lw_tbl := em_tb3 (List.mem_of_getElem? (i := 98) rfl)
set_option maxRecDepth 100000 in
theorem em_cw_99 : Cond.code (em_nm 99) (em_cd 99) (em_mx 99) (em_rt 99) ∈ lw_tbl := em_tb3 (List.mem_of_getElem? (i := 105) rfl)
set_option maxRecDepth 100000 in
theorem em_cw_100 : Cond.code (em_nm 100) (em_cd 100) (em_mx 100) (em_rt 100) ∈ lw_tbl := em_tb1 (List.mem_of_getElem? (i := 88) rfl)
set_option maxRecDepth 100000 in
theorem em_cw_101 : Cond.code (em_nm 101) (em_cd 101) (em_mx 101) (em_rt 101) ∈ lw_tbl := em_tb3 (List.mem_of_getElem? (i := 87) rfl)
set_option maxRecDepth 100000 in
theorem em_cw_102 : Cond.code (em_nm 102) (em_cd 102) (em_mx 102) (em_rt 102) ∈ lw_tbl := em_tb3 (List.mem_of_getElem? (i := 90) rfl)
set_option maxRecDepth 100000 in
theorem em_cw_103 : Cond.code (em_nm 103) (em_cd 103) (em_mx 103) (em_rt 103) ∈ lw_tbl := em_tb3 (List.mem_of_getElem? (i := 101) rfl)
set_option maxRecDepth 100000 in
theorem em_cw_104 : Cond.code (em_nm 104) (em_cd 104) (em_mx 104) (em_rt 104) ∈ lw_tbl := em_tb2 (List.mem_of_getElem? (i := 150) rfl)
set_option maxRecDepth 100000 in
theorem em_cw_105 : Cond.code (em_nm 105) (em_cd 105) (em_mx 105) (em_rt 105) ∈ lw_tbl := em_tb4 (List.mem_of_getElem? (i := 229) rfl)
set_option maxRecDepth 100000 in
theorem em_cw_106 : Cond.code (em_nm 106) (em_cd 106) (em_mx 106) (em_rt 106) ∈ lw_tbl := em_tb4 (List.mem_of_getElem? (i := 239) rfl)
set_option maxRecDepth 100000 in
theorem em_cw_107 : Cond.code (em_nm 107) (em_cd 107) (em_mx 107) (em_rt 107) ∈ lw_tbl := em_tb5 (List.mem_of_getElem? (i := 3) rfl)
set_option maxRecDepth 100000 in
theorem em_cw_108 : Cond.code (em_nm 108) (em_cd 108) (em_mx 108) (em_rt 108) ∈ lw_tbl := em_tb5 (List.mem_of_getElem? (i := 13) rfl)
set_option maxRecDepth 100000 in
theorem em_cw_109 : Cond.code (em_nm 109) (em_cd 109) (em_mx 109) (em_rt 109) ∈ lw_tbl := em_tb5 (List.mem_of_getElem? (i := 43) rfl)
set_option maxRecDepth 100000 in
theorem em_cw_110 : Cond.code (em_nm 110) (em_cd 110) (em_mx 110) (em_rt 110) ∈ lw_tbl := em_tb2 (List.mem_of_getElem? (i := 185) rfl)
set_option maxRecDepth 100000 in
theorem em_cw_111 : Cond.code (em_nm 111) (em_cd 111) (em_mx 111) (em_rt 111) ∈ lw_tbl := em_tb5 (List.mem_of_getElem? (i := 109) rfl)
set_option maxRecDepth 100000 in
theorem em_cw_112 : Cond.code (em_nm 112) (em_cd 112) (em_mx 112) (em_rt 112) ∈ lw_tbl := em_tb5 (List.mem_of_getElem? (i := 98) rfl)
set_option maxRecDepth 100000 in
theorem em_cw_113 : Cond.code (em_nm 113) (em_cd 113) (em_mx 113) (em_rt 113) ∈ lw_tbl := em_tb5 (List.mem_of_getElem? (i := 165) rfl)
set_option maxRecDepth 100000 in
theorem em_cw_114 : Cond.code (em_nm 114) (em_cd 114) (em_mx 114) (em_rt 114) ∈ lw_tbl := em_tb5 (List.mem_of_getElem? (i := 121) rfl)
set_option maxRecDepth 100000 in
theorem em_cw_115 : Cond.code (em_nm 115) (em_cd 115) (em_mx 115) (em_rt 115) ∈ lw_tbl := em_tb5 (List.mem_of_getElem? (i := 117) rfl)
set_option maxRecDepth 100000 in
theorem em_cw_116 : Cond.code (em_nm 116) (em_cd 116) (em_mx 116) (em_rt 116) ∈ lw_tbl := em_tb5 (List.mem_of_getElem? (i := 125) rfl)
set_option maxRecDepth 100000 in
theorem em_cw_117 : Cond.code (em_nm 117) (em_cd 117) (em_mx 117) (em_rt 117) ∈ lw_tbl := em_tb5 (List.mem_of_getElem? (i := 94) rfl)
set_option maxRecDepth 100000 in
theorem em_cw_118 : Cond.code (em_nm 118) (em_cd 118) (em_mx 118) (em_rt 118) ∈ lw_tbl := em_tb5 (List.mem_of_getElem? (i := 102) rfl)
set_option maxRecDepth 100000 in
theorem em_cw_119 : Cond.code (em_nm 119) (em_cd 119) (em_mx 119) (em_rt 119) ∈ lw_tbl := em_tb5 (List.mem_of_getElem? (i := 173) rfl)
set_option maxRecDepth 100000 in
theorem em_cw_120 : Cond.code (em_nm 120) (em_cd 120) (em_mx 120) (em_rt 120) ∈ lw_tbl := em_tb5 (List.mem_of_getElem? (i := 178) rfl)
set_option maxRecDepth 100000 in
theorem em_cw_121 : Cond.code (em_nm 121) (em_cd 121) (em_mx 121) (em_rt 121) ∈ lw_tbl := em_tb1 (List.mem_of_getElem? (i := 27) rfl)
set_option maxRecDepth 100000 in
theorem em_cw_122 : Cond.code (em_nm 122) (em_cd 122) (em_mx 122) (em_rt 122) ∈ lw_tbl := em_tb3 (List.mem_of_getElem? (i := 51) rfl)
set_option maxRecDepth 100000 in
theorem em_cw_123 : Cond.code (em_nm 123) (em_cd 123) (em_mx 123) (em_rt 123) ∈ lw_tbl := em_tb3 (List.mem_of_getElem? (i := 59) rfl)
set_option maxRecDepth 100000 in
theorem em_cw_124 : Cond.code (em_nm 124) (em_cd 124) (em_mx 124) (em_rt 124) ∈ lw_tbl := em_tb3 (List.mem_of_getElem? (i := 63) rfl)
set_option maxRecDepth 100000 in
theorem em_cw_125 : Cond.code (em_nm 125) (em_cd 125) (em_mx 125) (em_rt 125) ∈ lw_tbl := em_tb4 (List.mem_of_getElem? (i := 57) rfl)
set_option maxRecDepth 100000 in
theorem em_cw_126 : Cond.code (em_nm 126) (em_cd 126) (em_mx 126) (em_rt 126) ∈ lw_tbl := em_tb4 (List.mem_of_getElem? (i := 61) rfl)
set_option maxRecDepth 100000 in
theorem em_cw_127 : Cond.code (em_nm 127) (em_cd 127) (em_mx 127) (em_rt 127) ∈ lw_tbl := em_tb4 (List.mem_of_getElem? (i := 113) rfl)
set_option maxRecDepth 100000 in
theorem em_cw_128 : Cond.code (em_nm 128) (em_cd 128) (em_mx 128) (em_rt 128) ∈ lw_tbl := em_tb4 (List.mem_of_getElem? (i := 131) rfl)
set_option maxRecDepth 100000 in
theorem em_cw_129 : Cond.code (em_nm 129) (em_cd 129) (em_mx 129) (em_rt 129) ∈ lw_tbl := em_tb4 (List.mem_of_getElem? (i := 139) rfl)
set_option maxRecDepth 100000 in
theorem em_cw_130 : Cond.code (em_nm 130) (em_cd 130) (em_mx 130) (em_rt 130) ∈ lw_tbl := em_tb4 (List.mem_of_getElem? (i := 150) rfl)
set_option maxRecDepth 100000 in
theorem em_cw_131 : Cond.code (em_nm 131) (em_cd 131) (em_mx 131) (em_rt 131) ∈ lw_tbl := em_tb4 (List.mem_of_getElem? (i := 180) rfl)
set_option maxRecDepth 100000 in
theorem em_cw_132 : Cond.code (em_nm 132) (em_cd 132) (em_mx 132) (em_rt 132) ∈ lw_tbl := em_tb4 (List.mem_of_getElem? (i := 188) rfl)
set_option maxRecDepth 100000 in
theorem em_cw_133 : Cond.code (em_nm 133) (em_cd 133) (em_mx 133) (em_rt 133) ∈ lw_tbl := em_tb4 (List.mem_of_getElem? (i := 222) rfl)
set_option maxRecDepth 100000 in
theorem em_cw_134 : Cond.code (em_nm 134) (em_cd 134) (em_mx 134) (em_rt 134) ∈ lw_tbl := em_tb5 (List.mem_of_getElem? (i := 9) rfl)
set_option maxRecDepth 100000 in
theorem em_cw_135 : Cond.code (em_nm 135) (em_cd 135) (em_mx 135) (em_rt 135) ∈ lw_tbl := em_tb5 (List.mem_of_getElem? (i := 17) rfl)
set_option maxRecDepth 100000 in
theorem em_cw_136 : Cond.code (em_nm 136) (em_cd 136) (em_mx 136) (em_rt 136) ∈ lw_tbl := em_tb5 (List.mem_of_getElem? (i := 21) rfl)
set_option maxRecDepth 100000 in
theorem em_cw_137 : Cond.code (em_nm 137) (em_cd 137) (em_mx 137) (em_rt 137) ∈ lw_tbl := em_tb5 (List.mem_of_getElem? (i := 35) rfl)
set_option maxRecDepth 100000 in
theorem em_cw_138 : Cond.code (em_nm 138) (em_cd 138) (em_mx 138) (em_rt 138) ∈ lw_tbl := em_tb5 (List.mem_of_getElem? (i := 39) rfl)
set_option maxRecDepth 100000 in
theorem em_cw_139 : Cond.code (em_nm 139) (em_cd 139) (em_mx 139) (em_rt 139) ∈ lw_tbl := em_tb5 (List.mem_of_getElem? (i := 49) rfl)
set_option maxRecDepth 100000 in
theorem em_cw_140 : Cond.code (em_nm 140) (em_cd 140) (em_mx 140) (em_rt 140) ∈ lw_tbl := em_tb5 (List.mem_of_getElem? (i := 55) rfl)
set_option maxRecDepth 100000 in
theorem em_cw_141 : Cond.code (em_nm 141) (em_cd 141) (em_mx 141) (em_rt 141) ∈ lw_tbl := em_tb5 (List.mem_of_getElem? (i := 65) rfl)
set_option maxRecDepth 100000 in
theorem em_cw_142 : Cond.code (em_nm 142) (em_cd 142) (em_mx 142) (em_rt 142) ∈ lw_tbl := em_tb5 (List.mem_of_getElem? (i := 73) rfl)
set_option maxRecDepth 100000 in
theorem em_cw_143 : Cond.code (em_nm 143) (em_cd 143) (em_mx 143) (em_rt 143) ∈ lw_tbl := em_tb5 (List.mem_of_getElem? (i := 81) rfl)
set_option maxRecDepth 100000 in
theorem em_cw_144 : Cond.code (em_nm 144) (em_cd 144) (em_mx 144) (em_rt 144) ∈ lw_tbl := em_tb5 (List.mem_of_getElem? (i := 90) rfl)
set_option maxRecDepth 100000 in
theorem em_cw_145 : Cond.code (em_nm 145) (em_cd 145) (em_mx 145) (em_rt 145) ∈ lw_tbl := em_tb5 (List.mem_of_getElem? (i := 113) rfl)
set_option maxRecDepth 100000 in
theorem em_cw_146 : Cond.code (em_nm 146) (em_cd 146) (em_mx 146) (em_rt 146) ∈ lw_tbl := em_tb5 (List.mem_of_getElem? (i := 130) rfl)
set_option maxRecDepth 100000 in
theorem em_cw_147 : Cond.code (em_nm 147) (em_cd 147) (em_mx 147) (em_rt 147) ∈ lw_tbl := em_tb5 (List.mem_of_getElem? (i := 134) rfl)
set_option maxRecDepth 100000 in
theorem em_cw_148 : Cond.code (em_nm 148) (em_cd 148) (em_mx 148) (em_rt 148) ∈ lw_tbl := em_tb5 (List.mem_of_getElem? (i := 143) rfl)
set_option maxRecDepth 100000 in
theorem em_cw_149 : Cond.code (em_nm 149) (em_cd 149) (em_mx 149) (em_rt 149) ∈ lw_tbl := em_tb5 (List.mem_of_getElem? (i := 156) rfl)
set_option maxRecDepth 100000 in
theorem em_cw_150 : Cond.code (em_nm 150) (em_cd 150) (em_mx 150) (em_rt 150) ∈ lw_tbl := em_tb5 (List.mem_of_getElem? (i := 161) rfl)
set_option maxRecDepth 100000 in
theorem em_cw_151 : Cond.code (em_nm 151) (em_cd 151) (em_mx 151) (em_rt 151) ∈ lw_tbl := em_tb5 (List.mem_of_getElem? (i := 169) rfl)
set_option maxRecDepth 100000 in
theorem em_cw_152 : Cond.code (em_nm 152) (em_cd 152) (em_mx 152) (em_rt 152) ∈ lw_tbl := em_tb5 (List.mem_of_getElem? (i := 184) rfl)
set_option maxRecDepth 100000 in
theorem em_cw_153 : Cond.code (em_nm 153) (em_cd 153) (em_mx 153) (em_rt 153) ∈ lw_tbl := em_tb5 (List.mem_of_getElem? (i := 188) rfl)
set_option maxRecDepth 100000 in
theorem em_cw_154 : Cond.code (em_nm 154) (em_cd 154) (em_mx 154) (em_rt 154) ∈ lw_tbl := em_tb5 (List.mem_of_getElem? (i := 197) rfl)
set_option maxRecDepth 100000 in
theorem em_cw_155 : Cond.code (em_nm 155) (em_cd 155) (em_mx 155) (em_rt 155) ∈ lw_tbl := em_tb5 (List.mem_of_getElem? (i := 201) rfl)
set_option maxRecDepth 100000 in
theorem em_cw_156 : Cond.code (em_nm 156) (em_cd 156) (em_mx 156) (em_rt 156) ∈ lw_tbl := em_tb5 (List.mem_of_getElem? (i := 209) rfl)
set_option maxRecDepth 100000 in
theorem em_cw_157 : Cond.code (em_nm 157) (em_cd 157) (em_mx 157) (em_rt 157) ∈ lw_tbl := em_tb5 (List.mem_of_getElem? (i := 213) rfl)
set_option maxRecDepth 100000 in
theorem em_cw_158 : Cond.code (em_nm 158) (em_cd 158) (em_mx 158) (em_rt 158) ∈ lw_tbl := em_tb5 (List.mem_of_getElem? (i := 236) rfl)
set_option maxRecDepth 100000 in
theorem em_cw_159 : Cond.code (em_nm 159) (em_cd 159) (em_mx 159) (em_rt 159) ∈ lw_tbl := em_tb6 (List.mem_of_getElem? (i := 10) rfl)
set_option maxRecDepth 100000 in
theorem em_cw_160 : Cond.code (em_nm 160) (em_cd 160) (em_mx 160) (em_rt 160) ∈ lw_tbl := em_tb6 (List.mem_of_getElem? (i := 19) rfl)
set_option maxRecDepth 100000 in
theorem em_cw_161 : Cond.code (em_nm 161) (em_cd 161) (em_mx 161) (em_rt 161) ∈ lw_tbl := em_tb6 (List.mem_of_getElem? (i := 27) rfl)
set_option maxRecDepth 100000 in
theorem em_cw_162 : Cond.code (em_nm 162) (em_cd 162) (em_mx 162) (em_rt 162) ∈ lw_tbl := em_tb4 (List.mem_of_getElem? (i := 117) rfl)
set_option maxRecDepth 100000 in
theorem em_cw_163 : Cond.code (em_nm 163) (em_cd 163) (em_mx 163) (em_rt 163) ∈ lw_tbl := em_tb4 (List.mem_of_getElem? (i := 225) rfl)
set_option maxRecDepth 100000 in
theorem em_cw_164 : Cond.code (em_nm 164) (em_cd 164) (em_mx 164) (em_rt 164) ∈ lw_tbl := em_tb3 (List.mem_of_getElem? (i := 218) rfl)
set_option maxRecDepth 100000 in
theorem em_cw_165 : Cond.code (em_nm 165) (em_cd 165) (em_mx 165) (em_rt 165) ∈ lw_tbl := em_tb4 (List.mem_of_getElem? (i := 101) rfl)
set_option maxRecDepth 100000 in
theorem em_cw_166 : Cond.code (em_nm 166) (em_cd 166) (em_mx 166) (em_rt 166) ∈ lw_tbl := em_tb6 (List.mem_of_getElem? (i := 35) rfl)
set_option maxRecDepth 100000 in
theorem em_cw_167 : Cond.code (em_nm 167) (em_cd 167) (em_mx 167) (em_rt 167) ∈ lw_tbl := em_tb6 (List.mem_of_getElem? (i := 40) rfl)
set_option maxRecDepth 100000 in
theorem em_cw_168 : Cond.code (em_nm 168) (em_cd 168) (em_mx 168) (em_rt 168) ∈ lw_tbl := em_tb7 (List.mem_of_getElem? (i := 23) rfl)
set_option maxRecDepth 100000 in
theorem em_cw_169 : Cond.code (em_nm 169) (em_cd 169) (em_mx 169) (em_rt 169) ∈ lw_tbl := em_tb7 (List.mem_of_getElem? (i := 27) rfl)
set_option maxRecDepth 100000 in
theorem em_cw_170 : Cond.code (em_nm 170) (em_cd 170) (em_mx 170) (em_rt 170) ∈ lw_tbl := em_tb7 (List.mem_of_getElem? (i := 31) rfl)
set_option maxRecDepth 100000 in
theorem em_cw_171 : Cond.code (em_nm 171) (em_cd 171) (em_mx 171) (em_rt 171) ∈ lw_tbl := em_tb7 (List.mem_of_getElem? (i := 43) rfl)
set_option maxRecDepth 100000 in
theorem em_cw_172 : Cond.code (em_nm 172) (em_cd 172) (em_mx 172) (em_rt 172) ∈ lw_tbl := em_tb7 (List.mem_of_getElem? (i := 53) rfl)
set_option maxRecDepth 100000 in
theorem em_cw_173 : Cond.code (em_nm 173) (em_cd 173) (em_mx 173) (em_rt 173) ∈ lw_tbl := em_tb7 (List.mem_of_getElem? (i := 50) rfl)
set_option maxRecDepth 100000 in
theorem em_cw_174 : Cond.code (em_nm 174) (em_cd 174) (em_mx 174) (em_rt 174) ∈ lw_tbl := em_tb6 (List.mem_of_getElem? (i := 51) rfl)
set_option maxRecDepth 100000 in
theorem em_cw_175 : Cond.code (em_nm 175) (em_cd 175) (em_mx 175) (em_rt 175) ∈ lw_tbl := em_tb6 (List.mem_of_getElem? (i := 48) rfl)
set_option maxRecDepth 100000 in
theorem em_cw_176 : Cond.code (em_nm 176) (em_cd 176) (em_mx 176) (em_rt 176) ∈ lw_tbl := em_tb7 (List.mem_of_getElem? (i := 47) rfl)
set_option maxRecDepth 100000 in
theorem em_cw_177 : Cond.code (em_nm 177) (em_cd 177) (em_mx 177) (em_rt 177) ∈ lw_tbl := em_tb7 (List.mem_of_getElem? (i := 39) rfl)
set_option maxRecDepth 100000 in
theorem em_cw_178 : Cond.code (em_nm 178) (em_cd 178) (em_mx 178) (em_rt 178) ∈ lw_tbl := em_tb7 (List.mem_of_getElem? (i := 57) rfl)
set_option maxRecDepth 100000 in
theorem em_cw_179 : Cond.code (em_nm 179) (em_cd 179) (em_mx 179) (em_rt 179) ∈ lw_tbl := em_tb7 (List.mem_of_getElem? (i := 61) rfl)
set_option maxRecDepth 100000 in
theorem em_cw_180 : Cond.code (em_nm 180) (em_cd 180) (em_mx 180) (em_rt 180) ∈ lw_tbl := em_tb7 (List.mem_of_getElem? (i := 73) rfl)
set_option maxRecDepth 100000 in
theorem em_cw_181 : Cond.code (em_nm 181) (em_cd 181) (em_mx 181) (em_rt 181) ∈ lw_tbl := em_tb7 (List.mem_of_getElem? (i := 89) rfl)
set_option maxRecDepth 100000 in
theorem em_cw_182 : Cond.code (em_nm 182) (em_cd 182) (em_mx 182) (em_rt 182) ∈ lw_tbl := em_tb7 (List.mem_of_getElem? (i := 77) rfl)
set_option maxRecDepth 100000 in
theorem em_cw_183 : Cond.code (em_nm 183) (em_cd 183) (em_mx 183) (em_rt 183) ∈ lw_tbl := em_tb7 (List.mem_of_getElem? (i := 85) rfl)
set_option maxRecDepth 100000 in
theorem em_cw_184 : Cond.code (em_nm 184) (em_cd 184) (em_mx 184) (em_rt 184) ∈ lw_tbl := em_tb6 (List.mem_of_getElem? (i := 45) rfl)
set_option maxRecDepth 100000 in
theorem em_cw_185 : Cond.code (em_nm 185) (em_cd 185) (em_mx 185) (em_rt 185) ∈ lw_tbl := em_tb7 (List.mem_of_getElem? (i := 35) rfl)
set_option maxRecDepth 100000 in
theorem em_cw_186 : Cond.code (em_nm 186) (em_cd 186) (em_mx 186) (em_rt 186) ∈ lw_tbl := em_tb7 (List.mem_of_getElem? (i := 129) rfl)
set_option maxRecDepth 100000 in
theorem em_cw_187 : Cond.code (em_nm 187) (em_cd 187) (em_mx 187) (em_rt 187) ∈ lw_tbl := em_tb7 (List.mem_of_getElem? (i := 125) rfl)
set_option maxRecDepth 100000 in
theorem em_cw_188 : Cond.code (em_nm 188) (em_cd 188) (em_mx 188) (em_rt 188) ∈ lw_tbl := em_tb7 (List.mem_of_getElem? (i := 69) rfl)
set_option maxRecDepth 100000 in
theorem em_cw_189 : Cond.code (em_nm 189) (em_cd 189) (em_mx 189) (em_rt 189) ∈ lw_tbl := em_tb7 (List.mem_of_getElem? (i := 97) rfl)
set_option maxRecDepth 100000 in
theorem em_cw_190 : Cond.code (em_nm 190) (em_cd 190) (em_mx 190) (em_rt 190) ∈ lw_tbl := em_tb7 (List.mem_of_getElem? (i := 65) rfl)
set_option maxRecDepth 100000 in
theorem em_cw_191 : Cond.code (em_nm 191) (em_cd 191) (em_mx 191) (em_rt 191) ∈ lw_tbl := em_tb7 (List.mem_of_getElem? (i := 93) rfl)
set_option maxRecDepth 100000 in
theorem em_cw_192 : Cond.code (em_nm 192) (em_cd 192) (em_mx 192) (em_rt 192) ∈ lw_tbl := em_tb7 (List.mem_of_getElem? (i := 81) rfl)
set_option maxRecDepth 100000 in
theorem em_cw_193 : Cond.code (em_nm 193) (em_cd 193) (em_mx 193) (em_rt 193) ∈ lw_tbl := em_tb7 (List.mem_of_getElem? (i := 101) rfl)
set_option maxRecDepth 100000 in
theorem em_cw_194 : Cond.code (em_nm 194) (em_cd 194) (em_mx 194) (em_rt 194) ∈ lw_tbl := em_tb7 (List.mem_of_getElem? (i := 121) rfl)
set_option maxRecDepth 100000 in
theorem em_cw_195 : Cond.code (em_nm 195) (em_cd 195) (em_mx 195) (em_rt 195) ∈ lw_tbl := em_tb7 (List.mem_of_getElem? (i := 113) rfl)
set_option maxRecDepth 100000 in
theorem em_cw_196 : Cond.code (em_nm 196) (em_cd 196) (em_mx 196) (em_rt 196) ∈ lw_tbl := em_tb7 (List.mem_of_getElem? (i := 117) rfl)
set_option maxRecDepth 100000 in
theorem em_cw_197 : Cond.code (em_nm 197) (em_cd 197) (em_mx 197) (em_rt 197) ∈ lw_tbl := em_tb7 (List.mem_of_getElem? (i := 105) rfl)
set_option maxRecDepth 100000 in
theorem em_cw_198 : Cond.code (em_nm 198) (em_cd 198) (em_mx 198) (em_rt 198) ∈ lw_tbl := em_tb7 (List.mem_of_getElem? (i := 109) rfl)
set_option maxRecDepth 100000 in
theorem em_cw_199 : Cond.code (em_nm 199) (em_cd 199) (em_mx 199) (em_rt 199) ∈ lw_tbl := em_tb7 (List.mem_of_getElem? (i := 165) rfl)
set_option maxRecDepth 100000 in
theorem em_cw_200 : Cond.code (em_nm 200) (em_cd 200) (em_mx 200) (em_rt 200) ∈ lw_tbl := em_tb7 (List.mem_of_getElem? (i := 140) rfl)
set_option maxRecDepth 100000 in
theorem em_cw_201 : Cond.code (em_nm 201) (em_cd 201) (em_mx 201) (em_rt 201) ∈ lw_tbl := em_tb7 (List.mem_of_getElem? (i := 172) rfl)
set_option maxRecDepth 100000 in
theorem em_cw_202 : Cond.code (em_nm 202) (em_cd 202) (em_mx 202) (em_rt 202) ∈ lw_tbl := em_tb8 (List.mem_of_getElem? (i := 37) rfl)
set_option maxRecDepth 100000 in
theorem em_cw_203 : Cond.code (em_nm 203) (em_cd 203) (em_mx 203) (em_rt 203) ∈ lw_tbl := em_tb6 (List.mem_of_getElem? (i := 60) rfl)
set_option maxRecDepth 100000 in
theorem em_cw_204 : Cond.code (em_nm 204) (em_cd 204) (em_mx 204) (em_rt 204) ∈ lw_tbl := em_tb7 (List.mem_of_getElem? (i := 137) rfl)
set_option maxRecDepth 100000 in
theorem em_cw_205 : Cond.code (em_nm 205) (em_cd 205) (em_mx 205) (em_rt 205) ∈ lw_tbl := em_tb7 (List.mem_of_getElem? (i := 239) rfl)
set_option maxRecDepth 100000 in
theorem em_cw_206 : Cond.code (em_nm 206) (em_cd 206) (em_mx 206) (em_rt 206) ∈ lw_tbl := em_tb7 (List.mem_of_getElem? (i := 235) rfl)
set_option maxRecDepth 100000 in
theorem em_cw_207 : Cond.code (em_nm 207) (em_cd 207) (em_mx 207) (em_rt 207) ∈ lw_tbl := em_tb6 (List.mem_of_getElem? (i := 56) rfl)
set_option maxRecDepth 100000 in
theorem em_cw_208 : Cond.code (em_nm 208) (em_cd 208) (em_mx 208) (em_rt 208) ∈ lw_tbl := em_tb6 (List.mem_of_getElem? (i := 64) rfl)
set_option maxRecDepth 100000 in
theorem em_cw_209 : Cond.code (em_nm 209) (em_cd 209) (em_mx 209) (em_rt 209) ∈ lw_tbl := em_tb7 (List.mem_of_getElem? (i := 145) rfl)
set_option maxRecDepth 100000 in
theorem em_cw_210 : Cond.code (em_nm 210) (em_cd 210) (em_mx 210) (em_rt 210) ∈ lw_tbl := em_tb8 (List.mem_of_getElem? (i := 7) rfl)
set_option maxRecDepth 100000 in
theorem em_cw_211 : Cond.code (em_nm 211) (em_cd 211) (em_mx 211) (em_rt 211) ∈ lw_tbl := em_tb7 (List.mem_of_getElem? (i := 222) rfl)
set_option maxRecDepth 100000 in
theorem em_cw_212 : Cond.code (em_nm 212) (em_cd 212) (em_mx 212) (em_rt 212) ∈ lw_tbl := em_tb7 (List.mem_of_getElem? (i := 219) rfl)
set_option maxRecDepth 100000 in
theorem em_cw_213 : Cond.code (em_nm 213) (em_cd 213) (em_mx 213) (em_rt 213) ∈ lw_tbl := em_tb7 (List.mem_of_getElem? (i := 157) rfl)
set_option maxRecDepth 100000 in
theorem em_cw_214 : Cond.code (em_nm 214) (em_cd 214) (em_mx 214) (em_rt 214) ∈ lw_tbl := em_tb7 (List.mem_of_getElem? (i := 153) rfl)
set_option maxRecDepth 100000 in
theorem em_cw_215 : Cond.code (em_nm 215) (em_cd 215) (em_mx 215) (em_rt 215) ∈ lw_tbl := em_tb7 (List.mem_of_getElem? (i := 161) rfl)
set_option maxRecDepth 100000 in
theorem em_cw_216 : Cond.code (em_nm 216) (em_cd 216) (em_mx 216) (em_rt 216) ∈ lw_tbl := em_tb7 (List.mem_of_getElem? (i := 149) rfl)
set_option maxRecDepth 100000 in
theorem em_cw_217 : Cond.code (em_nm 217) (em_cd 217) (em_mx 217) (em_rt 217) ∈ lw_tbl := em_tb7 (List.mem_of_getElem? (i := 169) rfl)
set_option maxRecDepth 100000 in
theorem em_cw_218 : Cond.code (em_nm 218) (em_cd 218) (em_mx 218) (em_rt 218) ∈ lw_tbl := em_tb7 (List.mem_of_getElem? (i := 176) rfl)
set_option maxRecDepth 100000 in
theorem em_cw_219 : Cond.code (em_nm 219) (em_cd 219) (em_mx 219) (em_rt 219) ∈ lw_tbl := em_tb7 (List.mem_of_getElem? (i := 180) rfl)
set_option maxRecDepth 100000 in
theorem em_cw_220 : Cond.code (em_nm 220) (em_cd 220) (em_mx 220) (em_rt 220) ∈ lw_tbl := em_tb8 (List.mem_of_getElem? (i := 15) rfl)
set_option maxRecDepth 100000 in
theorem em_cw_221 : Cond.code (em_nm 221) (em_cd 221) (em_mx 221) (em_rt 221) ∈ lw_tbl := em_tb8 (List.mem_of_getElem? (i := 11) rfl)
set_option maxRecDepth 100000 in
theorem em_cw_222 : Cond.code (em_nm 222) (em_cd 222) (em_mx 222) (em_rt 222) ∈ lw_tbl := em_tb7 (List.mem_of_getElem? (i := 215) rfl)
set_option maxRecDepth 100000 in
theorem em_cw_223 : Cond.code (em_nm 223) (em_cd 223) (em_mx 223) (em_rt 223) ∈ lw_tbl := em_tb7 (List.mem_of_getElem? (i := 211) rfl)
set_option maxRecDepth 100000 in
theorem em_cw_224 : Cond.code (em_nm 224) (em_cd 224) (em_mx 224) (em_rt 224) ∈ lw_tbl := em_tb8 (List.mem_of_getElem? (i := 3) rfl)
set_option maxRecDepth 100000 in
theorem em_cw_225 : Cond.code (em_nm 225) (em_cd 225) (em_mx 225) (em_rt 225) ∈ lw_tbl := em_tb8 (List.mem_of_getElem? (i := 41) rfl)
set_option maxRecDepth 100000 in
theorem em_cw_226 : Cond.code (em_nm 226) (em_cd 226) (em_mx 226) (em_rt 226) ∈ lw_tbl := em_tb7 (List.mem_of_getElem? (i := 133) rfl)
set_option maxRecDepth 100000 in
theorem em_cw_227 : Cond.code (em_nm 227) (em_cd 227) (em_mx 227) (em_rt 227) ∈ lw_tbl := em_tb7 (List.mem_of_getElem? (i := 188) rfl)
set_option maxRecDepth 100000 in
theorem em_cw_228 : Cond.code (em_nm 228) (em_cd 228) (em_mx 228) (em_rt 228) ∈ lw_tbl := em_tb7 (List.mem_of_getElem? (i := 184) rfl)
set_option maxRecDepth 100000 in
theorem em_cw_229 : Cond.code (em_nm 229) (em_cd 229) (em_mx 229) (em_rt 229) ∈ lw_tbl := em_tb7 (List.mem_of_getElem? (i := 192) rfl)
set_option maxRecDepth 100000 in
theorem em_cw_230 : Cond.code (em_nm 230) (em_cd 230) (em_mx 230) (em_rt 230) ∈ lw_tbl := em_tb7 (List.mem_of_getElem? (i := 200) rfl)
set_option maxRecDepth 100000 in
theorem em_cw_231 : Cond.code (em_nm 231) (em_cd 231) (em_mx 231) (em_rt 231) ∈ lw_tbl := em_tb7 (List.mem_of_getElem? (i := 196) rfl)
set_option maxRecDepth 100000 in
theorem em_cw_232 : Cond.code (em_nm 232) (em_cd 232) (em_mx 232) (em_rt 232) ∈ lw_tbl := em_tb7 (List.mem_of_getElem? (i := 207) rfl)
set_option maxRecDepth 100000 in
theorem em_cw_233 : Cond.code (em_nm 233) (em_cd 233) (em_mx 233) (em_rt 233) ∈ lw_tbl := em_tb8 (List.mem_of_getElem? (i := 22) rfl)
set_option maxRecDepth 100000 in
theorem em_cw_234 : Cond.code (em_nm 234) (em_cd 234) (em_mx 234) (em_rt 234) ∈ lw_tbl := em_tb7 (List.mem_of_getElem? (i := 204) rfl)
set_option maxRecDepth 100000 in
theorem em_cw_235 : Cond.code (em_nm 235) (em_cd 235) (em_mx 235) (em_rt 235) ∈ lw_tbl := em_tb7 (List.mem_of_getElem? (i := 227) rfl)
set_option maxRecDepth 100000 in
theorem em_cw_236 : Cond.code (em_nm 236) (em_cd 236) (em_mx 236) (em_rt 236) ∈ lw_tbl := em_tb7 (List.mem_of_getElem? (i := 231) rfl)
set_option maxRecDepth 100000 in
theorem em_cw_237 : Cond.code (em_nm 237) (em_cd 237) (em_mx 237) (em_rt 237) ∈ lw_tbl := em_tb8 (List.mem_of_getElem? (i := 30) rfl)
set_option maxRecDepth 100000 in
theorem em_cw_238 : Cond.code (em_nm 238) (em_cd 238) (em_mx 238) (em_rt 238) ∈ lw_tbl := em_tb8 (List.mem_of_getElem? (i := 34) rfl)
set_option maxRecDepth 100000 in
theorem em_cw_239 : Cond.code (em_nm 239) (em_cd 239) (em_mx 239) (em_rt 239) ∈ lw_tbl := em_tb8 (List.mem_of_getElem? (i := 26) rfl)
set_option maxRecDepth 100000 in
theorem em_cw_240 : Cond.code (em_nm 240) (em_cd 240) (em_mx 240) (em_rt 240) ∈ lw_tbl := em_tb8 (List.mem_of_getElem? (i := 19) rfl)
set_option maxRecDepth 100000 in
theorem em_cw_241 : Cond.code (em_nm 241) (em_cd 241) (em_mx 241) (em_rt 241) ∈ lw_tbl := em_tb8 (List.mem_of_getElem? (i := 45) rfl)
set_option maxRecDepth 100000 in
theorem em_cw_242 : Cond.code (em_nm 242) (em_cd 242) (em_mx 242) (em_rt 242) ∈ lw_tbl := em_tb8 (List.mem_of_getElem? (i := 49) rfl)
set_option maxRecDepth 100000 in
theorem em_cw_243 : Cond.code (em_nm 243) (em_cd 243) (em_mx 243) (em_rt 243) ∈ lw_tbl := em_tb8 (List.mem_of_getElem? (i := 53) rfl)
set_option maxRecDepth 100000 in
theorem em_cw_244 : Cond.code (em_nm 244) (em_cd 244) (em_mx 244) (em_rt 244) ∈ lw_tbl := em_tb8 (List.mem_of_getElem? (i := 57) rfl)
set_option maxRecDepth 100000 in
theorem em_cw_245 : Cond.code (em_nm 245) (em_cd 245) (em_mx 245) (em_rt 245) ∈ lw_tbl := em_tb8 (List.mem_of_getElem? (i := 61) rfl)
set_option maxRecDepth 100000 in
theorem em_cw_246 : Cond.code (em_nm 246) (em_cd 246) (em_mx 246) (em_rt 246) ∈ lw_tbl := em_tb8 (List.mem_of_getElem? (i := 65) rfl)
set_option maxRecDepth 100000 in
theorem em_cw_247 : Cond.code (em_nm 247) (em_cd 247) (em_mx 247) (em_rt 247) ∈ lw_tbl := em_tb8 (List.mem_of_getElem? (i := 69) rfl)
set_option maxRecDepth 100000 in
theorem em_cw_248 : Cond.code (em_nm 248) (em_cd 248) (em_mx 248) (em_rt 248) ∈ lw_tbl := em_tb8 (List.mem_of_getElem? (i := 81) rfl)
set_option maxRecDepth 100000 in
theorem em_cw_249 : Cond.code (em_nm 249) (em_cd 249) (em_mx 249) (em_rt 249) ∈ lw_tbl := em_tb8 (List.mem_of_getElem? (i := 77) rfl)
set_option maxRecDepth 100000 in
theorem em_cw_250 : Cond.code (em_nm 250) (em_cd 250) (em_mx 250) (em_rt 250) ∈ lw_tbl := em_tb8 (List.mem_of_getElem? (i := 73) rfl)
set_option maxRecDepth 100000 in
theorem em_cw_251 : Cond.code (em_nm 251) (em_cd 251) (em_mx 251) (em_rt 251) ∈ lw_tbl := em_tb8 (List.mem_of_getElem? (i := 85) rfl)
set_option maxRecDepth 100000 in
theorem em_cw_252 : Cond.code (em_nm 252) (em_cd 252) (em_mx 252) (em_rt 252) ∈ lw_tbl := em_tb8 (List.mem_of_getElem? (i := 89) rfl)
set_option maxRecDepth 100000 in
theorem em_cw_253 : Cond.code (em_nm 253) (em_cd 253) (em_mx 253) (em_rt 253) ∈ lw_tbl := em_tb8 (List.mem_of_getElem? (i := 97) rfl)
set_option maxRecDepth 100000 in
theorem em_cw_254 : Cond.code (em_nm 254) (em_cd 254) (em_mx 254) (em_rt 254) ∈ lw_tbl := em_tb8 (List.mem_of_getElem? (i := 93) rfl)
set_option maxRecDepth 100000 in
theorem em_cw_255 : Cond.code (em_nm 255) (em_cd 255) (em_mx 255) (em_rt 255) ∈ lw_tbl := em_tb8 (List.mem_of_getElem? (i := 105) rfl)
set_option maxRecDepth 100000 in
theorem em_cw_256 : Cond.code (em_nm 256) (em_cd 256) (em_mx 256) (em_rt 256) ∈ lw_tbl := em_tb8 (List.mem_of_getElem? (i := 109) rfl)
set_option maxRecDepth 100000 in
theorem em_cw_257 : Cond.code (em_nm 257) (em_cd 257) (em_mx 257) (em_rt 257) ∈ lw_tbl := em_tb8 (List.mem_of_getElem? (i := 101) rfl)
set_option maxRecDepth 100000 in
theorem em_cw_258 : Cond.code (em_nm 258) (em_cd 258) (em_mx 258) (em_rt 258) ∈ lw_tbl := em_tb8 (List.mem_of_getElem? (i := 113) rfl)
set_option maxRecDepth 100000 in
theorem em_cw_259 : Cond.code (em_nm 259) (em_cd 259) (em_mx 259) (em_rt 259) ∈ lw_tbl := em_tb8 (List.mem_of_getElem? (i := 117) rfl)
set_option maxRecDepth 100000 in
theorem em_cw_260 : Cond.code (em_nm 260) (em_cd 260) (em_mx 260) (em_rt 260) ∈ lw_tbl := em_tb8 (List.mem_of_getElem? (i := 125) rfl)
set_option maxRecDepth 100000 in
theorem em_cw_261 : Cond.code (em_nm 261) (em_cd 261) (em_mx 261) (em_rt 261) ∈ lw_tbl := em_tb8 (List.mem_of_getElem? (i := 121) rfl)
set_option maxRecDepth 100000 in
theorem em_cw_262 : Cond.code (em_nm 262) (em_cd 262) (em_mx 262) (em_rt 262) ∈ lw_tbl := em_tb8 (List.mem_of_getElem? (i := 129) rfl)
set_option maxRecDepth 100000 in
theorem em_cw_263 : Cond.code (em_nm 263) (em_cd 263) (em_mx 263) (em_rt 263) ∈ lw_tbl := em_tb8 (List.mem_of_getElem? (i := 133) rfl)
set_option maxRecDepth 100000 in
theorem em_cw_264 : Cond.code (em_nm 264) (em_cd 264) (em_mx 264) (em_rt 264) ∈ lw_tbl := em_tb8 (List.mem_of_getElem? (i := 141) rfl)
set_option maxRecDepth 100000 in
theorem em_cw_265 : Cond.code (em_nm 265) (em_cd 265) (em_mx 265) (em_rt 265) ∈ lw_tbl := em_tb8 (List.mem_of_getElem? (i := 137) rfl)
set_option maxRecDepth 100000 in
theorem em_cw_266 : Cond.code (em_nm 266) (em_cd 266) (em_mx 266) (em_rt 266) ∈ lw_tbl := em_tb8 (List.mem_of_getElem? (i := 145) rfl)
set_option maxRecDepth 100000 in
theorem em_cw_267 : Cond.code (em_nm 267) (em_cd 267) (em_mx 267) (em_rt 267) ∈ lw_tbl := em_tb8 (List.mem_of_getElem? (i := 149) rfl)
set_option maxRecDepth 100000 in
theorem em_cw_268 : Cond.code (em_nm 268) (em_cd 268) (em_mx 268) (em_rt 268) ∈ lw_tbl := em_tb8 (List.mem_of_getElem? (i := 153) rfl)
set_option maxRecDepth 100000 in
theorem em_cw_269 : Cond.code (em_nm 269) (em_cd 269) (em_mx 269) (em_rt 269) ∈ lw_tbl := em_tb8 (List.mem_of_getElem? (i := 157) rfl)
set_option maxRecDepth 100000 in
theorem em_cw_270 : Cond.code (em_nm 270) (em_cd 270) (em_mx 270) (em_rt 270) ∈ lw_tbl := em_tb8 (List.mem_of_getElem? (i := 161) rfl)
set_option maxRecDepth 100000 in
theorem em_cw_271 : Cond.code (em_nm 271) (em_cd 271) (em_mx 271) (em_rt 271) ∈ lw_tbl := em_tb8 (List.mem_of_getElem? (i := 169) rfl)
set_option maxRecDepth 100000 in
theorem em_cw_272 : Cond.code (em_nm 272) (em_cd 272) (em_mx 272) (em_rt 272) ∈ lw_tbl := em_tb8 (List.mem_of_getElem? (i := 165) rfl)
set_option maxRecDepth 100000 in
theorem em_cw_273 : Cond.code (em_nm 273) (em_cd 273) (em_mx 273) (em_rt 273) ∈ lw_tbl := em_tb8 (List.mem_of_getElem? (i := 173) rfl)
set_option maxRecDepth 100000 in
theorem em_cw_274 : Cond.code (em_nm 274) (em_cd 274) (em_mx 274) (em_rt 274) ∈ lw_tbl := em_tb8 (List.mem_of_getElem? (i := 177) rfl)
set_option maxRecDepth 100000 in
theorem em_cw_275 : Cond.code (em_nm 275) (em_cd 275) (em_mx 275) (em_rt 275) ∈ lw_tbl := em_tb8 (List.mem_of_getElem? (i := 181) rfl)
set_option maxRecDepth 100000 in
theorem em_cw_276 : Cond.code (em_nm 276) (em_cd 276) (em_mx 276) (em_rt 276) ∈ lw_tbl := em_tb8 (List.mem_of_getElem? (i := 189) rfl)
set_option maxRecDepth 100000 in
theorem em_cw_277 : Cond.code (em_nm 277) (em_cd 277) (em_mx 277) (em_rt 277) ∈ lw_tbl := em_tb8 (List.mem_of_getElem? (i := 185) rfl)
set_option maxRecDepth 100000 in
theorem em_cw_279 : Cond.code (em_nm 279) (em_cd 279) (em_mx 279) (em_rt 279) ∈ lw_tbl := em_tb4 (List.mem_of_getElem? (i := 173) rfl)
set_option maxRecDepth 100000 in
theorem em_cw_280 : Cond.code (em_nm 280) (em_cd 280) (em_mx 280) (em_rt 280) ∈ lw_tbl := em_tb1 (List.mem_of_getElem? (i := 156) rfl)
set_option maxRecDepth 100000 in
theorem em_cw_281 : Cond.code (em_nm 281) (em_cd 281) (em_mx 281) (em_rt 281) ∈ lw_tbl := em_tb1 (List.mem_of_getElem? (i := 41) rfl)
set_option maxRecDepth 100000 in
theorem em_cw_282 : Cond.code (em_nm 282) (em_cd 282) (em_mx 282) (em_rt 282) ∈ lw_tbl := em_tb1 (List.mem_of_getElem? (i := 51) rfl)
set_option maxRecDepth 100000 in
theorem em_cw_283 : Cond.code (em_nm 283) (em_cd 283) (em_mx 283) (em_rt 283) ∈ lw_tbl := em_tb3 (List.mem_of_getElem? (i := 112) rfl)
set_option maxRecDepth 100000 in
theorem em_cw_284 : Cond.code (em_nm 284) (em_cd 284) (em_mx 284) (em_rt 284) ∈ lw_tbl := em_tb3 (List.mem_of_getElem? (i := 116) rfl)
set_option maxRecDepth 100000 in
theorem em_cw_285 : Cond.code (em_nm 285) (em_cd 285) (em_mx 285) (em_rt 285) ∈ lw_tbl := em_tb1 (List.mem_of_getElem? (i := 45) rfl)
set_option maxRecDepth 100000 in
theorem em_cw_286 : Cond.code (em_nm 286) (em_cd 286) (em_mx 286) (em_rt 286) ∈ lw_tbl := em_tb1 (List.mem_of_getElem? (i := 55) rfl)
set_option maxRecDepth 100000 in
theorem em_cw_287 : Cond.code (em_nm 287) (em_cd 287) (em_mx 287) (em_rt 287) ∈ lw_tbl := em_tb1 (List.mem_of_getElem? (i := 61) rfl)
set_option maxRecDepth 100000 in
theorem em_cw_288 : Cond.code (em_nm 288) (em_cd 288) (em_mx 288) (em_rt 288) ∈ lw_tbl := em_tb1 (List.mem_of_getElem? (i := 58) rfl)
set_option maxRecDepth 100000 in
theorem em_cw_289 : Cond.code (em_nm 289) (em_cd 289) (em_mx 289) (em_rt 289) ∈ lw_tbl := em_tb3 (List.mem_of_getElem? (i := 123) rfl)
set_option maxRecDepth 100000 in
theorem em_cw_290 : Cond.code (em_nm 290) (em_cd 290) (em_mx 290) (em_rt 290) ∈ lw_tbl := em_tb3 (List.mem_of_getElem? (i := 120) rfl)
set_option maxRecDepth 100000 in
theorem em_cw_291 : Cond.code (em_nm 291) (em_cd 291) (em_mx 291) (em_rt 291) ∈ lw_tbl := em_tb3 (List.mem_of_getElem? (i := 132) rfl)
set_option maxRecDepth 100000 in
theorem em_cw_292 : Cond.code (em_nm 292) (em_cd 292) (em_mx 292) (em_rt 292) ∈ lw_tbl := em_tb1 (List.mem_of_getElem? (i := 66) rfl)
theorem em_cw {y : Nat} (h : y < em_n) (hl : y ≠ em_law) : Cond.code (em_nm y) (em_cd y) (em_mx y) (em_rt y) ∈ lw_tbl := by
  have hn : em_n = 293 := rfl
  have hn2 : em_law = 278 := rfl
  rw [hn] at h
  rw [hn2] at hl
  exact (Nat.lt_or_ge y 146).elim (fun h146 => (Nat.lt_or_ge y 73).elim (fun h73 => (Nat.lt_or_ge y 36).elim (fun h36 => (Nat.lt_or_ge y 18).elim (fun h18 => (Nat.lt_or_ge y 9).elim (fun h9 => (Nat.lt_or_ge y 4).elim (fun h4 => (Nat.lt_or_ge y 2).elim (fun h2 => (Nat.lt_or_ge y 1).elim (fun h1 => (show y = 0 by omega) ▸ em_cw_0) (fun g1 => (show y = 1 by omega) ▸ em_cw_1)) (fun g2 => (Nat.lt_or_ge y 3).elim (fun h3 => (show y = 2 by omega) ▸ em_cw_2) (fun g3 => (show y = 3 by omega) ▸ em_cw_3))) (fun g4 => (Nat.lt_or_ge y 6).elim (fun h6 => (Nat.lt_or_ge y 5).elim (fun h5 => (show y = 4 by omega) ▸ em_cw_4) (fun g5 => (show y = 5 by omega) ▸ em_cw_5)) (fun g6 => (Nat.lt_or_ge y 7).elim (fun h7 => (show y = 6 by omega) ▸ em_cw_6) (fun g7 => (Nat.lt_or_ge y 8).elim (fun h8 => (show y = 7 by omega) ▸ em_cw_7) (fun g8 => (show y = 8 by omega) ▸ em_cw_8))))) (fun g9 => (Nat.lt_or_ge y 13).elim (fun h13 => (Nat.lt_or_ge y 11).elim (fun h11 => (Nat.lt_or_ge y 10).elim (fun h10 => (show y = 9 by omega) ▸ em_cw_9) (fun g10 => (show y = 10 by omega) ▸ em_cw_10)) (fun g11 => (Nat.lt_or_ge y 12).elim (fun h12 => (show y = 11 by omega) ▸ em_cw_11) (fun g12 => (show y = 12 by omega) ▸ em_cw_12))) (fun g13 => (Nat.lt_or_ge y 15).elim (fun h15 => (Nat.lt_or_ge y 14).elim (fun h14 => (show y = 13 by omega) ▸ em_cw_13) (fun g14 => (show y = 14 by omega) ▸ em_cw_14)) (fun g15 => (Nat.lt_or_ge y 16).elim (fun h16 => (show y = 15 by omega) ▸ em_cw_15) (fun g16 => (Nat.lt_or_ge y 17).elim (fun h17 => (show y = 16 by omega) ▸ em_cw_16) (fun g17 => (show y = 17 by omega) ▸ em_cw_17)))))) (fun g18 => (Nat.lt_or_ge y 27).elim (fun h27 => (Nat.lt_or_ge y 22).elim (fun h22 => (Nat.lt_or_ge y 20).elim (fun h20 => (Nat.lt_or_ge y 19).elim (fun h19 => (show y = 18 by omega) ▸ em_cw_18) (fun g19 => (show y = 19 by omega) ▸ em_cw_19)) (fun g20 => (Nat.lt_or_ge y 21).elim (fun h21 => (show y = 20 by omega) ▸ em_cw_20) (fun g21 => (show y = 21 by omega) ▸ em_cw_21))) (fun g22 => (Nat.lt_or_ge y 24).elim (fun h24 => (Nat.lt_or_ge y 23).elim (fun h23 => (show y = 22 by omega) ▸ em_cw_22) (fun g23 => (show y = 23 by omega) ▸ em_cw_23)) (fun g24 => (Nat.lt_or_ge y 25).elim (fun h25 => (show y = 24 by omega) ▸ em_cw_24) (fun g25 => (Nat.lt_or_ge y 26).elim (fun h26 => (show y = 25 by omega) ▸ em_cw_25) (fun g26 => (show y = 26 by omega) ▸ em_cw_26))))) (fun g27 => (Nat.lt_or_ge y 31).elim (fun h31 => (Nat.lt_or_ge y 29).elim (fun h29 => (Nat.lt_or_ge y 28).elim (fun h28 => (show y = 27 by omega) ▸ em_cw_27) (fun g28 => (show y = 28 by omega) ▸ em_cw_28)) (fun g29 => (Nat.lt_or_ge y 30).elim (fun h30 => (show y = 29 by omega) ▸ em_cw_29) (fun g30 => (show y = 30 by omega) ▸ em_cw_30))) (fun g31 => (Nat.lt_or_ge y 33).elim (fun h33 => (Nat.lt_or_ge y 32).elim (fun h32 => (show y = 31 by omega) ▸ em_cw_31) (fun g32 => (show y = 32 by omega) ▸ em_cw_32)) (fun g33 => (Nat.lt_or_ge y 34).elim (fun h34 => (show y = 33 by omega) ▸ em_cw_33) (fun g34 => (Nat.lt_or_ge y 35).elim (fun h35 => (show y = 34 by omega) ▸ em_cw_34) (fun g35 => (show y = 35 by omega) ▸ em_cw_35))))))) (fun g36 => (Nat.lt_or_ge y 54).elim (fun h54 => (Nat.lt_or_ge y 45).elim (fun h45 => (Nat.lt_or_ge y 40).elim (fun h40 => (Nat.lt_or_ge y 38).elim (fun h38 => (Nat.lt_or_ge y 37).elim (fun h37 => (show y = 36 by omega) ▸ em_cw_36) (fun g37 => (show y = 37 by omega) ▸ em_cw_37)) (fun g38 => (Nat.lt_or_ge y 39).elim (fun h39 => (show y = 38 by omega) ▸ em_cw_38) (fun g39 => (show y = 39 by omega) ▸ em_cw_39))) (fun g40 => (Nat.lt_or_ge y 42).elim (fun h42 => (Nat.lt_or_ge y 41).elim (fun h41 => (show y = 40 by omega) ▸ em_cw_40) (fun g41 => (show y = 41 by omega) ▸ em_cw_41)) (fun g42 => (Nat.lt_or_ge y 43).elim (fun h43 => (show y = 42 by omega) ▸ em_cw_42) (fun g43 => (Nat.lt_or_ge y 44).elim (fun h44 => (show y = 43 by omega) ▸ em_cw_43) (fun g44 => (show y = 44 by omega) ▸ em_cw_44))))) (fun g45 => (Nat.lt_or_ge y 49).elim (fun h49 => (Nat.lt_or_ge y 47).elim (fun h47 => (Nat.lt_or_ge y 46).elim (fun h46 => (show y = 45 by omega) ▸ em_cw_45) (fun g46 => (show y = 46 by omega) ▸ em_cw_46)) (fun g47 => (Nat.lt_or_ge y 48).elim (fun h48 => (show y = 47 by omega) ▸ em_cw_47) (fun g48 => (show y = 48 by omega) ▸ em_cw_48))) (fun g49 => (Nat.lt_or_ge y 51).elim (fun h51 => (Nat.lt_or_ge y 50).elim (fun h50 => (show y = 49 by omega) ▸ em_cw_49) (fun g50 => (show y = 50 by omega) ▸ em_cw_50)) (fun g51 => (Nat.lt_or_ge y 52).elim (fun h52 => (show y = 51 by omega) ▸ em_cw_51) (fun g52 => (Nat.lt_or_ge y 53).elim (fun h53 => (show y = 52 by omega) ▸ em_cw_52) (fun g53 => (show y = 53 by omega) ▸ em_cw_53)))))) (fun g54 => (Nat.lt_or_ge y 63).elim (fun h63 => (Nat.lt_or_ge y 58).elim (fun h58 => (Nat.lt_or_ge y 56).elim (fun h56 => (Nat.lt_or_ge y 55).elim (fun h55 => (show y = 54 by omega) ▸ em_cw_54) (fun g55 => (show y = 55 by omega) ▸ em_cw_55)) (fun g56 => (Nat.lt_or_ge y 57).elim (fun h57 => (show y = 56 by omega) ▸ em_cw_56) (fun g57 => (show y = 57 by omega) ▸ em_cw_57))) (fun g58 => (Nat.lt_or_ge y 60).elim (fun h60 => (Nat.lt_or_ge y 59).elim (fun h59 => (show y = 58 by omega) ▸ em_cw_58) (fun g59 => (show y = 59 by omega) ▸ em_cw_59)) (fun g60 => (Nat.lt_or_ge y 61).elim (fun h61 => (show y = 60 by omega) ▸ em_cw_60) (fun g61 => (Nat.lt_or_ge y 62).elim (fun h62 => (show y = 61 by omega) ▸ em_cw_61) (fun g62 => (show y = 62 by omega) ▸ em_cw_62))))) (fun g63 => (Nat.lt_or_ge y 68).elim (fun h68 => (Nat.lt_or_ge y 65).elim (fun h65 => (Nat.lt_or_ge y 64).elim (fun h64 => (show y = 63 by omega) ▸ em_cw_63) (fun g64 => (show y = 64 by omega) ▸ em_cw_64)) (fun g65 => (Nat.lt_or_ge y 66).elim (fun h66 => (show y = 65 by omega) ▸ em_cw_65) (fun g66 => (Nat.lt_or_ge y 67).elim (fun h67 => (show y = 66 by omega) ▸ em_cw_66) (fun g67 => (show y = 67 by omega) ▸ em_cw_67)))) (fun g68 => (Nat.lt_or_ge y 70).elim (fun h70 => (Nat.lt_or_ge y 69).elim (fun h69 => (show y = 68 by omega) ▸ em_cw_68) (fun g69 => (show y = 69 by omega) ▸ em_cw_69)) (fun g70 => (Nat.lt_or_ge y 71).elim (fun h71 => (show y = 70 by omega) ▸ em_cw_70) (fun g71 => (Nat.lt_or_ge y 72).elim (fun h72 => (show y = 71 by omega) ▸ em_cw_71) (fun g72 => (show y = 72 by omega) ▸ em_cw_72)))))))) (fun g73 => (Nat.lt_or_ge y 109).elim (fun h109 => (Nat.lt_or_ge y 91).elim (fun h91 => (Nat.lt_or_ge y 82).elim (fun h82 => (Nat.lt_or_ge y 77).elim (fun h77 => (Nat.lt_or_ge y 75).elim (fun h75 => (Nat.lt_or_ge y 74).elim (fun h74 => (show y = 73 by omega) ▸ em_cw_73) (fun g74 => (show y = 74 by omega) ▸ em_cw_74)) (fun g75 => (Nat.lt_or_ge y 76).elim (fun h76 => (show y = 75 by omega) ▸ em_cw_75) (fun g76 => (show y = 76 by omega) ▸ em_cw_76))) (fun g77 => (Nat.lt_or_ge y 79).elim (fun h79 => (Nat.lt_or_ge y 78).elim (fun h78 => (show y = 77 by omega) ▸ em_cw_77) (fun g78 => (show y = 78 by omega) ▸ em_cw_78)) (fun g79 => (Nat.lt_or_ge y 80).elim (fun h80 => (show y = 79 by omega) ▸ em_cw_79) (fun g80 => (Nat.lt_or_ge y 81).elim (fun h81 => (show y = 80 by omega) ▸ em_cw_80) (fun g81 => (show y = 81 by omega) ▸ em_cw_81))))) (fun g82 => (Nat.lt_or_ge y 86).elim (fun h86 => (Nat.lt_or_ge y 84).elim (fun h84 => (Nat.lt_or_ge y 83).elim (fun h83 => (show y = 82 by omega) ▸ em_cw_82) (fun g83 => (show y = 83 by omega) ▸ em_cw_83)) (fun g84 => (Nat.lt_or_ge y 85).elim (fun h85 => (show y = 84 by omega) ▸ em_cw_84) (fun g85 => (show y = 85 by omega) ▸ em_cw_85))) (fun g86 => (Nat.lt_or_ge y 88).elim (fun h88 => (Nat.lt_or_ge y 87).elim (fun h87 => (show y = 86 by omega) ▸ em_cw_86) (fun g87 => (show y = 87 by omega) ▸ em_cw_87)) (fun g88 => (Nat.lt_or_ge y 89).elim (fun h89 => (show y = 88 by omega) ▸ em_cw_88) (fun g89 => (Nat.lt_or_ge y 90).elim (fun h90 => (show y = 89 by omega) ▸ em_cw_89) (fun g90 => (show y = 90 by omega) ▸ em_cw_90)))))) (fun g91 => (Nat.lt_or_ge y 100).elim (fun h100 => (Nat.lt_or_ge y 95).elim (fun h95 => (Nat.lt_or_ge y 93).elim (fun h93 => (Nat.lt_or_ge y 92).elim (fun h92 => (show y = 91 by omega) ▸ em_cw_91) (fun g92 => (show y = 92 by omega) ▸ em_cw_92)) (fun g93 => (Nat.lt_or_ge y 94).elim (fun h94 => (show y = 93 by omega) ▸ em_cw_93) (fun g94 => (show y = 94 by omega) ▸ em_cw_94))) (fun g95 => (Nat.lt_or_ge y 97).elim (fun h97 => (Nat.lt_or_ge y 96).elim (fun h96 => (show y = 95 by omega) ▸ em_cw_95) (fun g96 => (show y = 96 by omega) ▸ em_cw_96)) (fun g97 => (Nat.lt_or_ge y 98).elim (fun h98 => (show y = 97 by omega) ▸ em_cw_97) (fun g98 => (Nat.lt_or_ge y 99).elim (fun h99 => (show y = 98 by omega) ▸ em_cw_98) (fun g99 => (show y = 99 by omega) ▸ em_cw_99))))) (fun g100 => (Nat.lt_or_ge y 104).elim (fun h104 => (Nat.lt_or_ge y 102).elim (fun h102 => (Nat.lt_or_ge y 101).elim (fun h101 => (show y = 100 by omega) ▸ em_cw_100) (fun g101 => (show y = 101 by omega) ▸ em_cw_101)) (fun g102 => (Nat.lt_or_ge y 103).elim (fun h103 => (show y = 102 by omega) ▸ em_cw_102) (fun g103 => (show y = 103 by omega) ▸ em_cw_103))) (fun g104 => (Nat.lt_or_ge y 106).elim (fun h106 => (Nat.lt_or_ge y 105).elim (fun h105 => (show y = 104 by omega) ▸ em_cw_104) (fun g105 => (show y = 105 by omega) ▸ em_cw_105)) (fun g106 => (Nat.lt_or_ge y 107).elim (fun h107 => (show y = 106 by omega) ▸ em_cw_106) (fun g107 => (Nat.lt_or_ge y 108).elim (fun h108 => (show y = 107 by omega) ▸ em_cw_107) (fun g108 => (show y = 108 by omega) ▸ em_cw_108))))))) (fun g109 => (Nat.lt_or_ge y 127).elim (fun h127 => (Nat.lt_or_ge y 118).elim (fun h118 => (Nat.lt_or_ge y 113).elim (fun h113 => (Nat.lt_or_ge y 111).elim (fun h111 => (Nat.lt_or_ge y 110).elim (fun h110 => (show y = 109 by omega) ▸ em_cw_109) (fun g110 => (show y = 110 by omega) ▸ em_cw_110)) (fun g111 => (Nat.lt_or_ge y 112).elim (fun h112 => (show y = 111 by omega) ▸ em_cw_111) (fun g112 => (show y = 112 by omega) ▸ em_cw_112))) (fun g113 => (Nat.lt_or_ge y 115).elim (fun h115 => (Nat.lt_or_ge y 114).elim (fun h114 => (show y = 113 by omega) ▸ em_cw_113) (fun g114 => (show y = 114 by omega) ▸ em_cw_114)) (fun g115 => (Nat.lt_or_ge y 116).elim (fun h116 => (show y = 115 by omega) ▸ em_cw_115) (fun g116 => (Nat.lt_or_ge y 117).elim (fun h117 => (show y = 116 by omega) ▸ em_cw_116) (fun g117 => (show y = 117 by omega) ▸ em_cw_117))))) (fun g118 => (Nat.lt_or_ge y 122).elim (fun h122 => (Nat.lt_or_ge y 120).elim (fun h120 => (Nat.lt_or_ge y 119).elim (fun h119 => (show y = 118 by omega) ▸ em_cw_118) (fun g119 => (show y = 119 by omega) ▸ em_cw_119)) (fun g120 => (Nat.lt_or_ge y 121).elim (fun h121 => (show y = 120 by omega) ▸ em_cw_120) (fun g121 => (show y = 121 by omega) ▸ em_cw_121))) (fun g122 => (Nat.lt_or_ge y 124).elim (fun h124 => (Nat.lt_or_ge y 123).elim (fun h123 => (show y = 122 by omega) ▸ em_cw_122) (fun g123 => (show y = 123 by omega) ▸ em_cw_123)) (fun g124 => (Nat.lt_or_ge y 125).elim (fun h125 => (show y = 124 by omega) ▸ em_cw_124) (fun g125 => (Nat.lt_or_ge y 126).elim (fun h126 => (show y = 125 by omega) ▸ em_cw_125) (fun g126 => (show y = 126 by omega) ▸ em_cw_126)))))) (fun g127 => (Nat.lt_or_ge y 136).elim (fun h136 => (Nat.lt_or_ge y 131).elim (fun h131 => (Nat.lt_or_ge y 129).elim (fun h129 => (Nat.lt_or_ge y 128).elim (fun h128 => (show y = 127 by omega) ▸ em_cw_127) (fun g128 => (show y = 128 by omega) ▸ em_cw_128)) (fun g129 => (Nat.lt_or_ge y 130).elim (fun h130 => (show y = 129 by omega) ▸ em_cw_129) (fun g130 => (show y = 130 by omega) ▸ em_cw_130))) (fun g131 => (Nat.lt_or_ge y 133).elim (fun h133 => (Nat.lt_or_ge y 132).elim (fun h132 => (show y = 131 by omega) ▸ em_cw_131) (fun g132 => (show y = 132 by omega) ▸ em_cw_132)) (fun g133 => (Nat.lt_or_ge y 134).elim (fun h134 => (show y = 133 by omega) ▸ em_cw_133) (fun g134 => (Nat.lt_or_ge y 135).elim (fun h135 => (show y = 134 by omega) ▸ em_cw_134) (fun g135 => (show y = 135 by omega) ▸ em_cw_135))))) (fun g136 => (Nat.lt_or_ge y 141).elim (fun h141 => (Nat.lt_or_ge y 138).elim (fun h138 => (Nat.lt_or_ge y 137).elim (fun h137 => (show y = 136 by omega) ▸ em_cw_136) (fun g137 => (show y = 137 by omega) ▸ em_cw_137)) (fun g138 => (Nat.lt_or_ge y 139).elim (fun h139 => (show y = 138 by omega) ▸ em_cw_138) (fun g139 => (Nat.lt_or_ge y 140).elim (fun h140 => (show y = 139 by omega) ▸ em_cw_139) (fun g140 => (show y = 140 by omega) ▸ em_cw_140)))) (fun g141 => (Nat.lt_or_ge y 143).elim (fun h143 => (Nat.lt_or_ge y 142).elim (fun h142 => (show y = 141 by omega) ▸ em_cw_141) (fun g142 => (show y = 142 by omega) ▸ em_cw_142)) (fun g143 => (Nat.lt_or_ge y 144).elim (fun h144 => (show y = 143 by omega) ▸ em_cw_143) (fun g144 => (Nat.lt_or_ge y 145).elim (fun h145 => (show y = 144 by omega) ▸ em_cw_144) (fun g145 => (show y = 145 by omega) ▸ em_cw_145))))))))) (fun g146 => (Nat.lt_or_ge y 219).elim (fun h219 => (Nat.lt_or_ge y 182).elim (fun h182 => (Nat.lt_or_ge y 164).elim (fun h164 => (Nat.lt_or_ge y 155).elim (fun h155 => (Nat.lt_or_ge y 150).elim (fun h150 => (Nat.lt_or_ge y 148).elim (fun h148 => (Nat.lt_or_ge y 147).elim (fun h147 => (show y = 146 by omega) ▸ em_cw_146) (fun g147 => (show y = 147 by omega) ▸ em_cw_147)) (fun g148 => (Nat.lt_or_ge y 149).elim (fun h149 => (show y = 148 by omega) ▸ em_cw_148) (fun g149 => (show y = 149 by omega) ▸ em_cw_149))) (fun g150 => (Nat.lt_or_ge y 152).elim (fun h152 => (Nat.lt_or_ge y 151).elim (fun h151 => (show y = 150 by omega) ▸ em_cw_150) (fun g151 => (show y = 151 by omega) ▸ em_cw_151)) (fun g152 => (Nat.lt_or_ge y 153).elim (fun h153 => (show y = 152 by omega) ▸ em_cw_152) (fun g153 => (Nat.lt_or_ge y 154).elim (fun h154 => (show y = 153 by omega) ▸ em_cw_153) (fun g154 => (show y = 154 by omega) ▸ em_cw_154))))) (fun g155 => (Nat.lt_or_ge y 159).elim (fun h159 => (Nat.lt_or_ge y 157).elim (fun h157 => (Nat.lt_or_ge y 156).elim (fun h156 => (show y = 155 by omega) ▸ em_cw_155) (fun g156 => (show y = 156 by omega) ▸ em_cw_156)) (fun g157 => (Nat.lt_or_ge y 158).elim (fun h158 => (show y = 157 by omega) ▸ em_cw_157) (fun g158 => (show y = 158 by omega) ▸ em_cw_158))) (fun g159 => (Nat.lt_or_ge y 161).elim (fun h161 => (Nat.lt_or_ge y 160).elim (fun h160 => (show y = 159 by omega) ▸ em_cw_159) (fun g160 => (show y = 160 by omega) ▸ em_cw_160)) (fun g161 => (Nat.lt_or_ge y 162).elim (fun h162 => (show y = 161 by omega) ▸ em_cw_161) (fun g162 => (Nat.lt_or_ge y 163).elim (fun h163 => (show y = 162 by omega) ▸ em_cw_162) (fun g163 => (show y = 163 by omega) ▸ em_cw_163)))))) (fun g164 => (Nat.lt_or_ge y 173).elim (fun h173 => (Nat.lt_or_ge y 168).elim (fun h168 => (Nat.lt_or_ge y 166).elim (fun h166 => (Nat.lt_or_ge y 165).elim (fun h165 => (show y = 164 by omega) ▸ em_cw_164) (fun g165 => (show y = 165 by omega) ▸ em_cw_165)) (fun g166 => (Nat.lt_or_ge y 167).elim (fun h167 => (show y = 166 by omega) ▸ em_cw_166) (fun g167 => (show y = 167 by omega) ▸ em_cw_167))) (fun g168 => (Nat.lt_or_ge y 170).elim (fun h170 => (Nat.lt_or_ge y 169).elim (fun h169 => (show y = 168 by omega) ▸ em_cw_168) (fun g169 => (show y = 169 by omega) ▸ em_cw_169)) (fun g170 => (Nat.lt_or_ge y 171).elim (fun h171 => (show y = 170 by omega) ▸ em_cw_170) (fun g171 => (Nat.lt_or_ge y 172).elim (fun h172 => (show y = 171 by omega) ▸ em_cw_171) (fun g172 => (show y = 172 by omega) ▸ em_cw_172))))) (fun g173 => (Nat.lt_or_ge y 177).elim (fun h177 => (Nat.lt_or_ge y 175).elim (fun h175 => (Nat.lt_or_ge y 174).elim (fun h174 => (show y = 173 by omega) ▸ em_cw_173) (fun g174 => (show y = 174 by omega) ▸ em_cw_174)) (fun g175 => (Nat.lt_or_ge y 176).elim (fun h176 => (show y = 175 by omega) ▸ em_cw_175) (fun g176 => (show y = 176 by omega) ▸ em_cw_176))) (fun g177 => (Nat.lt_or_ge y 179).elim (fun h179 => (Nat.lt_or_ge y 178).elim (fun h178 => (show y = 177 by omega) ▸ em_cw_177) (fun g178 => (show y = 178 by omega) ▸ em_cw_178)) (fun g179 => (Nat.lt_or_ge y 180).elim (fun h180 => (show y = 179 by omega) ▸ em_cw_179) (fun g180 => (Nat.lt_or_ge y 181).elim (fun h181 => (show y = 180 by omega) ▸ em_cw_180) (fun g181 => (show y = 181 by omega) ▸ em_cw_181))))))) (fun g182 => (Nat.lt_or_ge y 200).elim (fun h200 => (Nat.lt_or_ge y 191).elim (fun h191 => (Nat.lt_or_ge y 186).elim (fun h186 => (Nat.lt_or_ge y 184).elim (fun h184 => (Nat.lt_or_ge y 183).elim (fun h183 => (show y = 182 by omega) ▸ em_cw_182) (fun g183 => (show y = 183 by omega) ▸ em_cw_183)) (fun g184 => (Nat.lt_or_ge y 185).elim (fun h185 => (show y = 184 by omega) ▸ em_cw_184) (fun g185 => (show y = 185 by omega) ▸ em_cw_185))) (fun g186 => (Nat.lt_or_ge y 188).elim (fun h188 => (Nat.lt_or_ge y 187).elim (fun h187 => (show y = 186 by omega) ▸ em_cw_186) (fun g187 => (show y = 187 by omega) ▸ em_cw_187)) (fun g188 => (Nat.lt_or_ge y 189).elim (fun h189 => (show y = 188 by omega) ▸ em_cw_188) (fun g189 => (Nat.lt_or_ge y 190).elim (fun h190 => (show y = 189 by omega) ▸ em_cw_189) (fun g190 => (show y = 190 by omega) ▸ em_cw_190))))) (fun g191 => (Nat.lt_or_ge y 195).elim (fun h195 => (Nat.lt_or_ge y 193).elim (fun h193 => (Nat.lt_or_ge y 192).elim (fun h192 => (show y = 191 by omega) ▸ em_cw_191) (fun g192 => (show y = 192 by omega) ▸ em_cw_192)) (fun g193 => (Nat.lt_or_ge y 194).elim (fun h194 => (show y = 193 by omega) ▸ em_cw_193) (fun g194 => (show y = 194 by omega) ▸ em_cw_194))) (fun g195 => (Nat.lt_or_ge y 197).elim (fun h197 => (Nat.lt_or_ge y 196).elim (fun h196 => (show y = 195 by omega) ▸ em_cw_195) (fun g196 => (show y = 196 by omega) ▸ em_cw_196)) (fun g197 => (Nat.lt_or_ge y 198).elim (fun h198 => (show y = 197 by omega) ▸ em_cw_197) (fun g198 => (Nat.lt_or_ge y 199).elim (fun h199 => (show y = 198 by omega) ▸ em_cw_198) (fun g199 => (show y = 199 by omega) ▸ em_cw_199)))))) (fun g200 => (Nat.lt_or_ge y 209).elim (fun h209 => (Nat.lt_or_ge y 204).elim (fun h204 => (Nat.lt_or_ge y 202).elim (fun h202 => (Nat.lt_or_ge y 201).elim (fun h201 => (show y = 200 by omega) ▸ em_cw_200) (fun g201 => (show y = 201 by omega) ▸ em_cw_201)) (fun g202 => (Nat.lt_or_ge y 203).elim (fun h203 => (show y = 202 by omega) ▸ em_cw_202) (fun g203 => (show y = 203 by omega) ▸ em_cw_203))) (fun g204 => (Nat.lt_or_ge y 206).elim (fun h206 => (Nat.lt_or_ge y 205).elim (fun h205 => (show y = 204 by omega) ▸ em_cw_204) (fun g205 => (show y = 205 by omega) ▸ em_cw_205)) (fun g206 => (Nat.lt_or_ge y 207).elim (fun h207 => (show y = 206 by omega) ▸ em_cw_206) (fun g207 => (Nat.lt_or_ge y 208).elim (fun h208 => (show y = 207 by omega) ▸ em_cw_207) (fun g208 => (show y = 208 by omega) ▸ em_cw_208))))) (fun g209 => (Nat.lt_or_ge y 214).elim (fun h214 => (Nat.lt_or_ge y 211).elim (fun h211 => (Nat.lt_or_ge y 210).elim (fun h210 => (show y = 209 by omega) ▸ em_cw_209) (fun g210 => (show y = 210 by omega) ▸ em_cw_210)) (fun g211 => (Nat.lt_or_ge y 212).elim (fun h212 => (show y = 211 by omega) ▸ em_cw_211) (fun g212 => (Nat.lt_or_ge y 213).elim (fun h213 => (show y = 212 by omega) ▸ em_cw_212) (fun g213 => (show y = 213 by omega) ▸ em_cw_213)))) (fun g214 => (Nat.lt_or_ge y 216).elim (fun h216 => (Nat.lt_or_ge y 215).elim (fun h215 => (show y = 214 by omega) ▸ em_cw_214) (fun g215 => (show y = 215 by omega) ▸ em_cw_215)) (fun g216 => (Nat.lt_or_ge y 217).elim (fun h217 => (show y = 216 by omega) ▸ em_cw_216) (fun g217 => (Nat.lt_or_ge y 218).elim (fun h218 => (show y = 217 by omega) ▸ em_cw_217) (fun g218 => (show y = 218 by omega) ▸ em_cw_218)))))))) (fun g219 => (Nat.lt_or_ge y 256).elim (fun h256 => (Nat.lt_or_ge y 237).elim (fun h237 => (Nat.lt_or_ge y 228).elim (fun h228 => (Nat.lt_or_ge y 223).elim (fun h223 => (Nat.lt_or_ge y 221).elim (fun h221 => (Nat.lt_or_ge y 220).elim (fun h220 => (show y = 219 by omega) ▸ em_cw_219) (fun g220 => (show y = 220 by omega) ▸ em_cw_220)) (fun g221 => (Nat.lt_or_ge y 222).elim (fun h222 => (show y = 221 by omega) ▸ em_cw_221) (fun g222 => (show y = 222 by omega) ▸ em_cw_222))) (fun g223 => (Nat.lt_or_ge y 225).elim (fun h225 => (Nat.lt_or_ge y 224).elim (fun h224 => (show y = 223 by omega) ▸ em_cw_223) (fun g224 => (show y = 224 by omega) ▸ em_cw_224)) (fun g225 => (Nat.lt_or_ge y 226).elim (fun h226 => (show y = 225 by omega) ▸ em_cw_225) (fun g226 => (Nat.lt_or_ge y 227).elim (fun h227 => (show y = 226 by omega) ▸ em_cw_226) (fun g227 => (show y = 227 by omega) ▸ em_cw_227))))) (fun g228 => (Nat.lt_or_ge y 232).elim (fun h232 => (Nat.lt_or_ge y 230).elim (fun h230 => (Nat.lt_or_ge y 229).elim (fun h229 => (show y = 228 by omega) ▸ em_cw_228) (fun g229 => (show y = 229 by omega) ▸ em_cw_229)) (fun g230 => (Nat.lt_or_ge y 231).elim (fun h231 => (show y = 230 by omega) ▸ em_cw_230) (fun g231 => (show y = 231 by omega) ▸ em_cw_231))) (fun g232 => (Nat.lt_or_ge y 234).elim (fun h234 => (Nat.lt_or_ge y 233).elim (fun h233 => (show y = 232 by omega) ▸ em_cw_232) (fun g233 => (show y = 233 by omega) ▸ em_cw_233)) (fun g234 => (Nat.lt_or_ge y 235).elim (fun h235 => (show y = 234 by omega) ▸ em_cw_234) (fun g235 => (Nat.lt_or_ge y 236).elim (fun h236 => (show y = 235 by omega) ▸ em_cw_235) (fun g236 => (show y = 236 by omega) ▸ em_cw_236)))))) (fun g237 => (Nat.lt_or_ge y 246).elim (fun h246 => (Nat.lt_or_ge y 241).elim (fun h241 => (Nat.lt_or_ge y 239).elim (fun h239 => (Nat.lt_or_ge y 238).elim (fun h238 => (show y = 237 by omega) ▸ em_cw_237) (fun g238 => (show y = 238 by omega) ▸ em_cw_238)) (fun g239 => (Nat.lt_or_ge y 240).elim (fun h240 => (show y = 239 by omega) ▸ em_cw_239) (fun g240 => (show y = 240 by omega) ▸ em_cw_240))) (fun g241 => (Nat.lt_or_ge y 243).elim (fun h243 => (Nat.lt_or_ge y 242).elim (fun h242 => (show y = 241 by omega) ▸ em_cw_241) (fun g242 => (show y = 242 by omega) ▸ em_cw_242)) (fun g243 => (Nat.lt_or_ge y 244).elim (fun h244 => (show y = 243 by omega) ▸ em_cw_243) (fun g244 => (Nat.lt_or_ge y 245).elim (fun h245 => (show y = 244 by omega) ▸ em_cw_244) (fun g245 => (show y = 245 by omega) ▸ em_cw_245))))) (fun g246 => (Nat.lt_or_ge y 251).elim (fun h251 => (Nat.lt_or_ge y 248).elim (fun h248 => (Nat.lt_or_ge y 247).elim (fun h247 => (show y = 246 by omega) ▸ em_cw_246) (fun g247 => (show y = 247 by omega) ▸ em_cw_247)) (fun g248 => (Nat.lt_or_ge y 249).elim (fun h249 => (show y = 248 by omega) ▸ em_cw_248) (fun g249 => (Nat.lt_or_ge y 250).elim (fun h250 => (show y = 249 by omega) ▸ em_cw_249) (fun g250 => (show y = 250 by omega) ▸ em_cw_250)))) (fun g251 => (Nat.lt_or_ge y 253).elim (fun h253 => (Nat.lt_or_ge y 252).elim (fun h252 => (show y = 251 by omega) ▸ em_cw_251) (fun g252 => (show y = 252 by omega) ▸ em_cw_252)) (fun g253 => (Nat.lt_or_ge y 254).elim (fun h254 => (show y = 253 by omega) ▸ em_cw_253) (fun g254 => (Nat.lt_or_ge y 255).elim (fun h255 => (show y = 254 by omega) ▸ em_cw_254) (fun g255 => (show y = 255 by omega) ▸ em_cw_255))))))) (fun g256 => (Nat.lt_or_ge y 274).elim (fun h274 => (Nat.lt_or_ge y 265).elim (fun h265 => (Nat.lt_or_ge y 260).elim (fun h260 => (Nat.lt_or_ge y 258).elim (fun h258 => (Nat.lt_or_ge y 257).elim (fun h257 => (show y = 256 by omega) ▸ em_cw_256) (fun g257 => (show y = 257 by omega) ▸ em_cw_257)) (fun g258 => (Nat.lt_or_ge y 259).elim (fun h259 => (show y = 258 by omega) ▸ em_cw_258) (fun g259 => (show y = 259 by omega) ▸ em_cw_259))) (fun g260 => (Nat.lt_or_ge y 262).elim (fun h262 => (Nat.lt_or_ge y 261).elim (fun h261 => (show y = 260 by omega) ▸ em_cw_260) (fun g261 => (show y = 261 by omega) ▸ em_cw_261)) (fun g262 => (Nat.lt_or_ge y 263).elim (fun h263 => (show y = 262 by omega) ▸ em_cw_262) (fun g263 => (Nat.lt_or_ge y 264).elim (fun h264 => (show y = 263 by omega) ▸ em_cw_263) (fun g264 => (show y = 264 by omega) ▸ em_cw_264))))) (fun g265 => (Nat.lt_or_ge y 269).elim (fun h269 => (Nat.lt_or_ge y 267).elim (fun h267 => (Nat.lt_or_ge y 266).elim (fun h266 => (show y = 265 by omega) ▸ em_cw_265) (fun g266 => (show y = 266 by omega) ▸ em_cw_266)) (fun g267 => (Nat.lt_or_ge y 268).elim (fun h268 => (show y = 267 by omega) ▸ em_cw_267) (fun g268 => (show y = 268 by omega) ▸ em_cw_268))) (fun g269 => (Nat.lt_or_ge y 271).elim (fun h271 => (Nat.lt_or_ge y 270).elim (fun h270 => (show y = 269 by omega) ▸ em_cw_269) (fun g270 => (show y = 270 by omega) ▸ em_cw_270)) (fun g271 => (Nat.lt_or_ge y 272).elim (fun h272 => (show y = 271 by omega) ▸ em_cw_271) (fun g272 => (Nat.lt_or_ge y 273).elim (fun h273 => (show y = 272 by omega) ▸ em_cw_272) (fun g273 => (show y = 273 by omega) ▸ em_cw_273)))))) (fun g274 => (Nat.lt_or_ge y 283).elim (fun h283 => (Nat.lt_or_ge y 278).elim (fun h278 => (Nat.lt_or_ge y 276).elim (fun h276 => (Nat.lt_or_ge y 275).elim (fun h275 => (show y = 274 by omega) ▸ em_cw_274) (fun g275 => (show y = 275 by omega) ▸ em_cw_275)) (fun g276 => (Nat.lt_or_ge y 277).elim (fun h277 => (show y = 276 by omega) ▸ em_cw_276) (fun g277 => (show y = 277 by omega) ▸ em_cw_277))) (fun g278 => (Nat.lt_or_ge y 280).elim (fun h280 => (Nat.lt_or_ge y 279).elim (fun h279 => absurd (show y = 278 by omega) hl) (fun g279 => (show y = 279 by omega) ▸ em_cw_279)) (fun g280 => (Nat.lt_or_ge y 281).elim (fun h281 => (show y = 280 by omega) ▸ em_cw_280) (fun g281 => (Nat.lt_or_ge y 282).elim (fun h282 => (show y = 281 by omega) ▸ em_cw_281) (fun g282 => (show y = 282 by omega) ▸ em_cw_282))))) (fun g283 => (Nat.lt_or_ge y 288).elim (fun h288 => (Nat.lt_or_ge y 285).elim (fun h285 => (Nat.lt_or_ge y 284).elim (fun h284 => (show y = 283 by omega) ▸ em_cw_283) (fun g284 => (show y = 284 by omega) ▸ em_cw_284)) (fun g285 => (Nat.lt_or_ge y 286).elim (fun h286 => (show y = 285 by omega) ▸ em_cw_285) (fun g286 => (Nat.lt_or_ge y 287).elim (fun h287 => (show y = 286 by omega) ▸ em_cw_286) (fun g287 => (show y = 287 by omega) ▸ em_cw_287)))) (fun g288 => (Nat.lt_or_ge y 290).elim (fun h290 => (Nat.lt_or_ge y 289).elim (fun h289 => (show y = 288 by omega) ▸ em_cw_288) (fun g289 => (show y = 289 by omega) ▸ em_cw_289)) (fun g290 => (Nat.lt_or_ge y 291).elim (fun h291 => (show y = 290 by omega) ▸ em_cw_290) (fun g291 => (Nat.lt_or_ge y 292).elim (fun h292 => (show y = 291 by omega) ▸ em_cw_291) (fun g292 => (show y = 292 by omega) ▸ em_cw_292)))))))))
