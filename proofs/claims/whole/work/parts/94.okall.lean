/-! ===== laid by gen.py: every method is in order ===== -/
set_option maxRecDepth 100000 in
theorem xmc_0 : Cond.code (xy 0) (xcc 0) (xmt 0).2.2.2 (xret 0) ∈ lw_tbl := List.mem_of_getElem? (i := xwmc 0) rfl
theorem xk_0 : xkB 0 = true := by decide +kernel
set_option maxRecDepth 100000 in
theorem xmc_1 : Cond.code (xy 1) (xcc 1) (xmt 1).2.2.2 (xret 1) ∈ lw_tbl := List.mem_of_getElem? (i := xwmc 1) rfl
theorem xk_1 : xkB 1 = true := by decide +kernel
set_option maxRecDepth 100000 in
theorem xmc_2 : Cond.code (xy 2) (xcc 2) (xmt 2).2.2.2 (xret 2) ∈ lw_tbl := List.mem_of_getElem? (i := xwmc 2) rfl
theorem xk_2 : xkB 2 = true := by decide +kernel
set_option maxRecDepth 100000 in
theorem xmc_3 : Cond.code (xy 3) (xcc 3) (xmt 3).2.2.2 (xret 3) ∈ lw_tbl := List.mem_of_getElem? (i := xwmc 3) rfl
theorem xk_3 : xkB 3 = true := by decide +kernel
set_option maxRecDepth 100000 in
theorem xmc_4 : Cond.code (xy 4) (xcc 4) (xmt 4).2.2.2 (xret 4) ∈ lw_tbl := List.mem_of_getElem? (i := xwmc 4) rfl
theorem xk_4 : xkB 4 = true := by decide +kernel
set_option maxRecDepth 100000 in
theorem xmc_5 : Cond.code (xy 5) (xcc 5) (xmt 5).2.2.2 (xret 5) ∈ lw_tbl := List.mem_of_getElem? (i := xwmc 5) rfl
theorem xk_5 : xkB 5 = true := by decide +kernel
set_option maxRecDepth 100000 in
theorem xmc_6 : Cond.code (xy 6) (xcc 6) (xmt 6).2.2.2 (xret 6) ∈ lw_tbl := List.mem_of_getElem? (i := xwmc 6) rfl
theorem xk_6 : xkB 6 = true := by decide +kernel
set_option maxRecDepth 100000 in
theorem xmc_7 : Cond.code (xy 7) (xcc 7) (xmt 7).2.2.2 (xret 7) ∈ lw_tbl := List.mem_of_getElem? (i := xwmc 7) rfl
theorem xk_7 : xkB 7 = true := by decide +kernel
set_option maxRecDepth 100000 in
theorem xmc_8 : Cond.code (xy 8) (xcc 8) (xmt 8).2.2.2 (xret 8) ∈ lw_tbl := List.mem_of_getElem? (i := xwmc 8) rfl
theorem xk_8 : xkB 8 = true := by decide +kernel
set_option maxRecDepth 100000 in
theorem xmc_9 : Cond.code (xy 9) (xcc 9) (xmt 9).2.2.2 (xret 9) ∈ lw_tbl := List.mem_of_getElem? (i := xwmc 9) rfl
theorem xk_9 : xkB 9 = true := by decide +kernel
set_option maxRecDepth 100000 in
theorem xmc_10 : Cond.code (xy 10) (xcc 10) (xmt 10).2.2.2 (xret 10) ∈ lw_tbl := List.mem_of_getElem? (i := xwmc 10) rfl
theorem xk_10 : xkB 10 = true := by decide +kernel
set_option maxRecDepth 100000 in
theorem xmc_11 : Cond.code (xy 11) (xcc 11) (xmt 11).2.2.2 (xret 11) ∈ lw_tbl := List.mem_of_getElem? (i := xwmc 11) rfl
theorem xk_11 : xkB 11 = true := by decide +kernel
set_option maxRecDepth 100000 in
theorem xmc_12 : Cond.code (xy 12) (xcc 12) (xmt 12).2.2.2 (xret 12) ∈ lw_tbl := List.mem_of_getElem? (i := xwmc 12) rfl
theorem xk_12 : xkB 12 = true := by decide +kernel
set_option maxRecDepth 100000 in
theorem xmc_13 : Cond.code (xy 13) (xcc 13) (xmt 13).2.2.2 (xret 13) ∈ lw_tbl := List.mem_of_getElem? (i := xwmc 13) rfl
theorem xk_13 : xkB 13 = true := by decide +kernel
set_option maxRecDepth 100000 in
theorem xmc_14 : Cond.code (xy 14) (xcc 14) (xmt 14).2.2.2 (xret 14) ∈ lw_tbl := List.mem_of_getElem? (i := xwmc 14) rfl
theorem xk_14 : xkB 14 = true := by decide +kernel
set_option maxRecDepth 100000 in
theorem xmc_15 : Cond.code (xy 15) (xcc 15) (xmt 15).2.2.2 (xret 15) ∈ lw_tbl := List.mem_of_getElem? (i := xwmc 15) rfl
theorem xk_15 : xkB 15 = true := by decide +kernel
set_option maxRecDepth 100000 in
theorem xmc_16 : Cond.code (xy 16) (xcc 16) (xmt 16).2.2.2 (xret 16) ∈ lw_tbl := List.mem_of_getElem? (i := xwmc 16) rfl
theorem xk_16 : xkB 16 = true := by decide +kernel
set_option maxRecDepth 100000 in
theorem xmc_17 : Cond.code (xy 17) (xcc 17) (xmt 17).2.2.2 (xret 17) ∈ lw_tbl := List.mem_of_getElem? (i := xwmc 17) rfl
theorem xk_17 : xkB 17 = true := by decide +kernel
set_option maxRecDepth 100000 in
theorem xmc_18 : Cond.code (xy 18) (xcc 18) (xmt 18).2.2.2 (xret 18) ∈ lw_tbl := List.mem_of_getElem? (i := xwmc 18) rfl
theorem xk_18 : xkB 18 = true := by decide +kernel
set_option maxRecDepth 100000 in
theorem xmc_19 : Cond.code (xy 19) (xcc 19) (xmt 19).2.2.2 (xret 19) ∈ lw_tbl := List.mem_of_getElem? (i := xwmc 19) rfl
theorem xk_19 : xkB 19 = true := by decide +kernel
set_option maxRecDepth 100000 in
theorem xmc_20 : Cond.code (xy 20) (xcc 20) (xmt 20).2.2.2 (xret 20) ∈ lw_tbl := List.mem_of_getElem? (i := xwmc 20) rfl
theorem xk_20 : xkB 20 = true := by decide +kernel
set_option maxRecDepth 100000 in
theorem xmc_21 : Cond.code (xy 21) (xcc 21) (xmt 21).2.2.2 (xret 21) ∈ lw_tbl := List.mem_of_getElem? (i := xwmc 21) rfl
theorem xk_21 : xkB 21 = true := by decide +kernel
set_option maxRecDepth 100000 in
theorem xmc_22 : Cond.code (xy 22) (xcc 22) (xmt 22).2.2.2 (xret 22) ∈ lw_tbl := List.mem_of_getElem? (i := xwmc 22) rfl
theorem xk_22 : xkB 22 = true := by decide +kernel
set_option maxRecDepth 100000 in
theorem xmc_23 : Cond.code (xy 23) (xcc 23) (xmt 23).2.2.2 (xret 23) ∈ lw_tbl := List.mem_of_getElem? (i := xwmc 23) rfl
theorem xk_23 : xkB 23 = true := by decide +kernel
set_option maxRecDepth 100000 in
theorem xmc_24 : Cond.code (xy 24) (xcc 24) (xmt 24).2.2.2 (xret 24) ∈ lw_tbl := List.mem_of_getElem? (i := xwmc 24) rfl
theorem xk_24 : xkB 24 = true := by decide +kernel
set_option maxRecDepth 100000 in
theorem xmc_25 : Cond.code (xy 25) (xcc 25) (xmt 25).2.2.2 (xret 25) ∈ lw_tbl := List.mem_of_getElem? (i := xwmc 25) rfl
theorem xk_25 : xkB 25 = true := by decide +kernel
set_option maxRecDepth 100000 in
theorem xmc_26 : Cond.code (xy 26) (xcc 26) (xmt 26).2.2.2 (xret 26) ∈ lw_tbl := List.mem_of_getElem? (i := xwmc 26) rfl
theorem xk_26 : xkB 26 = true := by decide +kernel
set_option maxRecDepth 100000 in
theorem xmc_27 : Cond.code (xy 27) (xcc 27) (xmt 27).2.2.2 (xret 27) ∈ lw_tbl := List.mem_of_getElem? (i := xwmc 27) rfl
theorem xk_27 : xkB 27 = true := by decide +kernel
set_option maxRecDepth 100000 in
theorem xmc_28 : Cond.code (xy 28) (xcc 28) (xmt 28).2.2.2 (xret 28) ∈ lw_tbl := List.mem_of_getElem? (i := xwmc 28) rfl
theorem xk_28 : xkB 28 = true := by decide +kernel
set_option maxRecDepth 100000 in
theorem xmc_29 : Cond.code (xy 29) (xcc 29) (xmt 29).2.2.2 (xret 29) ∈ lw_tbl := List.mem_of_getElem? (i := xwmc 29) rfl
theorem xk_29 : xkB 29 = true := by decide +kernel
set_option maxRecDepth 100000 in
theorem xmc_30 : Cond.code (xy 30) (xcc 30) (xmt 30).2.2.2 (xret 30) ∈ lw_tbl := List.mem_of_getElem? (i := xwmc 30) rfl
theorem xk_30 : xkB 30 = true := by decide +kernel
set_option maxRecDepth 100000 in
theorem xmc_31 : Cond.code (xy 31) (xcc 31) (xmt 31).2.2.2 (xret 31) ∈ lw_tbl := List.mem_of_getElem? (i := xwmc 31) rfl
theorem xk_31 : xkB 31 = true := by decide +kernel
set_option maxRecDepth 100000 in
theorem xmc_32 : Cond.code (xy 32) (xcc 32) (xmt 32).2.2.2 (xret 32) ∈ lw_tbl := List.mem_of_getElem? (i := xwmc 32) rfl
theorem xk_32 : xkB 32 = true := by decide +kernel
set_option maxRecDepth 100000 in
theorem xmc_33 : Cond.code (xy 33) (xcc 33) (xmt 33).2.2.2 (xret 33) ∈ lw_tbl := List.mem_of_getElem? (i := xwmc 33) rfl
theorem xk_33 : xkB 33 = true := by decide +kernel
set_option maxRecDepth 100000 in
theorem xmc_34 : Cond.code (xy 34) (xcc 34) (xmt 34).2.2.2 (xret 34) ∈ lw_tbl := List.mem_of_getElem? (i := xwmc 34) rfl
theorem xk_34 : xkB 34 = true := by decide +kernel
set_option maxRecDepth 100000 in
theorem xmc_35 : Cond.code (xy 35) (xcc 35) (xmt 35).2.2.2 (xret 35) ∈ lw_tbl := List.mem_of_getElem? (i := xwmc 35) rfl
theorem xk_35 : xkB 35 = true := by decide +kernel
set_option maxRecDepth 100000 in
theorem xmc_36 : Cond.code (xy 36) (xcc 36) (xmt 36).2.2.2 (xret 36) ∈ lw_tbl := List.mem_of_getElem? (i := xwmc 36) rfl
theorem xk_36 : xkB 36 = true := by decide +kernel
set_option maxRecDepth 100000 in
theorem xmc_37 : Cond.code (xy 37) (xcc 37) (xmt 37).2.2.2 (xret 37) ∈ lw_tbl := List.mem_of_getElem? (i := xwmc 37) rfl
theorem xk_37 : xkB 37 = true := by decide +kernel
set_option maxRecDepth 100000 in
theorem xmc_38 : Cond.code (xy 38) (xcc 38) (xmt 38).2.2.2 (xret 38) ∈ lw_tbl := List.mem_of_getElem? (i := xwmc 38) rfl
theorem xk_38 : xkB 38 = true := by decide +kernel
set_option maxRecDepth 100000 in
theorem xmc_39 : Cond.code (xy 39) (xcc 39) (xmt 39).2.2.2 (xret 39) ∈ lw_tbl := List.mem_of_getElem? (i := xwmc 39) rfl
theorem xk_39 : xkB 39 = true := by decide +kernel
set_option maxRecDepth 100000 in
theorem xmc_40 : Cond.code (xy 40) (xcc 40) (xmt 40).2.2.2 (xret 40) ∈ lw_tbl := List.mem_of_getElem? (i := xwmc 40) rfl
theorem xk_40 : xkB 40 = true := by decide +kernel
set_option maxRecDepth 100000 in
theorem xmc_41 : Cond.code (xy 41) (xcc 41) (xmt 41).2.2.2 (xret 41) ∈ lw_tbl := List.mem_of_getElem? (i := xwmc 41) rfl
theorem xk_41 : xkB 41 = true := by decide +kernel
set_option maxRecDepth 100000 in
theorem xmc_42 : Cond.code (xy 42) (xcc 42) (xmt 42).2.2.2 (xret 42) ∈ lw_tbl := List.mem_of_getElem? (i := xwmc 42) rfl
theorem xk_42 : xkB 42 = true := by decide +kernel
set_option maxRecDepth 100000 in
theorem xmc_43 : Cond.code (xy 43) (xcc 43) (xmt 43).2.2.2 (xret 43) ∈ lw_tbl := List.mem_of_getElem? (i := xwmc 43) rfl
theorem xk_43 : xkB 43 = true := by decide +kernel
set_option maxRecDepth 100000 in
theorem xmc_44 : Cond.code (xy 44) (xcc 44) (xmt 44).2.2.2 (xret 44) ∈ lw_tbl := List.mem_of_getElem? (i := xwmc 44) rfl
theorem xk_44 : xkB 44 = true := by decide +kernel
set_option maxRecDepth 100000 in
theorem xmc_45 : Cond.code (xy 45) (xcc 45) (xmt 45).2.2.2 (xret 45) ∈ lw_tbl := List.mem_of_getElem? (i := xwmc 45) rfl
theorem xk_45 : xkB 45 = true := by decide +kernel
set_option maxRecDepth 100000 in
theorem xmc_46 : Cond.code (xy 46) (xcc 46) (xmt 46).2.2.2 (xret 46) ∈ lw_tbl := List.mem_of_getElem? (i := xwmc 46) rfl
theorem xk_46 : xkB 46 = true := by decide +kernel
set_option maxRecDepth 100000 in
theorem xmc_47 : Cond.code (xy 47) (xcc 47) (xmt 47).2.2.2 (xret 47) ∈ lw_tbl := List.mem_of_getElem? (i := xwmc 47) rfl
theorem xk_47 : xkB 47 = true := by decide +kernel
set_option maxRecDepth 100000 in
theorem xmc_48 : Cond.code (xy 48) (xcc 48) (xmt 48).2.2.2 (xret 48) ∈ lw_tbl := List.mem_of_getElem? (i := xwmc 48) rfl
theorem xk_48 : xkB 48 = true := by decide +kernel
set_option maxRecDepth 100000 in
theorem xmc_49 : Cond.code (xy 49) (xcc 49) (xmt 49).2.2.2 (xret 49) ∈ lw_tbl := List.mem_of_getElem? (i := xwmc 49) rfl
theorem xk_49 : xkB 49 = true := by decide +kernel
set_option maxRecDepth 100000 in
theorem xmc_50 : Cond.code (xy 50) (xcc 50) (xmt 50).2.2.2 (xret 50) ∈ lw_tbl := List.mem_of_getElem? (i := xwmc 50) rfl
theorem xk_50 : xkB 50 = true := by decide +kernel
set_option maxRecDepth 100000 in
theorem xmc_51 : Cond.code (xy 51) (xcc 51) (xmt 51).2.2.2 (xret 51) ∈ lw_tbl := List.mem_of_getElem? (i := xwmc 51) rfl
theorem xk_51 : xkB 51 = true := by decide +kernel
set_option maxRecDepth 100000 in
theorem xmc_52 : Cond.code (xy 52) (xcc 52) (xmt 52).2.2.2 (xret 52) ∈ lw_tbl := List.mem_of_getElem? (i := xwmc 52) rfl
theorem xk_52 : xkB 52 = true := by decide +kernel
set_option maxRecDepth 100000 in
theorem xmc_53 : Cond.code (xy 53) (xcc 53) (xmt 53).2.2.2 (xret 53) ∈ lw_tbl := List.mem_of_getElem? (i := xwmc 53) rfl
theorem xk_53 : xkB 53 = true := by decide +kernel
set_option maxRecDepth 100000 in
theorem xmc_54 : Cond.code (xy 54) (xcc 54) (xmt 54).2.2.2 (xret 54) ∈ lw_tbl := List.mem_of_getElem? (i := xwmc 54) rfl
theorem xk_54 : xkB 54 = true := by decide +kernel
set_option maxRecDepth 100000 in
theorem xmc_55 : Cond.code (xy 55) (xcc 55) (xmt 55).2.2.2 (xret 55) ∈ lw_tbl := List.mem_of_getElem? (i := xwmc 55) rfl
theorem xk_55 : xkB 55 = true := by decide +kernel
set_option maxRecDepth 100000 in
theorem xmc_56 : Cond.code (xy 56) (xcc 56) (xmt 56).2.2.2 (xret 56) ∈ lw_tbl := List.mem_of_getElem? (i := xwmc 56) rfl
theorem xk_56 : xkB 56 = true := by decide +kernel
set_option maxRecDepth 100000 in
theorem xmc_57 : Cond.code (xy 57) (xcc 57) (xmt 57).2.2.2 (xret 57) ∈ lw_tbl := List.mem_of_getElem? (i := xwmc 57) rfl
theorem xk_57 : xkB 57 = true := by decide +kernel
set_option maxRecDepth 100000 in
theorem xmc_58 : Cond.code (xy 58) (xcc 58) (xmt 58).2.2.2 (xret 58) ∈ lw_tbl := List.mem_of_getElem? (i := xwmc 58) rfl
theorem xk_58 : xkB 58 = true := by decide +kernel
set_option maxRecDepth 100000 in
theorem xmc_59 : Cond.code (xy 59) (xcc 59) (xmt 59).2.2.2 (xret 59) ∈ lw_tbl := List.mem_of_getElem? (i := xwmc 59) rfl
theorem xk_59 : xkB 59 = true := by decide +kernel
set_option maxRecDepth 100000 in
theorem xmc_60 : Cond.code (xy 60) (xcc 60) (xmt 60).2.2.2 (xret 60) ∈ lw_tbl := List.mem_of_getElem? (i := xwmc 60) rfl
theorem xk_60 : xkB 60 = true := by decide +kernel
set_option maxRecDepth 100000 in
theorem xmc_61 : Cond.code (xy 61) (xcc 61) (xmt 61).2.2.2 (xret 61) ∈ lw_tbl := List.mem_of_getElem? (i := xwmc 61) rfl
theorem xk_61 : xkB 61 = true := by decide +kernel
set_option maxRecDepth 100000 in
theorem xmc_62 : Cond.code (xy 62) (xcc 62) (xmt 62).2.2.2 (xret 62) ∈ lw_tbl := List.mem_of_getElem? (i := xwmc 62) rfl
theorem xk_62 : xkB 62 = true := by decide +kernel
set_option maxRecDepth 100000 in
theorem xmc_63 : Cond.code (xy 63) (xcc 63) (xmt 63).2.2.2 (xret 63) ∈ lw_tbl := List.mem_of_getElem? (i := xwmc 63) rfl
theorem xk_63 : xkB 63 = true := by decide +kernel
set_option maxRecDepth 100000 in
theorem xmc_64 : Cond.code (xy 64) (xcc 64) (xmt 64).2.2.2 (xret 64) ∈ lw_tbl := List.mem_of_getElem? (i := xwmc 64) rfl
theorem xk_64 : xkB 64 = true := by decide +kernel
set_option maxRecDepth 100000 in
theorem xmc_65 : Cond.code (xy 65) (xcc 65) (xmt 65).2.2.2 (xret 65) ∈ lw_tbl := List.mem_of_getElem? (i := xwmc 65) rfl
theorem xk_65 : xkB 65 = true := by decide +kernel
set_option maxRecDepth 100000 in
theorem xmc_66 : Cond.code (xy 66) (xcc 66) (xmt 66).2.2.2 (xret 66) ∈ lw_tbl := List.mem_of_getElem? (i := xwmc 66) rfl
theorem xk_66 : xkB 66 = true := by decide +kernel
set_option maxRecDepth 100000 in
theorem xmc_67 : Cond.code (xy 67) (xcc 67) (xmt 67).2.2.2 (xret 67) ∈ lw_tbl := List.mem_of_getElem? (i := xwmc 67) rfl
theorem xk_67 : xkB 67 = true := by decide +kernel
set_option maxRecDepth 100000 in
theorem xmc_68 : Cond.code (xy 68) (xcc 68) (xmt 68).2.2.2 (xret 68) ∈ lw_tbl := List.mem_of_getElem? (i := xwmc 68) rfl
theorem xk_68 : xkB 68 = true := by decide +kernel
set_option maxRecDepth 100000 in
theorem xmc_69 : Cond.code (xy 69) (xcc 69) (xmt 69).2.2.2 (xret 69) ∈ lw_tbl := List.mem_of_getElem? (i := xwmc 69) rfl
theorem xk_69 : xkB 69 = true := by decide +kernel
set_option maxRecDepth 100000 in
theorem xmc_70 : Cond.code (xy 70) (xcc 70) (xmt 70).2.2.2 (xret 70) ∈ lw_tbl := List.mem_of_getElem? (i := xwmc 70) rfl
theorem xk_70 : xkB 70 = true := by decide +kernel
set_option maxRecDepth 100000 in
theorem xmc_71 : Cond.code (xy 71) (xcc 71) (xmt 71).2.2.2 (xret 71) ∈ lw_tbl := List.mem_of_getElem? (i := xwmc 71) rfl
theorem xk_71 : xkB 71 = true := by decide +kernel
set_option maxRecDepth 100000 in
theorem xmc_72 : Cond.code (xy 72) (xcc 72) (xmt 72).2.2.2 (xret 72) ∈ lw_tbl := List.mem_of_getElem? (i := xwmc 72) rfl
theorem xk_72 : xkB 72 = true := by decide +kernel
set_option maxRecDepth 100000 in
theorem xmc_73 : Cond.code (xy 73) (xcc 73) (xmt 73).2.2.2 (xret 73) ∈ lw_tbl := List.mem_of_getElem? (i := xwmc 73) rfl
theorem xk_73 : xkB 73 = true := by decide +kernel
set_option maxRecDepth 100000 in
theorem xmc_74 : Cond.code (xy 74) (xcc 74) (xmt 74).2.2.2 (xret 74) ∈ lw_tbl := List.mem_of_getElem? (i := xwmc 74) rfl
theorem xk_74 : xkB 74 = true := by decide +kernel
set_option maxRecDepth 100000 in
theorem xmc_75 : Cond.code (xy 75) (xcc 75) (xmt 75).2.2.2 (xret 75) ∈ lw_tbl := List.mem_of_getElem? (i := xwmc 75) rfl
theorem xk_75 : xkB 75 = true := by decide +kernel
set_option maxRecDepth 100000 in
theorem xmc_76 : Cond.code (xy 76) (xcc 76) (xmt 76).2.2.2 (xret 76) ∈ lw_tbl := List.mem_of_getElem? (i := xwmc 76) rfl
theorem xk_76 : xkB 76 = true := by decide +kernel
set_option maxRecDepth 100000 in
theorem xmc_77 : Cond.code (xy 77) (xcc 77) (xmt 77).2.2.2 (xret 77) ∈ lw_tbl := List.mem_of_getElem? (i := xwmc 77) rfl
theorem xk_77 : xkB 77 = true := by decide +kernel
set_option maxRecDepth 100000 in
theorem xmc_78 : Cond.code (xy 78) (xcc 78) (xmt 78).2.2.2 (xret 78) ∈ lw_tbl := List.mem_of_getElem? (i := xwmc 78) rfl
theorem xk_78 : xkB 78 = true := by decide +kernel
set_option maxRecDepth 100000 in
theorem xmc_79 : Cond.code (xy 79) (xcc 79) (xmt 79).2.2.2 (xret 79) ∈ lw_tbl := List.mem_of_getElem? (i := xwmc 79) rfl
theorem xk_79 : xkB 79 = true := by decide +kernel
set_option maxRecDepth 100000 in
theorem xmc_80 : Cond.code (xy 80) (xcc 80) (xmt 80).2.2.2 (xret 80) ∈ lw_tbl := List.mem_of_getElem? (i := xwmc 80) rfl
theorem xk_80 : xkB 80 = true := by decide +kernel
set_option maxRecDepth 100000 in
theorem xmc_81 : Cond.code (xy 81) (xcc 81) (xmt 81).2.2.2 (xret 81) ∈ lw_tbl := List.mem_of_getElem? (i := xwmc 81) rfl
theorem xk_81 : xkB 81 = true := by decide +kernel
set_option maxRecDepth 100000 in
theorem xmc_82 : Cond.code (xy 82) (xcc 82) (xmt 82).2.2.2 (xret 82) ∈ lw_tbl := List.mem_of_getElem? (i := xwmc 82) rfl
theorem xk_82 : xkB 82 = true := by decide +kernel
set_option maxRecDepth 100000 in
theorem xmc_83 : Cond.code (xy 83) (xcc 83) (xmt 83).2.2.2 (xret 83) ∈ lw_tbl := List.mem_of_getElem? (i := xwmc 83) rfl
theorem xk_83 : xkB 83 = true := by decide +kernel
set_option maxRecDepth 100000 in
theorem xmc_84 : Cond.code (xy 84) (xcc 84) (xmt 84).2.2.2 (xret 84) ∈ lw_tbl := List.mem_of_getElem? (i := xwmc 84) rfl
theorem xk_84 : xkB 84 = true := by decide +kernel
set_option maxRecDepth 100000 in
theorem xmc_85 : Cond.code (xy 85) (xcc 85) (xmt 85).2.2.2 (xret 85) ∈ lw_tbl := List.mem_of_getElem? (i := xwmc 85) rfl
theorem xk_85 : xkB 85 = true := by decide +kernel
set_option maxRecDepth 100000 in
theorem xmc_86 : Cond.code (xy 86) (xcc 86) (xmt 86).2.2.2 (xret 86) ∈ lw_tbl := List.mem_of_getElem? (i := xwmc 86) rfl
theorem xk_86 : xkB 86 = true := by decide +kernel
set_option maxRecDepth 100000 in
theorem xmc_87 : Cond.code (xy 87) (xcc 87) (xmt 87).2.2.2 (xret 87) ∈ lw_tbl := List.mem_of_getElem? (i := xwmc 87) rfl
theorem xk_87 : xkB 87 = true := by decide +kernel
set_option maxRecDepth 100000 in
theorem xmc_88 : Cond.code (xy 88) (xcc 88) (xmt 88).2.2.2 (xret 88) ∈ lw_tbl := List.mem_of_getElem? (i := xwmc 88) rfl
theorem xk_88 : xkB 88 = true := by decide +kernel
set_option maxRecDepth 100000 in
theorem xmc_89 : Cond.code (xy 89) (xcc 89) (xmt 89).2.2.2 (xret 89) ∈ lw_tbl := List.mem_of_getElem? (i := xwmc 89) rfl
theorem xk_89 : xkB 89 = true := by decide +kernel
set_option maxRecDepth 100000 in
theorem xmc_90 : Cond.code (xy 90) (xcc 90) (xmt 90).2.2.2 (xret 90) ∈ lw_tbl := List.mem_of_getElem? (i := xwmc 90) rfl
theorem xk_90 : xkB 90 = true := by decide +kernel
set_option maxRecDepth 100000 in
theorem xmc_91 : Cond.code (xy 91) (xcc 91) (xmt 91).2.2.2 (xret 91) ∈ lw_tbl := List.mem_of_getElem? (i := xwmc 91) rfl
theorem xk_91 : xkB 91 = true := by decide +kernel
set_option maxRecDepth 100000 in
theorem xmc_92 : Cond.code (xy 92) (xcc 92) (xmt 92).2.2.2 (xret 92) ∈ lw_tbl := List.mem_of_getElem? (i := xwmc 92) rfl
theorem xk_92 : xkB 92 = true := by decide +kernel
set_option maxRecDepth 100000 in
theorem xmc_93 : Cond.code (xy 93) (xcc 93) (xmt 93).2.2.2 (xret 93) ∈ lw_tbl := List.mem_of_getElem? (i := xwmc 93) rfl
theorem xk_93 : xkB 93 = true := by decide +kernel
set_option maxRecDepth 100000 in
theorem xmc_94 : Cond.code (xy 94) (xcc 94) (xmt 94).2.2.2 (xret 94) ∈ lw_tbl := List.mem_of_getElem? (i := xwmc 94) rfl
theorem xk_94 : xkB 94 = true := by decide +kernel
set_option maxRecDepth 100000 in
theorem xmc_95 : Cond.code (xy 95) (xcc 95) (xmt 95).2.2.2 (xret 95) ∈ lw_tbl := List.mem_of_getElem? (i := xwmc 95) rfl
theorem xk_95 : xkB 95 = true := by decide +kernel
set_option maxRecDepth 100000 in
theorem xmc_96 : Cond.code (xy 96) (xcc 96) (xmt 96).2.2.2 (xret 96) ∈ lw_tbl := List.mem_of_getElem? (i := xwmc 96) rfl
theorem xk_96 : xkB 96 = true := by decide +kernel
set_option maxRecDepth 100000 in
theorem xmc_97 : Cond.code (xy 97) (xcc 97) (xmt 97).2.2.2 (xret 97) ∈ lw_tbl := List.mem_of_getElem? (i := xwmc 97) rfl
theorem xk_97 : xkB 97 = true := by decide +kernel
set_option maxRecDepth 100000 in
theorem xmc_98 : Cond.code (xy 98) (xcc 98) (xmt 98).2.2.2 (xret 98) ∈ lw_tbl := List.mem_of_getElem? (i := xwmc 98) rfl
theorem xk_98 : xkB 98 = true := by decide +kernel
set_option maxRecDepth 100000 in
theorem xmc_99 : Cond.code (xy 99) (xcc 99) (xmt 99).2.2.2 (xret 99) ∈ lw_tbl := List.mem_of_getElem? (i := xwmc 99) rfl
theorem xk_99 : xkB 99 = true := by decide +kernel
set_option maxRecDepth 100000 in
theorem xmc_100 : Cond.code (xy 100) (xcc 100) (xmt 100).2.2.2 (xret 100) ∈ lw_tbl := List.mem_of_getElem? (i := xwmc 100) rfl
theorem xk_100 : xkB 100 = true := by decide +kernel
set_option maxRecDepth 100000 in
theorem xmc_101 : Cond.code (xy 101) (xcc 101) (xmt 101).2.2.2 (xret 101) ∈ lw_tbl := List.mem_of_getElem? (i := xwmc 101) rfl
theorem xk_101 : xkB 101 = true := by decide +kernel
set_option maxRecDepth 100000 in
theorem xmc_102 : Cond.code (xy 102) (xcc 102) (xmt 102).2.2.2 (xret 102) ∈ lw_tbl := List.mem_of_getElem? (i := xwmc 102) rfl
theorem xk_102 : xkB 102 = true := by decide +kernel
set_option maxRecDepth 100000 in
theorem xmc_103 : Cond.code (xy 103) (xcc 103) (xmt 103).2.2.2 (xret 103) ∈ lw_tbl := List.mem_of_getElem? (i := xwmc 103) rfl
theorem xk_103 : xkB 103 = true := by decide +kernel
set_option maxRecDepth 100000 in
theorem xmc_104 : Cond.code (xy 104) (xcc 104) (xmt 104).2.2.2 (xret 104) ∈ lw_tbl := List.mem_of_getElem? (i := xwmc 104) rfl
theorem xk_104 : xkB 104 = true := by decide +kernel
set_option maxRecDepth 100000 in
theorem xmc_105 : Cond.code (xy 105) (xcc 105) (xmt 105).2.2.2 (xret 105) ∈ lw_tbl := List.mem_of_getElem? (i := xwmc 105) rfl
theorem xk_105 : xkB 105 = true := by decide +kernel
set_option maxRecDepth 100000 in
theorem xmc_106 : Cond.code (xy 106) (xcc 106) (xmt 106).2.2.2 (xret 106) ∈ lw_tbl := List.mem_of_getElem? (i := xwmc 106) rfl
theorem xk_106 : xkB 106 = true := by decide +kernel
set_option maxRecDepth 100000 in
theorem xmc_107 : Cond.code (xy 107) (xcc 107) (xmt 107).2.2.2 (xret 107) ∈ lw_tbl := List.mem_of_getElem? (i := xwmc 107) rfl
theorem xk_107 : xkB 107 = true := by decide +kernel
set_option maxRecDepth 100000 in
theorem xmc_108 : Cond.code (xy 108) (xcc 108) (xmt 108).2.2.2 (xret 108) ∈ lw_tbl := List.mem_of_getElem? (i := xwmc 108) rfl
theorem xk_108 : xkB 108 = true := by decide +kernel
set_option maxRecDepth 100000 in
theorem xmc_109 : Cond.code (xy 109) (xcc 109) (xmt 109).2.2.2 (xret 109) ∈ lw_tbl := List.mem_of_getElem? (i := xwmc 109) rfl
theorem xk_109 : xkB 109 = true := by decide +kernel
set_option maxRecDepth 100000 in
theorem xmc_110 : Cond.code (xy 110) (xcc 110) (xmt 110).2.2.2 (xret 110) ∈ lw_tbl := List.mem_of_getElem? (i := xwmc 110) rfl
theorem xk_110 : xkB 110 = true := by decide +kernel
set_option maxRecDepth 100000 in
theorem xmc_111 : Cond.code (xy 111) (xcc 111) (xmt 111).2.2.2 (xret 111) ∈ lw_tbl := List.mem_of_getElem? (i := xwmc 111) rfl
theorem xk_111 : xkB 111 = true := by decide +kernel
set_option maxRecDepth 100000 in
theorem xmc_112 : Cond.code (xy 112) (xcc 112) (xmt 112).2.2.2 (xret 112) ∈ lw_tbl := List.mem_of_getElem? (i := xwmc 112) rfl
theorem xk_112 : xkB 112 = true := by decide +kernel
set_option maxRecDepth 100000 in
theorem xmc_113 : Cond.code (xy 113) (xcc 113) (xmt 113).2.2.2 (xret 113) ∈ lw_tbl := List.mem_of_getElem? (i := xwmc 113) rfl
theorem xk_113 : xkB 113 = true := by decide +kernel
set_option maxRecDepth 100000 in
theorem xmc_114 : Cond.code (xy 114) (xcc 114) (xmt 114).2.2.2 (xret 114) ∈ lw_tbl := List.mem_of_getElem? (i := xwmc 114) rfl
theorem xk_114 : xkB 114 = true := by decide +kernel
set_option maxRecDepth 100000 in
theorem xmc_115 : Cond.code (xy 115) (xcc 115) (xmt 115).2.2.2 (xret 115) ∈ lw_tbl := List.mem_of_getElem? (i := xwmc 115) rfl
theorem xk_115 : xkB 115 = true := by decide +kernel
set_option maxRecDepth 100000 in
theorem xmc_116 : Cond.code (xy 116) (xcc 116) (xmt 116).2.2.2 (xret 116) ∈ lw_tbl := List.mem_of_getElem? (i := xwmc 116) rfl
theorem xk_116 : xkB 116 = true := by decide +kernel
set_option maxRecDepth 100000 in
theorem xmc_117 : Cond.code (xy 117) (xcc 117) (xmt 117).2.2.2 (xret 117) ∈ lw_tbl := List.mem_of_getElem? (i := xwmc 117) rfl
theorem xk_117 : xkB 117 = true := by decide +kernel
set_option maxRecDepth 100000 in
theorem xmc_118 : Cond.code (xy 118) (xcc 118) (xmt 118).2.2.2 (xret 118) ∈ lw_tbl := List.mem_of_getElem? (i := xwmc 118) rfl
theorem xk_118 : xkB 118 = true := by decide +kernel
set_option maxRecDepth 100000 in
theorem xmc_119 : Cond.code (xy 119) (xcc 119) (xmt 119).2.2.2 (xret 119) ∈ lw_tbl := List.mem_of_getElem? (i := xwmc 119) rfl
theorem xk_119 : xkB 119 = true := by decide +kernel
set_option maxRecDepth 100000 in
theorem xmc_120 : Cond.code (xy 120) (xcc 120) (xmt 120).2.2.2 (xret 120) ∈ lw_tbl := List.mem_of_getElem? (i := xwmc 120) rfl
theorem xk_120 : xkB 120 = true := by decide +kernel
set_option maxRecDepth 100000 in
theorem xmc_121 : Cond.code (xy 121) (xcc 121) (xmt 121).2.2.2 (xret 121) ∈ lw_tbl := List.mem_of_getElem? (i := xwmc 121) rfl
theorem xk_121 : xkB 121 = true := by decide +kernel
set_option maxRecDepth 100000 in
theorem xmc_122 : Cond.code (xy 122) (xcc 122) (xmt 122).2.2.2 (xret 122) ∈ lw_tbl := List.mem_of_getElem? (i := xwmc 122) rfl
theorem xk_122 : xkB 122 = true := by decide +kernel
set_option maxRecDepth 100000 in
theorem xmc_123 : Cond.code (xy 123) (xcc 123) (xmt 123).2.2.2 (xret 123) ∈ lw_tbl := List.mem_of_getElem? (i := xwmc 123) rfl
theorem xk_123 : xkB 123 = true := by decide +kernel
set_option maxRecDepth 100000 in
theorem xmc_124 : Cond.code (xy 124) (xcc 124) (xmt 124).2.2.2 (xret 124) ∈ lw_tbl := List.mem_of_getElem? (i := xwmc 124) rfl
theorem xk_124 : xkB 124 = true := by decide +kernel
set_option maxRecDepth 100000 in
theorem xmc_125 : Cond.code (xy 125) (xcc 125) (xmt 125).2.2.2 (xret 125) ∈ lw_tbl := List.mem_of_getElem? (i := xwmc 125) rfl
theorem xk_125 : xkB 125 = true := by decide +kernel
set_option maxRecDepth 100000 in
theorem xmc_126 : Cond.code (xy 126) (xcc 126) (xmt 126).2.2.2 (xret 126) ∈ lw_tbl := List.mem_of_getElem? (i := xwmc 126) rfl
theorem xk_126 : xkB 126 = true := by decide +kernel
set_option maxRecDepth 100000 in
theorem xmc_127 : Cond.code (xy 127) (xcc 127) (xmt 127).2.2.2 (xret 127) ∈ lw_tbl := List.mem_of_getElem? (i := xwmc 127) rfl
theorem xk_127 : xkB 127 = true := by decide +kernel
set_option maxRecDepth 100000 in
theorem xmc_128 : Cond.code (xy 128) (xcc 128) (xmt 128).2.2.2 (xret 128) ∈ lw_tbl := List.mem_of_getElem? (i := xwmc 128) rfl
theorem xk_128 : xkB 128 = true := by decide +kernel
set_option maxRecDepth 100000 in
theorem xmc_129 : Cond.code (xy 129) (xcc 129) (xmt 129).2.2.2 (xret 129) ∈ lw_tbl := List.mem_of_getElem? (i := xwmc 129) rfl
theorem xk_129 : xkB 129 = true := by decide +kernel
set_option maxRecDepth 100000 in
theorem xmc_130 : Cond.code (xy 130) (xcc 130) (xmt 130).2.2.2 (xret 130) ∈ lw_tbl := List.mem_of_getElem? (i := xwmc 130) rfl
theorem xk_130 : xkB 130 = true := by decide +kernel
set_option maxRecDepth 100000 in
theorem xmc_131 : Cond.code (xy 131) (xcc 131) (xmt 131).2.2.2 (xret 131) ∈ lw_tbl := List.mem_of_getElem? (i := xwmc 131) rfl
theorem xk_131 : xkB 131 = true := by decide +kernel
set_option maxRecDepth 100000 in
theorem xmc_132 : Cond.code (xy 132) (xcc 132) (xmt 132).2.2.2 (xret 132) ∈ lw_tbl := List.mem_of_getElem? (i := xwmc 132) rfl
theorem xk_132 : xkB 132 = true := by decide +kernel
set_option maxRecDepth 100000 in
theorem xmc_133 : Cond.code (xy 133) (xcc 133) (xmt 133).2.2.2 (xret 133) ∈ lw_tbl := List.mem_of_getElem? (i := xwmc 133) rfl
theorem xk_133 : xkB 133 = true := by decide +kernel
set_option maxRecDepth 100000 in
theorem xmc_134 : Cond.code (xy 134) (xcc 134) (xmt 134).2.2.2 (xret 134) ∈ lw_tbl := List.mem_of_getElem? (i := xwmc 134) rfl
theorem xk_134 : xkB 134 = true := by decide +kernel
set_option maxRecDepth 100000 in
theorem xmc_135 : Cond.code (xy 135) (xcc 135) (xmt 135).2.2.2 (xret 135) ∈ lw_tbl := List.mem_of_getElem? (i := xwmc 135) rfl
theorem xk_135 : xkB 135 = true := by decide +kernel
set_option maxRecDepth 100000 in
theorem xmc_136 : Cond.code (xy 136) (xcc 136) (xmt 136).2.2.2 (xret 136) ∈ lw_tbl := List.mem_of_getElem? (i := xwmc 136) rfl
theorem xk_136 : xkB 136 = true := by decide +kernel
set_option maxRecDepth 100000 in
theorem xmc_137 : Cond.code (xy 137) (xcc 137) (xmt 137).2.2.2 (xret 137) ∈ lw_tbl := List.mem_of_getElem? (i := xwmc 137) rfl
theorem xk_137 : xkB 137 = true := by decide +kernel
set_option maxRecDepth 100000 in
theorem xmc_138 : Cond.code (xy 138) (xcc 138) (xmt 138).2.2.2 (xret 138) ∈ lw_tbl := List.mem_of_getElem? (i := xwmc 138) rfl
theorem xk_138 : xkB 138 = true := by decide +kernel
set_option maxRecDepth 100000 in
theorem xmc_139 : Cond.code (xy 139) (xcc 139) (xmt 139).2.2.2 (xret 139) ∈ lw_tbl := List.mem_of_getElem? (i := xwmc 139) rfl
theorem xk_139 : xkB 139 = true := by decide +kernel
set_option maxRecDepth 100000 in
theorem xmc_140 : Cond.code (xy 140) (xcc 140) (xmt 140).2.2.2 (xret 140) ∈ lw_tbl := List.mem_of_getElem? (i := xwmc 140) rfl
theorem xk_140 : xkB 140 = true := by decide +kernel
set_option maxRecDepth 100000 in
theorem xmc_141 : Cond.code (xy 141) (xcc 141) (xmt 141).2.2.2 (xret 141) ∈ lw_tbl := List.mem_of_getElem? (i := xwmc 141) rfl
theorem xk_141 : xkB 141 = true := by decide +kernel
set_option maxRecDepth 100000 in
theorem xmc_142 : Cond.code (xy 142) (xcc 142) (xmt 142).2.2.2 (xret 142) ∈ lw_tbl := List.mem_of_getElem? (i := xwmc 142) rfl
theorem xk_142 : xkB 142 = true := by decide +kernel
set_option maxRecDepth 100000 in
theorem xmc_143 : Cond.code (xy 143) (xcc 143) (xmt 143).2.2.2 (xret 143) ∈ lw_tbl := List.mem_of_getElem? (i := xwmc 143) rfl
theorem xk_143 : xkB 143 = true := by decide +kernel
set_option maxRecDepth 100000 in
theorem xmc_144 : Cond.code (xy 144) (xcc 144) (xmt 144).2.2.2 (xret 144) ∈ lw_tbl := List.mem_of_getElem? (i := xwmc 144) rfl
theorem xk_144 : xkB 144 = true := by decide +kernel
set_option maxRecDepth 100000 in
theorem xmc_145 : Cond.code (xy 145) (xcc 145) (xmt 145).2.2.2 (xret 145) ∈ lw_tbl := List.mem_of_getElem? (i := xwmc 145) rfl
theorem xk_145 : xkB 145 = true := by decide +kernel
set_option maxRecDepth 100000 in
theorem xmc_146 : Cond.code (xy 146) (xcc 146) (xmt 146).2.2.2 (xret 146) ∈ lw_tbl := List.mem_of_getElem? (i := xwmc 146) rfl
theorem xk_146 : xkB 146 = true := by decide +kernel
set_option maxRecDepth 100000 in
theorem xmc_147 : Cond.code (xy 147) (xcc 147) (xmt 147).2.2.2 (xret 147) ∈ lw_tbl := List.mem_of_getElem? (i := xwmc 147) rfl
theorem xk_147 : xkB 147 = true := by decide +kernel
set_option maxRecDepth 100000 in
theorem xmc_148 : Cond.code (xy 148) (xcc 148) (xmt 148).2.2.2 (xret 148) ∈ lw_tbl := List.mem_of_getElem? (i := xwmc 148) rfl
theorem xk_148 : xkB 148 = true := by decide +kernel
set_option maxRecDepth 100000 in
theorem xmc_149 : Cond.code (xy 149) (xcc 149) (xmt 149).2.2.2 (xret 149) ∈ lw_tbl := List.mem_of_getElem? (i := xwmc 149) rfl
theorem xk_149 : xkB 149 = true := by decide +kernel
set_option maxRecDepth 100000 in
theorem xmc_150 : Cond.code (xy 150) (xcc 150) (xmt 150).2.2.2 (xret 150) ∈ lw_tbl := List.mem_of_getElem? (i := xwmc 150) rfl
theorem xk_150 : xkB 150 = true := by decide +kernel
set_option maxRecDepth 100000 in
theorem xmc_151 : Cond.code (xy 151) (xcc 151) (xmt 151).2.2.2 (xret 151) ∈ lw_tbl := List.mem_of_getElem? (i := xwmc 151) rfl
theorem xk_151 : xkB 151 = true := by decide +kernel
set_option maxRecDepth 100000 in
theorem xmc_152 : Cond.code (xy 152) (xcc 152) (xmt 152).2.2.2 (xret 152) ∈ lw_tbl := List.mem_of_getElem? (i := xwmc 152) rfl
theorem xk_152 : xkB 152 = true := by decide +kernel
set_option maxRecDepth 100000 in
theorem xmc_153 : Cond.code (xy 153) (xcc 153) (xmt 153).2.2.2 (xret 153) ∈ lw_tbl := List.mem_of_getElem? (i := xwmc 153) rfl
theorem xk_153 : xkB 153 = true := by decide +kernel
set_option maxRecDepth 100000 in
theorem xmc_154 : Cond.code (xy 154) (xcc 154) (xmt 154).2.2.2 (xret 154) ∈ lw_tbl := List.mem_of_getElem? (i := xwmc 154) rfl
theorem xk_154 : xkB 154 = true := by decide +kernel
set_option maxRecDepth 100000 in
theorem xmc_155 : Cond.code (xy 155) (xcc 155) (xmt 155).2.2.2 (xret 155) ∈ lw_tbl := List.mem_of_getElem? (i := xwmc 155) rfl
theorem xk_155 : xkB 155 = true := by decide +kernel
set_option maxRecDepth 100000 in
theorem xmc_156 : Cond.code (xy 156) (xcc 156) (xmt 156).2.2.2 (xret 156) ∈ lw_tbl := List.mem_of_getElem? (i := xwmc 156) rfl
theorem xk_156 : xkB 156 = true := by decide +kernel
set_option maxRecDepth 100000 in
theorem xmc_157 : Cond.code (xy 157) (xcc 157) (xmt 157).2.2.2 (xret 157) ∈ lw_tbl := List.mem_of_getElem? (i := xwmc 157) rfl
theorem xk_157 : xkB 157 = true := by decide +kernel
set_option maxRecDepth 100000 in
theorem xmc_158 : Cond.code (xy 158) (xcc 158) (xmt 158).2.2.2 (xret 158) ∈ lw_tbl := List.mem_of_getElem? (i := xwmc 158) rfl
theorem xk_158 : xkB 158 = true := by decide +kernel
set_option maxRecDepth 100000 in
theorem xmc_159 : Cond.code (xy 159) (xcc 159) (xmt 159).2.2.2 (xret 159) ∈ lw_tbl := List.mem_of_getElem? (i := xwmc 159) rfl
theorem xk_159 : xkB 159 = true := by decide +kernel
set_option maxRecDepth 100000 in
theorem xmc_160 : Cond.code (xy 160) (xcc 160) (xmt 160).2.2.2 (xret 160) ∈ lw_tbl := List.mem_of_getElem? (i := xwmc 160) rfl
theorem xk_160 : xkB 160 = true := by decide +kernel
set_option maxRecDepth 100000 in
theorem xmc_161 : Cond.code (xy 161) (xcc 161) (xmt 161).2.2.2 (xret 161) ∈ lw_tbl := List.mem_of_getElem? (i := xwmc 161) rfl
theorem xk_161 : xkB 161 = true := by decide +kernel
theorem xhall_a_16 : ∀ a, a < 16 → Cond.code (xy a) (xcc a) (xmt a).2.2.2 (xret a) ∈ lw_tbl ∧ xkB a = true := lt_s (lt_s (lt_s (lt_s (lt_s (lt_s (lt_s (lt_s (lt_s (lt_s (lt_s (lt_s (lt_s (lt_s (lt_s (lt_s (lt_0) (⟨xmc_0, xk_0⟩)) (⟨xmc_1, xk_1⟩)) (⟨xmc_2, xk_2⟩)) (⟨xmc_3, xk_3⟩)) (⟨xmc_4, xk_4⟩)) (⟨xmc_5, xk_5⟩)) (⟨xmc_6, xk_6⟩)) (⟨xmc_7, xk_7⟩)) (⟨xmc_8, xk_8⟩)) (⟨xmc_9, xk_9⟩)) (⟨xmc_10, xk_10⟩)) (⟨xmc_11, xk_11⟩)) (⟨xmc_12, xk_12⟩)) (⟨xmc_13, xk_13⟩)) (⟨xmc_14, xk_14⟩)) (⟨xmc_15, xk_15⟩)
theorem xhall_a_32 : ∀ a, a < 32 → Cond.code (xy a) (xcc a) (xmt a).2.2.2 (xret a) ∈ lw_tbl ∧ xkB a = true := lt_s (lt_s (lt_s (lt_s (lt_s (lt_s (lt_s (lt_s (lt_s (lt_s (lt_s (lt_s (lt_s (lt_s (lt_s (lt_s (xhall_a_16) (⟨xmc_16, xk_16⟩)) (⟨xmc_17, xk_17⟩)) (⟨xmc_18, xk_18⟩)) (⟨xmc_19, xk_19⟩)) (⟨xmc_20, xk_20⟩)) (⟨xmc_21, xk_21⟩)) (⟨xmc_22, xk_22⟩)) (⟨xmc_23, xk_23⟩)) (⟨xmc_24, xk_24⟩)) (⟨xmc_25, xk_25⟩)) (⟨xmc_26, xk_26⟩)) (⟨xmc_27, xk_27⟩)) (⟨xmc_28, xk_28⟩)) (⟨xmc_29, xk_29⟩)) (⟨xmc_30, xk_30⟩)) (⟨xmc_31, xk_31⟩)
theorem xhall_a_48 : ∀ a, a < 48 → Cond.code (xy a) (xcc a) (xmt a).2.2.2 (xret a) ∈ lw_tbl ∧ xkB a = true := lt_s (lt_s (lt_s (lt_s (lt_s (lt_s (lt_s (lt_s (lt_s (lt_s (lt_s (lt_s (lt_s (lt_s (lt_s (lt_s (xhall_a_32) (⟨xmc_32, xk_32⟩)) (⟨xmc_33, xk_33⟩)) (⟨xmc_34, xk_34⟩)) (⟨xmc_35, xk_35⟩)) (⟨xmc_36, xk_36⟩)) (⟨xmc_37, xk_37⟩)) (⟨xmc_38, xk_38⟩)) (⟨xmc_39, xk_39⟩)) (⟨xmc_40, xk_40⟩)) (⟨xmc_41, xk_41⟩)) (⟨xmc_42, xk_42⟩)) (⟨xmc_43, xk_43⟩)) (⟨xmc_44, xk_44⟩)) (⟨xmc_45, xk_45⟩)) (⟨xmc_46, xk_46⟩)) (⟨xmc_47, xk_47⟩)
theorem xhall_a_64 : ∀ a, a < 64 → Cond.code (xy a) (xcc a) (xmt a).2.2.2 (xret a) ∈ lw_tbl ∧ xkB a = true := lt_s (lt_s (lt_s (lt_s (lt_s (lt_s (lt_s (lt_s (lt_s (lt_s (lt_s (lt_s (lt_s (lt_s (lt_s (lt_s (xhall_a_48) (⟨xmc_48, xk_48⟩)) (⟨xmc_49, xk_49⟩)) (⟨xmc_50, xk_50⟩)) (⟨xmc_51, xk_51⟩)) (⟨xmc_52, xk_52⟩)) (⟨xmc_53, xk_53⟩)) (⟨xmc_54, xk_54⟩)) (⟨xmc_55, xk_55⟩)) (⟨xmc_56, xk_56⟩)) (⟨xmc_57, xk_57⟩)) (⟨xmc_58, xk_58⟩)) (⟨xmc_59, xk_59⟩)) (⟨xmc_60, xk_60⟩)) (⟨xmc_61, xk_61⟩)) (⟨xmc_62, xk_62⟩)) (⟨xmc_63, xk_63⟩)
theorem xhall_a_80 : ∀ a, a < 80 → Cond.code (xy a) (xcc a) (xmt a).2.2.2 (xret a) ∈ lw_tbl ∧ xkB a = true := lt_s (lt_s (lt_s (lt_s (lt_s (lt_s (lt_s (lt_s (lt_s (lt_s (lt_s (lt_s (lt_s (lt_s (lt_s (lt_s (xhall_a_64) (⟨xmc_64, xk_64⟩)) (⟨xmc_65, xk_65⟩)) (⟨xmc_66, xk_66⟩)) (⟨xmc_67, xk_67⟩)) (⟨xmc_68, xk_68⟩)) (⟨xmc_69, xk_69⟩)) (⟨xmc_70, xk_70⟩)) (⟨xmc_71, xk_71⟩)) (⟨xmc_72, xk_72⟩)) (⟨xmc_73, xk_73⟩)) (⟨xmc_74, xk_74⟩)) (⟨xmc_75, xk_75⟩)) (⟨xmc_76, xk_76⟩)) (⟨xmc_77, xk_77⟩)) (⟨xmc_78, xk_78⟩)) (⟨xmc_79, xk_79⟩)
theorem xhall_a_96 : ∀ a, a < 96 → Cond.code (xy a) (xcc a) (xmt a).2.2.2 (xret a) ∈ lw_tbl ∧ xkB a = true := lt_s (lt_s (lt_s (lt_s (lt_s (lt_s (lt_s (lt_s (lt_s (lt_s (lt_s (lt_s (lt_s (lt_s (lt_s (lt_s (xhall_a_80) (⟨xmc_80, xk_80⟩)) (⟨xmc_81, xk_81⟩)) (⟨xmc_82, xk_82⟩)) (⟨xmc_83, xk_83⟩)) (⟨xmc_84, xk_84⟩)) (⟨xmc_85, xk_85⟩)) (⟨xmc_86, xk_86⟩)) (⟨xmc_87, xk_87⟩)) (⟨xmc_88, xk_88⟩)) (⟨xmc_89, xk_89⟩)) (⟨xmc_90, xk_90⟩)) (⟨xmc_91, xk_91⟩)) (⟨xmc_92, xk_92⟩)) (⟨xmc_93, xk_93⟩)) (⟨xmc_94, xk_94⟩)) (⟨xmc_95, xk_95⟩)
theorem xhall_a_112 : ∀ a, a < 112 → Cond.code (xy a) (xcc a) (xmt a).2.2.2 (xret a) ∈ lw_tbl ∧ xkB a = true := lt_s (lt_s (lt_s (lt_s (lt_s (lt_s (lt_s (lt_s (lt_s (lt_s (lt_s (lt_s (lt_s (lt_s (lt_s (lt_s (xhall_a_96) (⟨xmc_96, xk_96⟩)) (⟨xmc_97, xk_97⟩)) (⟨xmc_98, xk_98⟩)) (⟨xmc_99, xk_99⟩)) (⟨xmc_100, xk_100⟩)) (⟨xmc_101, xk_101⟩)) (⟨xmc_102, xk_102⟩)) (⟨xmc_103, xk_103⟩)) (⟨xmc_104, xk_104⟩)) (⟨xmc_105, xk_105⟩)) (⟨xmc_106, xk_106⟩)) (⟨xmc_107, xk_107⟩)) (⟨xmc_108, xk_108⟩)) (⟨xmc_109, xk_109⟩)) (⟨xmc_110, xk_110⟩)) (⟨xmc_111, xk_111⟩)
theorem xhall_a_128 : ∀ a, a < 128 → Cond.code (xy a) (xcc a) (xmt a).2.2.2 (xret a) ∈ lw_tbl ∧ xkB a = true := lt_s (lt_s (lt_s (lt_s (lt_s (lt_s (lt_s (lt_s (lt_s (lt_s (lt_s (lt_s (lt_s (lt_s (lt_s (lt_s (xhall_a_112) (⟨xmc_112, xk_112⟩)) (⟨xmc_113, xk_113⟩)) (⟨xmc_114, xk_114⟩)) (⟨xmc_115, xk_115⟩)) (⟨xmc_116, xk_116⟩)) (⟨xmc_117, xk_117⟩)) (⟨xmc_118, xk_118⟩)) (⟨xmc_119, xk_119⟩)) (⟨xmc_120, xk_120⟩)) (⟨xmc_121, xk_121⟩)) (⟨xmc_122, xk_122⟩)) (⟨xmc_123, xk_123⟩)) (⟨xmc_124, xk_124⟩)) (⟨xmc_125, xk_125⟩)) (⟨xmc_126, xk_126⟩)) (⟨xmc_127, xk_127⟩)
theorem xhall_a_144 : ∀ a, a < 144 → Cond.code (xy a) (xcc a) (xmt a).2.2.2 (xret a) ∈ lw_tbl ∧ xkB a = true := lt_s (lt_s (lt_s (lt_s (lt_s (lt_s (lt_s (lt_s (lt_s (lt_s (lt_s (lt_s (lt_s (lt_s (lt_s (lt_s (xhall_a_128) (⟨xmc_128, xk_128⟩)) (⟨xmc_129, xk_129⟩)) (⟨xmc_130, xk_130⟩)) (⟨xmc_131, xk_131⟩)) (⟨xmc_132, xk_132⟩)) (⟨xmc_133, xk_133⟩)) (⟨xmc_134, xk_134⟩)) (⟨xmc_135, xk_135⟩)) (⟨xmc_136, xk_136⟩)) (⟨xmc_137, xk_137⟩)) (⟨xmc_138, xk_138⟩)) (⟨xmc_139, xk_139⟩)) (⟨xmc_140, xk_140⟩)) (⟨xmc_141, xk_141⟩)) (⟨xmc_142, xk_142⟩)) (⟨xmc_143, xk_143⟩)
theorem xhall_a_160 : ∀ a, a < 160 → Cond.code (xy a) (xcc a) (xmt a).2.2.2 (xret a) ∈ lw_tbl ∧ xkB a = true := lt_s (lt_s (lt_s (lt_s (lt_s (lt_s (lt_s (lt_s (lt_s (lt_s (lt_s (lt_s (lt_s (lt_s (lt_s (lt_s (xhall_a_144) (⟨xmc_144, xk_144⟩)) (⟨xmc_145, xk_145⟩)) (⟨xmc_146, xk_146⟩)) (⟨xmc_147, xk_147⟩)) (⟨xmc_148, xk_148⟩)) (⟨xmc_149, xk_149⟩)) (⟨xmc_150, xk_150⟩)) (⟨xmc_151, xk_151⟩)) (⟨xmc_152, xk_152⟩)) (⟨xmc_153, xk_153⟩)) (⟨xmc_154, xk_154⟩)) (⟨xmc_155, xk_155⟩)) (⟨xmc_156, xk_156⟩)) (⟨xmc_157, xk_157⟩)) (⟨xmc_158, xk_158⟩)) (⟨xmc_159, xk_159⟩)
theorem xhall_a_162 : ∀ a, a < 162 → Cond.code (xy a) (xcc a) (xmt a).2.2.2 (xret a) ∈ lw_tbl ∧ xkB a = true := lt_s (lt_s (xhall_a_160) (⟨xmc_160, xk_160⟩)) (⟨xmc_161, xk_161⟩)
theorem xhall_a : ∀ a, a < xlaw → Cond.code (xy a) (xcc a) (xmt a).2.2.2 (xret a) ∈ lw_tbl ∧ xkB a = true := xhall_a_162
theorem xhall_ok : xhall := xhall_a
theorem xokM_b_16 : ∀ a, a < 16 → xokMB a = true := lt_s (lt_s (lt_s (lt_s (lt_s (lt_s (lt_s (lt_s (lt_s (lt_s (lt_s (lt_s (lt_s (lt_s (lt_s (lt_s (lt_0) (xok_0)) (xok_1)) (xok_2)) (xok_3)) (xok_4)) (xok_5)) (xok_6)) (xok_7)) (xok_8)) (xok_9)) (xok_10)) (xok_11)) (xok_12)) (xok_13)) (xok_14)) (xok_15)
theorem xokM_b_32 : ∀ a, a < 32 → xokMB a = true := lt_s (lt_s (lt_s (lt_s (lt_s (lt_s (lt_s (lt_s (lt_s (lt_s (lt_s (lt_s (lt_s (lt_s (lt_s (lt_s (xokM_b_16) (xok_16)) (xok_17)) (xok_18)) (xok_19)) (xok_20)) (xok_21)) (xok_22)) (xok_23)) (xok_24)) (xok_25)) (xok_26)) (xok_27)) (xok_28)) (xok_29)) (xok_30)) (xok_31)
theorem xokM_b_48 : ∀ a, a < 48 → xokMB a = true := lt_s (lt_s (lt_s (lt_s (lt_s (lt_s (lt_s (lt_s (lt_s (lt_s (lt_s (lt_s (lt_s (lt_s (lt_s (lt_s (xokM_b_32) (xok_32)) (xok_33)) (xok_34)) (xok_35)) (xok_36)) (xok_37)) (xok_38)) (xok_39)) (xok_40)) (xok_41)) (xok_42)) (xok_43)) (xok_44)) (xok_45)) (xok_46)) (xok_47)
theorem xokM_b_64 : ∀ a, a < 64 → xokMB a = true := lt_s (lt_s (lt_s (lt_s (lt_s (lt_s (lt_s (lt_s (lt_s (lt_s (lt_s (lt_s (lt_s (lt_s (lt_s (lt_s (xokM_b_48) (xok_48)) (xok_49)) (xok_50)) (xok_51)) (xok_52)) (xok_53)) (xok_54)) (xok_55)) (xok_56)) (xok_57)) (xok_58)) (xok_59)) (xok_60)) (xok_61)) (xok_62)) (xok_63)
theorem xokM_b_80 : ∀ a, a < 80 → xokMB a = true := lt_s (lt_s (lt_s (lt_s (lt_s (lt_s (lt_s (lt_s (lt_s (lt_s (lt_s (lt_s (lt_s (lt_s (lt_s (lt_s (xokM_b_64) (xok_64)) (xok_65)) (xok_66)) (xok_67)) (xok_68)) (xok_69)) (xok_70)) (xok_71)) (xok_72)) (xok_73)) (xok_74)) (xok_75)) (xok_76)) (xok_77)) (xok_78)) (xok_79)
theorem xokM_b_96 : ∀ a, a < 96 → xokMB a = true := lt_s (lt_s (lt_s (lt_s (lt_s (lt_s (lt_s (lt_s (lt_s (lt_s (lt_s (lt_s (lt_s (lt_s (lt_s (lt_s (xokM_b_80) (xok_80)) (xok_81)) (xok_82)) (xok_83)) (xok_84)) (xok_85)) (xok_86)) (xok_87)) (xok_88)) (xok_89)) (xok_90)) (xok_91)) (xok_92)) (xok_93)) (xok_94)) (xok_95)
theorem xokM_b_112 : ∀ a, a < 112 → xokMB a = true := lt_s (lt_s (lt_s (lt_s (lt_s (lt_s (lt_s (lt_s (lt_s (lt_s (lt_s (lt_s (lt_s (lt_s (lt_s (lt_s (xokM_b_96) (xok_96)) (xok_97)) (xok_98)) (xok_99)) (xok_100)) (xok_101)) (xok_102)) (xok_103)) (xok_104)) (xok_105)) (xok_106)) (xok_107)) (xok_108)) (xok_109)) (xok_110)) (xok_111)
theorem xokM_b_128 : ∀ a, a < 128 → xokMB a = true := lt_s (lt_s (lt_s (lt_s (lt_s (lt_s (lt_s (lt_s (lt_s (lt_s (lt_s (lt_s (lt_s (lt_s (lt_s (lt_s (xokM_b_112) (xok_112)) (xok_113)) (xok_114)) (xok_115)) (xok_116)) (xok_117)) (xok_118)) (xok_119)) (xok_120)) (xok_121)) (xok_122)) (xok_123)) (xok_124)) (xok_125)) (xok_126)) (xok_127)
theorem xokM_b_144 : ∀ a, a < 144 → xokMB a = true := lt_s (lt_s (lt_s (lt_s (lt_s (lt_s (lt_s (lt_s (lt_s (lt_s (lt_s (lt_s (lt_s (lt_s (lt_s (lt_s (xokM_b_128) (xok_128)) (xok_129)) (xok_130)) (xok_131)) (xok_132)) (xok_133)) (xok_134)) (xok_135)) (xok_136)) (xok_137)) (xok_138)) (xok_139)) (xok_140)) (xok_141)) (xok_142)) (xok_143)
theorem xokM_b_160 : ∀ a, a < 160 → xokMB a = true := lt_s (lt_s (lt_s (lt_s (lt_s (lt_s (lt_s (lt_s (lt_s (lt_s (lt_s (lt_s (lt_s (lt_s (lt_s (lt_s (xokM_b_144) (xok_144)) (xok_145)) (xok_146)) (xok_147)) (xok_148)) (xok_149)) (xok_150)) (xok_151)) (xok_152)) (xok_153)) (xok_154)) (xok_155)) (xok_156)) (xok_157)) (xok_158)) (xok_159)
theorem xokM_b_162 : ∀ a, a < 162 → xokMB a = true := lt_s (lt_s (xokM_b_160) (xok_160)) (xok_161)
theorem xokM_b : ∀ a, a < xlaw → xokMB a = true := xokM_b_162
theorem xokM_ok : ∀ a, a < xlaw → xokM a := fun a h => xokMB_ok xhall_ok (xokM_b a h)
theorem xokM_law : xokM xlaw := xokMB_ok xhall_ok xok_162
