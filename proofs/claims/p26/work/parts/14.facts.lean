/-! small facts of the tables, by name -/
theorem TBof {y : Nat} {tb : List (Option (Instr × Nat))} (h : TBS[y]? = some tb) (pc : Nat) {q : Instr × Nat} (hq : tb[pc]? = some (some q)) : TB y pc = some q := by
  unfold TB; rw [h]; dsimp only; rw [hq]
theorem fldof {y o ix : Nat} {q : Nat × Nat} (hm : mown y = o) (hf : fld o ix = some q) : fld (mown y) ix = some q := hm ▸ hf
theorem lnkof {y o ix : Nat} {q : Nat × Nat} (hm : mown y = o) (hf : lnk o ix = some q) : lnk (mown y) ix = some q := hm ▸ hf
theorem tbs_0 : TBS[0]? = some tb_0 := rfl
theorem mo_0 : mown 0 = 0 := rfl
theorem ml_0 : mml 0 = 1 := rfl
theorem rt_0 : mrt 0 = none := rfl
theorem na_0 : 0 = mna 0 := rfl
theorem tbs_1 : TBS[1]? = some tb_1 := rfl
theorem mo_1 : mown 1 = 1 := rfl
theorem ml_1 : mml 1 = 1 := rfl
theorem rt_1 : mrt 1 = none := rfl
theorem na_1 : 0 = mna 1 := rfl
theorem tbs_2 : TBS[2]? = some tb_2 := rfl
theorem mo_2 : mown 2 = 1 := rfl
theorem ml_2 : mml 2 = 5 := rfl
theorem rt_2 : mrt 2 = none := rfl
theorem na_2 : 2 = mna 2 := rfl
theorem tbs_3 : TBS[3]? = some tb_3 := rfl
theorem mo_3 : mown 3 = 1 := rfl
theorem ml_3 : mml 3 = 2 := rfl
theorem rt_3 : mrt 3 = (some .int) := rfl
theorem na_3 : 1 = mna 3 := rfl
theorem tbs_4 : TBS[4]? = some tb_4 := rfl
theorem mo_4 : mown 4 = 1 := rfl
theorem ml_4 : mml 4 = 4 := rfl
theorem rt_4 : mrt 4 = (some .int) := rfl
theorem na_4 : 1 = mna 4 := rfl
theorem tbs_5 : TBS[5]? = some tb_5 := rfl
theorem mo_5 : mown 5 = 1 := rfl
theorem ml_5 : mml 5 = 4 := rfl
theorem rt_5 : mrt 5 = (some .int) := rfl
theorem na_5 : 1 = mna 5 := rfl
theorem tbs_6 : TBS[6]? = some tb_6 := rfl
theorem mo_6 : mown 6 = 1 := rfl
theorem ml_6 : mml 6 = 3 := rfl
theorem rt_6 : mrt 6 = (some .boolean) := rfl
theorem na_6 : 2 = mna 6 := rfl
theorem tbs_7 : TBS[7]? = some tb_7 := rfl
theorem mo_7 : mown 7 = 1 := rfl
theorem ml_7 : mml 7 = 3 := rfl
theorem rt_7 : mrt 7 = none := rfl
theorem na_7 : 1 = mna 7 := rfl
theorem tbs_8 : TBS[8]? = some tb_8 := rfl
theorem mo_8 : mown 8 = 1 := rfl
theorem ml_8 : mml 8 = 5 := rfl
theorem rt_8 : mrt 8 = none := rfl
theorem na_8 : 2 = mna 8 := rfl
theorem tbs_9 : TBS[9]? = some tb_9 := rfl
theorem mo_9 : mown 9 = 1 := rfl
theorem ml_9 : mml 9 = 3 := rfl
theorem rt_9 : mrt 9 = none := rfl
theorem na_9 : 2 = mna 9 := rfl
theorem tbs_10 : TBS[10]? = some tb_10 := rfl
theorem mo_10 : mown 10 = 1 := rfl
theorem ml_10 : mml 10 = 4 := rfl
theorem rt_10 : mrt 10 = none := rfl
theorem na_10 : 2 = mna 10 := rfl
theorem tbs_11 : TBS[11]? = some tb_11 := rfl
theorem mo_11 : mown 11 = 1 := rfl
theorem ml_11 : mml 11 = 3 := rfl
theorem rt_11 : mrt 11 = none := rfl
theorem na_11 : 2 = mna 11 := rfl
theorem tbs_12 : TBS[12]? = some tb_12 := rfl
theorem mo_12 : mown 12 = 1 := rfl
theorem ml_12 : mml 12 = 3 := rfl
theorem rt_12 : mrt 12 = none := rfl
theorem na_12 : 2 = mna 12 := rfl
theorem tbs_13 : TBS[13]? = some tb_13 := rfl
theorem mo_13 : mown 13 = 2 := rfl
theorem ml_13 : mml 13 = 2 := rfl
theorem rt_13 : mrt 13 = none := rfl
theorem na_13 : 0 = mna 13 := rfl
theorem tbs_14 : TBS[14]? = some tb_14 := rfl
theorem mo_14 : mown 14 = 2 := rfl
theorem ml_14 : mml 14 = 2 := rfl
theorem rt_14 : mrt 14 = none := rfl
theorem na_14 : 1 = mna 14 := rfl
theorem tbs_15 : TBS[15]? = some tb_15 := rfl
theorem mo_15 : mown 15 = 2 := rfl
theorem ml_15 : mml 15 = 6 := rfl
theorem rt_15 : mrt 15 = none := rfl
theorem na_15 : 5 = mna 15 := rfl
theorem tbs_16 : TBS[16]? = some tb_16 := rfl
theorem mo_16 : mown 16 = 2 := rfl
theorem ml_16 : mml 16 = 4 := rfl
theorem rt_16 : mrt 16 = none := rfl
theorem na_16 : 2 = mna 16 := rfl
theorem tbs_17 : TBS[17]? = some tb_17 := rfl
theorem mo_17 : mown 17 = 2 := rfl
theorem ml_17 : mml 17 = 2 := rfl
theorem rt_17 : mrt 17 = none := rfl
theorem na_17 : 0 = mna 17 := rfl
theorem tbs_18 : TBS[18]? = some tb_18 := rfl
theorem mo_18 : mown 18 = 2 := rfl
theorem ml_18 : mml 18 = 2 := rfl
theorem rt_18 : mrt 18 = (some .boolean) := rfl
theorem na_18 : 1 = mna 18 := rfl
theorem tbs_19 : TBS[19]? = some tb_19 := rfl
theorem mo_19 : mown 19 = 2 := rfl
theorem ml_19 : mml 19 = 2 := rfl
theorem rt_19 : mrt 19 = (some .boolean) := rfl
theorem na_19 : 1 = mna 19 := rfl
theorem tbs_20 : TBS[20]? = some tb_20 := rfl
theorem mo_20 : mown 20 = 2 := rfl
theorem ml_20 : mml 20 = 2 := rfl
theorem rt_20 : mrt 20 = (some .boolean) := rfl
theorem na_20 : 1 = mna 20 := rfl
theorem tbs_21 : TBS[21]? = some tb_21 := rfl
theorem mo_21 : mown 21 = 2 := rfl
theorem ml_21 : mml 21 = 4 := rfl
theorem rt_21 : mrt 21 = (some .boolean) := rfl
theorem na_21 : 1 = mna 21 := rfl
theorem tbs_22 : TBS[22]? = some tb_22 := rfl
theorem mo_22 : mown 22 = 2 := rfl
theorem ml_22 : mml 22 = 2 := rfl
theorem rt_22 : mrt 22 = (some .boolean) := rfl
theorem na_22 : 1 = mna 22 := rfl
theorem tbs_23 : TBS[23]? = some tb_23 := rfl
theorem mo_23 : mown 23 = 2 := rfl
theorem ml_23 : mml 23 = 2 := rfl
theorem rt_23 : mrt 23 = (some .boolean) := rfl
theorem na_23 : 1 = mna 23 := rfl
theorem tbs_24 : TBS[24]? = some tb_24 := rfl
theorem mo_24 : mown 24 = 2 := rfl
theorem ml_24 : mml 24 = 2 := rfl
theorem rt_24 : mrt 24 = (some .boolean) := rfl
theorem na_24 : 1 = mna 24 := rfl
theorem tbs_25 : TBS[25]? = some tb_25 := rfl
theorem mo_25 : mown 25 = 2 := rfl
theorem ml_25 : mml 25 = 2 := rfl
theorem rt_25 : mrt 25 = (some .boolean) := rfl
theorem na_25 : 1 = mna 25 := rfl
theorem tbs_26 : TBS[26]? = some tb_26 := rfl
theorem mo_26 : mown 26 = 2 := rfl
theorem ml_26 : mml 26 = 3 := rfl
theorem rt_26 : mrt 26 = (some .boolean) := rfl
theorem na_26 : 1 = mna 26 := rfl
theorem tbs_27 : TBS[27]? = some tb_27 := rfl
theorem mo_27 : mown 27 = 2 := rfl
theorem ml_27 : mml 27 = 2 := rfl
theorem rt_27 : mrt 27 = (some .boolean) := rfl
theorem na_27 : 1 = mna 27 := rfl
theorem tbs_28 : TBS[28]? = some tb_28 := rfl
theorem mo_28 : mown 28 = 2 := rfl
theorem ml_28 : mml 28 = 2 := rfl
theorem rt_28 : mrt 28 = none := rfl
theorem na_28 : 1 = mna 28 := rfl
theorem tbs_29 : TBS[29]? = some tb_29 := rfl
theorem mo_29 : mown 29 = 2 := rfl
theorem ml_29 : mml 29 = 2 := rfl
theorem rt_29 : mrt 29 = none := rfl
theorem na_29 : 1 = mna 29 := rfl
theorem tbs_30 : TBS[30]? = some tb_30 := rfl
theorem mo_30 : mown 30 = 2 := rfl
theorem ml_30 : mml 30 = 3 := rfl
theorem rt_30 : mrt 30 = none := rfl
theorem na_30 : 0 = mna 30 := rfl
theorem tbs_31 : TBS[31]? = some tb_31 := rfl
theorem mo_31 : mown 31 = 2 := rfl
theorem ml_31 : mml 31 = 3 := rfl
theorem rt_31 : mrt 31 = (some .boolean) := rfl
theorem na_31 : 0 = mna 31 := rfl
theorem tbs_32 : TBS[32]? = some tb_32 := rfl
theorem mo_32 : mown 32 = 2 := rfl
theorem ml_32 : mml 32 = 2 := rfl
theorem rt_32 : mrt 32 = (some .boolean) := rfl
theorem na_32 : 0 = mna 32 := rfl
theorem tbs_33 : TBS[33]? = some tb_33 := rfl
theorem mo_33 : mown 33 = 2 := rfl
theorem ml_33 : mml 33 = 3 := rfl
theorem rt_33 : mrt 33 = (some .int) := rfl
theorem na_33 : 0 = mna 33 := rfl
theorem tbs_34 : TBS[34]? = some tb_34 := rfl
theorem mo_34 : mown 34 = 2 := rfl
theorem ml_34 : mml 34 = 4 := rfl
theorem rt_34 : mrt 34 = (some .int) := rfl
theorem na_34 : 1 = mna 34 := rfl
theorem tbs_35 : TBS[35]? = some tb_35 := rfl
theorem mo_35 : mown 35 = 2 := rfl
theorem ml_35 : mml 35 = 3 := rfl
theorem rt_35 : mrt 35 = (some .int) := rfl
theorem na_35 : 0 = mna 35 := rfl
theorem tbs_36 : TBS[36]? = some tb_36 := rfl
theorem mo_36 : mown 36 = 2 := rfl
theorem ml_36 : mml 36 = 4 := rfl
theorem rt_36 : mrt 36 = (some .int) := rfl
theorem na_36 : 1 = mna 36 := rfl
theorem tbs_37 : TBS[37]? = some tb_37 := rfl
theorem mo_37 : mown 37 = 2 := rfl
theorem ml_37 : mml 37 = 4 := rfl
theorem rt_37 : mrt 37 = (some .int) := rfl
theorem na_37 : 1 = mna 37 := rfl
theorem tbs_38 : TBS[38]? = some tb_38 := rfl
theorem mo_38 : mown 38 = 3 := rfl
theorem ml_38 : mml 38 = 2 := rfl
theorem rt_38 : mrt 38 = none := rfl
theorem na_38 : 0 = mna 38 := rfl
theorem tbs_39 : TBS[39]? = some tb_39 := rfl
theorem mo_39 : mown 39 = 3 := rfl
theorem ml_39 : mml 39 = 5 := rfl
theorem rt_39 : mrt 39 = (some .int) := rfl
theorem na_39 : 4 = mna 39 := rfl
theorem tbs_40 : TBS[40]? = some tb_40 := rfl
theorem mo_40 : mown 40 = 3 := rfl
theorem ml_40 : mml 40 = 4 := rfl
theorem rt_40 : mrt 40 = (some .int) := rfl
theorem na_40 : 2 = mna 40 := rfl
theorem tbs_41 : TBS[41]? = some tb_41 := rfl
theorem mo_41 : mown 41 = 3 := rfl
theorem ml_41 : mml 41 = 5 := rfl
theorem rt_41 : mrt 41 = (some .int) := rfl
theorem na_41 : 3 = mna 41 := rfl
theorem tbs_42 : TBS[42]? = some tb_42 := rfl
theorem mo_42 : mown 42 = 3 := rfl
theorem ml_42 : mml 42 = 1 := rfl
theorem rt_42 : mrt 42 = (some .int) := rfl
theorem na_42 : 0 = mna 42 := rfl
theorem tbs_43 : TBS[43]? = some tb_43 := rfl
theorem mo_43 : mown 43 = 3 := rfl
theorem ml_43 : mml 43 = 2 := rfl
theorem rt_43 : mrt 43 = (some .int) := rfl
theorem na_43 : 0 = mna 43 := rfl
theorem tbs_44 : TBS[44]? = some tb_44 := rfl
theorem mo_44 : mown 44 = 3 := rfl
theorem ml_44 : mml 44 = 2 := rfl
theorem rt_44 : mrt 44 = (some .int) := rfl
theorem na_44 : 1 = mna 44 := rfl
theorem tbs_45 : TBS[45]? = some tb_45 := rfl
theorem mo_45 : mown 45 = 3 := rfl
theorem ml_45 : mml 45 = 2 := rfl
theorem rt_45 : mrt 45 = (some .int) := rfl
theorem na_45 : 1 = mna 45 := rfl
theorem tbs_46 : TBS[46]? = some tb_46 := rfl
theorem mo_46 : mown 46 = 3 := rfl
theorem ml_46 : mml 46 = 2 := rfl
theorem rt_46 : mrt 46 = (some .int) := rfl
theorem na_46 : 1 = mna 46 := rfl
theorem tbs_47 : TBS[47]? = some tb_47 := rfl
theorem mo_47 : mown 47 = 3 := rfl
theorem ml_47 : mml 47 = 2 := rfl
theorem rt_47 : mrt 47 = (some .int) := rfl
theorem na_47 : 1 = mna 47 := rfl
theorem tbs_48 : TBS[48]? = some tb_48 := rfl
theorem mo_48 : mown 48 = 3 := rfl
theorem ml_48 : mml 48 = 2 := rfl
theorem rt_48 : mrt 48 = (some .int) := rfl
theorem na_48 : 1 = mna 48 := rfl
theorem tbs_49 : TBS[49]? = some tb_49 := rfl
theorem mo_49 : mown 49 = 3 := rfl
theorem ml_49 : mml 49 = 1 := rfl
theorem rt_49 : mrt 49 = (some .int) := rfl
theorem na_49 : 0 = mna 49 := rfl
theorem tbs_50 : TBS[50]? = some tb_50 := rfl
theorem mo_50 : mown 50 = 3 := rfl
theorem ml_50 : mml 50 = 3 := rfl
theorem rt_50 : mrt 50 = (some .int) := rfl
theorem na_50 : 2 = mna 50 := rfl
theorem tbs_51 : TBS[51]? = some tb_51 := rfl
theorem mo_51 : mown 51 = 3 := rfl
theorem ml_51 : mml 51 = 4 := rfl
theorem rt_51 : mrt 51 = (some .int) := rfl
theorem na_51 : 2 = mna 51 := rfl
theorem tbs_52 : TBS[52]? = some tb_52 := rfl
theorem mo_52 : mown 52 = 3 := rfl
theorem ml_52 : mml 52 = 3 := rfl
theorem rt_52 : mrt 52 = (some .int) := rfl
theorem na_52 : 2 = mna 52 := rfl
theorem tbs_53 : TBS[53]? = some tb_53 := rfl
theorem mo_53 : mown 53 = 3 := rfl
theorem ml_53 : mml 53 = 2 := rfl
theorem rt_53 : mrt 53 = (some .int) := rfl
theorem na_53 : 1 = mna 53 := rfl
theorem tbs_54 : TBS[54]? = some tb_54 := rfl
theorem mo_54 : mown 54 = 3 := rfl
theorem ml_54 : mml 54 = 1 := rfl
theorem rt_54 : mrt 54 = (some .double) := rfl
theorem na_54 : 0 = mna 54 := rfl
theorem tbs_55 : TBS[55]? = some tb_55 := rfl
theorem mo_55 : mown 55 = 3 := rfl
theorem ml_55 : mml 55 = 1 := rfl
theorem rt_55 : mrt 55 = (some .int) := rfl
theorem na_55 : 0 = mna 55 := rfl
theorem tbs_56 : TBS[56]? = some tb_56 := rfl
theorem mo_56 : mown 56 = 3 := rfl
theorem ml_56 : mml 56 = 2 := rfl
theorem rt_56 : mrt 56 = (some .int) := rfl
theorem na_56 : 1 = mna 56 := rfl
theorem tbs_57 : TBS[57]? = some tb_57 := rfl
theorem mo_57 : mown 57 = 3 := rfl
theorem ml_57 : mml 57 = 2 := rfl
theorem rt_57 : mrt 57 = (some .boolean) := rfl
theorem na_57 : 2 = mna 57 := rfl
theorem tbs_58 : TBS[58]? = some tb_58 := rfl
theorem mo_58 : mown 58 = 3 := rfl
theorem ml_58 : mml 58 = 1 := rfl
theorem rt_58 : mrt 58 = (some .boolean) := rfl
theorem na_58 : 1 = mna 58 := rfl
theorem tbs_59 : TBS[59]? = some tb_59 := rfl
theorem mo_59 : mown 59 = 3 := rfl
theorem ml_59 : mml 59 = 1 := rfl
theorem rt_59 : mrt 59 = (some .int) := rfl
theorem na_59 : 1 = mna 59 := rfl
theorem tbs_60 : TBS[60]? = some tb_60 := rfl
theorem mo_60 : mown 60 = 3 := rfl
theorem ml_60 : mml 60 = 1 := rfl
theorem rt_60 : mrt 60 = (some .int) := rfl
theorem na_60 : 1 = mna 60 := rfl
theorem tbs_61 : TBS[61]? = some tb_61 := rfl
theorem mo_61 : mown 61 = 3 := rfl
theorem ml_61 : mml 61 = 2 := rfl
theorem rt_61 : mrt 61 = (some .boolean) := rfl
theorem na_61 : 2 = mna 61 := rfl
theorem tbs_62 : TBS[62]? = some tb_62 := rfl
theorem mo_62 : mown 62 = 3 := rfl
theorem ml_62 : mml 62 = 4 := rfl
theorem rt_62 : mrt 62 = (some .int) := rfl
theorem na_62 : 1 = mna 62 := rfl
theorem tbs_63 : TBS[63]? = some tb_63 := rfl
theorem mo_63 : mown 63 = 3 := rfl
theorem ml_63 : mml 63 = 1 := rfl
theorem rt_63 : mrt 63 = none := rfl
theorem na_63 : 0 = mna 63 := rfl
theorem tbs_64 : TBS[64]? = some tb_64 := rfl
theorem mo_64 : mown 64 = 3 := rfl
theorem ml_64 : mml 64 = 3 := rfl
theorem rt_64 : mrt 64 = none := rfl
theorem na_64 : 0 = mna 64 := rfl
theorem tbs_65 : TBS[65]? = some tb_65 := rfl
theorem mo_65 : mown 65 = 3 := rfl
theorem ml_65 : mml 65 = 2 := rfl
theorem rt_65 : mrt 65 = none := rfl
theorem na_65 : 2 = mna 65 := rfl
theorem tbs_66 : TBS[66]? = some tb_66 := rfl
theorem mo_66 : mown 66 = 3 := rfl
theorem ml_66 : mml 66 = 2 := rfl
theorem rt_66 : mrt 66 = (some .boolean) := rfl
theorem na_66 : 1 = mna 66 := rfl
theorem tbs_67 : TBS[67]? = some tb_67 := rfl
theorem mo_67 : mown 67 = 3 := rfl
theorem ml_67 : mml 67 = 1 := rfl
theorem rt_67 : mrt 67 = (some .int) := rfl
theorem na_67 : 0 = mna 67 := rfl
theorem tbs_68 : TBS[68]? = some tb_68 := rfl
theorem mo_68 : mown 68 = 4 := rfl
theorem ml_68 : mml 68 = 1 := rfl
theorem rt_68 : mrt 68 = (some .int) := rfl
theorem na_68 : 1 = mna 68 := rfl
theorem tbs_69 : TBS[69]? = some tb_69 := rfl
theorem mo_69 : mown 69 = 5 := rfl
theorem ml_69 : mml 69 = 2 := rfl
theorem rt_69 : mrt 69 = (some .int) := rfl
theorem na_69 : 2 = mna 69 := rfl
theorem tbs_70 : TBS[70]? = some tb_70 := rfl
theorem mo_70 : mown 70 = 7 := rfl
theorem ml_70 : mml 70 = 2 := rfl
theorem rt_70 : mrt 70 = (some .int) := rfl
theorem na_70 : 2 = mna 70 := rfl
theorem tbs_71 : TBS[71]? = some tb_71 := rfl
theorem mo_71 : mown 71 = 7 := rfl
theorem ml_71 : mml 71 = 3 := rfl
theorem rt_71 : mrt 71 = (some .int) := rfl
theorem na_71 : 1 = mna 71 := rfl
theorem tbs_72 : TBS[72]? = some tb_72 := rfl
theorem mo_72 : mown 72 = 7 := rfl
theorem ml_72 : mml 72 = 9 := rfl
theorem rt_72 : mrt 72 = (some .boolean) := rfl
theorem na_72 : 2 = mna 72 := rfl
theorem tbs_73 : TBS[73]? = some tb_73 := rfl
theorem mo_73 : mown 73 = 7 := rfl
theorem ml_73 : mml 73 = 9 := rfl
theorem rt_73 : mrt 73 = (some .boolean) := rfl
theorem na_73 : 2 = mna 73 := rfl
theorem tbs_74 : TBS[74]? = some tb_74 := rfl
theorem mo_74 : mown 74 = 7 := rfl
theorem ml_74 : mml 74 = 8 := rfl
theorem rt_74 : mrt 74 = (some .boolean) := rfl
theorem na_74 : 2 = mna 74 := rfl
theorem tbs_75 : TBS[75]? = some tb_75 := rfl
theorem mo_75 : mown 75 = 7 := rfl
theorem ml_75 : mml 75 = 8 := rfl
theorem rt_75 : mrt 75 = (some .boolean) := rfl
theorem na_75 : 1 = mna 75 := rfl
theorem tbs_76 : TBS[76]? = some tb_76 := rfl
theorem mo_76 : mown 76 = 7 := rfl
theorem ml_76 : mml 76 = 9 := rfl
theorem rt_76 : mrt 76 = (some .boolean) := rfl
theorem na_76 : 2 = mna 76 := rfl
theorem tbs_77 : TBS[77]? = some tb_77 := rfl
theorem mo_77 : mown 77 = 7 := rfl
theorem ml_77 : mml 77 = 6 := rfl
theorem rt_77 : mrt 77 = (some .boolean) := rfl
theorem na_77 : 1 = mna 77 := rfl
theorem fl_0_9 : fld 0 9 = some (0, 0) := rfl
theorem fl_0_15 : fld 0 15 = some (0, 4) := rfl
theorem fl_0_19 : fld 0 19 = some (0, 5) := rfl
theorem fl_0_22 : fld 0 22 = some (0, 6) := rfl
theorem fl_0_25 : fld 0 25 = some (0, 7) := rfl
theorem fl_1_9 : fld 1 9 = some (1, 2) := rfl
theorem fl_1_15 : fld 1 15 = some (1, 0) := rfl
theorem fl_1_19 : fld 1 19 = some (1, 1) := rfl
theorem fl_1_43 : fld 1 43 = some (2, 12) := rfl
theorem fl_1_88 : fld 1 88 = some (2, 7) := rfl
theorem fl_1_91 : fld 1 91 = some (2, 8) := rfl
theorem fl_1_94 : fld 1 94 = some (2, 9) := rfl
theorem fl_1_97 : fld 1 97 = some (2, 13) := rfl
theorem fl_1_100 : fld 1 100 = some (2, 14) := rfl
theorem fl_2_9 : fld 2 9 = some (2, 7) := rfl
theorem fl_2_15 : fld 2 15 = some (2, 8) := rfl
theorem fl_2_18 : fld 2 18 = some (2, 9) := rfl
theorem fl_2_21 : fld 2 21 = some (2, 10) := rfl
theorem fl_2_24 : fld 2 24 = some (2, 11) := rfl
theorem fl_2_27 : fld 2 27 = some (2, 12) := rfl
theorem fl_2_30 : fld 2 30 = some (2, 13) := rfl
theorem fl_2_33 : fld 2 33 = some (2, 14) := rfl
theorem fl_2_36 : fld 2 36 = some (2, 0) := rfl
theorem fl_2_40 : fld 2 40 = some (2, 1) := rfl
theorem fl_2_44 : fld 2 44 = some (2, 2) := rfl
theorem fl_2_47 : fld 2 47 = some (2, 3) := rfl
theorem fl_2_50 : fld 2 50 = some (2, 4) := rfl
theorem fl_2_53 : fld 2 53 = some (2, 5) := rfl
theorem fl_2_56 : fld 2 56 = some (2, 6) := rfl
theorem fl_3_12 : fld 3 12 = some (3, 0) := rfl
theorem fl_3_16 : fld 3 16 = some (3, 1) := rfl
theorem fl_3_19 : fld 3 19 = some (3, 2) := rfl
theorem fl_3_22 : fld 3 22 = some (3, 3) := rfl
theorem fl_3_29 : fld 3 29 = some (3, 4) := rfl
theorem fl_3_36 : fld 3 36 = some (3, 5) := rfl
theorem fl_3_40 : fld 3 40 = some (3, 6) := rfl
theorem fl_3_44 : fld 3 44 = some (3, 7) := rfl
theorem fl_3_56 : fld 3 56 = some (2, 0) := rfl
theorem fl_3_59 : fld 3 59 = some (2, 1) := rfl
theorem fl_3_92 : fld 3 92 = some (2, 11) := rfl
theorem fl_3_100 : fld 3 100 = some (2, 13) := rfl
theorem fl_3_103 : fld 3 103 = some (2, 14) := rfl
theorem fl_3_116 : fld 3 116 = some (2, 2) := rfl
theorem fl_3_129 : fld 3 129 = some (2, 10) := rfl
theorem fl_3_135 : fld 3 135 = some (2, 4) := rfl
theorem fl_3_156 : fld 3 156 = some (2, 12) := rfl
theorem fl_3_165 : fld 3 165 = some (2, 6) := rfl
theorem fl_3_168 : fld 3 168 = some (2, 5) := rfl
theorem fl_3_181 : fld 3 181 = some (0, 1) := rfl
theorem fl_3_188 : fld 3 188 = some (2, 7) := rfl
theorem fl_3_189 : fld 3 189 = some (2, 8) := rfl
theorem fl_3_190 : fld 3 190 = some (2, 9) := rfl
theorem fl_3_212 : fld 3 212 = some (1, 0) := rfl
theorem fl_3_215 : fld 3 215 = some (1, 1) := rfl
theorem fl_3_227 : fld 3 227 = some (2, 3) := rfl
theorem ln_0_3 : lnk 0 3 = some (5, 0) := rfl
theorem ln_1_3 : lnk 1 3 = some (5, 0) := rfl
theorem ln_1_22 : lnk 1 22 = some (0, 8) := rfl
theorem ln_1_26 : lnk 1 26 = some (0, 3) := rfl
theorem ln_1_30 : lnk 1 30 = some (0, 7) := rfl
theorem ln_1_34 : lnk 1 34 = some (1, 68) := rfl
theorem ln_1_40 : lnk 1 40 = some (0, 4) := rfl
theorem ln_1_48 : lnk 1 48 = some (8, 69) := rfl
theorem ln_1_54 : lnk 1 54 = some (0, 33) := rfl
theorem ln_1_58 : lnk 1 58 = some (3, 61) := rfl
theorem ln_1_62 : lnk 1 62 = some (0, 26) := rfl
theorem ln_1_66 : lnk 1 66 = some (0, 6) := rfl
theorem ln_1_70 : lnk 1 70 = some (0, 25) := rfl
theorem ln_1_73 : lnk 1 73 = some (0, 9) := rfl
theorem ln_1_76 : lnk 1 76 = some (0, 12) := rfl
theorem ln_1_79 : lnk 1 79 = some (0, 10) := rfl
theorem ln_1_82 : lnk 1 82 = some (0, 18) := rfl
theorem ln_1_85 : lnk 1 85 = some (0, 11) := rfl
theorem ln_1_103 : lnk 1 103 = some (0, 19) := rfl
theorem ln_1_106 : lnk 1 106 = some (3, 60) := rfl
theorem ln_1_109 : lnk 1 109 = some (0, 20) := rfl
theorem ln_2_3 : lnk 2 3 = some (5, 0) := rfl
theorem ln_2_59 : lnk 2 59 = some (6, 0) := rfl
theorem ln_2_65 : lnk 2 65 = some (0, 18) := rfl
theorem ln_2_69 : lnk 2 69 = some (0, 19) := rfl
theorem ln_2_72 : lnk 2 72 = some (0, 21) := rfl
theorem ln_2_75 : lnk 2 75 = some (0, 23) := rfl
theorem ln_2_78 : lnk 2 78 = some (0, 20) := rfl
theorem ln_2_81 : lnk 2 81 = some (0, 24) := rfl
theorem ln_2_84 : lnk 2 84 = some (3, 61) := rfl
theorem ln_2_88 : lnk 2 88 = some (3, 60) := rfl
theorem ln_2_92 : lnk 2 92 = some (0, 31) := rfl
theorem ln_2_96 : lnk 2 96 = some (0, 22) := rfl
theorem ln_2_99 : lnk 2 99 = some (0, 28) := rfl
theorem ln_2_103 : lnk 2 103 = some (0, 25) := rfl
theorem ln_2_106 : lnk 2 106 = some (0, 26) := rfl
theorem ln_3_3 : lnk 3 3 = some (5, 0) := rfl
theorem ln_3_48 : lnk 3 48 = some (0, 18) := rfl
theorem ln_3_52 : lnk 3 52 = some (1, 57) := rfl
theorem ln_3_62 : lnk 3 62 = some (0, 63) := rfl
theorem ln_3_65 : lnk 3 65 = some (0, 15) := rfl
theorem ln_3_93 : lnk 3 93 = some (0, 16) := rfl
theorem ln_3_97 : lnk 3 97 = some (1, 58) := rfl
theorem ln_3_106 : lnk 3 106 = some (0, 35) := rfl
theorem ln_3_109 : lnk 3 109 = some (0, 32) := rfl
theorem ln_3_113 : lnk 3 113 = some (0, 17) := rfl
theorem ln_3_119 : lnk 3 119 = some (0, 19) := rfl
theorem ln_3_122 : lnk 3 122 = some (0, 22) := rfl
theorem ln_3_125 : lnk 3 125 = some (0, 28) := rfl
theorem ln_3_132 : lnk 3 132 = some (0, 29) := rfl
theorem ln_3_138 : lnk 3 138 = some (1, 68) := rfl
theorem ln_3_144 : lnk 3 144 = some (0, 21) := rfl
theorem ln_3_147 : lnk 3 147 = some (1, 60) := rfl
theorem ln_3_150 : lnk 3 150 = some (0, 24) := rfl
theorem ln_3_153 : lnk 3 153 = some (0, 25) := rfl
theorem ln_3_159 : lnk 3 159 = some (0, 20) := rfl
theorem ln_3_162 : lnk 3 162 = some (0, 26) := rfl
theorem ln_3_171 : lnk 3 171 = some (1, 61) := rfl
theorem ln_3_174 : lnk 3 174 = some (0, 27) := rfl
theorem ln_3_184 : lnk 3 184 = some (1, 65) := rfl
theorem ln_3_191 : lnk 3 191 = some (1, 59) := rfl
theorem ln_3_195 : lnk 3 195 = some (0, 36) := rfl
theorem ln_3_198 : lnk 3 198 = some (0, 37) := rfl
theorem ln_3_201 : lnk 3 201 = some (0, 66) := rfl
theorem ln_3_204 : lnk 3 204 = some (0, 2) := rfl
theorem ln_3_208 : lnk 3 208 = some (0, 3) := rfl
theorem ln_3_218 : lnk 3 218 = some (0, 4) := rfl
theorem ln_3_221 : lnk 3 221 = some (0, 34) := rfl
theorem ln_3_224 : lnk 3 224 = some (0, 5) := rfl
theorem ln_3_234 : lnk 3 234 = some (0, 54) := rfl
theorem ln_3_238 : lnk 3 238 = some (1, 62) := rfl
theorem ln_3_242 : lnk 3 242 = some (0, 67) := rfl
theorem ln_3_245 : lnk 3 245 = some (0, 33) := rfl
theorem ln_3_249 : lnk 3 249 = some (0, 64) := rfl
theorem ln_3_252 : lnk 3 252 = some (0, 14) := rfl
theorem ln_3_256 : lnk 3 256 = some (0, 30) := rfl
theorem ln_7_9 : lnk 7 9 = some (0, 52) := rfl
theorem ln_7_15 : lnk 7 15 = some (0, 53) := rfl
theorem ln_7_19 : lnk 7 19 = some (1, 71) := rfl
theorem ln_7_24 : lnk 7 24 = some (0, 56) := rfl
theorem ln_7_27 : lnk 7 27 = some (0, 50) := rfl
theorem ln_7_30 : lnk 7 30 = some (0, 51) := rfl
theorem ln_7_33 : lnk 7 33 = some (0, 54) := rfl
theorem ln_7_37 : lnk 7 37 = some (0, 44) := rfl
theorem ln_7_42 : lnk 7 42 = some (0, 47) := rfl
theorem ln_7_47 : lnk 7 47 = some (0, 46) := rfl
theorem ln_7_52 : lnk 7 52 = some (1, 70) := rfl
theorem ln_7_56 : lnk 7 56 = some (0, 39) := rfl
theorem ln_7_60 : lnk 7 60 = some (0, 40) := rfl
theorem ln_7_63 : lnk 7 63 = some (0, 41) := rfl
theorem ln_7_67 : lnk 7 67 = some (0, 45) := rfl
theorem ln_7_70 : lnk 7 70 = some (0, 48) := rfl
theorem ln_7_74 : lnk 7 74 = some (0, 42) := rfl
theorem ln_7_78 : lnk 7 78 = some (0, 49) := rfl
theorem ln_7_81 : lnk 7 81 = some (1, 74) := rfl
theorem ln_7_85 : lnk 7 85 = some (0, 55) := rfl
theorem ln_7_88 : lnk 7 88 = some (1, 72) := rfl
theorem ln_7_92 : lnk 7 92 = some (1, 73) := rfl
theorem ln_7_95 : lnk 7 95 = some (1, 76) := rfl
theorem ln_7_98 : lnk 7 98 = some (1, 75) := rfl
theorem ln_7_102 : lnk 7 102 = some (0, 43) := rfl
theorem sh_0 : SH 0 = (0, 3) := rfl
theorem ltc_0 : 0 < 73 := by decide
theorem sh_1 : SH 1 = (0, 2) := rfl
theorem ltc_1 : 1 < 73 := by decide
theorem sh_2 : SH 2 = (1, 16) := rfl
theorem ltc_2 : 2 < 73 := by decide
theorem sh_3 : SH 3 = (1, 16) := rfl
theorem ltc_3 : 3 < 73 := by decide
theorem sh_4 : SH 4 = (1, 16) := rfl
theorem ltc_4 : 4 < 73 := by decide
theorem sh_5 : SH 5 = (1, 16) := rfl
theorem ltc_5 : 5 < 73 := by decide
theorem sh_6 : SH 6 = (1, 16) := rfl
theorem ltc_6 : 6 < 73 := by decide
theorem sh_7 : SH 7 = (1, 16) := rfl
theorem ltc_7 : 7 < 73 := by decide
theorem sh_8 : SH 8 = (1, 12) := rfl
theorem ltc_8 : 8 < 73 := by decide
theorem sh_9 : SH 9 = (1, 12) := rfl
theorem ltc_9 : 9 < 73 := by decide
theorem sh_10 : SH 10 = (0, 2) := rfl
theorem ltc_10 : 10 < 73 := by decide
theorem sh_11 : SH 11 = (1, 16) := rfl
theorem ltc_11 : 11 < 73 := by decide
theorem sh_12 : SH 12 = (1, 16) := rfl
theorem ltc_12 : 12 < 73 := by decide
theorem sh_13 : SH 13 = (1, 16) := rfl
theorem ltc_13 : 13 < 73 := by decide
theorem sh_14 : SH 14 = (1, 16) := rfl
theorem ltc_14 : 14 < 73 := by decide
theorem sh_15 : SH 15 = (1, 16) := rfl
theorem ltc_15 : 15 < 73 := by decide
theorem sh_16 : SH 16 = (1, 16) := rfl
theorem ltc_16 : 16 < 73 := by decide
theorem sh_17 : SH 17 = (1, 12) := rfl
theorem ltc_17 : 17 < 73 := by decide
theorem sh_18 : SH 18 = (1, 12) := rfl
theorem ltc_18 : 18 < 73 := by decide
theorem sh_19 : SH 19 = (0, 2) := rfl
theorem ltc_19 : 19 < 73 := by decide
theorem sh_20 : SH 20 = (1, 16) := rfl
theorem ltc_20 : 20 < 73 := by decide
theorem sh_21 : SH 21 = (1, 16) := rfl
theorem ltc_21 : 21 < 73 := by decide
theorem sh_22 : SH 22 = (1, 16) := rfl
theorem ltc_22 : 22 < 73 := by decide
theorem sh_23 : SH 23 = (1, 16) := rfl
theorem ltc_23 : 23 < 73 := by decide
theorem sh_24 : SH 24 = (1, 16) := rfl
theorem ltc_24 : 24 < 73 := by decide
theorem sh_25 : SH 25 = (1, 16) := rfl
theorem ltc_25 : 25 < 73 := by decide
theorem sh_26 : SH 26 = (1, 12) := rfl
theorem ltc_26 : 26 < 73 := by decide
theorem sh_27 : SH 27 = (1, 12) := rfl
theorem ltc_27 : 27 < 73 := by decide
theorem sh_28 : SH 28 = (5, 4) := rfl
theorem ltc_28 : 28 < 73 := by decide
theorem sh_29 : SH 29 = (0, 1) := rfl
theorem ltc_29 : 29 < 73 := by decide
theorem sh_30 : SH 30 = (1, 16) := rfl
theorem ltc_30 : 30 < 73 := by decide
theorem sh_31 : SH 31 = (0, 0) := rfl
theorem ltc_31 : 31 < 73 := by decide
theorem sh_32 : SH 32 = (2, 60) := rfl
theorem ltc_32 : 32 < 73 := by decide
theorem sh_33 : SH 33 = (1, 21) := rfl
theorem ltc_33 : 33 < 73 := by decide
theorem sh_34 : SH 34 = (1, 21) := rfl
theorem ltc_34 : 34 < 73 := by decide
theorem sh_35 : SH 35 = (1, 21) := rfl
theorem ltc_35 : 35 < 73 := by decide
theorem sh_36 : SH 36 = (1, 21) := rfl
theorem ltc_36 : 36 < 73 := by decide
theorem sh_37 : SH 37 = (0, 2) := rfl
theorem ltc_37 : 37 < 73 := by decide
theorem sh_38 : SH 38 = (1, 16) := rfl
theorem ltc_38 : 38 < 73 := by decide
theorem sh_39 : SH 39 = (1, 16) := rfl
theorem ltc_39 : 39 < 73 := by decide
theorem sh_40 : SH 40 = (1, 16) := rfl
theorem ltc_40 : 40 < 73 := by decide
theorem sh_41 : SH 41 = (1, 16) := rfl
theorem ltc_41 : 41 < 73 := by decide
theorem sh_42 : SH 42 = (1, 16) := rfl
theorem ltc_42 : 42 < 73 := by decide
theorem sh_43 : SH 43 = (1, 16) := rfl
theorem ltc_43 : 43 < 73 := by decide
theorem sh_44 : SH 44 = (1, 12) := rfl
theorem ltc_44 : 44 < 73 := by decide
theorem sh_45 : SH 45 = (1, 12) := rfl
theorem ltc_45 : 45 < 73 := by decide
theorem sh_46 : SH 46 = (0, 2) := rfl
theorem ltc_46 : 46 < 73 := by decide
theorem sh_47 : SH 47 = (1, 16) := rfl
theorem ltc_47 : 47 < 73 := by decide
theorem sh_48 : SH 48 = (1, 16) := rfl
theorem ltc_48 : 48 < 73 := by decide
theorem sh_49 : SH 49 = (1, 16) := rfl
theorem ltc_49 : 49 < 73 := by decide
theorem sh_50 : SH 50 = (1, 16) := rfl
theorem ltc_50 : 50 < 73 := by decide
theorem sh_51 : SH 51 = (1, 16) := rfl
theorem ltc_51 : 51 < 73 := by decide
theorem sh_52 : SH 52 = (1, 16) := rfl
theorem ltc_52 : 52 < 73 := by decide
theorem sh_53 : SH 53 = (1, 12) := rfl
theorem ltc_53 : 53 < 73 := by decide
theorem sh_54 : SH 54 = (1, 12) := rfl
theorem ltc_54 : 54 < 73 := by decide
theorem sh_55 : SH 55 = (0, 2) := rfl
theorem ltc_55 : 55 < 73 := by decide
theorem sh_56 : SH 56 = (1, 16) := rfl
theorem ltc_56 : 56 < 73 := by decide
theorem sh_57 : SH 57 = (1, 16) := rfl
theorem ltc_57 : 57 < 73 := by decide
theorem sh_58 : SH 58 = (1, 16) := rfl
theorem ltc_58 : 58 < 73 := by decide
theorem sh_59 : SH 59 = (1, 16) := rfl
theorem ltc_59 : 59 < 73 := by decide
theorem sh_60 : SH 60 = (1, 16) := rfl
theorem ltc_60 : 60 < 73 := by decide
theorem sh_61 : SH 61 = (1, 16) := rfl
theorem ltc_61 : 61 < 73 := by decide
theorem sh_62 : SH 62 = (1, 12) := rfl
theorem ltc_62 : 62 < 73 := by decide
theorem sh_63 : SH 63 = (1, 12) := rfl
theorem ltc_63 : 63 < 73 := by decide
theorem sh_64 : SH 64 = (0, 2) := rfl
theorem ltc_64 : 64 < 73 := by decide
theorem sh_65 : SH 65 = (1, 16) := rfl
theorem ltc_65 : 65 < 73 := by decide
theorem sh_66 : SH 66 = (1, 16) := rfl
theorem ltc_66 : 66 < 73 := by decide
theorem sh_67 : SH 67 = (1, 16) := rfl
theorem ltc_67 : 67 < 73 := by decide
theorem sh_68 : SH 68 = (1, 16) := rfl
theorem ltc_68 : 68 < 73 := by decide
theorem sh_69 : SH 69 = (1, 16) := rfl
theorem ltc_69 : 69 < 73 := by decide
theorem sh_70 : SH 70 = (1, 16) := rfl
theorem ltc_70 : 70 < 73 := by decide
theorem sh_71 : SH 71 = (1, 12) := rfl
theorem ltc_71 : 71 < 73 := by decide
theorem sh_72 : SH 72 = (1, 12) := rfl
theorem ltc_72 : 72 < 73 := by decide
theorem nk_0_0 : 0 < nf 0 := by decide
theorem fp_0_0 : fkd 0 0 = 2 := rfl
theorem nk_0_1 : 1 < nf 0 := by decide
theorem fi_0_1 : fkd 0 1 ≠ 2 := by decide
theorem nk_0_2 : 2 < nf 0 := by decide
theorem fi_0_2 : fkd 0 2 ≠ 2 := by decide
theorem nk_0_3 : 3 < nf 0 := by decide
theorem fi_0_3 : fkd 0 3 ≠ 2 := by decide
theorem nk_0_4 : 4 < nf 0 := by decide
theorem fp_0_4 : fkd 0 4 = 2 := rfl
theorem nk_0_5 : 5 < nf 0 := by decide
theorem fp_0_5 : fkd 0 5 = 2 := rfl
theorem nk_0_6 : 6 < nf 0 := by decide
theorem fp_0_6 : fkd 0 6 = 2 := rfl
theorem nk_0_7 : 7 < nf 0 := by decide
theorem fp_0_7 : fkd 0 7 = 2 := rfl
theorem nk_1_0 : 0 < nf 1 := by decide
theorem fi_1_0 : fkd 1 0 ≠ 2 := by decide
theorem nk_1_1 : 1 < nf 1 := by decide
theorem fi_1_1 : fkd 1 1 ≠ 2 := by decide
theorem nk_1_2 : 2 < nf 1 := by decide
theorem fp_1_2 : fkd 1 2 = 2 := rfl
theorem nk_2_0 : 0 < nf 2 := by decide
theorem fi_2_0 : fkd 2 0 ≠ 2 := by decide
theorem nk_2_1 : 1 < nf 2 := by decide
theorem fi_2_1 : fkd 2 1 ≠ 2 := by decide
theorem nk_2_2 : 2 < nf 2 := by decide
theorem fi_2_2 : fkd 2 2 ≠ 2 := by decide
theorem nk_2_3 : 3 < nf 2 := by decide
theorem fi_2_3 : fkd 2 3 ≠ 2 := by decide
theorem nk_2_4 : 4 < nf 2 := by decide
theorem fi_2_4 : fkd 2 4 ≠ 2 := by decide
theorem nk_2_5 : 5 < nf 2 := by decide
theorem fi_2_5 : fkd 2 5 ≠ 2 := by decide
theorem nk_2_6 : 6 < nf 2 := by decide
theorem fi_2_6 : fkd 2 6 ≠ 2 := by decide
theorem nk_2_7 : 7 < nf 2 := by decide
theorem fp_2_7 : fkd 2 7 = 2 := rfl
theorem nk_2_8 : 8 < nf 2 := by decide
theorem fp_2_8 : fkd 2 8 = 2 := rfl
theorem nk_2_9 : 9 < nf 2 := by decide
theorem fp_2_9 : fkd 2 9 = 2 := rfl
theorem nk_2_10 : 10 < nf 2 := by decide
theorem fp_2_10 : fkd 2 10 = 2 := rfl
theorem nk_2_11 : 11 < nf 2 := by decide
theorem fp_2_11 : fkd 2 11 = 2 := rfl
theorem nk_2_12 : 12 < nf 2 := by decide
theorem fp_2_12 : fkd 2 12 = 2 := rfl
theorem nk_2_13 : 13 < nf 2 := by decide
theorem fp_2_13 : fkd 2 13 = 2 := rfl
theorem nk_2_14 : 14 < nf 2 := by decide
theorem fp_2_14 : fkd 2 14 = 2 := rfl
theorem nk_3_0 : 0 < nf 3 := by decide
theorem fp_3_0 : fkd 3 0 = 2 := rfl
theorem nk_3_1 : 1 < nf 3 := by decide
theorem fp_3_1 : fkd 3 1 = 2 := rfl
theorem nk_3_2 : 2 < nf 3 := by decide
theorem fp_3_2 : fkd 3 2 = 2 := rfl
theorem nk_3_3 : 3 < nf 3 := by decide
theorem fp_3_3 : fkd 3 3 = 2 := rfl
theorem nk_3_4 : 4 < nf 3 := by decide
theorem fp_3_4 : fkd 3 4 = 2 := rfl
theorem nk_3_5 : 5 < nf 3 := by decide
theorem fp_3_5 : fkd 3 5 = 2 := rfl
theorem nk_3_6 : 6 < nf 3 := by decide
theorem fi_3_6 : fkd 3 6 ≠ 2 := by decide
theorem nk_3_7 : 7 < nf 3 := by decide
theorem fi_3_7 : fkd 3 7 ≠ 2 := by decide
theorem pf_0_0 : PF 0 0 = some 1 := rfl
theorem pf_0_1 : PF 0 1 = some 10 := rfl
theorem pf_0_2 : PF 0 2 = some 19 := rfl
theorem pf_0_3 : PF 0 3 = some 28 := rfl
theorem pf_0_4 : PF 0 4 = some 29 := rfl
theorem pf_0_5 : PF 0 5 = some 31 := rfl
theorem pf_1_7 : PF 1 7 = some 2 := rfl
theorem pf_1_8 : PF 1 8 = some 3 := rfl
theorem pf_1_9 : PF 1 9 = some 4 := rfl
theorem pf_1_10 : PF 1 10 = some 5 := rfl
theorem pf_1_11 : PF 1 11 = some 6 := rfl
theorem pf_1_12 : PF 1 12 = some 7 := rfl
theorem pf_1_13 : PF 1 13 = some 8 := rfl
theorem pf_1_14 : PF 1 14 = some 9 := rfl
theorem pf_10_7 : PF 10 7 = some 11 := rfl
theorem pf_10_8 : PF 10 8 = some 12 := rfl
theorem pf_10_9 : PF 10 9 = some 13 := rfl
theorem pf_10_10 : PF 10 10 = some 14 := rfl
theorem pf_10_11 : PF 10 11 = some 15 := rfl
theorem pf_10_12 : PF 10 12 = some 16 := rfl
theorem pf_10_13 : PF 10 13 = some 17 := rfl
theorem pf_10_14 : PF 10 14 = some 18 := rfl
theorem pf_19_7 : PF 19 7 = some 20 := rfl
theorem pf_19_8 : PF 19 8 = some 21 := rfl
theorem pf_19_9 : PF 19 9 = some 22 := rfl
theorem pf_19_10 : PF 19 10 = some 23 := rfl
theorem pf_19_11 : PF 19 11 = some 24 := rfl
theorem pf_19_12 : PF 19 12 = some 25 := rfl
theorem pf_19_13 : PF 19 13 = some 26 := rfl
theorem pf_19_14 : PF 19 14 = some 27 := rfl
theorem pf_29_2 : PF 29 2 = some 30 := rfl
theorem pf_31_0 : PF 31 0 = some 32 := rfl
theorem pf_31_4 : PF 31 4 = some 33 := rfl
theorem pf_31_5 : PF 31 5 = some 34 := rfl
theorem pf_31_6 : PF 31 6 = some 35 := rfl
theorem pf_31_7 : PF 31 7 = some 36 := rfl
theorem pf_37_7 : PF 37 7 = some 38 := rfl
theorem pf_37_8 : PF 37 8 = some 39 := rfl
theorem pf_37_9 : PF 37 9 = some 40 := rfl
theorem pf_37_10 : PF 37 10 = some 41 := rfl
theorem pf_37_11 : PF 37 11 = some 42 := rfl
theorem pf_37_12 : PF 37 12 = some 43 := rfl
theorem pf_37_13 : PF 37 13 = some 44 := rfl
theorem pf_37_14 : PF 37 14 = some 45 := rfl
theorem pf_46_7 : PF 46 7 = some 47 := rfl
theorem pf_46_8 : PF 46 8 = some 48 := rfl
theorem pf_46_9 : PF 46 9 = some 49 := rfl
theorem pf_46_10 : PF 46 10 = some 50 := rfl
theorem pf_46_11 : PF 46 11 = some 51 := rfl
theorem pf_46_12 : PF 46 12 = some 52 := rfl
theorem pf_46_13 : PF 46 13 = some 53 := rfl
theorem pf_46_14 : PF 46 14 = some 54 := rfl
theorem pf_55_7 : PF 55 7 = some 56 := rfl
theorem pf_55_8 : PF 55 8 = some 57 := rfl
theorem pf_55_9 : PF 55 9 = some 58 := rfl
theorem pf_55_10 : PF 55 10 = some 59 := rfl
theorem pf_55_11 : PF 55 11 = some 60 := rfl
theorem pf_55_12 : PF 55 12 = some 61 := rfl
theorem pf_55_13 : PF 55 13 = some 62 := rfl
theorem pf_55_14 : PF 55 14 = some 63 := rfl
theorem pf_64_7 : PF 64 7 = some 65 := rfl
theorem pf_64_8 : PF 64 8 = some 66 := rfl
theorem pf_64_9 : PF 64 9 = some 67 := rfl
theorem pf_64_10 : PF 64 10 = some 68 := rfl
theorem pf_64_11 : PF 64 11 = some 69 := rfl
theorem pf_64_12 : PF 64 12 = some 70 := rfl
theorem pf_64_13 : PF 64 13 = some 71 := rfl
theorem pf_64_14 : PF 64 14 = some 72 := rfl
