/-! small facts of the tables, by name -/
theorem TBof {y : Nat} {tb : List (Option (Instr × Nat))} (h : TBS[y]? = some tb) (pc : Nat) {q : Instr × Nat} (hq : tb[pc]? = some (some q)) : TB y pc = some q := by
  unfold TB; rw [h]; dsimp only; rw [hq]
theorem fldof {y o ix : Nat} {q : Nat × Nat} (hm : mown y = o) (hf : fld o ix = some q) : fld (mown y) ix = some q := hm ▸ hf
theorem lnkof {y o ix : Nat} {q : Nat × Nat} (hm : mown y = o) (hf : lnk o ix = some q) : lnk (mown y) ix = some q := hm ▸ hf
theorem tbs_0 : TBS[0]? = some tb_0 := rfl
theorem mo_0 : mown 0 = 0 := rfl
theorem ml_0 : mml 0 = 1 := rfl
theorem rt_0 : mrt 0 = none := rfl
theorem na_0 : 0 = mna 0 := rfl
theorem tbs_1 : TBS[1]? = some tb_1 := rfl
theorem mo_1 : mown 1 = 0 := rfl
theorem ml_1 : mml 1 = 2 := rfl
theorem rt_1 : mrt 1 = (some .boolean) := rfl
theorem na_1 : 1 = mna 1 := rfl
theorem tbs_2 : TBS[2]? = some tb_2 := rfl
theorem mo_2 : mown 2 = 0 := rfl
theorem ml_2 : mml 2 = 3 := rfl
theorem rt_2 : mrt 2 = (some .int) := rfl
theorem na_2 : 0 = mna 2 := rfl
theorem tbs_3 : TBS[3]? = some tb_3 := rfl
theorem mo_3 : mown 3 = 0 := rfl
theorem ml_3 : mml 3 = 3 := rfl
theorem rt_3 : mrt 3 = (some .boolean) := rfl
theorem na_3 : 1 = mna 3 := rfl
theorem tbs_4 : TBS[4]? = some tb_4 := rfl
theorem mo_4 : mown 4 = 0 := rfl
theorem ml_4 : mml 4 = 1 := rfl
theorem rt_4 : mrt 4 = (some .boolean) := rfl
theorem na_4 : 0 = mna 4 := rfl
theorem tbs_5 : TBS[5]? = some tb_5 := rfl
theorem mo_5 : mown 5 = 0 := rfl
theorem ml_5 : mml 5 = 1 := rfl
theorem rt_5 : mrt 5 = (some .boolean) := rfl
theorem na_5 : 0 = mna 5 := rfl
theorem tbs_6 : TBS[6]? = some tb_6 := rfl
theorem mo_6 : mown 6 = 0 := rfl
theorem ml_6 : mml 6 = 1 := rfl
theorem rt_6 : mrt 6 = (some .boolean) := rfl
theorem na_6 : 0 = mna 6 := rfl
theorem tbs_7 : TBS[7]? = some tb_7 := rfl
theorem mo_7 : mown 7 = 0 := rfl
theorem ml_7 : mml 7 = 1 := rfl
theorem rt_7 : mrt 7 = (some .boolean) := rfl
theorem na_7 : 0 = mna 7 := rfl
theorem tbs_8 : TBS[8]? = some tb_8 := rfl
theorem mo_8 : mown 8 = 0 := rfl
theorem ml_8 : mml 8 = 2 := rfl
theorem rt_8 : mrt 8 = (some .boolean) := rfl
theorem na_8 : 1 = mna 8 := rfl
theorem tbs_9 : TBS[9]? = some tb_9 := rfl
theorem mo_9 : mown 9 = 0 := rfl
theorem ml_9 : mml 9 = 3 := rfl
theorem rt_9 : mrt 9 = (some .int) := rfl
theorem na_9 : 0 = mna 9 := rfl
theorem tbs_10 : TBS[10]? = some tb_10 := rfl
theorem mo_10 : mown 10 = 0 := rfl
theorem ml_10 : mml 10 = 4 := rfl
theorem rt_10 : mrt 10 = (some .int) := rfl
theorem na_10 : 2 = mna 10 := rfl
theorem tbs_11 : TBS[11]? = some tb_11 := rfl
theorem mo_11 : mown 11 = 1 := rfl
theorem ml_11 : mml 11 = 1 := rfl
theorem rt_11 : mrt 11 = none := rfl
theorem na_11 : 0 = mna 11 := rfl
theorem tbs_12 : TBS[12]? = some tb_12 := rfl
theorem mo_12 : mown 12 = 1 := rfl
theorem ml_12 : mml 12 = 5 := rfl
theorem rt_12 : mrt 12 = none := rfl
theorem na_12 : 2 = mna 12 := rfl
theorem tbs_13 : TBS[13]? = some tb_13 := rfl
theorem mo_13 : mown 13 = 1 := rfl
theorem ml_13 : mml 13 = 2 := rfl
theorem rt_13 : mrt 13 = (some .int) := rfl
theorem na_13 : 1 = mna 13 := rfl
theorem tbs_14 : TBS[14]? = some tb_14 := rfl
theorem mo_14 : mown 14 = 1 := rfl
theorem ml_14 : mml 14 = 4 := rfl
theorem rt_14 : mrt 14 = (some .int) := rfl
theorem na_14 : 1 = mna 14 := rfl
theorem tbs_15 : TBS[15]? = some tb_15 := rfl
theorem mo_15 : mown 15 = 1 := rfl
theorem ml_15 : mml 15 = 4 := rfl
theorem rt_15 : mrt 15 = (some .int) := rfl
theorem na_15 : 1 = mna 15 := rfl
theorem tbs_16 : TBS[16]? = some tb_16 := rfl
theorem mo_16 : mown 16 = 1 := rfl
theorem ml_16 : mml 16 = 3 := rfl
theorem rt_16 : mrt 16 = (some .boolean) := rfl
theorem na_16 : 2 = mna 16 := rfl
theorem tbs_17 : TBS[17]? = some tb_17 := rfl
theorem mo_17 : mown 17 = 1 := rfl
theorem ml_17 : mml 17 = 3 := rfl
theorem rt_17 : mrt 17 = none := rfl
theorem na_17 : 1 = mna 17 := rfl
theorem tbs_18 : TBS[18]? = some tb_18 := rfl
theorem mo_18 : mown 18 = 1 := rfl
theorem ml_18 : mml 18 = 5 := rfl
theorem rt_18 : mrt 18 = none := rfl
theorem na_18 : 2 = mna 18 := rfl
theorem tbs_19 : TBS[19]? = some tb_19 := rfl
theorem mo_19 : mown 19 = 1 := rfl
theorem ml_19 : mml 19 = 3 := rfl
theorem rt_19 : mrt 19 = none := rfl
theorem na_19 : 2 = mna 19 := rfl
theorem tbs_20 : TBS[20]? = some tb_20 := rfl
theorem mo_20 : mown 20 = 1 := rfl
theorem ml_20 : mml 20 = 4 := rfl
theorem rt_20 : mrt 20 = none := rfl
theorem na_20 : 2 = mna 20 := rfl
theorem tbs_21 : TBS[21]? = some tb_21 := rfl
theorem mo_21 : mown 21 = 1 := rfl
theorem ml_21 : mml 21 = 3 := rfl
theorem rt_21 : mrt 21 = none := rfl
theorem na_21 : 2 = mna 21 := rfl
theorem tbs_22 : TBS[22]? = some tb_22 := rfl
theorem mo_22 : mown 22 = 1 := rfl
theorem ml_22 : mml 22 = 3 := rfl
theorem rt_22 : mrt 22 = none := rfl
theorem na_22 : 2 = mna 22 := rfl
theorem tbs_23 : TBS[23]? = some tb_23 := rfl
theorem mo_23 : mown 23 = 2 := rfl
theorem ml_23 : mml 23 = 2 := rfl
theorem rt_23 : mrt 23 = none := rfl
theorem na_23 : 0 = mna 23 := rfl
theorem tbs_24 : TBS[24]? = some tb_24 := rfl
theorem mo_24 : mown 24 = 2 := rfl
theorem ml_24 : mml 24 = 2 := rfl
theorem rt_24 : mrt 24 = none := rfl
theorem na_24 : 1 = mna 24 := rfl
theorem tbs_25 : TBS[25]? = some tb_25 := rfl
theorem mo_25 : mown 25 = 2 := rfl
theorem ml_25 : mml 25 = 6 := rfl
theorem rt_25 : mrt 25 = none := rfl
theorem na_25 : 5 = mna 25 := rfl
theorem tbs_26 : TBS[26]? = some tb_26 := rfl
theorem mo_26 : mown 26 = 2 := rfl
theorem ml_26 : mml 26 = 4 := rfl
theorem rt_26 : mrt 26 = none := rfl
theorem na_26 : 2 = mna 26 := rfl
theorem tbs_27 : TBS[27]? = some tb_27 := rfl
theorem mo_27 : mown 27 = 2 := rfl
theorem ml_27 : mml 27 = 2 := rfl
theorem rt_27 : mrt 27 = none := rfl
theorem na_27 : 0 = mna 27 := rfl
theorem tbs_28 : TBS[28]? = some tb_28 := rfl
theorem mo_28 : mown 28 = 2 := rfl
theorem ml_28 : mml 28 = 2 := rfl
theorem rt_28 : mrt 28 = (some .boolean) := rfl
theorem na_28 : 1 = mna 28 := rfl
theorem tbs_29 : TBS[29]? = some tb_29 := rfl
theorem mo_29 : mown 29 = 2 := rfl
theorem ml_29 : mml 29 = 2 := rfl
theorem rt_29 : mrt 29 = (some .boolean) := rfl
theorem na_29 : 1 = mna 29 := rfl
theorem tbs_30 : TBS[30]? = some tb_30 := rfl
theorem mo_30 : mown 30 = 2 := rfl
theorem ml_30 : mml 30 = 2 := rfl
theorem rt_30 : mrt 30 = (some .boolean) := rfl
theorem na_30 : 1 = mna 30 := rfl
theorem tbs_31 : TBS[31]? = some tb_31 := rfl
theorem mo_31 : mown 31 = 2 := rfl
theorem ml_31 : mml 31 = 4 := rfl
theorem rt_31 : mrt 31 = (some .boolean) := rfl
theorem na_31 : 1 = mna 31 := rfl
theorem tbs_32 : TBS[32]? = some tb_32 := rfl
theorem mo_32 : mown 32 = 2 := rfl
theorem ml_32 : mml 32 = 2 := rfl
theorem rt_32 : mrt 32 = (some .boolean) := rfl
theorem na_32 : 1 = mna 32 := rfl
theorem tbs_33 : TBS[33]? = some tb_33 := rfl
theorem mo_33 : mown 33 = 2 := rfl
theorem ml_33 : mml 33 = 2 := rfl
theorem rt_33 : mrt 33 = (some .boolean) := rfl
theorem na_33 : 1 = mna 33 := rfl
theorem tbs_34 : TBS[34]? = some tb_34 := rfl
theorem mo_34 : mown 34 = 2 := rfl
theorem ml_34 : mml 34 = 2 := rfl
theorem rt_34 : mrt 34 = (some .boolean) := rfl
theorem na_34 : 1 = mna 34 := rfl
theorem tbs_35 : TBS[35]? = some tb_35 := rfl
theorem mo_35 : mown 35 = 2 := rfl
theorem ml_35 : mml 35 = 2 := rfl
theorem rt_35 : mrt 35 = (some .boolean) := rfl
theorem na_35 : 1 = mna 35 := rfl
theorem tbs_36 : TBS[36]? = some tb_36 := rfl
theorem mo_36 : mown 36 = 2 := rfl
theorem ml_36 : mml 36 = 3 := rfl
theorem rt_36 : mrt 36 = (some .boolean) := rfl
theorem na_36 : 1 = mna 36 := rfl
theorem tbs_37 : TBS[37]? = some tb_37 := rfl
theorem mo_37 : mown 37 = 2 := rfl
theorem ml_37 : mml 37 = 2 := rfl
theorem rt_37 : mrt 37 = (some .boolean) := rfl
theorem na_37 : 1 = mna 37 := rfl
theorem tbs_38 : TBS[38]? = some tb_38 := rfl
theorem mo_38 : mown 38 = 2 := rfl
theorem ml_38 : mml 38 = 2 := rfl
theorem rt_38 : mrt 38 = none := rfl
theorem na_38 : 1 = mna 38 := rfl
theorem tbs_39 : TBS[39]? = some tb_39 := rfl
theorem mo_39 : mown 39 = 2 := rfl
theorem ml_39 : mml 39 = 2 := rfl
theorem rt_39 : mrt 39 = none := rfl
theorem na_39 : 1 = mna 39 := rfl
theorem tbs_40 : TBS[40]? = some tb_40 := rfl
theorem mo_40 : mown 40 = 2 := rfl
theorem ml_40 : mml 40 = 3 := rfl
theorem rt_40 : mrt 40 = none := rfl
theorem na_40 : 0 = mna 40 := rfl
theorem tbs_41 : TBS[41]? = some tb_41 := rfl
theorem mo_41 : mown 41 = 2 := rfl
theorem ml_41 : mml 41 = 3 := rfl
theorem rt_41 : mrt 41 = (some .boolean) := rfl
theorem na_41 : 0 = mna 41 := rfl
theorem tbs_42 : TBS[42]? = some tb_42 := rfl
theorem mo_42 : mown 42 = 2 := rfl
theorem ml_42 : mml 42 = 2 := rfl
theorem rt_42 : mrt 42 = (some .boolean) := rfl
theorem na_42 : 0 = mna 42 := rfl
theorem tbs_43 : TBS[43]? = some tb_43 := rfl
theorem mo_43 : mown 43 = 2 := rfl
theorem ml_43 : mml 43 = 3 := rfl
theorem rt_43 : mrt 43 = (some .int) := rfl
theorem na_43 : 0 = mna 43 := rfl
theorem tbs_44 : TBS[44]? = some tb_44 := rfl
theorem mo_44 : mown 44 = 2 := rfl
theorem ml_44 : mml 44 = 4 := rfl
theorem rt_44 : mrt 44 = (some .int) := rfl
theorem na_44 : 1 = mna 44 := rfl
theorem tbs_45 : TBS[45]? = some tb_45 := rfl
theorem mo_45 : mown 45 = 2 := rfl
theorem ml_45 : mml 45 = 3 := rfl
theorem rt_45 : mrt 45 = (some .int) := rfl
theorem na_45 : 0 = mna 45 := rfl
theorem tbs_46 : TBS[46]? = some tb_46 := rfl
theorem mo_46 : mown 46 = 2 := rfl
theorem ml_46 : mml 46 = 4 := rfl
theorem rt_46 : mrt 46 = (some .int) := rfl
theorem na_46 : 1 = mna 46 := rfl
theorem tbs_47 : TBS[47]? = some tb_47 := rfl
theorem mo_47 : mown 47 = 2 := rfl
theorem ml_47 : mml 47 = 4 := rfl
theorem rt_47 : mrt 47 = (some .int) := rfl
theorem na_47 : 1 = mna 47 := rfl
theorem tbs_48 : TBS[48]? = some tb_48 := rfl
theorem mo_48 : mown 48 = 3 := rfl
theorem ml_48 : mml 48 = 2 := rfl
theorem rt_48 : mrt 48 = none := rfl
theorem na_48 : 0 = mna 48 := rfl
theorem tbs_49 : TBS[49]? = some tb_49 := rfl
theorem mo_49 : mown 49 = 3 := rfl
theorem ml_49 : mml 49 = 5 := rfl
theorem rt_49 : mrt 49 = (some .int) := rfl
theorem na_49 : 4 = mna 49 := rfl
theorem tbs_50 : TBS[50]? = some tb_50 := rfl
theorem mo_50 : mown 50 = 3 := rfl
theorem ml_50 : mml 50 = 3 := rfl
theorem rt_50 : mrt 50 = (some .int) := rfl
theorem na_50 : 0 = mna 50 := rfl
theorem tbs_51 : TBS[51]? = some tb_51 := rfl
theorem mo_51 : mown 51 = 3 := rfl
theorem ml_51 : mml 51 = 4 := rfl
theorem rt_51 : mrt 51 = (some .int) := rfl
theorem na_51 : 2 = mna 51 := rfl
theorem tbs_52 : TBS[52]? = some tb_52 := rfl
theorem mo_52 : mown 52 = 3 := rfl
theorem ml_52 : mml 52 = 5 := rfl
theorem rt_52 : mrt 52 = (some .int) := rfl
theorem na_52 : 3 = mna 52 := rfl
theorem tbs_53 : TBS[53]? = some tb_53 := rfl
theorem mo_53 : mown 53 = 3 := rfl
theorem ml_53 : mml 53 = 1 := rfl
theorem rt_53 : mrt 53 = (some .int) := rfl
theorem na_53 : 0 = mna 53 := rfl
theorem tbs_54 : TBS[54]? = some tb_54 := rfl
theorem mo_54 : mown 54 = 3 := rfl
theorem ml_54 : mml 54 = 2 := rfl
theorem rt_54 : mrt 54 = (some .int) := rfl
theorem na_54 : 0 = mna 54 := rfl
theorem tbs_55 : TBS[55]? = some tb_55 := rfl
theorem mo_55 : mown 55 = 3 := rfl
theorem ml_55 : mml 55 = 2 := rfl
theorem rt_55 : mrt 55 = (some .int) := rfl
theorem na_55 : 1 = mna 55 := rfl
theorem tbs_56 : TBS[56]? = some tb_56 := rfl
theorem mo_56 : mown 56 = 3 := rfl
theorem ml_56 : mml 56 = 2 := rfl
theorem rt_56 : mrt 56 = (some .int) := rfl
theorem na_56 : 1 = mna 56 := rfl
theorem tbs_57 : TBS[57]? = some tb_57 := rfl
theorem mo_57 : mown 57 = 3 := rfl
theorem ml_57 : mml 57 = 2 := rfl
theorem rt_57 : mrt 57 = (some .int) := rfl
theorem na_57 : 1 = mna 57 := rfl
theorem tbs_58 : TBS[58]? = some tb_58 := rfl
theorem mo_58 : mown 58 = 3 := rfl
theorem ml_58 : mml 58 = 2 := rfl
theorem rt_58 : mrt 58 = (some .int) := rfl
theorem na_58 : 1 = mna 58 := rfl
theorem tbs_59 : TBS[59]? = some tb_59 := rfl
theorem mo_59 : mown 59 = 3 := rfl
theorem ml_59 : mml 59 = 2 := rfl
theorem rt_59 : mrt 59 = (some .int) := rfl
theorem na_59 : 1 = mna 59 := rfl
theorem tbs_60 : TBS[60]? = some tb_60 := rfl
theorem mo_60 : mown 60 = 3 := rfl
theorem ml_60 : mml 60 = 2 := rfl
theorem rt_60 : mrt 60 = (some .int) := rfl
theorem na_60 : 1 = mna 60 := rfl
theorem tbs_61 : TBS[61]? = some tb_61 := rfl
theorem mo_61 : mown 61 = 3 := rfl
theorem ml_61 : mml 61 = 2 := rfl
theorem rt_61 : mrt 61 = (some .int) := rfl
theorem na_61 : 0 = mna 61 := rfl
theorem tbs_62 : TBS[62]? = some tb_62 := rfl
theorem mo_62 : mown 62 = 3 := rfl
theorem ml_62 : mml 62 = 1 := rfl
theorem rt_62 : mrt 62 = (some .int) := rfl
theorem na_62 : 0 = mna 62 := rfl
theorem tbs_63 : TBS[63]? = some tb_63 := rfl
theorem mo_63 : mown 63 = 3 := rfl
theorem ml_63 : mml 63 = 1 := rfl
theorem rt_63 : mrt 63 = (some .int) := rfl
theorem na_63 : 0 = mna 63 := rfl
theorem tbs_64 : TBS[64]? = some tb_64 := rfl
theorem mo_64 : mown 64 = 3 := rfl
theorem ml_64 : mml 64 = 1 := rfl
theorem rt_64 : mrt 64 = (some .int) := rfl
theorem na_64 : 0 = mna 64 := rfl
theorem tbs_65 : TBS[65]? = some tb_65 := rfl
theorem mo_65 : mown 65 = 3 := rfl
theorem ml_65 : mml 65 = 3 := rfl
theorem rt_65 : mrt 65 = (some .int) := rfl
theorem na_65 : 2 = mna 65 := rfl
theorem tbs_66 : TBS[66]? = some tb_66 := rfl
theorem mo_66 : mown 66 = 3 := rfl
theorem ml_66 : mml 66 = 4 := rfl
theorem rt_66 : mrt 66 = (some .int) := rfl
theorem na_66 : 2 = mna 66 := rfl
theorem tbs_67 : TBS[67]? = some tb_67 := rfl
theorem mo_67 : mown 67 = 3 := rfl
theorem ml_67 : mml 67 = 3 := rfl
theorem rt_67 : mrt 67 = (some .int) := rfl
theorem na_67 : 2 = mna 67 := rfl
theorem tbs_68 : TBS[68]? = some tb_68 := rfl
theorem mo_68 : mown 68 = 3 := rfl
theorem ml_68 : mml 68 = 2 := rfl
theorem rt_68 : mrt 68 = (some .int) := rfl
theorem na_68 : 1 = mna 68 := rfl
theorem tbs_69 : TBS[69]? = some tb_69 := rfl
theorem mo_69 : mown 69 = 3 := rfl
theorem ml_69 : mml 69 = 1 := rfl
theorem rt_69 : mrt 69 = (some .double) := rfl
theorem na_69 : 0 = mna 69 := rfl
theorem tbs_70 : TBS[70]? = some tb_70 := rfl
theorem mo_70 : mown 70 = 3 := rfl
theorem ml_70 : mml 70 = 1 := rfl
theorem rt_70 : mrt 70 = (some .int) := rfl
theorem na_70 : 0 = mna 70 := rfl
theorem tbs_71 : TBS[71]? = some tb_71 := rfl
theorem mo_71 : mown 71 = 3 := rfl
theorem ml_71 : mml 71 = 2 := rfl
theorem rt_71 : mrt 71 = (some .int) := rfl
theorem na_71 : 1 = mna 71 := rfl
theorem tbs_72 : TBS[72]? = some tb_72 := rfl
theorem mo_72 : mown 72 = 3 := rfl
theorem ml_72 : mml 72 = 2 := rfl
theorem rt_72 : mrt 72 = (some .boolean) := rfl
theorem na_72 : 2 = mna 72 := rfl
theorem tbs_73 : TBS[73]? = some tb_73 := rfl
theorem mo_73 : mown 73 = 3 := rfl
theorem ml_73 : mml 73 = 1 := rfl
theorem rt_73 : mrt 73 = (some .boolean) := rfl
theorem na_73 : 1 = mna 73 := rfl
theorem tbs_74 : TBS[74]? = some tb_74 := rfl
theorem mo_74 : mown 74 = 3 := rfl
theorem ml_74 : mml 74 = 1 := rfl
theorem rt_74 : mrt 74 = (some .int) := rfl
theorem na_74 : 1 = mna 74 := rfl
theorem tbs_75 : TBS[75]? = some tb_75 := rfl
theorem mo_75 : mown 75 = 3 := rfl
theorem ml_75 : mml 75 = 1 := rfl
theorem rt_75 : mrt 75 = (some .int) := rfl
theorem na_75 : 1 = mna 75 := rfl
theorem tbs_76 : TBS[76]? = some tb_76 := rfl
theorem mo_76 : mown 76 = 3 := rfl
theorem ml_76 : mml 76 = 2 := rfl
theorem rt_76 : mrt 76 = (some .boolean) := rfl
theorem na_76 : 2 = mna 76 := rfl
theorem tbs_77 : TBS[77]? = some tb_77 := rfl
theorem mo_77 : mown 77 = 3 := rfl
theorem ml_77 : mml 77 = 4 := rfl
theorem rt_77 : mrt 77 = (some .int) := rfl
theorem na_77 : 1 = mna 77 := rfl
theorem tbs_78 : TBS[78]? = some tb_78 := rfl
theorem mo_78 : mown 78 = 3 := rfl
theorem ml_78 : mml 78 = 1 := rfl
theorem rt_78 : mrt 78 = none := rfl
theorem na_78 : 0 = mna 78 := rfl
theorem tbs_79 : TBS[79]? = some tb_79 := rfl
theorem mo_79 : mown 79 = 3 := rfl
theorem ml_79 : mml 79 = 3 := rfl
theorem rt_79 : mrt 79 = none := rfl
theorem na_79 : 0 = mna 79 := rfl
theorem tbs_80 : TBS[80]? = some tb_80 := rfl
theorem mo_80 : mown 80 = 3 := rfl
theorem ml_80 : mml 80 = 2 := rfl
theorem rt_80 : mrt 80 = none := rfl
theorem na_80 : 2 = mna 80 := rfl
theorem tbs_81 : TBS[81]? = some tb_81 := rfl
theorem mo_81 : mown 81 = 3 := rfl
theorem ml_81 : mml 81 = 2 := rfl
theorem rt_81 : mrt 81 = (some .boolean) := rfl
theorem na_81 : 1 = mna 81 := rfl
theorem tbs_82 : TBS[82]? = some tb_82 := rfl
theorem mo_82 : mown 82 = 3 := rfl
theorem ml_82 : mml 82 = 1 := rfl
theorem rt_82 : mrt 82 = (some .int) := rfl
theorem na_82 : 0 = mna 82 := rfl
theorem tbs_83 : TBS[83]? = some tb_83 := rfl
theorem mo_83 : mown 83 = 4 := rfl
theorem ml_83 : mml 83 = 2 := rfl
theorem rt_83 : mrt 83 = none := rfl
theorem na_83 : 0 = mna 83 := rfl
theorem tbs_84 : TBS[84]? = some tb_84 := rfl
theorem mo_84 : mown 84 = 4 := rfl
theorem ml_84 : mml 84 = 3 := rfl
theorem rt_84 : mrt 84 = (some .boolean) := rfl
theorem na_84 : 3 = mna 84 := rfl
theorem tbs_85 : TBS[85]? = some tb_85 := rfl
theorem mo_85 : mown 85 = 4 := rfl
theorem ml_85 : mml 85 = 1 := rfl
theorem rt_85 : mrt 85 = (some .int) := rfl
theorem na_85 : 1 = mna 85 := rfl
theorem tbs_86 : TBS[86]? = some tb_86 := rfl
theorem mo_86 : mown 86 = 4 := rfl
theorem ml_86 : mml 86 = 1 := rfl
theorem rt_86 : mrt 86 = (some .int) := rfl
theorem na_86 : 1 = mna 86 := rfl
theorem tbs_87 : TBS[87]? = some tb_87 := rfl
theorem mo_87 : mown 87 = 4 := rfl
theorem ml_87 : mml 87 = 2 := rfl
theorem rt_87 : mrt 87 = none := rfl
theorem na_87 : 0 = mna 87 := rfl
theorem tbs_88 : TBS[88]? = some tb_88 := rfl
theorem mo_88 : mown 88 = 4 := rfl
theorem ml_88 : mml 88 = 2 := rfl
theorem rt_88 : mrt 88 = (some .boolean) := rfl
theorem na_88 : 1 = mna 88 := rfl
theorem tbs_89 : TBS[89]? = some tb_89 := rfl
theorem mo_89 : mown 89 = 4 := rfl
theorem ml_89 : mml 89 = 1 := rfl
theorem rt_89 : mrt 89 = (some .boolean) := rfl
theorem na_89 : 0 = mna 89 := rfl
theorem tbs_90 : TBS[90]? = some tb_90 := rfl
theorem mo_90 : mown 90 = 4 := rfl
theorem ml_90 : mml 90 = 4 := rfl
theorem rt_90 : mrt 90 = (some .int) := rfl
theorem na_90 : 1 = mna 90 := rfl
theorem tbs_91 : TBS[91]? = some tb_91 := rfl
theorem mo_91 : mown 91 = 4 := rfl
theorem ml_91 : mml 91 = 6 := rfl
theorem rt_91 : mrt 91 = (some .int) := rfl
theorem na_91 : 4 = mna 91 := rfl
theorem tbs_92 : TBS[92]? = some tb_92 := rfl
theorem mo_92 : mown 92 = 4 := rfl
theorem ml_92 : mml 92 = 5 := rfl
theorem rt_92 : mrt 92 = (some .int) := rfl
theorem na_92 : 4 = mna 92 := rfl
theorem tbs_93 : TBS[93]? = some tb_93 := rfl
theorem mo_93 : mown 93 = 4 := rfl
theorem ml_93 : mml 93 = 4 := rfl
theorem rt_93 : mrt 93 = (some .boolean) := rfl
theorem na_93 : 3 = mna 93 := rfl
theorem tbs_94 : TBS[94]? = some tb_94 := rfl
theorem mo_94 : mown 94 = 4 := rfl
theorem ml_94 : mml 94 = 2 := rfl
theorem rt_94 : mrt 94 = (some .int) := rfl
theorem na_94 : 0 = mna 94 := rfl
theorem tbs_95 : TBS[95]? = some tb_95 := rfl
theorem mo_95 : mown 95 = 4 := rfl
theorem ml_95 : mml 95 = 3 := rfl
theorem rt_95 : mrt 95 = (some .boolean) := rfl
theorem na_95 : 1 = mna 95 := rfl
theorem tbs_96 : TBS[96]? = some tb_96 := rfl
theorem mo_96 : mown 96 = 4 := rfl
theorem ml_96 : mml 96 = 2 := rfl
theorem rt_96 : mrt 96 = (some .boolean) := rfl
theorem na_96 : 0 = mna 96 := rfl
theorem tbs_97 : TBS[97]? = some tb_97 := rfl
theorem mo_97 : mown 97 = 4 := rfl
theorem ml_97 : mml 97 = 2 := rfl
theorem rt_97 : mrt 97 = (some .int) := rfl
theorem na_97 : 0 = mna 97 := rfl
theorem tbs_98 : TBS[98]? = some tb_98 := rfl
theorem mo_98 : mown 98 = 4 := rfl
theorem ml_98 : mml 98 = 4 := rfl
theorem rt_98 : mrt 98 = (some .int) := rfl
theorem na_98 : 0 = mna 98 := rfl
theorem tbs_99 : TBS[99]? = some tb_99 := rfl
theorem mo_99 : mown 99 = 4 := rfl
theorem ml_99 : mml 99 = 6 := rfl
theorem rt_99 : mrt 99 = (some .int) := rfl
theorem na_99 : 2 = mna 99 := rfl
theorem tbs_100 : TBS[100]? = some tb_100 := rfl
theorem mo_100 : mown 100 = 4 := rfl
theorem ml_100 : mml 100 = 3 := rfl
theorem rt_100 : mrt 100 = (some .int) := rfl
theorem na_100 : 0 = mna 100 := rfl
theorem tbs_101 : TBS[101]? = some tb_101 := rfl
theorem mo_101 : mown 101 = 4 := rfl
theorem ml_101 : mml 101 = 4 := rfl
theorem rt_101 : mrt 101 = (some .int) := rfl
theorem na_101 : 3 = mna 101 := rfl
theorem tbs_102 : TBS[102]? = some tb_102 := rfl
theorem mo_102 : mown 102 = 4 := rfl
theorem ml_102 : mml 102 = 3 := rfl
theorem rt_102 : mrt 102 = (some .boolean) := rfl
theorem na_102 : 0 = mna 102 := rfl
theorem tbs_103 : TBS[103]? = some tb_103 := rfl
theorem mo_103 : mown 103 = 4 := rfl
theorem ml_103 : mml 103 = 2 := rfl
theorem rt_103 : mrt 103 = none := rfl
theorem na_103 : 0 = mna 103 := rfl
theorem tbs_104 : TBS[104]? = some tb_104 := rfl
theorem mo_104 : mown 104 = 4 := rfl
theorem ml_104 : mml 104 = 1 := rfl
theorem rt_104 : mrt 104 = (some .int) := rfl
theorem na_104 : 0 = mna 104 := rfl
theorem tbs_105 : TBS[105]? = some tb_105 := rfl
theorem mo_105 : mown 105 = 4 := rfl
theorem ml_105 : mml 105 = 2 := rfl
theorem rt_105 : mrt 105 = (some .int) := rfl
theorem na_105 : 0 = mna 105 := rfl
theorem tbs_106 : TBS[106]? = some tb_106 := rfl
theorem mo_106 : mown 106 = 4 := rfl
theorem ml_106 : mml 106 = 4 := rfl
theorem rt_106 : mrt 106 = (some .boolean) := rfl
theorem na_106 : 1 = mna 106 := rfl
theorem tbs_107 : TBS[107]? = some tb_107 := rfl
theorem mo_107 : mown 107 = 4 := rfl
theorem ml_107 : mml 107 = 5 := rfl
theorem rt_107 : mrt 107 = (some .boolean) := rfl
theorem na_107 : 1 = mna 107 := rfl
theorem tbs_108 : TBS[108]? = some tb_108 := rfl
theorem mo_108 : mown 108 = 4 := rfl
theorem ml_108 : mml 108 = 3 := rfl
theorem rt_108 : mrt 108 = (some .boolean) := rfl
theorem na_108 : 1 = mna 108 := rfl
theorem tbs_109 : TBS[109]? = some tb_109 := rfl
theorem mo_109 : mown 109 = 4 := rfl
theorem ml_109 : mml 109 = 4 := rfl
theorem rt_109 : mrt 109 = (some .boolean) := rfl
theorem na_109 : 1 = mna 109 := rfl
theorem tbs_110 : TBS[110]? = some tb_110 := rfl
theorem mo_110 : mown 110 = 4 := rfl
theorem ml_110 : mml 110 = 3 := rfl
theorem rt_110 : mrt 110 = none := rfl
theorem na_110 : 1 = mna 110 := rfl
theorem tbs_111 : TBS[111]? = some tb_111 := rfl
theorem mo_111 : mown 111 = 4 := rfl
theorem ml_111 : mml 111 = 2 := rfl
theorem rt_111 : mrt 111 = (some .double) := rfl
theorem na_111 : 1 = mna 111 := rfl
theorem tbs_112 : TBS[112]? = some tb_112 := rfl
theorem mo_112 : mown 112 = 4 := rfl
theorem ml_112 : mml 112 = 2 := rfl
theorem rt_112 : mrt 112 = (some .int) := rfl
theorem na_112 : 1 = mna 112 := rfl
theorem tbs_113 : TBS[113]? = some tb_113 := rfl
theorem mo_113 : mown 113 = 4 := rfl
theorem ml_113 : mml 113 = 2 := rfl
theorem rt_113 : mrt 113 = (some .int) := rfl
theorem na_113 : 1 = mna 113 := rfl
theorem tbs_114 : TBS[114]? = some tb_114 := rfl
theorem mo_114 : mown 114 = 4 := rfl
theorem ml_114 : mml 114 = 2 := rfl
theorem rt_114 : mrt 114 = (some .int) := rfl
theorem na_114 : 1 = mna 114 := rfl
theorem tbs_115 : TBS[115]? = some tb_115 := rfl
theorem mo_115 : mown 115 = 4 := rfl
theorem ml_115 : mml 115 = 3 := rfl
theorem rt_115 : mrt 115 = (some .int) := rfl
theorem na_115 : 0 = mna 115 := rfl
theorem tbs_116 : TBS[116]? = some tb_116 := rfl
theorem mo_116 : mown 116 = 4 := rfl
theorem ml_116 : mml 116 = 2 := rfl
theorem rt_116 : mrt 116 = (some .int) := rfl
theorem na_116 : 1 = mna 116 := rfl
theorem tbs_117 : TBS[117]? = some tb_117 := rfl
theorem mo_117 : mown 117 = 4 := rfl
theorem ml_117 : mml 117 = 2 := rfl
theorem rt_117 : mrt 117 = (some .int) := rfl
theorem na_117 : 1 = mna 117 := rfl
theorem tbs_118 : TBS[118]? = some tb_118 := rfl
theorem mo_118 : mown 118 = 4 := rfl
theorem ml_118 : mml 118 = 2 := rfl
theorem rt_118 : mrt 118 = (some .int) := rfl
theorem na_118 : 1 = mna 118 := rfl
theorem tbs_119 : TBS[119]? = some tb_119 := rfl
theorem mo_119 : mown 119 = 4 := rfl
theorem ml_119 : mml 119 = 2 := rfl
theorem rt_119 : mrt 119 = (some .int) := rfl
theorem na_119 : 0 = mna 119 := rfl
theorem tbs_120 : TBS[120]? = some tb_120 := rfl
theorem mo_120 : mown 120 = 4 := rfl
theorem ml_120 : mml 120 = 2 := rfl
theorem rt_120 : mrt 120 = (some .int) := rfl
theorem na_120 : 0 = mna 120 := rfl
theorem tbs_121 : TBS[121]? = some tb_121 := rfl
theorem mo_121 : mown 121 = 4 := rfl
theorem ml_121 : mml 121 = 2 := rfl
theorem rt_121 : mrt 121 = (some .int) := rfl
theorem na_121 : 0 = mna 121 := rfl
theorem tbs_122 : TBS[122]? = some tb_122 := rfl
theorem mo_122 : mown 122 = 4 := rfl
theorem ml_122 : mml 122 = 2 := rfl
theorem rt_122 : mrt 122 = (some .int) := rfl
theorem na_122 : 0 = mna 122 := rfl
theorem tbs_123 : TBS[123]? = some tb_123 := rfl
theorem mo_123 : mown 123 = 4 := rfl
theorem ml_123 : mml 123 = 2 := rfl
theorem rt_123 : mrt 123 = (some .boolean) := rfl
theorem na_123 : 1 = mna 123 := rfl
theorem tbs_124 : TBS[124]? = some tb_124 := rfl
theorem mo_124 : mown 124 = 4 := rfl
theorem ml_124 : mml 124 = 2 := rfl
theorem rt_124 : mrt 124 = (some .boolean) := rfl
theorem na_124 : 1 = mna 124 := rfl
theorem tbs_125 : TBS[125]? = some tb_125 := rfl
theorem mo_125 : mown 125 = 4 := rfl
theorem ml_125 : mml 125 = 2 := rfl
theorem rt_125 : mrt 125 = (some .int) := rfl
theorem na_125 : 1 = mna 125 := rfl
theorem tbs_126 : TBS[126]? = some tb_126 := rfl
theorem mo_126 : mown 126 = 4 := rfl
theorem ml_126 : mml 126 = 3 := rfl
theorem rt_126 : mrt 126 = none := rfl
theorem na_126 : 2 = mna 126 := rfl
theorem tbs_127 : TBS[127]? = some tb_127 := rfl
theorem mo_127 : mown 127 = 4 := rfl
theorem ml_127 : mml 127 = 5 := rfl
theorem rt_127 : mrt 127 = none := rfl
theorem na_127 : 3 = mna 127 := rfl
theorem tbs_128 : TBS[128]? = some tb_128 := rfl
theorem mo_128 : mown 128 = 4 := rfl
theorem ml_128 : mml 128 = 4 := rfl
theorem rt_128 : mrt 128 = none := rfl
theorem na_128 : 1 = mna 128 := rfl
theorem tbs_129 : TBS[129]? = some tb_129 := rfl
theorem mo_129 : mown 129 = 4 := rfl
theorem ml_129 : mml 129 = 5 := rfl
theorem rt_129 : mrt 129 = none := rfl
theorem na_129 : 1 = mna 129 := rfl
theorem tbs_130 : TBS[130]? = some tb_130 := rfl
theorem mo_130 : mown 130 = 4 := rfl
theorem ml_130 : mml 130 = 4 := rfl
theorem rt_130 : mrt 130 = none := rfl
theorem na_130 : 1 = mna 130 := rfl
theorem tbs_131 : TBS[131]? = some tb_131 := rfl
theorem mo_131 : mown 131 = 4 := rfl
theorem ml_131 : mml 131 = 4 := rfl
theorem rt_131 : mrt 131 = none := rfl
theorem na_131 : 1 = mna 131 := rfl
theorem tbs_132 : TBS[132]? = some tb_132 := rfl
theorem mo_132 : mown 132 = 4 := rfl
theorem ml_132 : mml 132 = 4 := rfl
theorem rt_132 : mrt 132 = (some .boolean) := rfl
theorem na_132 : 1 = mna 132 := rfl
theorem tbs_133 : TBS[133]? = some tb_133 := rfl
theorem mo_133 : mown 133 = 4 := rfl
theorem ml_133 : mml 133 = 6 := rfl
theorem rt_133 : mrt 133 = (some .boolean) := rfl
theorem na_133 : 1 = mna 133 := rfl
theorem tbs_134 : TBS[134]? = some tb_134 := rfl
theorem mo_134 : mown 134 = 4 := rfl
theorem ml_134 : mml 134 = 5 := rfl
theorem rt_134 : mrt 134 = (some .int) := rfl
theorem na_134 : 2 = mna 134 := rfl
theorem tbs_135 : TBS[135]? = some tb_135 := rfl
theorem mo_135 : mown 135 = 4 := rfl
theorem ml_135 : mml 135 = 5 := rfl
theorem rt_135 : mrt 135 = (some .int) := rfl
theorem na_135 : 2 = mna 135 := rfl
theorem tbs_136 : TBS[136]? = some tb_136 := rfl
theorem mo_136 : mown 136 = 4 := rfl
theorem ml_136 : mml 136 = 3 := rfl
theorem rt_136 : mrt 136 = (some .int) := rfl
theorem na_136 : 0 = mna 136 := rfl
theorem tbs_137 : TBS[137]? = some tb_137 := rfl
theorem mo_137 : mown 137 = 4 := rfl
theorem ml_137 : mml 137 = 3 := rfl
theorem rt_137 : mrt 137 = (some .int) := rfl
theorem na_137 : 2 = mna 137 := rfl
theorem tbs_138 : TBS[138]? = some tb_138 := rfl
theorem mo_138 : mown 138 = 4 := rfl
theorem ml_138 : mml 138 = 3 := rfl
theorem rt_138 : mrt 138 = (some .int) := rfl
theorem na_138 : 1 = mna 138 := rfl
theorem tbs_139 : TBS[139]? = some tb_139 := rfl
theorem mo_139 : mown 139 = 4 := rfl
theorem ml_139 : mml 139 = 4 := rfl
theorem rt_139 : mrt 139 = (some .int) := rfl
theorem na_139 : 1 = mna 139 := rfl
theorem tbs_140 : TBS[140]? = some tb_140 := rfl
theorem mo_140 : mown 140 = 4 := rfl
theorem ml_140 : mml 140 = 4 := rfl
theorem rt_140 : mrt 140 = (some .int) := rfl
theorem na_140 : 1 = mna 140 := rfl
theorem tbs_141 : TBS[141]? = some tb_141 := rfl
theorem mo_141 : mown 141 = 4 := rfl
theorem ml_141 : mml 141 = 3 := rfl
theorem rt_141 : mrt 141 = (some .int) := rfl
theorem na_141 : 2 = mna 141 := rfl
theorem tbs_142 : TBS[142]? = some tb_142 := rfl
theorem mo_142 : mown 142 = 4 := rfl
theorem ml_142 : mml 142 = 5 := rfl
theorem rt_142 : mrt 142 = (some .int) := rfl
theorem na_142 : 2 = mna 142 := rfl
theorem tbs_143 : TBS[143]? = some tb_143 := rfl
theorem mo_143 : mown 143 = 4 := rfl
theorem ml_143 : mml 143 = 1 := rfl
theorem rt_143 : mrt 143 = (some .double) := rfl
theorem na_143 : 0 = mna 143 := rfl
theorem tbs_144 : TBS[144]? = some tb_144 := rfl
theorem mo_144 : mown 144 = 4 := rfl
theorem ml_144 : mml 144 = 1 := rfl
theorem rt_144 : mrt 144 = (some .int) := rfl
theorem na_144 : 0 = mna 144 := rfl
theorem tbs_145 : TBS[145]? = some tb_145 := rfl
theorem mo_145 : mown 145 = 4 := rfl
theorem ml_145 : mml 145 = 3 := rfl
theorem rt_145 : mrt 145 = (some .int) := rfl
theorem na_145 : 0 = mna 145 := rfl
theorem tbs_146 : TBS[146]? = some tb_146 := rfl
theorem mo_146 : mown 146 = 4 := rfl
theorem ml_146 : mml 146 = 3 := rfl
theorem rt_146 : mrt 146 = (some .int) := rfl
theorem na_146 : 0 = mna 146 := rfl
theorem tbs_147 : TBS[147]? = some tb_147 := rfl
theorem mo_147 : mown 147 = 4 := rfl
theorem ml_147 : mml 147 = 3 := rfl
theorem rt_147 : mrt 147 = (some .int) := rfl
theorem na_147 : 0 = mna 147 := rfl
theorem tbs_148 : TBS[148]? = some tb_148 := rfl
theorem mo_148 : mown 148 = 4 := rfl
theorem ml_148 : mml 148 = 2 := rfl
theorem rt_148 : mrt 148 = (some .int) := rfl
theorem na_148 : 1 = mna 148 := rfl
theorem tbs_149 : TBS[149]? = some tb_149 := rfl
theorem mo_149 : mown 149 = 5 := rfl
theorem ml_149 : mml 149 = 1 := rfl
theorem rt_149 : mrt 149 = (some .boolean) := rfl
theorem na_149 : 1 = mna 149 := rfl
theorem tbs_150 : TBS[150]? = some tb_150 := rfl
theorem mo_150 : mown 150 = 5 := rfl
theorem ml_150 : mml 150 = 1 := rfl
theorem rt_150 : mrt 150 = (some .int) := rfl
theorem na_150 : 1 = mna 150 := rfl
theorem tbs_151 : TBS[151]? = some tb_151 := rfl
theorem mo_151 : mown 151 = 6 := rfl
theorem ml_151 : mml 151 = 1 := rfl
theorem rt_151 : mrt 151 = (some .int) := rfl
theorem na_151 : 1 = mna 151 := rfl
theorem tbs_152 : TBS[152]? = some tb_152 := rfl
theorem mo_152 : mown 152 = 7 := rfl
theorem ml_152 : mml 152 = 2 := rfl
theorem rt_152 : mrt 152 = (some .int) := rfl
theorem na_152 : 2 = mna 152 := rfl
theorem tbs_153 : TBS[153]? = some tb_153 := rfl
theorem mo_153 : mown 153 = 9 := rfl
theorem ml_153 : mml 153 = 8 := rfl
theorem rt_153 : mrt 153 = (some .boolean) := rfl
theorem na_153 : 1 = mna 153 := rfl
theorem fl_0_9 : fld 0 9 = some (0, 0) := rfl
theorem fl_0_15 : fld 0 15 = some (0, 4) := rfl
theorem fl_0_19 : fld 0 19 = some (0, 5) := rfl
theorem fl_0_22 : fld 0 22 = some (0, 6) := rfl
theorem fl_0_25 : fld 0 25 = some (0, 7) := rfl
theorem fl_0_28 : fld 0 28 = some (0, 1) := rfl
theorem fl_0_32 : fld 0 32 = some (0, 2) := rfl
theorem fl_0_35 : fld 0 35 = some (0, 3) := rfl
theorem fl_1_9 : fld 1 9 = some (1, 2) := rfl
theorem fl_1_15 : fld 1 15 = some (1, 0) := rfl
theorem fl_1_19 : fld 1 19 = some (1, 1) := rfl
theorem fl_1_43 : fld 1 43 = some (2, 12) := rfl
theorem fl_1_88 : fld 1 88 = some (2, 7) := rfl
theorem fl_1_91 : fld 1 91 = some (2, 8) := rfl
theorem fl_1_94 : fld 1 94 = some (2, 9) := rfl
theorem fl_1_97 : fld 1 97 = some (2, 13) := rfl
theorem fl_1_100 : fld 1 100 = some (2, 14) := rfl
theorem fl_2_9 : fld 2 9 = some (2, 7) := rfl
theorem fl_2_15 : fld 2 15 = some (2, 8) := rfl
theorem fl_2_18 : fld 2 18 = some (2, 9) := rfl
theorem fl_2_21 : fld 2 21 = some (2, 10) := rfl
theorem fl_2_24 : fld 2 24 = some (2, 11) := rfl
theorem fl_2_27 : fld 2 27 = some (2, 12) := rfl
theorem fl_2_30 : fld 2 30 = some (2, 13) := rfl
theorem fl_2_33 : fld 2 33 = some (2, 14) := rfl
theorem fl_2_36 : fld 2 36 = some (2, 0) := rfl
theorem fl_2_40 : fld 2 40 = some (2, 1) := rfl
theorem fl_2_44 : fld 2 44 = some (2, 2) := rfl
theorem fl_2_47 : fld 2 47 = some (2, 3) := rfl
theorem fl_2_50 : fld 2 50 = some (2, 4) := rfl
theorem fl_2_53 : fld 2 53 = some (2, 5) := rfl
theorem fl_2_56 : fld 2 56 = some (2, 6) := rfl
theorem fl_3_12 : fld 3 12 = some (3, 0) := rfl
theorem fl_3_16 : fld 3 16 = some (3, 1) := rfl
theorem fl_3_19 : fld 3 19 = some (3, 2) := rfl
theorem fl_3_22 : fld 3 22 = some (3, 3) := rfl
theorem fl_3_29 : fld 3 29 = some (3, 4) := rfl
theorem fl_3_36 : fld 3 36 = some (3, 5) := rfl
theorem fl_3_40 : fld 3 40 = some (3, 6) := rfl
theorem fl_3_44 : fld 3 44 = some (3, 7) := rfl
theorem fl_3_56 : fld 3 56 = some (2, 0) := rfl
theorem fl_3_59 : fld 3 59 = some (2, 1) := rfl
theorem fl_3_76 : fld 3 76 = some (0, 3) := rfl
theorem fl_3_79 : fld 3 79 = some (0, 4) := rfl
theorem fl_3_83 : fld 3 83 = some (0, 5) := rfl
theorem fl_3_86 : fld 3 86 = some (0, 6) := rfl
theorem fl_3_89 : fld 3 89 = some (0, 7) := rfl
theorem fl_3_92 : fld 3 92 = some (2, 11) := rfl
theorem fl_3_100 : fld 3 100 = some (2, 13) := rfl
theorem fl_3_103 : fld 3 103 = some (2, 14) := rfl
theorem fl_3_116 : fld 3 116 = some (2, 2) := rfl
theorem fl_3_129 : fld 3 129 = some (2, 10) := rfl
theorem fl_3_135 : fld 3 135 = some (2, 4) := rfl
theorem fl_3_156 : fld 3 156 = some (2, 12) := rfl
theorem fl_3_165 : fld 3 165 = some (2, 6) := rfl
theorem fl_3_168 : fld 3 168 = some (2, 5) := rfl
theorem fl_3_181 : fld 3 181 = some (0, 1) := rfl
theorem fl_3_188 : fld 3 188 = some (2, 7) := rfl
theorem fl_3_189 : fld 3 189 = some (2, 8) := rfl
theorem fl_3_190 : fld 3 190 = some (2, 9) := rfl
theorem fl_3_212 : fld 3 212 = some (1, 0) := rfl
theorem fl_3_215 : fld 3 215 = some (1, 1) := rfl
theorem fl_3_227 : fld 3 227 = some (2, 3) := rfl
theorem fl_4_7 : fld 4 7 = some (4, 0) := rfl
theorem fl_4_13 : fld 4 13 = some (4, 1) := rfl
theorem fl_4_16 : fld 4 16 = some (4, 2) := rfl
theorem fl_4_19 : fld 4 19 = some (4, 3) := rfl
theorem fl_4_23 : fld 4 23 = some (4, 4) := rfl
theorem fl_4_27 : fld 4 27 = some (4, 5) := rfl
theorem fl_4_30 : fld 4 30 = some (4, 6) := rfl
theorem fl_4_33 : fld 4 33 = some (4, 7) := rfl
theorem fl_4_36 : fld 4 36 = some (4, 8) := rfl
theorem fl_4_39 : fld 4 39 = some (4, 9) := rfl
theorem fl_4_47 : fld 4 47 = some (4, 11) := rfl
theorem fl_4_73 : fld 4 73 = some (4, 10) := rfl
theorem fl_4_76 : fld 4 76 = some (4, 14) := rfl
theorem fl_4_87 : fld 4 87 = some (4, 15) := rfl
theorem fl_4_142 : fld 4 142 = some (4, 12) := rfl
theorem fl_4_146 : fld 4 146 = some (4, 13) := rfl
theorem ln_0_3 : lnk 0 3 = some (5, 0) := rfl
theorem ln_0_38 : lnk 0 38 = some (0, 4) := rfl
theorem ln_0_42 : lnk 0 42 = some (0, 8) := rfl
theorem ln_0_46 : lnk 0 46 = some (0, 5) := rfl
theorem ln_0_49 : lnk 0 49 = some (0, 6) := rfl
theorem ln_0_52 : lnk 0 52 = some (0, 7) := rfl
theorem ln_0_55 : lnk 0 55 = some (0, 9) := rfl
theorem ln_0_59 : lnk 0 59 = some (0, 10) := rfl
theorem ln_1_3 : lnk 1 3 = some (5, 0) := rfl
theorem ln_1_22 : lnk 1 22 = some (0, 18) := rfl
theorem ln_1_26 : lnk 1 26 = some (0, 13) := rfl
theorem ln_1_30 : lnk 1 30 = some (0, 17) := rfl
theorem ln_1_34 : lnk 1 34 = some (1, 151) := rfl
theorem ln_1_40 : lnk 1 40 = some (0, 14) := rfl
theorem ln_1_48 : lnk 1 48 = some (8, 152) := rfl
theorem ln_1_54 : lnk 1 54 = some (0, 43) := rfl
theorem ln_1_58 : lnk 1 58 = some (3, 76) := rfl
theorem ln_1_62 : lnk 1 62 = some (0, 36) := rfl
theorem ln_1_66 : lnk 1 66 = some (0, 16) := rfl
theorem ln_1_70 : lnk 1 70 = some (0, 35) := rfl
theorem ln_1_73 : lnk 1 73 = some (0, 19) := rfl
theorem ln_1_76 : lnk 1 76 = some (0, 22) := rfl
theorem ln_1_79 : lnk 1 79 = some (0, 20) := rfl
theorem ln_1_82 : lnk 1 82 = some (0, 28) := rfl
theorem ln_1_85 : lnk 1 85 = some (0, 21) := rfl
theorem ln_1_103 : lnk 1 103 = some (0, 29) := rfl
theorem ln_1_106 : lnk 1 106 = some (3, 75) := rfl
theorem ln_1_109 : lnk 1 109 = some (0, 30) := rfl
theorem ln_2_3 : lnk 2 3 = some (5, 0) := rfl
theorem ln_2_59 : lnk 2 59 = some (6, 0) := rfl
theorem ln_2_65 : lnk 2 65 = some (0, 28) := rfl
theorem ln_2_69 : lnk 2 69 = some (0, 29) := rfl
theorem ln_2_72 : lnk 2 72 = some (0, 31) := rfl
theorem ln_2_75 : lnk 2 75 = some (0, 33) := rfl
theorem ln_2_78 : lnk 2 78 = some (0, 30) := rfl
theorem ln_2_81 : lnk 2 81 = some (0, 34) := rfl
theorem ln_2_84 : lnk 2 84 = some (3, 76) := rfl
theorem ln_2_88 : lnk 2 88 = some (3, 75) := rfl
theorem ln_2_92 : lnk 2 92 = some (0, 41) := rfl
theorem ln_2_96 : lnk 2 96 = some (0, 32) := rfl
theorem ln_2_99 : lnk 2 99 = some (0, 38) := rfl
theorem ln_2_103 : lnk 2 103 = some (0, 35) := rfl
theorem ln_2_106 : lnk 2 106 = some (0, 36) := rfl
theorem ln_3_3 : lnk 3 3 = some (5, 0) := rfl
theorem ln_3_48 : lnk 3 48 = some (0, 28) := rfl
theorem ln_3_52 : lnk 3 52 = some (1, 72) := rfl
theorem ln_3_62 : lnk 3 62 = some (0, 78) := rfl
theorem ln_3_65 : lnk 3 65 = some (0, 25) := rfl
theorem ln_3_69 : lnk 3 69 = some (0, 2) := rfl
theorem ln_3_73 : lnk 3 73 = some (0, 3) := rfl
theorem ln_3_93 : lnk 3 93 = some (0, 26) := rfl
theorem ln_3_97 : lnk 3 97 = some (1, 73) := rfl
theorem ln_3_106 : lnk 3 106 = some (0, 45) := rfl
theorem ln_3_109 : lnk 3 109 = some (0, 42) := rfl
theorem ln_3_113 : lnk 3 113 = some (0, 27) := rfl
theorem ln_3_119 : lnk 3 119 = some (0, 29) := rfl
theorem ln_3_122 : lnk 3 122 = some (0, 32) := rfl
theorem ln_3_125 : lnk 3 125 = some (0, 38) := rfl
theorem ln_3_132 : lnk 3 132 = some (0, 39) := rfl
theorem ln_3_138 : lnk 3 138 = some (1, 151) := rfl
theorem ln_3_144 : lnk 3 144 = some (0, 31) := rfl
theorem ln_3_147 : lnk 3 147 = some (1, 75) := rfl
theorem ln_3_150 : lnk 3 150 = some (0, 34) := rfl
theorem ln_3_153 : lnk 3 153 = some (0, 35) := rfl
theorem ln_3_159 : lnk 3 159 = some (0, 30) := rfl
theorem ln_3_162 : lnk 3 162 = some (0, 36) := rfl
theorem ln_3_171 : lnk 3 171 = some (1, 76) := rfl
theorem ln_3_174 : lnk 3 174 = some (0, 37) := rfl
theorem ln_3_177 : lnk 3 177 = some (0, 1) := rfl
theorem ln_3_184 : lnk 3 184 = some (1, 80) := rfl
theorem ln_3_191 : lnk 3 191 = some (1, 74) := rfl
theorem ln_3_195 : lnk 3 195 = some (0, 46) := rfl
theorem ln_3_198 : lnk 3 198 = some (0, 47) := rfl
theorem ln_3_201 : lnk 3 201 = some (0, 81) := rfl
theorem ln_3_204 : lnk 3 204 = some (0, 12) := rfl
theorem ln_3_208 : lnk 3 208 = some (0, 13) := rfl
theorem ln_3_218 : lnk 3 218 = some (0, 14) := rfl
theorem ln_3_221 : lnk 3 221 = some (0, 44) := rfl
theorem ln_3_224 : lnk 3 224 = some (0, 15) := rfl
theorem ln_3_234 : lnk 3 234 = some (0, 69) := rfl
theorem ln_3_238 : lnk 3 238 = some (1, 77) := rfl
theorem ln_3_242 : lnk 3 242 = some (0, 82) := rfl
theorem ln_3_245 : lnk 3 245 = some (0, 43) := rfl
theorem ln_3_249 : lnk 3 249 = some (0, 79) := rfl
theorem ln_3_252 : lnk 3 252 = some (0, 24) := rfl
theorem ln_3_256 : lnk 3 256 = some (0, 40) := rfl
theorem ln_4_1 : lnk 4 1 = some (5, 0) := rfl
theorem ln_4_43 : lnk 4 43 = some (1, 85) := rfl
theorem ln_4_51 : lnk 4 51 = some (1, 84) := rfl
theorem ln_4_55 : lnk 4 55 = some (1, 86) := rfl
theorem ln_4_58 : lnk 4 58 = some (0, 88) := rfl
theorem ln_4_62 : lnk 4 62 = some (0, 89) := rfl
theorem ln_4_66 : lnk 4 66 = some (0, 87) := rfl
theorem ln_4_69 : lnk 4 69 = some (0, 91) := rfl
theorem ln_4_79 : lnk 4 79 = some (0, 93) := rfl
theorem ln_4_83 : lnk 4 83 = some (0, 94) := rfl
theorem ln_4_90 : lnk 4 90 = some (0, 95) := rfl
theorem ln_4_93 : lnk 4 93 = some (0, 96) := rfl
theorem ln_4_96 : lnk 4 96 = some (0, 97) := rfl
theorem ln_4_99 : lnk 4 99 = some (0, 100) := rfl
theorem ln_4_102 : lnk 4 102 = some (0, 102) := rfl
theorem ln_4_105 : lnk 4 105 = some (0, 103) := rfl
theorem ln_4_108 : lnk 4 108 = some (0, 106) := rfl
theorem ln_4_113 : lnk 4 113 = some (0, 107) := rfl
theorem ln_4_116 : lnk 4 116 = some (0, 111) := rfl
theorem ln_4_120 : lnk 4 120 = some (0, 110) := rfl
theorem ln_4_124 : lnk 4 124 = some (0, 90) := rfl
theorem ln_4_127 : lnk 4 127 = some (0, 108) := rfl
theorem ln_4_132 : lnk 4 132 = some (0, 109) := rfl
theorem ln_4_137 : lnk 4 137 = some (0, 115) := rfl
theorem ln_4_149 : lnk 4 149 = some (0, 123) := rfl
theorem ln_4_152 : lnk 4 152 = some (0, 126) := rfl
theorem ln_4_156 : lnk 4 156 = some (0, 127) := rfl
theorem ln_4_160 : lnk 4 160 = some (0, 124) := rfl
theorem ln_4_163 : lnk 4 163 = some (0, 125) := rfl
theorem ln_4_166 : lnk 4 166 = some (0, 128) := rfl
theorem ln_4_170 : lnk 4 170 = some (0, 129) := rfl
theorem ln_4_173 : lnk 4 173 = some (0, 130) := rfl
theorem ln_4_176 : lnk 4 176 = some (0, 132) := rfl
theorem ln_4_179 : lnk 4 179 = some (0, 131) := rfl
theorem ln_4_183 : lnk 4 183 = some (0, 133) := rfl
theorem ln_4_186 : lnk 4 186 = some (0, 134) := rfl
theorem ln_4_190 : lnk 4 190 = some (0, 135) := rfl
theorem ln_4_193 : lnk 4 193 = some (0, 136) := rfl
theorem ln_4_196 : lnk 4 196 = some (0, 139) := rfl
theorem ln_4_199 : lnk 4 199 = some (0, 140) := rfl
theorem ln_4_204 : lnk 4 204 = some (1, 150) := rfl
theorem ln_4_210 : lnk 4 210 = some (0, 145) := rfl
theorem ln_4_213 : lnk 4 213 = some (0, 146) := rfl
theorem ln_4_216 : lnk 4 216 = some (0, 147) := rfl
theorem ln_5_59 : lnk 5 59 = some (1, 149) := rfl
theorem ln_5_74 : lnk 5 74 = some (7, 0) := rfl
theorem ln_9_13 : lnk 9 13 = some (0, 49) := rfl
theorem ln_9_17 : lnk 9 17 = some (0, 92) := rfl
theorem ln_9_18 : lnk 9 18 = some (0, 50) := rfl
theorem ln_9_22 : lnk 9 22 = some (0, 98) := rfl
theorem ln_9_23 : lnk 9 23 = some (0, 51) := rfl
theorem ln_9_27 : lnk 9 27 = some (0, 99) := rfl
theorem ln_9_28 : lnk 9 28 = some (0, 52) := rfl
theorem ln_9_32 : lnk 9 32 = some (0, 101) := rfl
theorem ln_9_33 : lnk 9 33 = some (0, 53) := rfl
theorem ln_9_36 : lnk 9 36 = some (0, 104) := rfl
theorem ln_9_37 : lnk 9 37 = some (0, 54) := rfl
theorem ln_9_40 : lnk 9 40 = some (0, 105) := rfl
theorem ln_9_41 : lnk 9 41 = some (0, 55) := rfl
theorem ln_9_45 : lnk 9 45 = some (0, 112) := rfl
theorem ln_9_46 : lnk 9 46 = some (0, 56) := rfl
theorem ln_9_49 : lnk 9 49 = some (0, 113) := rfl
theorem ln_9_50 : lnk 9 50 = some (0, 57) := rfl
theorem ln_9_53 : lnk 9 53 = some (0, 114) := rfl
theorem ln_9_54 : lnk 9 54 = some (0, 58) := rfl
theorem ln_9_57 : lnk 9 57 = some (0, 116) := rfl
theorem ln_9_58 : lnk 9 58 = some (0, 59) := rfl
theorem ln_9_61 : lnk 9 61 = some (0, 117) := rfl
theorem ln_9_62 : lnk 9 62 = some (0, 60) := rfl
theorem ln_9_66 : lnk 9 66 = some (0, 118) := rfl
theorem ln_9_67 : lnk 9 67 = some (0, 61) := rfl
theorem ln_9_70 : lnk 9 70 = some (0, 119) := rfl
theorem ln_9_71 : lnk 9 71 = some (0, 62) := rfl
theorem ln_9_74 : lnk 9 74 = some (0, 120) := rfl
theorem ln_9_75 : lnk 9 75 = some (0, 63) := rfl
theorem ln_9_78 : lnk 9 78 = some (0, 121) := rfl
theorem ln_9_79 : lnk 9 79 = some (0, 64) := rfl
theorem ln_9_82 : lnk 9 82 = some (0, 122) := rfl
theorem ln_9_83 : lnk 9 83 = some (0, 65) := rfl
theorem ln_9_86 : lnk 9 86 = some (0, 141) := rfl
theorem ln_9_87 : lnk 9 87 = some (0, 66) := rfl
theorem ln_9_90 : lnk 9 90 = some (0, 142) := rfl
theorem ln_9_91 : lnk 9 91 = some (0, 67) := rfl
theorem ln_9_94 : lnk 9 94 = some (0, 137) := rfl
theorem ln_9_95 : lnk 9 95 = some (0, 68) := rfl
theorem ln_9_98 : lnk 9 98 = some (0, 138) := rfl
theorem ln_9_99 : lnk 9 99 = some (0, 69) := rfl
theorem ln_9_103 : lnk 9 103 = some (0, 143) := rfl
theorem ln_9_104 : lnk 9 104 = some (0, 70) := rfl
theorem ln_9_107 : lnk 9 107 = some (0, 144) := rfl
theorem ln_9_108 : lnk 9 108 = some (0, 71) := rfl
theorem ln_9_111 : lnk 9 111 = some (0, 148) := rfl
theorem sh_0 : SH 0 = (0, 3) := rfl
theorem ltc_0 : 0 < 84 := by decide
theorem sh_1 : SH 1 = (0, 2) := rfl
theorem ltc_1 : 1 < 84 := by decide
theorem sh_2 : SH 2 = (1, 16) := rfl
theorem ltc_2 : 2 < 84 := by decide
theorem sh_3 : SH 3 = (1, 16) := rfl
theorem ltc_3 : 3 < 84 := by decide
theorem sh_4 : SH 4 = (1, 16) := rfl
theorem ltc_4 : 4 < 84 := by decide
theorem sh_5 : SH 5 = (1, 16) := rfl
theorem ltc_5 : 5 < 84 := by decide
theorem sh_6 : SH 6 = (1, 16) := rfl
theorem ltc_6 : 6 < 84 := by decide
theorem sh_7 : SH 7 = (1, 16) := rfl
theorem ltc_7 : 7 < 84 := by decide
theorem sh_8 : SH 8 = (1, 12) := rfl
theorem ltc_8 : 8 < 84 := by decide
theorem sh_9 : SH 9 = (1, 12) := rfl
theorem ltc_9 : 9 < 84 := by decide
theorem sh_10 : SH 10 = (0, 2) := rfl
theorem ltc_10 : 10 < 84 := by decide
theorem sh_11 : SH 11 = (1, 16) := rfl
theorem ltc_11 : 11 < 84 := by decide
theorem sh_12 : SH 12 = (1, 16) := rfl
theorem ltc_12 : 12 < 84 := by decide
theorem sh_13 : SH 13 = (1, 16) := rfl
theorem ltc_13 : 13 < 84 := by decide
theorem sh_14 : SH 14 = (1, 16) := rfl
theorem ltc_14 : 14 < 84 := by decide
theorem sh_15 : SH 15 = (1, 16) := rfl
theorem ltc_15 : 15 < 84 := by decide
theorem sh_16 : SH 16 = (1, 16) := rfl
theorem ltc_16 : 16 < 84 := by decide
theorem sh_17 : SH 17 = (1, 12) := rfl
theorem ltc_17 : 17 < 84 := by decide
theorem sh_18 : SH 18 = (1, 12) := rfl
theorem ltc_18 : 18 < 84 := by decide
theorem sh_19 : SH 19 = (0, 2) := rfl
theorem ltc_19 : 19 < 84 := by decide
theorem sh_20 : SH 20 = (1, 16) := rfl
theorem ltc_20 : 20 < 84 := by decide
theorem sh_21 : SH 21 = (1, 16) := rfl
theorem ltc_21 : 21 < 84 := by decide
theorem sh_22 : SH 22 = (1, 16) := rfl
theorem ltc_22 : 22 < 84 := by decide
theorem sh_23 : SH 23 = (1, 16) := rfl
theorem ltc_23 : 23 < 84 := by decide
theorem sh_24 : SH 24 = (1, 16) := rfl
theorem ltc_24 : 24 < 84 := by decide
theorem sh_25 : SH 25 = (1, 16) := rfl
theorem ltc_25 : 25 < 84 := by decide
theorem sh_26 : SH 26 = (1, 12) := rfl
theorem ltc_26 : 26 < 84 := by decide
theorem sh_27 : SH 27 = (1, 12) := rfl
theorem ltc_27 : 27 < 84 := by decide
theorem sh_28 : SH 28 = (5, 4) := rfl
theorem ltc_28 : 28 < 84 := by decide
theorem sh_29 : SH 29 = (0, 1) := rfl
theorem ltc_29 : 29 < 84 := by decide
theorem sh_30 : SH 30 = (1, 16) := rfl
theorem ltc_30 : 30 < 84 := by decide
theorem sh_31 : SH 31 = (0, 0) := rfl
theorem ltc_31 : 31 < 84 := by decide
theorem sh_32 : SH 32 = (2, 60) := rfl
theorem ltc_32 : 32 < 84 := by decide
theorem sh_33 : SH 33 = (1, 21) := rfl
theorem ltc_33 : 33 < 84 := by decide
theorem sh_34 : SH 34 = (1, 21) := rfl
theorem ltc_34 : 34 < 84 := by decide
theorem sh_35 : SH 35 = (1, 21) := rfl
theorem ltc_35 : 35 < 84 := by decide
theorem sh_36 : SH 36 = (1, 21) := rfl
theorem ltc_36 : 36 < 84 := by decide
theorem sh_37 : SH 37 = (0, 2) := rfl
theorem ltc_37 : 37 < 84 := by decide
theorem sh_38 : SH 38 = (1, 16) := rfl
theorem ltc_38 : 38 < 84 := by decide
theorem sh_39 : SH 39 = (1, 16) := rfl
theorem ltc_39 : 39 < 84 := by decide
theorem sh_40 : SH 40 = (1, 16) := rfl
theorem ltc_40 : 40 < 84 := by decide
theorem sh_41 : SH 41 = (1, 16) := rfl
theorem ltc_41 : 41 < 84 := by decide
theorem sh_42 : SH 42 = (1, 16) := rfl
theorem ltc_42 : 42 < 84 := by decide
theorem sh_43 : SH 43 = (1, 16) := rfl
theorem ltc_43 : 43 < 84 := by decide
theorem sh_44 : SH 44 = (1, 12) := rfl
theorem ltc_44 : 44 < 84 := by decide
theorem sh_45 : SH 45 = (1, 12) := rfl
theorem ltc_45 : 45 < 84 := by decide
theorem sh_46 : SH 46 = (0, 2) := rfl
theorem ltc_46 : 46 < 84 := by decide
theorem sh_47 : SH 47 = (1, 16) := rfl
theorem ltc_47 : 47 < 84 := by decide
theorem sh_48 : SH 48 = (1, 16) := rfl
theorem ltc_48 : 48 < 84 := by decide
theorem sh_49 : SH 49 = (1, 16) := rfl
theorem ltc_49 : 49 < 84 := by decide
theorem sh_50 : SH 50 = (1, 16) := rfl
theorem ltc_50 : 50 < 84 := by decide
theorem sh_51 : SH 51 = (1, 16) := rfl
theorem ltc_51 : 51 < 84 := by decide
theorem sh_52 : SH 52 = (1, 16) := rfl
theorem ltc_52 : 52 < 84 := by decide
theorem sh_53 : SH 53 = (1, 12) := rfl
theorem ltc_53 : 53 < 84 := by decide
theorem sh_54 : SH 54 = (1, 12) := rfl
theorem ltc_54 : 54 < 84 := by decide
theorem sh_55 : SH 55 = (0, 2) := rfl
theorem ltc_55 : 55 < 84 := by decide
theorem sh_56 : SH 56 = (1, 16) := rfl
theorem ltc_56 : 56 < 84 := by decide
theorem sh_57 : SH 57 = (1, 16) := rfl
theorem ltc_57 : 57 < 84 := by decide
theorem sh_58 : SH 58 = (1, 16) := rfl
theorem ltc_58 : 58 < 84 := by decide
theorem sh_59 : SH 59 = (1, 16) := rfl
theorem ltc_59 : 59 < 84 := by decide
theorem sh_60 : SH 60 = (1, 16) := rfl
theorem ltc_60 : 60 < 84 := by decide
theorem sh_61 : SH 61 = (1, 16) := rfl
theorem ltc_61 : 61 < 84 := by decide
theorem sh_62 : SH 62 = (1, 12) := rfl
theorem ltc_62 : 62 < 84 := by decide
theorem sh_63 : SH 63 = (1, 12) := rfl
theorem ltc_63 : 63 < 84 := by decide
theorem sh_64 : SH 64 = (0, 2) := rfl
theorem ltc_64 : 64 < 84 := by decide
theorem sh_65 : SH 65 = (1, 16) := rfl
theorem ltc_65 : 65 < 84 := by decide
theorem sh_66 : SH 66 = (1, 16) := rfl
theorem ltc_66 : 66 < 84 := by decide
theorem sh_67 : SH 67 = (1, 16) := rfl
theorem ltc_67 : 67 < 84 := by decide
theorem sh_68 : SH 68 = (1, 16) := rfl
theorem ltc_68 : 68 < 84 := by decide
theorem sh_69 : SH 69 = (1, 16) := rfl
theorem ltc_69 : 69 < 84 := by decide
theorem sh_70 : SH 70 = (1, 16) := rfl
theorem ltc_70 : 70 < 84 := by decide
theorem sh_71 : SH 71 = (1, 12) := rfl
theorem ltc_71 : 71 < 84 := by decide
theorem sh_72 : SH 72 = (1, 12) := rfl
theorem ltc_72 : 72 < 84 := by decide
theorem sh_73 : SH 73 = (0, 4) := rfl
theorem ltc_73 : 73 < 84 := by decide
theorem sh_74 : SH 74 = (1, 168) := rfl
theorem ltc_74 : 74 < 84 := by decide
theorem sh_75 : SH 75 = (1, 672) := rfl
theorem ltc_75 : 75 < 84 := by decide
theorem sh_76 : SH 76 = (1, 168) := rfl
theorem ltc_76 : 76 < 84 := by decide
theorem sh_77 : SH 77 = (4, 6) := rfl
theorem ltc_77 : 77 < 84 := by decide
theorem sh_78 : SH 78 = (3, 5776) := rfl
theorem ltc_78 : 78 < 84 := by decide
theorem sh_79 : SH 79 = (3, 76) := rfl
theorem ltc_79 : 79 < 84 := by decide
theorem sh_80 : SH 80 = (3, 76) := rfl
theorem ltc_80 : 80 < 84 := by decide
theorem sh_81 : SH 81 = (3, 76) := rfl
theorem ltc_81 : 81 < 84 := by decide
theorem sh_82 : SH 82 = (1, 128) := rfl
theorem ltc_82 : 82 < 84 := by decide
theorem sh_83 : SH 83 = (2, 60) := rfl
theorem ltc_83 : 83 < 84 := by decide
theorem nk_0_0 : 0 < nf 0 := by decide
theorem fp_0_0 : fkd 0 0 = 2 := rfl
theorem nk_0_1 : 1 < nf 0 := by decide
theorem fi_0_1 : fkd 0 1 ≠ 2 := by decide
theorem nk_0_2 : 2 < nf 0 := by decide
theorem fi_0_2 : fkd 0 2 ≠ 2 := by decide
theorem nk_0_3 : 3 < nf 0 := by decide
theorem fi_0_3 : fkd 0 3 ≠ 2 := by decide
theorem nk_0_4 : 4 < nf 0 := by decide
theorem fp_0_4 : fkd 0 4 = 2 := rfl
theorem nk_0_5 : 5 < nf 0 := by decide
theorem fp_0_5 : fkd 0 5 = 2 := rfl
theorem nk_0_6 : 6 < nf 0 := by decide
theorem fp_0_6 : fkd 0 6 = 2 := rfl
theorem nk_0_7 : 7 < nf 0 := by decide
theorem fp_0_7 : fkd 0 7 = 2 := rfl
theorem nk_1_0 : 0 < nf 1 := by decide
theorem fi_1_0 : fkd 1 0 ≠ 2 := by decide
theorem nk_1_1 : 1 < nf 1 := by decide
theorem fi_1_1 : fkd 1 1 ≠ 2 := by decide
theorem nk_1_2 : 2 < nf 1 := by decide
theorem fp_1_2 : fkd 1 2 = 2 := rfl
theorem nk_2_0 : 0 < nf 2 := by decide
theorem fi_2_0 : fkd 2 0 ≠ 2 := by decide
theorem nk_2_1 : 1 < nf 2 := by decide
theorem fi_2_1 : fkd 2 1 ≠ 2 := by decide
theorem nk_2_2 : 2 < nf 2 := by decide
theorem fi_2_2 : fkd 2 2 ≠ 2 := by decide
theorem nk_2_3 : 3 < nf 2 := by decide
theorem fi_2_3 : fkd 2 3 ≠ 2 := by decide
theorem nk_2_4 : 4 < nf 2 := by decide
theorem fi_2_4 : fkd 2 4 ≠ 2 := by decide
theorem nk_2_5 : 5 < nf 2 := by decide
theorem fi_2_5 : fkd 2 5 ≠ 2 := by decide
theorem nk_2_6 : 6 < nf 2 := by decide
theorem fi_2_6 : fkd 2 6 ≠ 2 := by decide
theorem nk_2_7 : 7 < nf 2 := by decide
theorem fp_2_7 : fkd 2 7 = 2 := rfl
theorem nk_2_8 : 8 < nf 2 := by decide
theorem fp_2_8 : fkd 2 8 = 2 := rfl
theorem nk_2_9 : 9 < nf 2 := by decide
theorem fp_2_9 : fkd 2 9 = 2 := rfl
theorem nk_2_10 : 10 < nf 2 := by decide
theorem fp_2_10 : fkd 2 10 = 2 := rfl
theorem nk_2_11 : 11 < nf 2 := by decide
theorem fp_2_11 : fkd 2 11 = 2 := rfl
theorem nk_2_12 : 12 < nf 2 := by decide
theorem fp_2_12 : fkd 2 12 = 2 := rfl
theorem nk_2_13 : 13 < nf 2 := by decide
theorem fp_2_13 : fkd 2 13 = 2 := rfl
theorem nk_2_14 : 14 < nf 2 := by decide
theorem fp_2_14 : fkd 2 14 = 2 := rfl
theorem nk_3_0 : 0 < nf 3 := by decide
theorem fp_3_0 : fkd 3 0 = 2 := rfl
theorem nk_3_1 : 1 < nf 3 := by decide
theorem fp_3_1 : fkd 3 1 = 2 := rfl
theorem nk_3_2 : 2 < nf 3 := by decide
theorem fp_3_2 : fkd 3 2 = 2 := rfl
theorem nk_3_3 : 3 < nf 3 := by decide
theorem fp_3_3 : fkd 3 3 = 2 := rfl
theorem nk_3_4 : 4 < nf 3 := by decide
theorem fp_3_4 : fkd 3 4 = 2 := rfl
theorem nk_3_5 : 5 < nf 3 := by decide
theorem fp_3_5 : fkd 3 5 = 2 := rfl
theorem nk_3_6 : 6 < nf 3 := by decide
theorem fi_3_6 : fkd 3 6 ≠ 2 := by decide
theorem nk_3_7 : 7 < nf 3 := by decide
theorem fi_3_7 : fkd 3 7 ≠ 2 := by decide
theorem nk_4_0 : 0 < nf 4 := by decide
theorem fp_4_0 : fkd 4 0 = 2 := rfl
theorem nk_4_1 : 1 < nf 4 := by decide
theorem fp_4_1 : fkd 4 1 = 2 := rfl
theorem nk_4_2 : 2 < nf 4 := by decide
theorem fp_4_2 : fkd 4 2 = 2 := rfl
theorem nk_4_3 : 3 < nf 4 := by decide
theorem fp_4_3 : fkd 4 3 = 2 := rfl
theorem nk_4_4 : 4 < nf 4 := by decide
theorem fp_4_4 : fkd 4 4 = 2 := rfl
theorem nk_4_5 : 5 < nf 4 := by decide
theorem fp_4_5 : fkd 4 5 = 2 := rfl
theorem nk_4_6 : 6 < nf 4 := by decide
theorem fp_4_6 : fkd 4 6 = 2 := rfl
theorem nk_4_7 : 7 < nf 4 := by decide
theorem fp_4_7 : fkd 4 7 = 2 := rfl
theorem nk_4_8 : 8 < nf 4 := by decide
theorem fp_4_8 : fkd 4 8 = 2 := rfl
theorem nk_4_9 : 9 < nf 4 := by decide
theorem fp_4_9 : fkd 4 9 = 2 := rfl
theorem nk_4_10 : 10 < nf 4 := by decide
theorem fi_4_10 : fkd 4 10 ≠ 2 := by decide
theorem nk_4_11 : 11 < nf 4 := by decide
theorem fi_4_11 : fkd 4 11 ≠ 2 := by decide
theorem nk_4_12 : 12 < nf 4 := by decide
theorem fi_4_12 : fkd 4 12 ≠ 2 := by decide
theorem nk_4_13 : 13 < nf 4 := by decide
theorem fi_4_13 : fkd 4 13 ≠ 2 := by decide
theorem nk_4_14 : 14 < nf 4 := by decide
theorem fi_4_14 : fkd 4 14 ≠ 2 := by decide
theorem nk_4_15 : 15 < nf 4 := by decide
theorem fi_4_15 : fkd 4 15 ≠ 2 := by decide
theorem pf_0_0 : PF 0 0 = some 1 := rfl
theorem pf_0_1 : PF 0 1 = some 10 := rfl
theorem pf_0_2 : PF 0 2 = some 19 := rfl
theorem pf_0_3 : PF 0 3 = some 28 := rfl
theorem pf_0_4 : PF 0 4 = some 29 := rfl
theorem pf_0_5 : PF 0 5 = some 31 := rfl
theorem pf_1_7 : PF 1 7 = some 2 := rfl
theorem pf_1_8 : PF 1 8 = some 3 := rfl
theorem pf_1_9 : PF 1 9 = some 4 := rfl
theorem pf_1_10 : PF 1 10 = some 5 := rfl
theorem pf_1_11 : PF 1 11 = some 6 := rfl
theorem pf_1_12 : PF 1 12 = some 7 := rfl
theorem pf_1_13 : PF 1 13 = some 8 := rfl
theorem pf_1_14 : PF 1 14 = some 9 := rfl
theorem pf_10_7 : PF 10 7 = some 11 := rfl
theorem pf_10_8 : PF 10 8 = some 12 := rfl
theorem pf_10_9 : PF 10 9 = some 13 := rfl
theorem pf_10_10 : PF 10 10 = some 14 := rfl
theorem pf_10_11 : PF 10 11 = some 15 := rfl
theorem pf_10_12 : PF 10 12 = some 16 := rfl
theorem pf_10_13 : PF 10 13 = some 17 := rfl
theorem pf_10_14 : PF 10 14 = some 18 := rfl
theorem pf_19_7 : PF 19 7 = some 20 := rfl
theorem pf_19_8 : PF 19 8 = some 21 := rfl
theorem pf_19_9 : PF 19 9 = some 22 := rfl
theorem pf_19_10 : PF 19 10 = some 23 := rfl
theorem pf_19_11 : PF 19 11 = some 24 := rfl
theorem pf_19_12 : PF 19 12 = some 25 := rfl
theorem pf_19_13 : PF 19 13 = some 26 := rfl
theorem pf_19_14 : PF 19 14 = some 27 := rfl
theorem pf_29_2 : PF 29 2 = some 30 := rfl
theorem pf_31_0 : PF 31 0 = some 32 := rfl
theorem pf_31_4 : PF 31 4 = some 33 := rfl
theorem pf_31_5 : PF 31 5 = some 34 := rfl
theorem pf_31_6 : PF 31 6 = some 35 := rfl
theorem pf_31_7 : PF 31 7 = some 36 := rfl
theorem pf_37_7 : PF 37 7 = some 38 := rfl
theorem pf_37_8 : PF 37 8 = some 39 := rfl
theorem pf_37_9 : PF 37 9 = some 40 := rfl
theorem pf_37_10 : PF 37 10 = some 41 := rfl
theorem pf_37_11 : PF 37 11 = some 42 := rfl
theorem pf_37_12 : PF 37 12 = some 43 := rfl
theorem pf_37_13 : PF 37 13 = some 44 := rfl
theorem pf_37_14 : PF 37 14 = some 45 := rfl
theorem pf_46_7 : PF 46 7 = some 47 := rfl
theorem pf_46_8 : PF 46 8 = some 48 := rfl
theorem pf_46_9 : PF 46 9 = some 49 := rfl
theorem pf_46_10 : PF 46 10 = some 50 := rfl
theorem pf_46_11 : PF 46 11 = some 51 := rfl
theorem pf_46_12 : PF 46 12 = some 52 := rfl
theorem pf_46_13 : PF 46 13 = some 53 := rfl
theorem pf_46_14 : PF 46 14 = some 54 := rfl
theorem pf_55_7 : PF 55 7 = some 56 := rfl
theorem pf_55_8 : PF 55 8 = some 57 := rfl
theorem pf_55_9 : PF 55 9 = some 58 := rfl
theorem pf_55_10 : PF 55 10 = some 59 := rfl
theorem pf_55_11 : PF 55 11 = some 60 := rfl
theorem pf_55_12 : PF 55 12 = some 61 := rfl
theorem pf_55_13 : PF 55 13 = some 62 := rfl
theorem pf_55_14 : PF 55 14 = some 63 := rfl
theorem pf_64_7 : PF 64 7 = some 65 := rfl
theorem pf_64_8 : PF 64 8 = some 66 := rfl
theorem pf_64_9 : PF 64 9 = some 67 := rfl
theorem pf_64_10 : PF 64 10 = some 68 := rfl
theorem pf_64_11 : PF 64 11 = some 69 := rfl
theorem pf_64_12 : PF 64 12 = some 70 := rfl
theorem pf_64_13 : PF 64 13 = some 71 := rfl
theorem pf_64_14 : PF 64 14 = some 72 := rfl
theorem pf_73_0 : PF 73 0 = some 74 := rfl
theorem pf_73_1 : PF 73 1 = some 75 := rfl
theorem pf_73_2 : PF 73 2 = some 76 := rfl
theorem pf_73_3 : PF 73 3 = some 77 := rfl
theorem pf_73_4 : PF 73 4 = some 78 := rfl
theorem pf_73_5 : PF 73 5 = some 79 := rfl
theorem pf_73_6 : PF 73 6 = some 80 := rfl
theorem pf_73_7 : PF 73 7 = some 81 := rfl
theorem pf_73_8 : PF 73 8 = some 82 := rfl
theorem pf_73_9 : PF 73 9 = some 83 := rfl
