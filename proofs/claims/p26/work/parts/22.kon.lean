/-! ===== constants ===== -/
theorem kc_b_m100 : (Int8.ofInt (-100)).toInt32 = (-100 : Int32) := by decide +kernel
theorem kc_b_m10 : (Int8.ofInt (-10)).toInt32 = (-10 : Int32) := by decide +kernel
theorem kc_b_m9 : (Int8.ofInt (-9)).toInt32 = (-9 : Int32) := by decide +kernel
theorem kc_b_6 : (Int8.ofInt (6)).toInt32 = (nI 6) := by decide +kernel
theorem kc_b_7 : (Int8.ofInt (7)).toInt32 = (nI 7) := by decide +kernel
theorem kc_b_8 : (Int8.ofInt (8)).toInt32 = (nI 8) := by decide +kernel
theorem kc_b_9 : (Int8.ofInt (9)).toInt32 = (nI 9) := by decide +kernel
theorem kc_b_10 : (Int8.ofInt (10)).toInt32 = (nI 10) := by decide +kernel
theorem kc_b_11 : (Int8.ofInt (11)).toInt32 = (nI 11) := by decide +kernel
theorem kc_b_12 : (Int8.ofInt (12)).toInt32 = (nI 12) := by decide +kernel
theorem kc_b_13 : (Int8.ofInt (13)).toInt32 = (nI 13) := by decide +kernel
theorem kc_b_14 : (Int8.ofInt (14)).toInt32 = (nI 14) := by decide +kernel
theorem kc_b_15 : (Int8.ofInt (15)).toInt32 = (nI 15) := by decide +kernel
theorem kc_b_16 : (Int8.ofInt (16)).toInt32 = (nI 16) := by decide +kernel
theorem kc_b_17 : (Int8.ofInt (17)).toInt32 = (nI 17) := by decide +kernel
theorem kc_b_18 : (Int8.ofInt (18)).toInt32 = (nI 18) := by decide +kernel
theorem kc_b_19 : (Int8.ofInt (19)).toInt32 = (nI 19) := by decide +kernel
theorem kc_b_20 : (Int8.ofInt (20)).toInt32 = (nI 20) := by decide +kernel
theorem kc_b_24 : (Int8.ofInt (24)).toInt32 = (nI 24) := by decide +kernel
theorem kc_b_26 : (Int8.ofInt (26)).toInt32 = (nI 26) := by decide +kernel
theorem kc_b_27 : (Int8.ofInt (27)).toInt32 = (nI 27) := by decide +kernel
theorem kc_b_28 : (Int8.ofInt (28)).toInt32 = (nI 28) := by decide +kernel
theorem kc_b_30 : (Int8.ofInt (30)).toInt32 = (nI 30) := by decide +kernel
theorem kc_b_31 : (Int8.ofInt (31)).toInt32 = (nI 31) := by decide +kernel
theorem kc_b_32 : (Int8.ofInt (32)).toInt32 = (nI 32) := by decide +kernel
theorem kc_b_40 : (Int8.ofInt (40)).toInt32 = (nI 40) := by decide +kernel
theorem kc_b_41 : (Int8.ofInt (41)).toInt32 = (nI 41) := by decide +kernel
theorem kc_b_42 : (Int8.ofInt (42)).toInt32 = (nI 42) := by decide +kernel
theorem kc_b_43 : (Int8.ofInt (43)).toInt32 = (nI 43) := by decide +kernel
theorem kc_b_44 : (Int8.ofInt (44)).toInt32 = (nI 44) := by decide +kernel
theorem kc_b_45 : (Int8.ofInt (45)).toInt32 = (nI 45) := by decide +kernel
theorem kc_b_47 : (Int8.ofInt (47)).toInt32 = (nI 47) := by decide +kernel
theorem kc_b_48 : (Int8.ofInt (48)).toInt32 = (nI 48) := by decide +kernel
theorem kc_b_57 : (Int8.ofInt (57)).toInt32 = (nI 57) := by decide +kernel
theorem kc_b_59 : (Int8.ofInt (59)).toInt32 = (nI 59) := by decide +kernel
theorem kc_b_60 : (Int8.ofInt (60)).toInt32 = (nI 60) := by decide +kernel
theorem kc_b_61 : (Int8.ofInt (61)).toInt32 = (nI 61) := by decide +kernel
theorem kc_b_62 : (Int8.ofInt (62)).toInt32 = (nI 62) := by decide +kernel
theorem kc_b_64 : (Int8.ofInt (64)).toInt32 = (nI 64) := by decide +kernel
theorem kc_b_72 : (Int8.ofInt (72)).toInt32 = (nI 72) := by decide +kernel
theorem kc_b_91 : (Int8.ofInt (91)).toInt32 = (nI 91) := by decide +kernel
theorem kc_b_93 : (Int8.ofInt (93)).toInt32 = (nI 93) := by decide +kernel
theorem kc_b_97 : (Int8.ofInt (97)).toInt32 = (nI 97) := by decide +kernel
theorem kc_b_99 : (Int8.ofInt (99)).toInt32 = (nI 99) := by decide +kernel
theorem kc_b_100 : (Int8.ofInt (100)).toInt32 = (nI 100) := by decide +kernel
theorem kc_b_122 : (Int8.ofInt (122)).toInt32 = (nI 122) := by decide +kernel
theorem kc_i_m8 : Int32.ofInt (-8) = (-8 : Int32) := by decide +kernel
theorem kc_i_m1 : Int32.ofInt (-1) = (-1 : Int32) := by decide +kernel
theorem kc_i_0 : Int32.ofInt (0) = (nI 0) := by decide +kernel
theorem kc_i_1 : Int32.ofInt (1) = (nI 1) := by decide +kernel
theorem kc_i_2 : Int32.ofInt (2) = (nI 2) := by decide +kernel
theorem kc_i_3 : Int32.ofInt (3) = (nI 3) := by decide +kernel
theorem kc_i_4 : Int32.ofInt (4) = (nI 4) := by decide +kernel
theorem kc_i_5 : Int32.ofInt (5) = (nI 5) := by decide +kernel
theorem kc_i_20 : Int32.ofInt (20) = (nI 20) := by decide +kernel
theorem kc_s_m900 : (Int16.ofInt (-900)).toInt32 = (-900 : Int32) := by decide +kernel
theorem kc_s_255 : (Int16.ofInt (255)).toInt32 = (nI 255) := by decide +kernel
theorem kc_s_256 : (Int16.ofInt (256)).toInt32 = (nI 256) := by decide +kernel
theorem kc_s_257 : (Int16.ofInt (257)).toInt32 = (nI 257) := by decide +kernel
theorem kc_s_258 : (Int16.ofInt (258)).toInt32 = (nI 258) := by decide +kernel
theorem kc_s_259 : (Int16.ofInt (259)).toInt32 = (nI 259) := by decide +kernel
theorem kc_s_260 : (Int16.ofInt (260)).toInt32 = (nI 260) := by decide +kernel
theorem kc_s_261 : (Int16.ofInt (261)).toInt32 = (nI 261) := by decide +kernel
theorem kc_s_262 : (Int16.ofInt (262)).toInt32 = (nI 262) := by decide +kernel
theorem kc_s_400 : (Int16.ofInt (400)).toInt32 = (nI 400) := by decide +kernel
theorem kc_s_401 : (Int16.ofInt (401)).toInt32 = (nI 401) := by decide +kernel
theorem kc_s_900 : (Int16.ofInt (900)).toInt32 = (nI 900) := by decide +kernel
theorem kc_s_999 : (Int16.ofInt (999)).toInt32 = (nI 999) := by decide +kernel
theorem kc_s_1000 : (Int16.ofInt (1000)).toInt32 = (nI 1000) := by decide +kernel
theorem kc_s_1980 : (Int16.ofInt (1980)).toInt32 = (nI 1980) := by decide +kernel
theorem kc_s_2000 : (Int16.ofInt (2000)).toInt32 = (nI 2000) := by decide +kernel
theorem kc_s_10000 : (Int16.ofInt (10000)).toInt32 = (nI 10000) := by decide +kernel
theorem kn_0 : ¬ nI 0 < 0 := by decide +kernel
theorem kl_0 : (nI 0).toNatClampNeg = 0 := by decide +kernel
theorem kn_1 : ¬ nI 1 < 0 := by decide +kernel
theorem kl_1 : (nI 1).toNatClampNeg = 1 := by decide +kernel
theorem kn_2 : ¬ nI 2 < 0 := by decide +kernel
theorem kl_2 : (nI 2).toNatClampNeg = 2 := by decide +kernel
theorem kn_3 : ¬ nI 3 < 0 := by decide +kernel
theorem kl_3 : (nI 3).toNatClampNeg = 3 := by decide +kernel
theorem kn_4 : ¬ nI 4 < 0 := by decide +kernel
theorem kl_4 : (nI 4).toNatClampNeg = 4 := by decide +kernel
theorem kn_5 : ¬ nI 5 < 0 := by decide +kernel
theorem kl_5 : (nI 5).toNatClampNeg = 5 := by decide +kernel
theorem kn_6 : ¬ nI 6 < 0 := by decide +kernel
theorem kl_6 : (nI 6).toNatClampNeg = 6 := by decide +kernel
theorem kn_7 : ¬ nI 7 < 0 := by decide +kernel
theorem kl_7 : (nI 7).toNatClampNeg = 7 := by decide +kernel
theorem kn_8 : ¬ nI 8 < 0 := by decide +kernel
theorem kl_8 : (nI 8).toNatClampNeg = 8 := by decide +kernel
theorem kn_9 : ¬ nI 9 < 0 := by decide +kernel
theorem kl_9 : (nI 9).toNatClampNeg = 9 := by decide +kernel
theorem kn_10 : ¬ nI 10 < 0 := by decide +kernel
theorem kl_10 : (nI 10).toNatClampNeg = 10 := by decide +kernel
theorem kn_11 : ¬ nI 11 < 0 := by decide +kernel
theorem kl_11 : (nI 11).toNatClampNeg = 11 := by decide +kernel
theorem kn_12 : ¬ nI 12 < 0 := by decide +kernel
theorem kl_12 : (nI 12).toNatClampNeg = 12 := by decide +kernel
theorem kn_13 : ¬ nI 13 < 0 := by decide +kernel
theorem kl_13 : (nI 13).toNatClampNeg = 13 := by decide +kernel
theorem kn_14 : ¬ nI 14 < 0 := by decide +kernel
theorem kl_14 : (nI 14).toNatClampNeg = 14 := by decide +kernel
theorem kn_15 : ¬ nI 15 < 0 := by decide +kernel
theorem kl_15 : (nI 15).toNatClampNeg = 15 := by decide +kernel
theorem kn_16 : ¬ nI 16 < 0 := by decide +kernel
theorem kl_16 : (nI 16).toNatClampNeg = 16 := by decide +kernel
theorem kn_17 : ¬ nI 17 < 0 := by decide +kernel
theorem kl_17 : (nI 17).toNatClampNeg = 17 := by decide +kernel
theorem kn_18 : ¬ nI 18 < 0 := by decide +kernel
theorem kl_18 : (nI 18).toNatClampNeg = 18 := by decide +kernel
theorem kn_20 : ¬ nI 20 < 0 := by decide +kernel
theorem kl_20 : (nI 20).toNatClampNeg = 20 := by decide +kernel
theorem kn_30 : ¬ nI 30 < 0 := by decide +kernel
theorem kl_30 : (nI 30).toNatClampNeg = 30 := by decide +kernel
theorem kn_40 : ¬ nI 40 < 0 := by decide +kernel
theorem kl_40 : (nI 40).toNatClampNeg = 40 := by decide +kernel
theorem kn_48 : ¬ nI 48 < 0 := by decide +kernel
theorem kl_48 : (nI 48).toNatClampNeg = 48 := by decide +kernel
theorem kn_64 : ¬ nI 64 < 0 := by decide +kernel
theorem kl_64 : (nI 64).toNatClampNeg = 64 := by decide +kernel
theorem kn_72 : ¬ nI 72 < 0 := by decide +kernel
theorem kl_72 : (nI 72).toNatClampNeg = 72 := by decide +kernel
theorem kn_400 : ¬ nI 400 < 0 := by decide +kernel
theorem kl_400 : (nI 400).toNatClampNeg = 400 := by decide +kernel
theorem kn_401 : ¬ nI 401 < 0 := by decide +kernel
theorem kl_401 : (nI 401).toNatClampNeg = 401 := by decide +kernel
theorem kn_2000 : ¬ nI 2000 < 0 := by decide +kernel
theorem kl_2000 : (nI 2000).toNatClampNeg = 2000 := by decide +kernel
theorem kz_2 : ¬ nI 2 = nI 0 := by decide +kernel
theorem kz_3 : ¬ nI 3 = nI 0 := by decide +kernel
theorem kz_4 : ¬ nI 4 = nI 0 := by decide +kernel
theorem kz_8 : ¬ nI 8 = nI 0 := by decide +kernel
theorem kz_100 : ¬ nI 100 = nI 0 := by decide +kernel
