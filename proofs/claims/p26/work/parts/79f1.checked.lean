/-! ===== the checks, a method each (1) ===== -/
theorem mk_0 : tb_0.all (mRow 0) = true := by decide +kernel
theorem mk_1 : tb_1.all (mRow 1) = true := by decide +kernel
theorem mk_2 : tb_2.all (mRow 2) = true := by decide +kernel
theorem mk_3 : tb_3.all (mRow 3) = true := by decide +kernel
theorem mk_4 : tb_4.all (mRow 4) = true := by decide +kernel
theorem mk_5 : tb_5.all (mRow 5) = true := by decide +kernel
theorem mk_6 : tb_6.all (mRow 6) = true := by decide +kernel
theorem mk_7 : tb_7.all (mRow 7) = true := by decide +kernel
theorem mk_8 : tb_8.all (mRow 8) = true := by decide +kernel
theorem mk_9 : tb_9.all (mRow 9) = true := by decide +kernel
theorem mk_10 : tb_10.all (mRow 10) = true := by decide +kernel
theorem mk_11 : tb_11.all (mRow 11) = true := by decide +kernel
theorem mk_12 : tb_12.all (mRow 12) = true := by decide +kernel
theorem mk_13 : tb_13.all (mRow 13) = true := by decide +kernel
theorem mk_14 : tb_14.all (mRow 14) = true := by decide +kernel
theorem mk_15 : tb_15.all (mRow 15) = true := by decide +kernel
theorem mk_16 : tb_16.all (mRow 16) = true := by decide +kernel
theorem mk_17 : tb_17.all (mRow 17) = true := by decide +kernel
theorem mk_18 : tb_18.all (mRow 18) = true := by decide +kernel
theorem mk_19 : tb_19.all (mRow 19) = true := by decide +kernel
theorem mk_20 : tb_20.all (mRow 20) = true := by decide +kernel
theorem mk_21 : tb_21.all (mRow 21) = true := by decide +kernel
theorem mk_22 : tb_22.all (mRow 22) = true := by decide +kernel
theorem mk_23 : tb_23.all (mRow 23) = true := by decide +kernel
theorem mk_24 : tb_24.all (mRow 24) = true := by decide +kernel
theorem mk_25 : tb_25.all (mRow 25) = true := by decide +kernel
theorem mk_26 : tb_26.all (mRow 26) = true := by decide +kernel
theorem mk_27 : tb_27.all (mRow 27) = true := by decide +kernel
theorem mk_28 : tb_28.all (mRow 28) = true := by decide +kernel
theorem mk_29 : tb_29.all (mRow 29) = true := by decide +kernel
theorem mk_30 : tb_30.all (mRow 30) = true := by decide +kernel
theorem mk_31 : tb_31.all (mRow 31) = true := by decide +kernel
theorem mk_32 : tb_32.all (mRow 32) = true := by decide +kernel
theorem mk_33 : tb_33.all (mRow 33) = true := by decide +kernel
theorem mk_34 : tb_34.all (mRow 34) = true := by decide +kernel
theorem mk_35 : tb_35.all (mRow 35) = true := by decide +kernel
theorem mk_36_0 : ((tb_36.drop 0).take 100).all (mRow 36) = true := by decide +kernel
theorem mk_36_1 : ((tb_36.drop 100).take 100).all (mRow 36) = true := by decide +kernel
theorem mk_36_2 : ((tb_36.drop 200).take 100).all (mRow 36) = true := by decide +kernel
theorem mk_36 : tb_36.all (mRow 36) = true := by
  rw [show tb_36 = (tb_36.drop 0).take 100 ++ (tb_36.drop 100).take 100 ++ (tb_36.drop 200).take 100 from by decide +kernel]
  simp only [List.all_append, mk_36_0, mk_36_1, mk_36_2, Bool.and_self]
theorem mk_37 : tb_37.all (mRow 37) = true := by decide +kernel
theorem mk_38 : tb_38.all (mRow 38) = true := by decide +kernel
theorem mk_39 : tb_39.all (mRow 39) = true := by decide +kernel
theorem mk_40 : tb_40.all (mRow 40) = true := by decide +kernel
theorem mk_41 : tb_41.all (mRow 41) = true := by decide +kernel
theorem mk_42 : tb_42.all (mRow 42) = true := by decide +kernel
theorem mk_43 : tb_43.all (mRow 43) = true := by decide +kernel
theorem mk_44 : tb_44.all (mRow 44) = true := by decide +kernel
theorem mk_45 : tb_45.all (mRow 45) = true := by decide +kernel
theorem mk_46_0 : ((tb_46.drop 0).take 100).all (mRow 46) = true := by decide +kernel
theorem mk_46_1 : ((tb_46.drop 100).take 100).all (mRow 46) = true := by decide +kernel
theorem mk_46 : tb_46.all (mRow 46) = true := by
  rw [show tb_46 = (tb_46.drop 0).take 100 ++ (tb_46.drop 100).take 100 from by decide +kernel]
  simp only [List.all_append, mk_46_0, mk_46_1, Bool.and_self]
theorem mk_47 : tb_47.all (mRow 47) = true := by decide +kernel
theorem mk_48_0 : ((tb_48.drop 0).take 100).all (mRow 48) = true := by decide +kernel
theorem mk_48_1 : ((tb_48.drop 100).take 100).all (mRow 48) = true := by decide +kernel
theorem mk_48 : tb_48.all (mRow 48) = true := by
  rw [show tb_48 = (tb_48.drop 0).take 100 ++ (tb_48.drop 100).take 100 from by decide +kernel]
  simp only [List.all_append, mk_48_0, mk_48_1, Bool.and_self]
theorem mk_49 : tb_49.all (mRow 49) = true := by decide +kernel
theorem mk_50 : tb_50.all (mRow 50) = true := by decide +kernel
theorem mk_51 : tb_51.all (mRow 51) = true := by decide +kernel
theorem mk_52 : tb_52.all (mRow 52) = true := by decide +kernel
theorem mk_53 : tb_53.all (mRow 53) = true := by decide +kernel
