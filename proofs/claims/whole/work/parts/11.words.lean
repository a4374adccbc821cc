theorem tb_1 {w : Cond} (h : w ∈ tables_1_1) : w ∈ lw_tbl := List.mem_append_right _ (List.mem_append_left _ h)
theorem wl_1 {w : Cond} (i : Nat) (h : tables_1_1[i]? = some w) (hg : goodWord w = true) : w ∈ WL := List.mem_filter.mpr ⟨tb_1 (List.mem_of_getElem? h), hg⟩
theorem nl_1 {w : Cond} (i : Nat) (h : tables_1_1[i]? = some w) (hg : isNest w = true) : w ∈ NL := List.mem_filter.mpr ⟨tb_1 (List.mem_of_getElem? h), hg⟩
theorem tb_2 {w : Cond} (h : w ∈ tables_1_2) : w ∈ lw_tbl := List.mem_append_right _ (List.mem_append_right _ (List.mem_append_left _ h))
theorem wl_2 {w : Cond} (i : Nat) (h : tables_1_2[i]? = some w) (hg : goodWord w = true) : w ∈ WL := List.mem_filter.mpr ⟨tb_2 (List.mem_of_getElem? h), hg⟩
theorem nl_2 {w : Cond} (i : Nat) (h : tables_1_2[i]? = some w) (hg : isNest w = true) : w ∈ NL := List.mem_filter.mpr ⟨tb_2 (List.mem_of_getElem? h), hg⟩
theorem tb_3 {w : Cond} (h : w ∈ tables_1_3) : w ∈ lw_tbl := List.mem_append_right _ (List.mem_append_right _ (List.mem_append_right _ (List.mem_append_left _ h)))
theorem wl_3 {w : Cond} (i : Nat) (h : tables_1_3[i]? = some w) (hg : goodWord w = true) : w ∈ WL := List.mem_filter.mpr ⟨tb_3 (List.mem_of_getElem? h), hg⟩
theorem nl_3 {w : Cond} (i : Nat) (h : tables_1_3[i]? = some w) (hg : isNest w = true) : w ∈ NL := List.mem_filter.mpr ⟨tb_3 (List.mem_of_getElem? h), hg⟩
theorem tb_4 {w : Cond} (h : w ∈ tables_1_4) : w ∈ lw_tbl := List.mem_append_right _ (List.mem_append_right _ (List.mem_append_right _ (List.mem_append_right _ (List.mem_append_left _ h))))
theorem wl_4 {w : Cond} (i : Nat) (h : tables_1_4[i]? = some w) (hg : goodWord w = true) : w ∈ WL := List.mem_filter.mpr ⟨tb_4 (List.mem_of_getElem? h), hg⟩
theorem nl_4 {w : Cond} (i : Nat) (h : tables_1_4[i]? = some w) (hg : isNest w = true) : w ∈ NL := List.mem_filter.mpr ⟨tb_4 (List.mem_of_getElem? h), hg⟩
theorem tb_5 {w : Cond} (h : w ∈ tables_1_5) : w ∈ lw_tbl := List.mem_append_right _ (List.mem_append_right _ (List.mem_append_right _ (List.mem_append_right _ (List.mem_append_right _ h))))
theorem wl_5 {w : Cond} (i : Nat) (h : tables_1_5[i]? = some w) (hg : goodWord w = true) : w ∈ WL := List.mem_filter.mpr ⟨tb_5 (List.mem_of_getElem? h), hg⟩
theorem nl_5 {w : Cond} (i : Nat) (h : tables_1_5[i]? = some w) (hg : isNest w = true) : w ∈ NL := List.mem_filter.mpr ⟨tb_5 (List.mem_of_getElem? h), hg⟩
theorem wl_p {w : Cond} (i : Nat) (h : (k2_sels lw_privs)[i]? = some w) (hg : goodWord w = true) : w ∈ WL := List.mem_filter.mpr ⟨List.mem_append_left _ (List.mem_of_getElem? h), hg⟩
theorem uX0 : ∀ w ∈ u_ws RX0 TX0 1, w ∈ WL := by decide +kernel
theorem uX2 : ∀ w ∈ u_ws RX2 TX2 3, w ∈ WL := by decide +kernel
theorem uX3 : ∀ w ∈ u_ws RX3 TX3 2, w ∈ WL := by decide +kernel
theorem uX4 : ∀ w ∈ u_ws RX4 TX4 13, w ∈ WL := by decide +kernel
theorem uX5 : ∀ w ∈ u_ws RX5 TX5 5, w ∈ WL := by decide +kernel
theorem uX7 : ∀ w ∈ u_ws RX7 TX7 9, w ∈ WL := by decide +kernel
theorem uX8 : ∀ w ∈ u_ws RX8 TX8 23, w ∈ WL := by decide +kernel
theorem kc_0 : kd 0 = 5 := rfl
theorem kc_1 : kd 1 = 100 + 7 := rfl
theorem kc_2 : kd 2 = 3 := rfl
theorem kc_3 : kd 3 = 100 + 8 := rfl
theorem kc_4 : kd 4 = 100 + 8 := rfl
theorem kc_5 : kd 5 = 100 + 8 := rfl
theorem kc_6 : kd 6 = 100 + 8 := rfl
theorem kc_7 : kd 7 = 100 + 8 := rfl
theorem kc_8 : kd 8 = 100 + 8 := rfl
theorem kc_9 : kd 9 = 100 + 8 := rfl
theorem kc_10 : kd 10 = 100 + 8 := rfl
theorem kc_11 : kd 11 = 100 + 8 := rfl
theorem kc_12 : kd 12 = 100 + 8 := rfl
theorem kc_13 : kd 13 = 3 := rfl
theorem kc_14 : kd 14 = 100 + 8 := rfl
theorem kc_15 : kd 15 = 100 + 8 := rfl
theorem kc_16 : kd 16 = 100 + 8 := rfl
theorem kc_17 : kd 17 = 100 + 8 := rfl
theorem kc_18 : kd 18 = 100 + 8 := rfl
theorem kc_19 : kd 19 = 100 + 8 := rfl
theorem kc_20 : kd 20 = 100 + 8 := rfl
theorem kc_21 : kd 21 = 100 + 8 := rfl
theorem kc_22 : kd 22 = 100 + 8 := rfl
theorem kc_23 : kd 23 = 100 + 8 := rfl
theorem kc_24 : kd 24 = 3 := rfl
theorem kc_25 : kd 25 = 100 + 8 := rfl
theorem kc_26 : kd 26 = 100 + 8 := rfl
theorem kc_27 : kd 27 = 100 + 8 := rfl
theorem kc_28 : kd 28 = 100 + 8 := rfl
theorem kc_29 : kd 29 = 100 + 8 := rfl
theorem kc_30 : kd 30 = 100 + 8 := rfl
theorem kc_31 : kd 31 = 100 + 8 := rfl
theorem kc_32 : kd 32 = 100 + 8 := rfl
theorem kc_33 : kd 33 = 100 + 8 := rfl
theorem kc_34 : kd 34 = 100 + 8 := rfl
theorem kc_35 : kd 35 = 0 := rfl
theorem kc_36 : kd 36 = 100 + 256 := rfl
theorem kc_37 : kd 37 = 2 := rfl
theorem kc_38 : kd 38 = 100 + 120 := rfl
theorem kc_39 : kd 39 = 4 := rfl
theorem kc_40 : kd 40 = 2004 := rfl
theorem kc_41 : kd 41 = 1 := rfl
theorem kc_42 : kd 42 = 1000 + 40 := rfl
theorem kc_43 : kd 43 = 1 := rfl
theorem kc_44 : kd 44 = 1000 + 40 := rfl
theorem kc_45 : kd 45 = 1 := rfl
theorem kc_46 : kd 46 = 1000 + 40 := rfl
theorem kc_47 : kd 47 = 1 := rfl
theorem kc_48 : kd 48 = 1000 + 40 := rfl
theorem kc_49 : kd 49 = 6 := rfl
theorem kc_50 : kd 50 = 100 + 51 := rfl
theorem kc_51 : kd 51 = 100 + 7 := rfl
theorem kc_52 : kd 52 = 100 + 8 := rfl
theorem kc_53 : kd 53 = 100 + 8 := rfl
theorem kc_54 : kd 54 = 100 + 8 := rfl
theorem kc_55 : kd 55 = 100 + 8 := rfl
theorem kc_56 : kd 56 = 100 + 51 := rfl
theorem kc_57 : kd 57 = 100 + 256 := rfl
theorem kc_58 : kd 58 = 100 + 120 := rfl
theorem kc_59 : kd 59 = 100 + 4 := rfl
theorem kc_60 : kd 60 = 100 + 4 := rfl
theorem kc_61 : kd 61 = 1000 + 160 := rfl
theorem kc_62 : kd 62 = 1000 + 40 := rfl
theorem kc_63 : kd 63 = 100 + 51 := rfl
theorem kc_64 : kd 64 = 100 + 51 := rfl
theorem q_k_J6_265 : Cond.constant RJ6 265 (1431655765) ∈ WL := wl_2 44 rfl rfl
theorem q_k_J6_266 : Cond.constant RJ6 266 (858993459) ∈ WL := wl_2 45 rfl rfl
theorem q_k_J6_267 : Cond.constant RJ6 267 (252645135) ∈ WL := wl_2 46 rfl rfl
theorem q_fl_X4_15 : Cond.fieldLink RX4 15 (TX4 3).1 (TX4 3).2.1 (TX4 3).2.2.1 ∈ WL := wl_1 39 rfl rfl
theorem q_ml_X4_58 : Cond.methodLink RX4 58 yX4_isChild ∈ WL := wl_2 25 rfl rfl
theorem q_instanceMethod_X4_isChild : Cond.instanceMethod yX4_isChild ∈ WL := wl_2 26 rfl rfl
theorem q_sel_X4_isChild : Cond.selects RX4 yX4_isChild yX4_isChild ∈ WL := wl_2 27 rfl rfl
theorem q_ini_FridaySlips_Village : Cond.initialized "FridaySlips$Village" ∈ WL := wl_1 2 rfl rfl
theorem q_code_X4_isChild : Cond.code yX4_isChild cX4_isChild 2 (some .boolean) ∈ WL := wl_2 28 rfl rfl
theorem q_ml_X6_15 : Cond.methodLink RX6 15 Lib.Math.max.name ∈ WL := wl_1 221 rfl rfl
theorem q_static_Mmax : Cond.static Lib.Math.max.name ∈ WL := wl_1 222 rfl rfl
theorem q_ini_java_lang_Math : Cond.initialized "java/lang/Math" ∈ WL := wl_1 9 rfl rfl
theorem q_code_Mmax : Cond.code Lib.Math.max.name Lib.Math.max.code 2 (some .int) ∈ WL := wl_1 223 rfl rfl
theorem q_fl_X4_19 : Cond.fieldLink RX4 19 (TX4 4).1 (TX4 4).2.1 (TX4 4).2.2.1 ∈ WL := wl_1 41 rfl rfl
theorem q_fl_X4_25 : Cond.fieldLink RX4 25 (TX4 6).1 (TX4 6).2.1 (TX4 6).2.2.1 ∈ WL := wl_1 47 rfl rfl
theorem q_fl_X4_28 : Cond.fieldLink RX4 28 (TX4 7).1 (TX4 7).2.1 (TX4 7).2.2.1 ∈ WL := wl_1 50 rfl rfl
theorem q_ml_X4_66 : Cond.methodLink RX4 66 yX6_earned ∈ WL := wl_1 218 rfl rfl
theorem q_static_X6_earned : Cond.static yX6_earned ∈ WL := wl_1 219 rfl rfl
theorem q_ini_FridaySlips_Ways : Cond.initialized "FridaySlips$Ways" ∈ WL := wl_1 8 rfl rfl
theorem q_code_X6_earned : Cond.code yX6_earned cX6_earned 8 (some .int) ∈ WL := wl_1 220 rfl rfl
theorem q_ml_X4_62 : Cond.methodLink RX4 62 yX4_earningAs ∈ WL := wl_1 214 rfl rfl
theorem q_instanceMethod_X4_earningAs : Cond.instanceMethod yX4_earningAs ∈ WL := wl_1 215 rfl rfl
theorem q_sel_X4_earningAs : Cond.selects RX4 yX4_earningAs yX4_earningAs ∈ WL := wl_1 216 rfl rfl
theorem q_code_X4_earningAs : Cond.code yX4_earningAs cX4_earningAs 4 (some .int) ∈ WL := wl_1 217 rfl rfl
theorem q_ml_X0_37 : Cond.methodLink RX0 37 yX4_areAlike ∈ WL := wl_2 183 rfl rfl
theorem q_instanceMethod_X4_areAlike : Cond.instanceMethod yX4_areAlike ∈ WL := wl_2 22 rfl rfl
theorem q_sel_X4_areAlike : Cond.selects RX4 yX4_areAlike yX4_areAlike ∈ WL := wl_2 23 rfl rfl
theorem q_code_X4_areAlike : Cond.code yX4_areAlike cX4_areAlike 3 (some .boolean) ∈ WL := wl_2 24 rfl rfl
theorem q_fl_X0_9 : Cond.fieldLink RX0 9 (TX0 0).1 (TX0 0).2.1 (TX0 0).2.2.1 ∈ WL := wl_1 92 rfl rfl
theorem q_ml_X0_41 : Cond.methodLink RX0 41 yX4_earning ∈ WL := wl_2 184 rfl rfl
theorem q_instanceMethod_X4_earning : Cond.instanceMethod yX4_earning ∈ WL := wl_1 211 rfl rfl
theorem q_sel_X4_earning : Cond.selects RX4 yX4_earning yX4_earning ∈ WL := wl_1 212 rfl rfl
theorem q_code_X4_earning : Cond.code yX4_earning cX4_earning 3 (some .int) ∈ WL := wl_1 213 rfl rfl
theorem q_fn_X0_15 : Cond.fieldLinkNest RX0 15 (TX4 2).1 (TX4 2).2.1 (TX4 2).2.2.1 "FridaySlips" ∈ NL := nl_1 36 rfl rfl
theorem q_ml_X0_21 : Cond.methodLink RX0 21 yJ6_bitCount_0f7a4 ∈ WL := wl_2 178 rfl rfl
theorem q_static_J6_bitCount_0f7a4 : Cond.static yJ6_bitCount_0f7a4 ∈ WL := wl_2 42 rfl rfl
theorem q_ini_java_lang_Integer : Cond.initialized "java/lang/Integer" ∈ WL := wl_1 10 rfl rfl
theorem q_code_J6_bitCount_0f7a4 : Cond.code yJ6_bitCount_0f7a4 cJ6_bitCount_0f7a4 1 (some .int) ∈ WL := wl_2 43 rfl rfl
theorem q_ml_X0_27 : Cond.methodLink RX0 27 yX0_mostWith ∈ WL := wl_2 179 rfl rfl
theorem q_instanceMethod_X0_mostWith : Cond.instanceMethod yX0_mostWith ∈ WL := wl_2 181 rfl rfl
theorem q_sel_X0_mostWith : Cond.selects RX0 yX0_mostWith yX0_mostWith ∈ WL := wl_p 4 rfl rfl
theorem q_ini_FridaySlips_BestLot : Cond.initialized "FridaySlips$BestLot" ∈ WL := wl_1 3 rfl rfl
theorem q_code_X0_mostWith : Cond.code yX0_mostWith cX0_mostWith 6 (some .int) ∈ WL := wl_2 182 rfl rfl
theorem q_ml_X0_31 : Cond.methodLink RX0 31 Lib.Math.max.name ∈ WL := wl_2 185 rfl rfl
theorem q_ml_X0_44 : Cond.methodLink RX0 44 yX0_leastBest ∈ WL := wl_2 194 rfl rfl
theorem q_instanceMethod_X0_leastBest : Cond.instanceMethod yX0_leastBest ∈ WL := wl_2 196 rfl rfl
theorem q_sel_X0_leastBest : Cond.selects RX0 yX0_leastBest yX0_leastBest ∈ WL := wl_p 5 rfl rfl
theorem q_code_X0_leastBest : Cond.code yX0_leastBest cX0_leastBest 5 (some .int) ∈ WL := wl_2 197 rfl rfl
theorem q_gs_X1_7 : Cond.fieldLink RX1 7 "FridaySlips$Chances" "ORDERED" "[I" ∈ WL := wl_2 228 rfl rfl
theorem q_gs_X1_13 : Cond.fieldLink RX1 13 "FridaySlips$Chances" "DERANGED" "[I" ∈ WL := wl_2 223 rfl rfl
theorem q_ml_X1_16 : Cond.methodLink RX1 16 Lib.Math.max.name ∈ WL := wl_2 233 rfl rfl
theorem q_fl_X2_15 : Cond.fieldLink RX2 15 (TX2 1).1 (TX2 1).2.1 (TX2 1).2.2.1 ∈ WL := wl_1 142 rfl rfl
theorem q_fl_X2_19 : Cond.fieldLink RX2 19 (TX2 2).1 (TX2 2).2.1 (TX2 2).2.2.1 ∈ WL := wl_1 144 rfl rfl
theorem q_fl_X2_9 : Cond.fieldLink RX2 9 (TX2 0).1 (TX2 0).2.1 (TX2 0).2.2.1 ∈ WL := wl_1 140 rfl rfl
theorem q_ml_X2_22 : Cond.methodLink RX2 22 yJ7_fill_d0a16 ∈ WL := wl_3 143 rfl rfl
theorem q_static_J7_fill_d0a16 : Cond.static yJ7_fill_d0a16 ∈ WL := wl_3 144 rfl rfl
theorem q_ini_java_util_Arrays : Cond.initialized "java/util/Arrays" ∈ WL := wl_1 17 rfl rfl
theorem q_code_J7_fill_d0a16 : Cond.code yJ7_fill_d0a16 cJ7_fill_d0a16 5 none ∈ WL := wl_3 145 rfl rfl
theorem q_fl_X3_9 : Cond.fieldLink RX3 9 (TX3 0).1 (TX3 0).2.1 (TX3 0).2.2.1 ∈ WL := wl_1 102 rfl rfl
theorem q_fl_X3_15 : Cond.fieldLink RX3 15 (TX3 1).1 (TX3 1).2.1 (TX3 1).2.2.1 ∈ WL := wl_1 103 rfl rfl
theorem q_fl_X4_46 : Cond.fieldLink RX4 46 (TX4 0).1 (TX4 0).2.1 (TX4 0).2.2.1 ∈ WL := wl_1 32 rfl rfl
theorem q_fl_X4_9 : Cond.fieldLink RX4 9 (TX4 1).1 (TX4 1).2.1 (TX4 1).2.2.1 ∈ WL := wl_1 34 rfl rfl
theorem q_fl_X4_49 : Cond.fieldLink RX4 49 (TX4 2).1 (TX4 2).2.1 (TX4 2).2.2.1 ∈ WL := wl_1 37 rfl rfl
theorem q_ml_X4_52 : Cond.methodLink RX4 52 arraycopyName ∈ WL := wl_2 163 rfl rfl
theorem q_native_SA : Cond.native arraycopyName ∈ WL := wl_2 165 rfl rfl
theorem q_static_SA : Cond.static arraycopyName ∈ WL := wl_2 164 rfl rfl
theorem q_ini_java_lang_System : Cond.initialized "java/lang/System" ∈ WL := wl_1 11 rfl rfl
theorem q_fl_X4_22 : Cond.fieldLink RX4 22 (TX4 5).1 (TX4 5).2.1 (TX4 5).2.2.1 ∈ WL := wl_1 44 rfl rfl
theorem q_fl_X4_31 : Cond.fieldLink RX4 31 (TX4 8).1 (TX4 8).2.1 (TX4 8).2.2.1 ∈ WL := wl_1 52 rfl rfl
theorem q_ml_X4_71 : Cond.methodLink RX4 71 yX6_said ∈ WL := wl_1 232 rfl rfl
theorem q_static_X6_said : Cond.static yX6_said ∈ WL := wl_1 233 rfl rfl
theorem q_code_X6_said : Cond.code yX6_said cX6_said 4 (some .int) ∈ WL := wl_1 234 rfl rfl
theorem q_ml_X4_73 : Cond.methodLink RX4 73 yX6_heard ∈ WL := wl_2 96 rfl rfl
theorem q_static_X6_heard : Cond.static yX6_heard ∈ WL := wl_2 97 rfl rfl
theorem q_code_X6_heard : Cond.code yX6_heard cX6_heard 3 (some .int) ∈ WL := wl_2 98 rfl rfl
theorem q_ml_X4_76 : Cond.methodLink RX4 76 yX4_earning ∈ WL := wl_2 90 rfl rfl
theorem q_ml_X4_79 : Cond.methodLink RX4 79 yX4_ownSet ∈ WL := wl_2 37 rfl rfl
theorem q_instanceMethod_X4_ownSet : Cond.instanceMethod yX4_ownSet ∈ WL := wl_2 38 rfl rfl
theorem q_sel_X4_ownSet : Cond.selects RX4 yX4_ownSet yX4_ownSet ∈ WL := wl_2 39 rfl rfl
theorem q_code_X4_ownSet : Cond.code yX4_ownSet cX4_ownSet 3 (some .int) ∈ WL := wl_2 40 rfl rfl
theorem q_ml_X4_83 : Cond.methodLink RX4 83 yJ6_bitCount_0f7a4 ∈ WL := wl_2 41 rfl rfl
theorem q_ml_X4_89 : Cond.methodLink RX4 89 yX4_areAlike ∈ WL := wl_2 130 rfl rfl
theorem q_k_X4_107 : Cond.constant RX4 107 (1103515245) ∈ WL := wl_2 72 rfl rfl
theorem q_fl_X4_43 : Cond.fieldLink RX4 43 (TX4 12).1 (TX4 12).2.1 (TX4 12).2.2.1 ∈ WL := wl_1 57 rfl rfl
theorem q_ml_X4_100 : Cond.methodLink RX4 100 yX4_drawAmong ∈ WL := wl_2 68 rfl rfl
theorem q_instanceMethod_X4_drawAmong : Cond.instanceMethod yX4_drawAmong ∈ WL := wl_2 70 rfl rfl
theorem q_sel_X4_drawAmong : Cond.selects RX4 yX4_drawAmong yX4_drawAmong ∈ WL := wl_p 3 rfl rfl
theorem q_code_X4_drawAmong : Cond.code yX4_drawAmong cX4_drawAmong 2 (some .int) ∈ WL := wl_2 71 rfl rfl
theorem q_ml_X4_103 : Cond.methodLink RX4 103 yX4_exchange ∈ WL := wl_2 73 rfl rfl
theorem q_instanceMethod_X4_exchange : Cond.instanceMethod yX4_exchange ∈ WL := wl_2 30 rfl rfl
theorem q_sel_X4_exchange : Cond.selects RX4 yX4_exchange yX4_exchange ∈ WL := wl_2 31 rfl rfl
theorem q_code_X4_exchange : Cond.code yX4_exchange cX4_exchange 4 none ∈ WL := wl_2 32 rfl rfl
theorem q_ml_X4_93 : Cond.methodLink RX4 93 yX4_goHome ∈ WL := wl_2 63 rfl rfl
theorem q_instanceMethod_X4_goHome : Cond.instanceMethod yX4_goHome ∈ WL := wl_2 52 rfl rfl
theorem q_sel_X4_goHome : Cond.selects RX4 yX4_goHome yX4_goHome ∈ WL := wl_2 53 rfl rfl
theorem q_code_X4_goHome : Cond.code yX4_goHome cX4_goHome 2 none ∈ WL := wl_2 54 rfl rfl
theorem q_ml_X4_96 : Cond.methodLink RX4 96 yX4_shuffle ∈ WL := wl_2 64 rfl rfl
theorem q_instanceMethod_X4_shuffle : Cond.instanceMethod yX4_shuffle ∈ WL := wl_2 66 rfl rfl
theorem q_sel_X4_shuffle : Cond.selects RX4 yX4_shuffle yX4_shuffle ∈ WL := wl_p 2 rfl rfl
theorem q_code_X4_shuffle : Cond.code yX4_shuffle cX4_shuffle 4 none ∈ WL := wl_2 67 rfl rfl
theorem q_k_X4_117 : Cond.constant RX4 117 (99999) ∈ WL := wl_2 99 rfl rfl
theorem q_fl_X4_34 : Cond.fieldLink RX4 34 (TX4 9).1 (TX4 9).2.1 (TX4 9).2.2.1 ∈ WL := wl_1 54 rfl rfl
theorem q_ml_X4_118 : Cond.methodLink RX4 118 Lib.Math.min.name ∈ WL := wl_2 100 rfl rfl
theorem q_static_Mmin : Cond.static Lib.Math.min.name ∈ WL := wl_2 101 rfl rfl
theorem q_code_Mmin : Cond.code Lib.Math.min.name Lib.Math.min.code 2 (some .int) ∈ WL := wl_2 102 rfl rfl
theorem q_fl_X4_37 : Cond.fieldLink RX4 37 (TX4 10).1 (TX4 10).2.1 (TX4 10).2.2.1 ∈ WL := wl_1 55 rfl rfl
theorem q_ml_X4_123 : Cond.methodLink RX4 123 Lib.Math.max.name ∈ WL := wl_2 103 rfl rfl
theorem q_fl_X4_40 : Cond.fieldLink RX4 40 (TX4 11).1 (TX4 11).2.1 (TX4 11).2.2.1 ∈ WL := wl_1 56 rfl rfl
theorem q_ml_X4_111 : Cond.methodLink RX4 111 yX4_saying ∈ WL := wl_2 91 rfl rfl
theorem q_instanceMethod_X4_saying : Cond.instanceMethod yX4_saying ∈ WL := wl_1 229 rfl rfl
theorem q_sel_X4_saying : Cond.selects RX4 yX4_saying yX4_saying ∈ WL := wl_1 230 rfl rfl
theorem q_code_X4_saying : Cond.code yX4_saying cX4_saying 3 (some .int) ∈ WL := wl_1 231 rfl rfl
theorem q_ml_X4_114 : Cond.methodLink RX4 114 yX4_hearing ∈ WL := wl_2 92 rfl rfl
theorem q_instanceMethod_X4_hearing : Cond.instanceMethod yX4_hearing ∈ WL := wl_2 93 rfl rfl
theorem q_sel_X4_hearing : Cond.selects RX4 yX4_hearing yX4_hearing ∈ WL := wl_2 94 rfl rfl
theorem q_code_X4_hearing : Cond.code yX4_hearing cX4_hearing 3 (some .int) ∈ WL := wl_2 95 rfl rfl
theorem q_ml_X4_108 : Cond.methodLink RX4 108 yX4_passFriday ∈ WL := wl_2 86 rfl rfl
theorem q_instanceMethod_X4_passFriday : Cond.instanceMethod yX4_passFriday ∈ WL := wl_2 87 rfl rfl
theorem q_sel_X4_passFriday : Cond.selects RX4 yX4_passFriday yX4_passFriday ∈ WL := wl_2 88 rfl rfl
theorem q_code_X4_passFriday : Cond.code yX4_passFriday cX4_passFriday 3 none ∈ WL := wl_2 89 rfl rfl
theorem q_fl_X5_15 : Cond.fieldLink RX5 15 (TX5 2).1 (TX5 2).2.1 (TX5 2).2.2.1 ∈ WL := wl_1 119 rfl rfl
theorem q_fl_X5_9 : Cond.fieldLink RX5 9 (TX5 0).1 (TX5 0).2.1 (TX5 0).2.2.1 ∈ WL := wl_1 117 rfl rfl
theorem q_fn_X5_121 : Cond.fieldLinkNest RX5 121 (TX3 1).1 (TX3 1).2.1 (TX3 1).2.2.1 "FridaySlips" ∈ NL := nl_1 104 rfl rfl
theorem q_ml_X5_112 : Cond.methodLink RX5 112 yX3_at ∈ WL := wl_3 25 rfl rfl
theorem q_instanceMethod_X3_at : Cond.instanceMethod yX3_at ∈ WL := wl_3 26 rfl rfl
theorem q_sel_X3_at : Cond.selects RX3 yX3_at yX3_at ∈ WL := wl_3 27 rfl rfl
theorem q_ini_FridaySlips_Tape : Cond.initialized "FridaySlips$Tape" ∈ WL := wl_1 4 rfl rfl
theorem q_code_X3_at : Cond.code yX3_at cX3_at 2 (some .int) ∈ WL := wl_3 28 rfl rfl
theorem q_ml_X5_124 : Cond.methodLink RX5 124 yX5_isLetter ∈ WL := wl_3 29 rfl rfl
theorem q_static_X5_isLetter : Cond.static yX5_isLetter ∈ WL := wl_3 30 rfl rfl
theorem q_ini_FridaySlips_VillageText : Cond.initialized "FridaySlips$VillageText" ∈ WL := wl_1 5 rfl rfl
theorem q_code_X5_isLetter : Cond.code yX5_isLetter cX5_isLetter 1 (some .boolean) ∈ WL := wl_3 31 rfl rfl
theorem q_fl_X5_75 : Cond.fieldLink RX5 75 (TX5 4).1 (TX5 4).2.1 (TX5 4).2.2.1 ∈ WL := wl_1 121 rfl rfl
theorem q_ml_X5_130 : Cond.methodLink RX5 130 yX5_isDigit ∈ WL := wl_3 36 rfl rfl
theorem q_static_X5_isDigit : Cond.static yX5_isDigit ∈ WL := wl_3 37 rfl rfl
theorem q_code_X5_isDigit : Cond.code yX5_isDigit cX5_isDigit 1 (some .boolean) ∈ WL := wl_3 38 rfl rfl
theorem q_ml_X5_136 : Cond.methodLink RX5 136 Lib.Math.min.name ∈ WL := wl_3 43 rfl rfl
theorem q_fl_X5_38 : Cond.fieldLink RX5 38 (TX5 1).1 (TX5 1).2.1 (TX5 1).2.2.1 ∈ WL := wl_1 118 rfl rfl
theorem q_fl_X5_35 : Cond.fieldLink RX5 35 (TX5 3).1 (TX5 3).2.1 (TX5 3).2.2.1 ∈ WL := wl_1 120 rfl rfl
theorem q_ml_X5_133 : Cond.methodLink RX5 133 yX5_passDigits ∈ WL := wl_3 39 rfl rfl
theorem q_instanceMethod_X5_passDigits : Cond.instanceMethod yX5_passDigits ∈ WL := wl_3 41 rfl rfl
theorem q_sel_X5_passDigits : Cond.selects RX5 yX5_passDigits yX5_passDigits ∈ WL := wl_p 8 rfl rfl
theorem q_code_X5_passDigits : Cond.code yX5_passDigits cX5_passDigits 1 none ∈ WL := wl_3 42 rfl rfl
theorem q_ml_X5_127 : Cond.methodLink RX5 127 yX5_passLetters ∈ WL := wl_3 32 rfl rfl
theorem q_instanceMethod_X5_passLetters : Cond.instanceMethod yX5_passLetters ∈ WL := wl_3 34 rfl rfl
theorem q_sel_X5_passLetters : Cond.selects RX5 yX5_passLetters yX5_passLetters ∈ WL := wl_p 7 rfl rfl
theorem q_code_X5_passLetters : Cond.code yX5_passLetters cX5_passLetters 1 none ∈ WL := wl_3 35 rfl rfl
theorem q_ml_X5_107 : Cond.methodLink RX5 107 yJ0_length_8abf5 ∈ WL := wl_3 49 rfl rfl
theorem q_instanceMethod_J0_length_8abf5 : Cond.instanceMethod yJ0_length_8abf5 ∈ WL := wl_3 50 rfl rfl
theorem q_sel_J0_length_8abf5 : Cond.selects RJ0 yJ0_length_8abf5 yJ0_length_8abf5 ∈ WL := wl_3 51 rfl rfl
theorem q_ini_java_lang_String : Cond.initialized "java/lang/String" ∈ WL := wl_1 13 rfl rfl
theorem q_code_J0_length_8abf5 : Cond.code yJ0_length_8abf5 cJ0_length_8abf5 1 (some .int) ∈ WL := wl_3 52 rfl rfl
theorem q_ml_X5_117 : Cond.methodLink RX5 117 yJ0_charAt_5068e ∈ WL := wl_3 59 rfl rfl
theorem q_instanceMethod_J0_charAt_5068e : Cond.instanceMethod yJ0_charAt_5068e ∈ WL := wl_3 60 rfl rfl
theorem q_sel_J0_charAt_5068e : Cond.selects RJ0 yJ0_charAt_5068e yJ0_charAt_5068e ∈ WL := wl_3 61 rfl rfl
theorem q_code_J0_charAt_5068e : Cond.code yJ0_charAt_5068e cJ0_charAt_5068e 2 (some .char) ∈ WL := wl_3 62 rfl rfl
theorem q_ml_X5_19 : Cond.methodLink RX5 19 yX5_step ∈ WL := wl_3 21 rfl rfl
theorem q_instanceMethod_X5_step : Cond.instanceMethod yX5_step ∈ WL := wl_3 23 rfl rfl
theorem q_sel_X5_step : Cond.selects RX5 yX5_step yX5_step ∈ WL := wl_p 6 rfl rfl
theorem q_code_X5_step : Cond.code yX5_step cX5_step 2 none ∈ WL := wl_3 24 rfl rfl
theorem q_ml_X5_78 : Cond.methodLink RX5 78 yX4_has ∈ WL := wl_3 101 rfl rfl
theorem q_instanceMethod_X4_has : Cond.instanceMethod yX4_has ∈ WL := wl_1 207 rfl rfl
theorem q_sel_X4_has : Cond.selects RX4 yX4_has yX4_has ∈ WL := wl_1 208 rfl rfl
theorem q_code_X4_has : Cond.code yX4_has cX4_has 2 (some .boolean) ∈ WL := wl_1 209 rfl rfl
theorem q_ml_X5_24 : Cond.methodLink RX5 24 yX5_isWord ∈ WL := wl_3 45 rfl rfl
theorem q_instanceMethod_X5_isWord : Cond.instanceMethod yX5_isWord ∈ WL := wl_3 47 rfl rfl
theorem q_sel_X5_isWord : Cond.selects RX5 yX5_isWord yX5_isWord ∈ WL := wl_p 9 rfl rfl
theorem q_code_X5_isWord : Cond.code yX5_isWord cX5_isWord 3 (some .boolean) ∈ WL := wl_3 48 rfl rfl
theorem q_ml_X5_84 : Cond.methodLink RX5 84 yX4_holder ∈ WL := wl_3 103 rfl rfl
theorem q_instanceMethod_X4_holder : Cond.instanceMethod yX4_holder ∈ WL := wl_2 136 rfl rfl
theorem q_sel_X4_holder : Cond.selects RX4 yX4_holder yX4_holder ∈ WL := wl_2 137 rfl rfl
theorem q_code_X4_holder : Cond.code yX4_holder cX4_holder 3 (some .int) ∈ WL := wl_2 138 rfl rfl
theorem q_ml_X5_87 : Cond.methodLink RX5 87 yX4_exchange ∈ WL := wl_3 104 rfl rfl
theorem q_ml_X5_91 : Cond.methodLink RX5 91 yX5_nameOf ∈ WL := wl_3 113 rfl rfl
theorem q_static_X5_nameOf : Cond.static yX5_nameOf ∈ WL := wl_3 114 rfl rfl
theorem q_code_X5_nameOf : Cond.code yX5_nameOf cX5_nameOf 1 (some (.object "java/lang/String")) ∈ WL := wl_3 115 rfl rfl
theorem q_ml_X5_41 : Cond.methodLink RX5 41 yX5_namedKind ∈ WL := wl_3 109 rfl rfl
theorem q_instanceMethod_X5_namedKind : Cond.instanceMethod yX5_namedKind ∈ WL := wl_3 111 rfl rfl
theorem q_sel_X5_namedKind : Cond.selects RX5 yX5_namedKind yX5_namedKind ∈ WL := wl_p 12 rfl rfl
theorem q_code_X5_namedKind : Cond.code yX5_namedKind cX5_namedKind 2 (some .int) ∈ WL := wl_3 112 rfl rfl
theorem q_ml_X5_45 : Cond.methodLink RX5 45 yX4_isFull ∈ WL := wl_3 122 rfl rfl
theorem q_instanceMethod_X4_isFull : Cond.instanceMethod yX4_isFull ∈ WL := wl_1 195 rfl rfl
theorem q_sel_X4_isFull : Cond.selects RX4 yX4_isFull yX4_isFull ∈ WL := wl_1 196 rfl rfl
theorem q_code_X4_isFull : Cond.code yX4_isFull cX4_isFull 1 (some .boolean) ∈ WL := wl_1 197 rfl rfl
theorem q_ml_X5_51 : Cond.methodLink RX5 51 yX4_add ∈ WL := wl_3 123 rfl rfl
theorem q_instanceMethod_X4_add : Cond.instanceMethod yX4_add ∈ WL := wl_1 199 rfl rfl
theorem q_sel_X4_add : Cond.selects RX4 yX4_add yX4_add ∈ WL := wl_1 200 rfl rfl
theorem q_code_X4_add : Cond.code yX4_add cX4_add 3 (some .int) ∈ WL := wl_1 201 rfl rfl
theorem q_fn_X5_57 : Cond.fieldLinkNest RX5 57 (TX4 4).1 (TX4 4).2.1 (TX4 4).2.2.1 "FridaySlips" ∈ NL := nl_1 42 rfl rfl
theorem q_ml_X5_61 : Cond.methodLink RX5 61 yX5_takePart ∈ WL := wl_3 125 rfl rfl
theorem q_instanceMethod_X5_takePart : Cond.instanceMethod yX5_takePart ∈ WL := wl_3 127 rfl rfl
theorem q_sel_X5_takePart : Cond.selects RX5 yX5_takePart yX5_takePart ∈ WL := wl_p 13 rfl rfl
theorem q_code_X5_takePart : Cond.code yX5_takePart cX5_takePart 5 (some .boolean) ∈ WL := wl_3 128 rfl rfl
theorem q_fn_X5_67 : Cond.fieldLinkNest RX5 67 (TX4 5).1 (TX4 5).2.1 (TX4 5).2.2.1 "FridaySlips" ∈ NL := nl_1 45 rfl rfl
theorem q_fn_X5_72 : Cond.fieldLinkNest RX5 72 (TX4 6).1 (TX4 6).2.1 (TX4 6).2.2.1 "FridaySlips" ∈ NL := nl_1 48 rfl rfl
theorem q_ml_X5_32 : Cond.methodLink RX5 32 yX5_takePerson ∈ WL := wl_3 105 rfl rfl
theorem q_instanceMethod_X5_takePerson : Cond.instanceMethod yX5_takePerson ∈ WL := wl_3 107 rfl rfl
theorem q_sel_X5_takePerson : Cond.selects RX5 yX5_takePerson yX5_takePerson ∈ WL := wl_p 11 rfl rfl
theorem q_code_X5_takePerson : Cond.code yX5_takePerson cX5_takePerson 4 (some .boolean) ∈ WL := wl_3 108 rfl rfl
theorem q_ml_X5_28 : Cond.methodLink RX5 28 yX5_takeSlip ∈ WL := wl_3 97 rfl rfl
theorem q_instanceMethod_X5_takeSlip : Cond.instanceMethod yX5_takeSlip ∈ WL := wl_3 99 rfl rfl
theorem q_sel_X5_takeSlip : Cond.selects RX5 yX5_takeSlip yX5_takeSlip ∈ WL := wl_p 10 rfl rfl
theorem q_code_X5_takeSlip : Cond.code yX5_takeSlip cX5_takeSlip 3 (some .boolean) ∈ WL := wl_3 100 rfl rfl
theorem q_gs_X6_9 : Cond.fieldLink RX6 9 "FridaySlips$Ways" "ABOVE" "[I" ∈ WL := wl_2 15 rfl rfl
theorem q_fl_X7_51 : Cond.fieldLink RX7 51 (TX7 7).1 (TX7 7).2.1 (TX7 7).2.2.1 ∈ WL := wl_1 161 rfl rfl
theorem q_k_X7_252 : Cond.constant RX7 252 (-1000000001) ∈ WL := wl_1 193 rfl rfl
theorem q_ml_X7_56 : Cond.methodLink RX7 56 yX7_isKind ∈ WL := wl_1 186 rfl rfl
theorem q_static_X7_isKind : Cond.static yX7_isKind ∈ WL := wl_1 187 rfl rfl
theorem q_ini_FridaySlips : Cond.initialized "FridaySlips" ∈ WL := wl_1 1 rfl rfl
theorem q_code_X7_isKind : Cond.code yX7_isKind cX7_isKind 1 (some .boolean) ∈ WL := wl_1 188 rfl rfl
theorem q_fl_X7_10 : Cond.fieldLink RX7 10 (TX7 0).1 (TX7 0).2.1 (TX7 0).2.2.1 ∈ WL := wl_1 154 rfl rfl
theorem q_ml_X7_64 : Cond.methodLink RX7 64 yX4_isFull ∈ WL := wl_1 194 rfl rfl
theorem q_ml_X7_68 : Cond.methodLink RX7 68 yX4_add ∈ WL := wl_1 198 rfl rfl
theorem q_ml_X7_60 : Cond.methodLink RX7 60 yX7_finding ∈ WL := wl_1 189 rfl rfl
theorem q_instanceMethod_X7_finding : Cond.instanceMethod yX7_finding ∈ WL := wl_1 191 rfl rfl
theorem q_sel_X7_finding : Cond.selects RX7 yX7_finding yX7_finding ∈ WL := wl_p 0 rfl rfl
theorem q_code_X7_finding : Cond.code yX7_finding cX7_finding 2 (some .int) ∈ WL := wl_1 192 rfl rfl
theorem q_ml_X7_71 : Cond.methodLink RX7 71 yX4_has ∈ WL := wl_1 206 rfl rfl
theorem q_fn_X7_74 : Cond.fieldLinkNest RX7 74 (TX4 3).1 (TX4 3).2.1 (TX4 3).2.2.1 "FridaySlips" ∈ NL := nl_1 40 rfl rfl
theorem q_fn_X7_77 : Cond.fieldLinkNest RX7 77 (TX4 4).1 (TX4 4).2.1 (TX4 4).2.2.1 "FridaySlips" ∈ NL := nl_1 43 rfl rfl
theorem q_fn_X7_80 : Cond.fieldLinkNest RX7 80 (TX4 5).1 (TX4 5).2.1 (TX4 5).2.2.1 "FridaySlips" ∈ NL := nl_1 46 rfl rfl
theorem q_fn_X7_83 : Cond.fieldLinkNest RX7 83 (TX4 6).1 (TX4 6).2.1 (TX4 6).2.2.1 "FridaySlips" ∈ NL := nl_1 49 rfl rfl
theorem q_fn_X7_86 : Cond.fieldLinkNest RX7 86 (TX4 7).1 (TX4 7).2.1 (TX4 7).2.2.1 "FridaySlips" ∈ NL := nl_1 51 rfl rfl
theorem q_fn_X7_89 : Cond.fieldLinkNest RX7 89 (TX4 8).1 (TX4 8).2.1 (TX4 8).2.2.1 "FridaySlips" ∈ NL := nl_1 53 rfl rfl
theorem q_ml_X7_92 : Cond.methodLink RX7 92 yX4_earning ∈ WL := wl_1 210 rfl rfl
theorem q_ml_X7_96 : Cond.methodLink RX7 96 yX4_saying ∈ WL := wl_1 228 rfl rfl
theorem q_ml_X7_99 : Cond.methodLink RX7 99 yX7_replace ∈ WL := wl_1 239 rfl rfl
theorem q_instanceMethod_X7_replace : Cond.instanceMethod yX7_replace ∈ WL := wl_2 1 rfl rfl
theorem q_sel_X7_replace : Cond.selects RX7 yX7_replace yX7_replace ∈ WL := wl_p 1 rfl rfl
theorem q_code_X7_replace : Cond.code yX7_replace cX7_replace 6 (some .int) ∈ WL := wl_2 2 rfl rfl
theorem q_k_X7_103 : Cond.constant RX7 103 (99999) ∈ WL := wl_2 3 rfl rfl
theorem q_ml_X7_104 : Cond.methodLink RX7 104 yX6_isUnder ∈ WL := wl_2 12 rfl rfl
theorem q_static_X6_isUnder : Cond.static yX6_isUnder ∈ WL := wl_2 13 rfl rfl
theorem q_code_X6_isUnder : Cond.code yX6_isUnder cX6_isUnder 4 (some .boolean) ∈ WL := wl_2 14 rfl rfl
theorem q_ml_X7_110 : Cond.methodLink RX7 110 yX4_areAlike ∈ WL := wl_2 21 rfl rfl
theorem q_ml_X7_113 : Cond.methodLink RX7 113 yX4_exchange ∈ WL := wl_2 29 rfl rfl
theorem q_ml_X7_117 : Cond.methodLink RX7 117 yX4_ownCount ∈ WL := wl_2 33 rfl rfl
theorem q_instanceMethod_X4_ownCount : Cond.instanceMethod yX4_ownCount ∈ WL := wl_2 34 rfl rfl
theorem q_sel_X4_ownCount : Cond.selects RX4 yX4_ownCount yX4_ownCount ∈ WL := wl_2 35 rfl rfl
theorem q_code_X4_ownCount : Cond.code yX4_ownCount cX4_ownCount 1 (some .int) ∈ WL := wl_2 36 rfl rfl
theorem q_fn_X7_121 : Cond.fieldLinkNest RX7 121 (TX4 2).1 (TX4 2).2.1 (TX4 2).2.2.1 "FridaySlips" ∈ NL := nl_1 38 rfl rfl
theorem q_ml_X7_125 : Cond.methodLink RX7 125 yX4_goHome ∈ WL := wl_2 51 rfl rfl
theorem q_ml_X7_128 : Cond.methodLink RX7 128 yX4_drawLot ∈ WL := wl_2 59 rfl rfl
theorem q_instanceMethod_X4_drawLot : Cond.instanceMethod yX4_drawLot ∈ WL := wl_2 60 rfl rfl
theorem q_sel_X4_drawLot : Cond.selects RX4 yX4_drawLot yX4_drawLot ∈ WL := wl_2 61 rfl rfl
theorem q_code_X4_drawLot : Cond.code yX4_drawLot cX4_drawLot 1 none ∈ WL := wl_2 62 rfl rfl
theorem q_fn_X7_131 : Cond.fieldLinkNest RX7 131 (TX4 1).1 (TX4 1).2.1 (TX4 1).2.2.1 "FridaySlips" ∈ NL := nl_1 35 rfl rfl
theorem q_fn_X7_134 : Cond.fieldLinkNest RX7 134 (TX4 0).1 (TX4 0).2.1 (TX4 0).2.2.1 "FridaySlips" ∈ NL := nl_1 33 rfl rfl
theorem q_ml_X7_137 : Cond.methodLink RX7 137 yX4_passFridays ∈ WL := wl_2 82 rfl rfl
theorem q_instanceMethod_X4_passFridays : Cond.instanceMethod yX4_passFridays ∈ WL := wl_2 83 rfl rfl
theorem q_sel_X4_passFridays : Cond.selects RX4 yX4_passFridays yX4_passFridays ∈ WL := wl_2 84 rfl rfl
theorem q_code_X4_passFridays : Cond.code yX4_passFridays cX4_passFridays 3 none ∈ WL := wl_2 85 rfl rfl
theorem q_ml_X7_141 : Cond.methodLink RX7 141 yX4_total ∈ WL := wl_2 104 rfl rfl
theorem q_instanceMethod_X4_total : Cond.instanceMethod yX4_total ∈ WL := wl_2 105 rfl rfl
theorem q_sel_X4_total : Cond.selects RX4 yX4_total yX4_total ∈ WL := wl_2 106 rfl rfl
theorem q_code_X4_total : Cond.code yX4_total cX4_total 4 (some .int) ∈ WL := wl_2 107 rfl rfl
theorem q_ml_X7_145 : Cond.methodLink RX7 145 yX4_passFriday ∈ WL := wl_2 112 rfl rfl
theorem q_ml_X7_148 : Cond.methodLink RX7 148 yX4_childrenSet ∈ WL := wl_2 117 rfl rfl
theorem q_instanceMethod_X4_childrenSet : Cond.instanceMethod yX4_childrenSet ∈ WL := wl_2 118 rfl rfl
theorem q_sel_X4_childrenSet : Cond.selects RX4 yX4_childrenSet yX4_childrenSet ∈ WL := wl_2 119 rfl rfl
theorem q_code_X4_childrenSet : Cond.code yX4_childrenSet cX4_childrenSet 3 (some .int) ∈ WL := wl_2 120 rfl rfl
theorem q_ml_X7_151 : Cond.methodLink RX7 151 yX4_ownSet ∈ WL := wl_2 121 rfl rfl
theorem q_ml_X7_154 : Cond.methodLink RX7 154 yX4_earnings ∈ WL := wl_2 122 rfl rfl
theorem q_instanceMethod_X4_earnings : Cond.instanceMethod yX4_earnings ∈ WL := wl_2 123 rfl rfl
theorem q_sel_X4_earnings : Cond.selects RX4 yX4_earnings yX4_earnings ∈ WL := wl_2 124 rfl rfl
theorem q_code_X4_earnings : Cond.code yX4_earnings cX4_earnings 3 (some .int) ∈ WL := wl_2 125 rfl rfl
theorem q_ml_X7_157 : Cond.methodLink RX7 157 yX4_isLotRight ∈ WL := wl_2 126 rfl rfl
theorem q_instanceMethod_X4_isLotRight : Cond.instanceMethod yX4_isLotRight ∈ WL := wl_2 127 rfl rfl
theorem q_sel_X4_isLotRight : Cond.selects RX4 yX4_isLotRight yX4_isLotRight ∈ WL := wl_2 128 rfl rfl
theorem q_code_X4_isLotRight : Cond.code yX4_isLotRight cX4_isLotRight 2 (some .boolean) ∈ WL := wl_2 129 rfl rfl
theorem q_ml_X7_160 : Cond.methodLink RX7 160 yX4_holder ∈ WL := wl_2 135 rfl rfl
theorem q_ml_X7_163 : Cond.methodLink RX7 163 yX4_ringSet ∈ WL := wl_2 143 rfl rfl
theorem q_instanceMethod_X4_ringSet : Cond.instanceMethod yX4_ringSet ∈ WL := wl_2 144 rfl rfl
theorem q_sel_X4_ringSet : Cond.selects RX4 yX4_ringSet yX4_ringSet ∈ WL := wl_2 145 rfl rfl
theorem q_code_X4_ringSet : Cond.code yX4_ringSet cX4_ringSet 5 (some .int) ∈ WL := wl_2 146 rfl rfl
theorem q_fl_X7_19 : Cond.fieldLink RX7 19 (TX7 2).1 (TX7 2).2.1 (TX7 2).2.2.1 ∈ WL := wl_1 156 rfl rfl
theorem q_ml_X7_166 : Cond.methodLink RX7 166 yX4_become ∈ WL := wl_2 159 rfl rfl
theorem q_instanceMethod_X4_become : Cond.instanceMethod yX4_become ∈ WL := wl_2 160 rfl rfl
theorem q_sel_X4_become : Cond.selects RX4 yX4_become yX4_become ∈ WL := wl_2 161 rfl rfl
theorem q_code_X4_become : Cond.code yX4_become cX4_become 2 none ∈ WL := wl_2 162 rfl rfl
theorem q_fl_X7_25 : Cond.fieldLink RX7 25 (TX7 3).1 (TX7 3).2.1 (TX7 3).2.2.1 ∈ WL := wl_1 157 rfl rfl
theorem q_ml_X7_170 : Cond.methodLink RX7 170 yX0_search ∈ WL := wl_2 174 rfl rfl
theorem q_instanceMethod_X0_search : Cond.instanceMethod yX0_search ∈ WL := wl_2 175 rfl rfl
theorem q_sel_X0_search : Cond.selects RX0 yX0_search yX0_search ∈ WL := wl_2 176 rfl rfl
theorem q_code_X0_search : Cond.code yX0_search cX0_search 7 (some .int) ∈ WL := wl_2 177 rfl rfl
theorem q_ml_X7_174 : Cond.methodLink RX7 174 yX0_slipOf ∈ WL := wl_2 190 rfl rfl
theorem q_instanceMethod_X0_slipOf : Cond.instanceMethod yX0_slipOf ∈ WL := wl_2 191 rfl rfl
theorem q_sel_X0_slipOf : Cond.selects RX0 yX0_slipOf yX0_slipOf ∈ WL := wl_2 192 rfl rfl
theorem q_code_X0_slipOf : Cond.code yX0_slipOf cX0_slipOf 6 (some .int) ∈ WL := wl_2 193 rfl rfl
theorem q_ml_X7_178 : Cond.methodLink RX7 178 yX4_gainOfExchange ∈ WL := wl_2 202 rfl rfl
theorem q_instanceMethod_X4_gainOfExchange : Cond.instanceMethod yX4_gainOfExchange ∈ WL := wl_2 203 rfl rfl
theorem q_sel_X4_gainOfExchange : Cond.selects RX4 yX4_gainOfExchange yX4_gainOfExchange ∈ WL := wl_2 204 rfl rfl
theorem q_code_X4_gainOfExchange : Cond.code yX4_gainOfExchange cX4_gainOfExchange 4 (some .int) ∈ WL := wl_2 205 rfl rfl
theorem q_ml_X7_181 : Cond.methodLink RX7 181 yX4_earningAs ∈ WL := wl_2 214 rfl rfl
theorem q_ml_X7_185 : Cond.methodLink RX7 185 yJ6_bitCount_0f7a4 ∈ WL := wl_2 219 rfl rfl
theorem q_ml_X7_190 : Cond.methodLink RX7 190 yX1_deranged ∈ WL := wl_2 220 rfl rfl
theorem q_static_X1_deranged : Cond.static yX1_deranged ∈ WL := wl_2 221 rfl rfl
theorem q_ini_FridaySlips_Chances : Cond.initialized "FridaySlips$Chances" ∈ WL := wl_1 12 rfl rfl
theorem q_code_X1_deranged : Cond.code yX1_deranged cX1_deranged 1 (some .int) ∈ WL := wl_2 222 rfl rfl
theorem q_ml_X7_195 : Cond.methodLink RX7 195 yX1_ordered ∈ WL := wl_2 225 rfl rfl
theorem q_static_X1_ordered : Cond.static yX1_ordered ∈ WL := wl_2 226 rfl rfl
theorem q_code_X1_ordered : Cond.code yX1_ordered cX1_ordered 1 (some .int) ∈ WL := wl_2 227 rfl rfl
theorem q_ml_X7_198 : Cond.methodLink RX7 198 yX1_commonDivisor ∈ WL := wl_2 230 rfl rfl
theorem q_static_X1_commonDivisor : Cond.static yX1_commonDivisor ∈ WL := wl_2 231 rfl rfl
theorem q_code_X1_commonDivisor : Cond.code yX1_commonDivisor cX1_commonDivisor 6 (some .int) ∈ WL := wl_2 232 rfl rfl
theorem q_ml_X7_201 : Cond.methodLink RX7 201 yX1_withOwn ∈ WL := wl_2 238 rfl rfl
theorem q_static_X1_withOwn : Cond.static yX1_withOwn ∈ WL := wl_2 239 rfl rfl
theorem q_code_X1_withOwn : Cond.code yX1_withOwn cX1_withOwn 3 (some .int) ∈ WL := wl_3 0 rfl rfl
theorem q_fl_X7_32 : Cond.fieldLink RX7 32 (TX7 4).1 (TX7 4).2.1 (TX7 4).2.2.1 ∈ WL := wl_1 158 rfl rfl
theorem q_fn_X7_204 : Cond.fieldLinkNest RX7 204 (TX3 1).1 (TX3 1).2.1 (TX3 1).2.2.1 "FridaySlips" ∈ NL := nl_1 105 rfl rfl
theorem q_ml_X7_205 : Cond.methodLink RX7 205 yX3_add ∈ WL := wl_3 5 rfl rfl
theorem q_instanceMethod_X3_add : Cond.instanceMethod yX3_add ∈ WL := wl_3 6 rfl rfl
theorem q_sel_X3_add : Cond.selects RX3 yX3_add yX3_add ∈ WL := wl_3 7 rfl rfl
theorem q_code_X3_add : Cond.code yX3_add cX3_add 2 none ∈ WL := wl_3 8 rfl rfl
theorem q_fl_X7_41 : Cond.fieldLink RX7 41 (TX7 5).1 (TX7 5).2.1 (TX7 5).2.2.1 ∈ WL := wl_1 159 rfl rfl
theorem q_ml_X7_207 : Cond.methodLink RX7 207 yX5_tell ∈ WL := wl_3 17 rfl rfl
theorem q_instanceMethod_X5_tell : Cond.instanceMethod yX5_tell ∈ WL := wl_3 18 rfl rfl
theorem q_sel_X5_tell : Cond.selects RX5 yX5_tell yX5_tell ∈ WL := wl_3 19 rfl rfl
theorem q_code_X5_tell : Cond.code yX5_tell cX5_tell 4 (some .int) ∈ WL := wl_3 20 rfl rfl
theorem q_ml_X7_210 : Cond.methodLink RX7 210 yX7_isSheet ∈ WL := wl_3 136 rfl rfl
theorem q_static_X7_isSheet : Cond.static yX7_isSheet ∈ WL := wl_3 137 rfl rfl
theorem q_code_X7_isSheet : Cond.code yX7_isSheet cX7_isSheet 1 (some .boolean) ∈ WL := wl_3 138 rfl rfl
theorem q_fl_X7_47 : Cond.fieldLink RX7 47 (TX7 6).1 (TX7 6).2.1 (TX7 6).2.2.1 ∈ WL := wl_1 160 rfl rfl
theorem q_ml_X7_213 : Cond.methodLink RX7 213 yX2_begin ∈ WL := wl_3 139 rfl rfl
theorem q_instanceMethod_X2_begin : Cond.instanceMethod yX2_begin ∈ WL := wl_3 140 rfl rfl
theorem q_sel_X2_begin : Cond.selects RX2 yX2_begin yX2_begin ∈ WL := wl_3 141 rfl rfl
theorem q_ini_FridaySlips_Sheet : Cond.initialized "FridaySlips$Sheet" ∈ WL := wl_1 6 rfl rfl
theorem q_code_X2_begin : Cond.code yX2_begin cX2_begin 3 (some .int) ∈ WL := wl_3 142 rfl rfl
theorem q_ml_X7_216 : Cond.methodLink RX7 216 yX2_isMissing ∈ WL := wl_3 150 rfl rfl
theorem q_instanceMethod_X2_isMissing : Cond.instanceMethod yX2_isMissing ∈ WL := wl_3 151 rfl rfl
theorem q_sel_X2_isMissing : Cond.selects RX2 yX2_isMissing yX2_isMissing ∈ WL := wl_3 152 rfl rfl
theorem q_code_X2_isMissing : Cond.code yX2_isMissing cX2_isMissing 1 (some .boolean) ∈ WL := wl_3 153 rfl rfl
theorem q_fn_X7_219 : Cond.fieldLinkNest RX7 219 (TX2 2).1 (TX2 2).2.1 (TX2 2).2.2.1 "FridaySlips" ∈ NL := nl_1 145 rfl rfl
theorem q_fn_X7_220 : Cond.fieldLinkNest RX7 220 (TX2 0).1 (TX2 0).2.1 (TX2 0).2.2.1 "FridaySlips" ∈ NL := nl_1 141 rfl rfl
theorem q_ml_X7_224 : Cond.methodLink RX7 224 yX2_put ∈ WL := wl_3 154 rfl rfl
theorem q_instanceMethod_X2_put : Cond.instanceMethod yX2_put ∈ WL := wl_3 155 rfl rfl
theorem q_sel_X2_put : Cond.selects RX2 yX2_put yX2_put ∈ WL := wl_3 156 rfl rfl
theorem q_code_X2_put : Cond.code yX2_put cX2_put 4 none ∈ WL := wl_3 157 rfl rfl
theorem q_fn_X7_228 : Cond.fieldLinkNest RX7 228 (TX2 1).1 (TX2 1).2.1 (TX2 1).2.2.1 "FridaySlips" ∈ NL := nl_1 143 rfl rfl
theorem q_ml_X7_231 : Cond.methodLink RX7 231 yX2_hasRun ∈ WL := wl_3 162 rfl rfl
theorem q_instanceMethod_X2_hasRun : Cond.instanceMethod yX2_hasRun ∈ WL := wl_3 163 rfl rfl
theorem q_sel_X2_hasRun : Cond.selects RX2 yX2_hasRun yX2_hasRun ∈ WL := wl_3 164 rfl rfl
theorem q_code_X2_hasRun : Cond.code yX2_hasRun cX2_hasRun 3 (some .boolean) ∈ WL := wl_3 165 rfl rfl
theorem q_ml_X7_234 : Cond.methodLink RX7 234 arraycopyName ∈ WL := wl_3 166 rfl rfl
theorem q_ml_X7_240 : Cond.methodLink RX7 240 yX7_isRightLot ∈ WL := wl_3 171 rfl rfl
theorem q_instanceMethod_X7_isRightLot : Cond.instanceMethod yX7_isRightLot ∈ WL := wl_3 173 rfl rfl
theorem q_sel_X7_isRightLot : Cond.selects RX7 yX7_isRightLot yX7_isRightLot ∈ WL := wl_p 14 rfl rfl
theorem q_code_X7_isRightLot : Cond.code yX7_isRightLot cX7_isRightLot 6 (some .boolean) ∈ WL := wl_3 174 rfl rfl
theorem q_ml_X7_253 : Cond.methodLink RX7 253 Lib.Math.min.name ∈ WL := wl_3 187 rfl rfl
theorem q_ml_X7_244 : Cond.methodLink RX7 244 yX7_fitsWith ∈ WL := wl_3 183 rfl rfl
theorem q_instanceMethod_X7_fitsWith : Cond.instanceMethod yX7_fitsWith ∈ WL := wl_3 185 rfl rfl
theorem q_sel_X7_fitsWith : Cond.selects RX7 yX7_fitsWith yX7_fitsWith ∈ WL := wl_p 15 rfl rfl
theorem q_code_X7_fitsWith : Cond.code yX7_fitsWith cX7_fitsWith 6 (some .boolean) ∈ WL := wl_3 186 rfl rfl
theorem q_fl_X7_16 : Cond.fieldLink RX7 16 (TX7 1).1 (TX7 1).2.1 (TX7 1).2.2.1 ∈ WL := wl_1 155 rfl rfl
theorem q_fl_X7_248 : Cond.fieldLink RX7 248 (TX7 8).1 (TX7 8).2.1 (TX7 8).2.2.1 ∈ WL := wl_1 162 rfl rfl
theorem q_fl_X8_13 : Cond.fieldLink RX8 13 (TX8 1).1 (TX8 1).2.1 (TX8 1).2.2.1 ∈ WL := wl_3 215 rfl rfl
theorem q_k_X8_56 : Cond.constant RX8 56 (-1000000001) ∈ WL := wl_4 54 rfl rfl
theorem q_fl_X8_7 : Cond.fieldLink RX8 7 (TX8 0).1 (TX8 0).2.1 (TX8 0).2.2.1 ∈ WL := wl_3 214 rfl rfl
theorem q_ml_X8_57 : Cond.methodLink RX8 57 yX8_in ∈ WL := wl_4 51 rfl rfl
theorem q_static_X8_in : Cond.static yX8_in ∈ WL := wl_4 52 rfl rfl
theorem q_ini_FridaySlipsModel : Cond.initialized "FridaySlipsModel" ∈ WL := wl_1 7 rfl rfl
theorem q_code_X8_in : Cond.code yX8_in cX8_in 3 (some .boolean) ∈ WL := wl_4 53 rfl rfl
theorem q_ml_X8_61 : Cond.methodLink RX8 61 yX8_its ∈ WL := wl_4 76 rfl rfl
theorem q_instanceMethod_X8_its : Cond.instanceMethod yX8_its ∈ WL := wl_4 78 rfl rfl
theorem q_sel_X8_its : Cond.selects RX8 yX8_its yX8_its ∈ WL := wl_p 20 rfl rfl
theorem q_code_X8_its : Cond.code yX8_its cX8_its 3 (some .int) ∈ WL := wl_4 79 rfl rfl
theorem q_ml_X8_65 : Cond.methodLink RX8 65 yX8_isChild ∈ WL := wl_4 122 rfl rfl
theorem q_instanceMethod_X8_isChild : Cond.instanceMethod yX8_isChild ∈ WL := wl_4 124 rfl rfl
theorem q_sel_X8_isChild : Cond.selects RX8 yX8_isChild yX8_isChild ∈ WL := wl_p 26 rfl rfl
theorem q_code_X8_isChild : Cond.code yX8_isChild cX8_isChild 2 (some .boolean) ∈ WL := wl_4 125 rfl rfl
theorem q_ml_X8_69 : Cond.methodLink RX8 69 yX8_earnsAs ∈ WL := wl_4 84 rfl rfl
theorem q_instanceMethod_X8_earnsAs : Cond.instanceMethod yX8_earnsAs ∈ WL := wl_4 86 rfl rfl
theorem q_sel_X8_earnsAs : Cond.selects RX8 yX8_earnsAs yX8_earnsAs ∈ WL := wl_p 22 rfl rfl
theorem q_code_X8_earnsAs : Cond.code yX8_earnsAs cX8_earnsAs 6 (some .int) ∈ WL := wl_4 87 rfl rfl
theorem q_ml_X8_72 : Cond.methodLink RX8 72 yX8_earns ∈ WL := wl_4 80 rfl rfl
theorem q_instanceMethod_X8_earns : Cond.instanceMethod yX8_earns ∈ WL := wl_4 82 rfl rfl
theorem q_sel_X8_earns : Cond.selects RX8 yX8_earns yX8_earns ∈ WL := wl_p 21 rfl rfl
theorem q_code_X8_earns : Cond.code yX8_earns cX8_earns 2 (some .int) ∈ WL := wl_4 83 rfl rfl
theorem q_ml_X8_76 : Cond.methodLink RX8 76 yX8_puts ∈ WL := wl_4 64 rfl rfl
theorem q_instanceMethod_X8_puts : Cond.instanceMethod yX8_puts ∈ WL := wl_4 66 rfl rfl
theorem q_sel_X8_puts : Cond.selects RX8 yX8_puts yX8_puts ∈ WL := wl_p 18 rfl rfl
theorem q_code_X8_puts : Cond.code yX8_puts cX8_puts 4 none ∈ WL := wl_4 67 rfl rfl
theorem q_ml_X8_80 : Cond.methodLink RX8 80 yX8_isKind ∈ WL := wl_4 48 rfl rfl
theorem q_static_X8_isKind : Cond.static yX8_isKind ∈ WL := wl_4 49 rfl rfl
theorem q_code_X8_isKind : Cond.code yX8_isKind cX8_isKind 1 (some .boolean) ∈ WL := wl_4 50 rfl rfl
theorem q_ml_X8_87 : Cond.methodLink RX8 87 yX8_adds ∈ WL := wl_4 60 rfl rfl
theorem q_instanceMethod_X8_adds : Cond.instanceMethod yX8_adds ∈ WL := wl_4 62 rfl rfl
theorem q_sel_X8_adds : Cond.selects RX8 yX8_adds yX8_adds ∈ WL := wl_p 17 rfl rfl
theorem q_code_X8_adds : Cond.code yX8_adds cX8_adds 6 none ∈ WL := wl_4 63 rfl rfl
theorem q_k_X8_86 : Cond.constant RX8 86 (-1000000002) ∈ WL := wl_4 59 rfl rfl
theorem q_ml_X8_83 : Cond.methodLink RX8 83 yX8_finds ∈ WL := wl_4 55 rfl rfl
theorem q_instanceMethod_X8_finds : Cond.instanceMethod yX8_finds ∈ WL := wl_4 57 rfl rfl
theorem q_sel_X8_finds : Cond.selects RX8 yX8_finds yX8_finds ∈ WL := wl_p 16 rfl rfl
theorem q_code_X8_finds : Cond.code yX8_finds cX8_finds 2 (some .int) ∈ WL := wl_4 58 rfl rfl
theorem q_ml_X8_91 : Cond.methodLink RX8 91 yX8_isOne ∈ WL := wl_4 72 rfl rfl
theorem q_instanceMethod_X8_isOne : Cond.instanceMethod yX8_isOne ∈ WL := wl_4 74 rfl rfl
theorem q_sel_X8_isOne : Cond.selects RX8 yX8_isOne yX8_isOne ∈ WL := wl_p 19 rfl rfl
theorem q_code_X8_isOne : Cond.code yX8_isOne cX8_isOne 2 (some .boolean) ∈ WL := wl_4 75 rfl rfl
theorem q_ml_X8_94 : Cond.methodLink RX8 94 yX8_saysAs ∈ WL := wl_4 92 rfl rfl
theorem q_instanceMethod_X8_saysAs : Cond.instanceMethod yX8_saysAs ∈ WL := wl_4 94 rfl rfl
theorem q_sel_X8_saysAs : Cond.selects RX8 yX8_saysAs yX8_saysAs ∈ WL := wl_p 23 rfl rfl
theorem q_code_X8_saysAs : Cond.code yX8_saysAs cX8_saysAs 4 (some .int) ∈ WL := wl_4 95 rfl rfl
theorem q_ml_X8_98 : Cond.methodLink RX8 98 yX8_becomes ∈ WL := wl_4 101 rfl rfl
theorem q_instanceMethod_X8_becomes : Cond.instanceMethod yX8_becomes ∈ WL := wl_4 103 rfl rfl
theorem q_sel_X8_becomes : Cond.selects RX8 yX8_becomes yX8_becomes ∈ WL := wl_p 24 rfl rfl
theorem q_code_X8_becomes : Cond.code yX8_becomes cX8_becomes 4 (some .int) ∈ WL := wl_4 104 rfl rfl
theorem q_k_X8_97 : Cond.constant RX8 97 (99999) ∈ WL := wl_4 100 rfl rfl
theorem q_k_X8_101 : Cond.constant RX8 101 (-1000000003) ∈ WL := wl_4 113 rfl rfl
theorem q_ml_X8_102 : Cond.methodLink RX8 102 yX8_areAlike ∈ WL := wl_4 118 rfl rfl
theorem q_instanceMethod_X8_areAlike : Cond.instanceMethod yX8_areAlike ∈ WL := wl_4 120 rfl rfl
theorem q_sel_X8_areAlike : Cond.selects RX8 yX8_areAlike yX8_areAlike ∈ WL := wl_p 25 rfl rfl
theorem q_code_X8_areAlike : Cond.code yX8_areAlike cX8_areAlike 3 (some .boolean) ∈ WL := wl_4 121 rfl rfl
theorem q_ml_X8_107 : Cond.methodLink RX8 107 yX8_swaps ∈ WL := wl_4 127 rfl rfl
theorem q_instanceMethod_X8_swaps : Cond.instanceMethod yX8_swaps ∈ WL := wl_4 129 rfl rfl
theorem q_sel_X8_swaps : Cond.selects RX8 yX8_swaps yX8_swaps ∈ WL := wl_p 27 rfl rfl
theorem q_code_X8_swaps : Cond.code yX8_swaps cX8_swaps 4 none ∈ WL := wl_4 130 rfl rfl
theorem q_ml_X8_111 : Cond.methodLink RX8 111 yX8_ownSet ∈ WL := wl_4 131 rfl rfl
theorem q_instanceMethod_X8_ownSet : Cond.instanceMethod yX8_ownSet ∈ WL := wl_4 133 rfl rfl
theorem q_sel_X8_ownSet : Cond.selects RX8 yX8_ownSet yX8_ownSet ∈ WL := wl_p 28 rfl rfl
theorem q_code_X8_ownSet : Cond.code yX8_ownSet cX8_ownSet 3 (some .int) ∈ WL := wl_4 134 rfl rfl
theorem q_ml_X8_115 : Cond.methodLink RX8 115 yX8_bits ∈ WL := wl_4 135 rfl rfl
theorem q_static_X8_bits : Cond.static yX8_bits ∈ WL := wl_4 136 rfl rfl
theorem q_code_X8_bits : Cond.code yX8_bits cX8_bits 3 (some .int) ∈ WL := wl_4 137 rfl rfl
theorem q_k_X8_106 : Cond.constant RX8 106 (-1000000005) ∈ WL := wl_4 126 rfl rfl
theorem q_ml_X8_118 : Cond.methodLink RX8 118 yX8_allOwn ∈ WL := wl_4 142 rfl rfl
theorem q_instanceMethod_X8_allOwn : Cond.instanceMethod yX8_allOwn ∈ WL := wl_4 144 rfl rfl
theorem q_sel_X8_allOwn : Cond.selects RX8 yX8_allOwn yX8_allOwn ∈ WL := wl_p 29 rfl rfl
theorem q_code_X8_allOwn : Cond.code yX8_allOwn cX8_allOwn 2 none ∈ WL := wl_4 145 rfl rfl
theorem q_k_X8_121 : Cond.constant RX8 121 (1103515245) ∈ WL := wl_4 162 rfl rfl
theorem q_fl_X8_16 : Cond.fieldLink RX8 16 (TX8 2).1 (TX8 2).2.1 (TX8 2).2.2.1 ∈ WL := wl_3 216 rfl rfl
theorem q_ml_X8_122 : Cond.methodLink RX8 122 yX8_drawn ∈ WL := wl_4 158 rfl rfl
theorem q_instanceMethod_X8_drawn : Cond.instanceMethod yX8_drawn ∈ WL := wl_4 160 rfl rfl
theorem q_sel_X8_drawn : Cond.selects RX8 yX8_drawn yX8_drawn ∈ WL := wl_p 32 rfl rfl
theorem q_code_X8_drawn : Cond.code yX8_drawn cX8_drawn 2 (some .int) ∈ WL := wl_4 161 rfl rfl
theorem q_ml_X8_125 : Cond.methodLink RX8 125 yX8_drawsOf ∈ WL := wl_4 154 rfl rfl
theorem q_instanceMethod_X8_drawsOf : Cond.instanceMethod yX8_drawsOf ∈ WL := wl_4 156 rfl rfl
theorem q_sel_X8_drawsOf : Cond.selects RX8 yX8_drawsOf yX8_drawsOf ∈ WL := wl_p 31 rfl rfl
theorem q_code_X8_drawsOf : Cond.code yX8_drawsOf cX8_drawsOf 4 none ∈ WL := wl_4 157 rfl rfl
theorem q_ml_X8_129 : Cond.methodLink RX8 129 yX8_draws ∈ WL := wl_4 150 rfl rfl
theorem q_instanceMethod_X8_draws : Cond.instanceMethod yX8_draws ∈ WL := wl_4 152 rfl rfl
theorem q_sel_X8_draws : Cond.selects RX8 yX8_draws yX8_draws ∈ WL := wl_p 30 rfl rfl
theorem q_code_X8_draws : Cond.code yX8_draws cX8_draws 1 none ∈ WL := wl_4 153 rfl rfl
theorem q_fl_X8_19 : Cond.fieldLink RX8 19 (TX8 3).1 (TX8 3).2.1 (TX8 3).2.2.1 ∈ WL := wl_3 217 rfl rfl
theorem q_ml_X8_135 : Cond.methodLink RX8 135 yX8_held ∈ WL := wl_4 179 rfl rfl
theorem q_static_X8_held : Cond.static yX8_held ∈ WL := wl_4 180 rfl rfl
theorem q_code_X8_held : Cond.code yX8_held cX8_held 3 (some .int) ∈ WL := wl_4 181 rfl rfl
theorem q_fl_X8_22 : Cond.fieldLink RX8 22 (TX8 4).1 (TX8 4).2.1 (TX8 4).2.2.1 ∈ WL := wl_3 218 rfl rfl
theorem q_fl_X8_25 : Cond.fieldLink RX8 25 (TX8 5).1 (TX8 5).2.1 (TX8 5).2.2.1 ∈ WL := wl_3 219 rfl rfl
theorem q_ml_X8_132 : Cond.methodLink RX8 132 yX8_hearsAs ∈ WL := wl_4 175 rfl rfl
theorem q_instanceMethod_X8_hearsAs : Cond.instanceMethod yX8_hearsAs ∈ WL := wl_4 177 rfl rfl
theorem q_sel_X8_hearsAs : Cond.selects RX8 yX8_hearsAs yX8_hearsAs ∈ WL := wl_p 34 rfl rfl
theorem q_code_X8_hearsAs : Cond.code yX8_hearsAs cX8_hearsAs 4 (some .int) ∈ WL := wl_4 178 rfl rfl
theorem q_ml_X8_142 : Cond.methodLink RX8 142 yX8_sumOf ∈ WL := wl_4 182 rfl rfl
theorem q_instanceMethod_X8_sumOf : Cond.instanceMethod yX8_sumOf ∈ WL := wl_4 184 rfl rfl
theorem q_sel_X8_sumOf : Cond.selects RX8 yX8_sumOf yX8_sumOf ∈ WL := wl_p 35 rfl rfl
theorem q_code_X8_sumOf : Cond.code yX8_sumOf cX8_sumOf 4 (some .int) ∈ WL := wl_4 185 rfl rfl
theorem q_ml_X8_139 : Cond.methodLink RX8 139 yX8_oneFriday ∈ WL := wl_4 171 rfl rfl
theorem q_instanceMethod_X8_oneFriday : Cond.instanceMethod yX8_oneFriday ∈ WL := wl_4 173 rfl rfl
theorem q_sel_X8_oneFriday : Cond.selects RX8 yX8_oneFriday yX8_oneFriday ∈ WL := wl_p 33 rfl rfl
theorem q_code_X8_oneFriday : Cond.code yX8_oneFriday cX8_oneFriday 3 none ∈ WL := wl_4 174 rfl rfl
theorem q_ml_X8_145 : Cond.methodLink RX8 145 yX8_children ∈ WL := wl_4 194 rfl rfl
theorem q_instanceMethod_X8_children : Cond.instanceMethod yX8_children ∈ WL := wl_4 196 rfl rfl
theorem q_sel_X8_children : Cond.selects RX8 yX8_children yX8_children ∈ WL := wl_p 36 rfl rfl
theorem q_code_X8_children : Cond.code yX8_children cX8_children 3 (some .int) ∈ WL := wl_4 197 rfl rfl
theorem q_ml_X8_148 : Cond.methodLink RX8 148 yX8_earnAll ∈ WL := wl_4 198 rfl rfl
theorem q_instanceMethod_X8_earnAll : Cond.instanceMethod yX8_earnAll ∈ WL := wl_4 200 rfl rfl
theorem q_sel_X8_earnAll : Cond.selects RX8 yX8_earnAll yX8_earnAll ∈ WL := wl_p 37 rfl rfl
theorem q_code_X8_earnAll : Cond.code yX8_earnAll cX8_earnAll 3 (some .int) ∈ WL := wl_4 201 rfl rfl
theorem q_ml_X8_151 : Cond.methodLink RX8 151 yX8_isRight ∈ WL := wl_4 202 rfl rfl
theorem q_instanceMethod_X8_isRight : Cond.instanceMethod yX8_isRight ∈ WL := wl_4 204 rfl rfl
theorem q_sel_X8_isRight : Cond.selects RX8 yX8_isRight yX8_isRight ∈ WL := wl_p 38 rfl rfl
theorem q_code_X8_isRight : Cond.code yX8_isRight cX8_isRight 3 (some .boolean) ∈ WL := wl_4 205 rfl rfl
theorem q_ml_X8_155 : Cond.methodLink RX8 155 yX8_whoHas ∈ WL := wl_4 210 rfl rfl
theorem q_instanceMethod_X8_whoHas : Cond.instanceMethod yX8_whoHas ∈ WL := wl_4 212 rfl rfl
theorem q_sel_X8_whoHas : Cond.selects RX8 yX8_whoHas yX8_whoHas ∈ WL := wl_p 39 rfl rfl
theorem q_code_X8_whoHas : Cond.code yX8_whoHas cX8_whoHas 3 (some .int) ∈ WL := wl_4 213 rfl rfl
theorem q_ml_X8_158 : Cond.methodLink RX8 158 yX8_ringOf ∈ WL := wl_4 218 rfl rfl
theorem q_instanceMethod_X8_ringOf : Cond.instanceMethod yX8_ringOf ∈ WL := wl_4 220 rfl rfl
theorem q_sel_X8_ringOf : Cond.selects RX8 yX8_ringOf yX8_ringOf ∈ WL := wl_p 40 rfl rfl
theorem q_code_X8_ringOf : Cond.code yX8_ringOf cX8_ringOf 4 (some .int) ∈ WL := wl_4 221 rfl rfl
theorem q_fl_X8_28 : Cond.fieldLink RX8 28 (TX8 6).1 (TX8 6).2.1 (TX8 6).2.2.1 ∈ WL := wl_3 220 rfl rfl
theorem q_ml_X8_161 : Cond.methodLink RX8 161 yX8_moveAll ∈ WL := wl_4 234 rfl rfl
theorem q_instanceMethod_X8_moveAll : Cond.instanceMethod yX8_moveAll ∈ WL := wl_4 236 rfl rfl
theorem q_sel_X8_moveAll : Cond.selects RX8 yX8_moveAll yX8_moveAll ∈ WL := wl_p 41 rfl rfl
theorem q_code_X8_moveAll : Cond.code yX8_moveAll cX8_moveAll 4 none ∈ WL := wl_4 237 rfl rfl
theorem q_k_X8_165 : Cond.constant RX8 165 (-1000000004) ∈ WL := wl_5 2 rfl rfl
theorem q_fl_X8_31 : Cond.fieldLink RX8 31 (TX8 7).1 (TX8 7).2.1 (TX8 7).2.2.1 ∈ WL := wl_3 221 rfl rfl
theorem q_ml_X8_166 : Cond.methodLink RX8 166 yX8_findMost ∈ WL := wl_5 7 rfl rfl
theorem q_instanceMethod_X8_findMost : Cond.instanceMethod yX8_findMost ∈ WL := wl_5 9 rfl rfl
theorem q_sel_X8_findMost : Cond.selects RX8 yX8_findMost yX8_findMost ∈ WL := wl_p 42 rfl rfl
theorem q_code_X8_findMost : Cond.code yX8_findMost cX8_findMost 7 none ∈ WL := wl_5 10 rfl rfl
theorem q_ml_X8_169 : Cond.methodLink RX8 169 yX8_ways ∈ WL := wl_5 31 rfl rfl
theorem q_static_X8_ways : Cond.static yX8_ways ∈ WL := wl_5 32 rfl rfl
theorem q_code_X8_ways : Cond.code yX8_ways cX8_ways 5 (some .int) ∈ WL := wl_5 33 rfl rfl
theorem q_ml_X8_172 : Cond.methodLink RX8 172 yX8_all ∈ WL := wl_5 34 rfl rfl
theorem q_static_X8_all : Cond.static yX8_all ∈ WL := wl_5 35 rfl rfl
theorem q_code_X8_all : Cond.code yX8_all cX8_all 3 (some .int) ∈ WL := wl_5 36 rfl rfl
theorem q_ml_X8_175 : Cond.methodLink RX8 175 yX8_divisor ∈ WL := wl_5 37 rfl rfl
theorem q_static_X8_divisor : Cond.static yX8_divisor ∈ WL := wl_5 38 rfl rfl
theorem q_code_X8_divisor : Cond.code yX8_divisor cX8_divisor 5 (some .int) ∈ WL := wl_5 39 rfl rfl
theorem q_fl_X8_178 : Cond.fieldLink RX8 178 (TX8 9).1 (TX8 9).2.1 (TX8 9).2.2.1 ∈ WL := wl_3 223 rfl rfl
theorem q_fl_X8_34 : Cond.fieldLink RX8 34 (TX8 8).1 (TX8 8).2.1 (TX8 8).2.2.1 ∈ WL := wl_3 222 rfl rfl
theorem q_fl_X8_182 : Cond.fieldLink RX8 182 (TX8 12).1 (TX8 12).2.1 (TX8 12).2.2.1 ∈ WL := wl_3 226 rfl rfl
theorem q_fl_X8_185 : Cond.fieldLink RX8 185 (TX8 11).1 (TX8 11).2.1 (TX8 11).2.2.1 ∈ WL := wl_3 225 rfl rfl
theorem q_ml_X8_188 : Cond.methodLink RX8 188 yX8_byteAt ∈ WL := wl_5 60 rfl rfl
theorem q_instanceMethod_X8_byteAt : Cond.instanceMethod yX8_byteAt ∈ WL := wl_5 62 rfl rfl
theorem q_sel_X8_byteAt : Cond.selects RX8 yX8_byteAt yX8_byteAt ∈ WL := wl_p 44 rfl rfl
theorem q_code_X8_byteAt : Cond.code yX8_byteAt cX8_byteAt 2 (some .int) ∈ WL := wl_5 63 rfl rfl
theorem q_ml_X8_191 : Cond.methodLink RX8 191 yX8_isLetter ∈ WL := wl_5 64 rfl rfl
theorem q_static_X8_isLetter : Cond.static yX8_isLetter ∈ WL := wl_5 65 rfl rfl
theorem q_code_X8_isLetter : Cond.code yX8_isLetter cX8_isLetter 1 (some .boolean) ∈ WL := wl_5 66 rfl rfl
theorem q_ml_X8_194 : Cond.methodLink RX8 194 yX8_isDigit ∈ WL := wl_5 67 rfl rfl
theorem q_static_X8_isDigit : Cond.static yX8_isDigit ∈ WL := wl_5 68 rfl rfl
theorem q_code_X8_isDigit : Cond.code yX8_isDigit cX8_isDigit 1 (some .boolean) ∈ WL := wl_5 69 rfl rfl
theorem q_fl_X8_197 : Cond.fieldLink RX8 197 (TX8 10).1 (TX8 10).2.1 (TX8 10).2.2.1 ∈ WL := wl_3 224 rfl rfl
theorem q_fl_X8_200 : Cond.fieldLink RX8 200 (TX8 13).1 (TX8 13).2.1 (TX8 13).2.2.1 ∈ WL := wl_3 227 rfl rfl
theorem q_fl_X8_204 : Cond.fieldLink RX8 204 (TX8 14).1 (TX8 14).2.1 (TX8 14).2.2.1 ∈ WL := wl_3 228 rfl rfl
theorem q_l_X8_211 : Cond.constantLong RX8 211 (-1) ∈ WL := wl_5 72 rfl rfl
theorem q_l_X8_207 : Cond.constantLong RX8 207 (27) ∈ WL := wl_5 70 rfl rfl
theorem q_l_X8_209 : Cond.constantLong RX8 209 (96) ∈ WL := wl_5 71 rfl rfl
theorem q_l_X8_213 : Cond.constantLong RX8 213 (233793143982) ∈ WL := wl_5 81 rfl rfl
theorem q_ml_X8_215 : Cond.methodLink RX8 215 yX8_isWord ∈ WL := wl_5 82 rfl rfl
theorem q_instanceMethod_X8_isWord : Cond.instanceMethod yX8_isWord ∈ WL := wl_5 84 rfl rfl
theorem q_sel_X8_isWord : Cond.selects RX8 yX8_isWord yX8_isWord ∈ WL := wl_p 47 rfl rfl
theorem q_code_X8_isWord : Cond.code yX8_isWord cX8_isWord 3 (some .boolean) ∈ WL := wl_5 85 rfl rfl
theorem q_l_X8_219 : Cond.constantLong RX8 219 (10360367) ∈ WL := wl_5 86 rfl rfl
theorem q_l_X8_221 : Cond.constantLong RX8 221 (14092) ∈ WL := wl_5 87 rfl rfl
theorem q_l_X8_223 : Cond.constantLong RX8 223 (1758676) ∈ WL := wl_5 88 rfl rfl
theorem q_l_X8_225 : Cond.constantLong RX8 225 (239329775) ∈ WL := wl_5 89 rfl rfl
theorem q_l_X8_227 : Cond.constantLong RX8 227 (10792986) ∈ WL := wl_5 90 rfl rfl
theorem q_fl_X8_229 : Cond.fieldLink RX8 229 (TX8 15).1 (TX8 15).2.1 (TX8 15).2.2.1 ∈ WL := wl_3 229 rfl rfl
theorem q_ml_X8_233 : Cond.methodLink RX8 233 yX8_advance ∈ WL := wl_5 56 rfl rfl
theorem q_instanceMethod_X8_advance : Cond.instanceMethod yX8_advance ∈ WL := wl_5 58 rfl rfl
theorem q_sel_X8_advance : Cond.selects RX8 yX8_advance yX8_advance ∈ WL := wl_p 43 rfl rfl
theorem q_code_X8_advance : Cond.code yX8_advance cX8_advance 2 none ∈ WL := wl_5 59 rfl rfl
theorem q_ml_X8_236 : Cond.methodLink RX8 236 yX8_wantNumber ∈ WL := wl_5 100 rfl rfl
theorem q_instanceMethod_X8_wantNumber : Cond.instanceMethod yX8_wantNumber ∈ WL := wl_5 102 rfl rfl
theorem q_sel_X8_wantNumber : Cond.selects RX8 yX8_wantNumber yX8_wantNumber ∈ WL := wl_p 50 rfl rfl
theorem q_code_X8_wantNumber : Cond.code yX8_wantNumber cX8_wantNumber 4 (some .int) ∈ WL := wl_5 103 rfl rfl
theorem q_l_X8_239 : Cond.constantLong RX8 239 (464141) ∈ WL := wl_5 95 rfl rfl
theorem q_ml_X8_241 : Cond.methodLink RX8 241 yX8_mayWant ∈ WL := wl_5 96 rfl rfl
theorem q_instanceMethod_X8_mayWant : Cond.instanceMethod yX8_mayWant ∈ WL := wl_5 98 rfl rfl
theorem q_sel_X8_mayWant : Cond.selects RX8 yX8_mayWant yX8_mayWant ∈ WL := wl_p 49 rfl rfl
theorem q_code_X8_mayWant : Cond.code yX8_mayWant cX8_mayWant 6 (some .int) ∈ WL := wl_5 99 rfl rfl
theorem q_l_X8_245 : Cond.constantLong RX8 245 (8930039) ∈ WL := wl_5 104 rfl rfl
theorem q_l_X8_247 : Cond.constantLong RX8 247 (276647) ∈ WL := wl_5 105 rfl rfl
theorem q_l_X8_249 : Cond.constantLong RX8 249 (262) ∈ WL := wl_5 111 rfl rfl
theorem q_ml_X8_251 : Cond.methodLink RX8 251 yX8_kindHere ∈ WL := wl_5 77 rfl rfl
theorem q_instanceMethod_X8_kindHere : Cond.instanceMethod yX8_kindHere ∈ WL := wl_5 79 rfl rfl
theorem q_sel_X8_kindHere : Cond.selects RX8 yX8_kindHere yX8_kindHere ∈ WL := wl_p 46 rfl rfl
theorem q_code_X8_kindHere : Cond.code yX8_kindHere cX8_kindHere 1 (some .int) ∈ WL := wl_5 80 rfl rfl
theorem q_l_X8_258 : Cond.constantLong RX8 258 (382984) ∈ WL := wl_5 106 rfl rfl
theorem q_ml_X8_260 : Cond.methodLink RX8 260 yX8_wantSlip ∈ WL := wl_5 107 rfl rfl
theorem q_instanceMethod_X8_wantSlip : Cond.instanceMethod yX8_wantSlip ∈ WL := wl_5 109 rfl rfl
theorem q_sel_X8_wantSlip : Cond.selects RX8 yX8_wantSlip yX8_wantSlip ∈ WL := wl_p 51 rfl rfl
theorem q_code_X8_wantSlip : Cond.code yX8_wantSlip cX8_wantSlip 3 none ∈ WL := wl_5 110 rfl rfl
theorem q_ml_X8_254 : Cond.methodLink RX8 254 yX8_wantPerson ∈ WL := wl_5 91 rfl rfl
theorem q_instanceMethod_X8_wantPerson : Cond.instanceMethod yX8_wantPerson ∈ WL := wl_5 93 rfl rfl
theorem q_sel_X8_wantPerson : Cond.selects RX8 yX8_wantPerson yX8_wantPerson ∈ WL := wl_p 48 rfl rfl
theorem q_code_X8_wantPerson : Cond.code yX8_wantPerson cX8_wantPerson 5 none ∈ WL := wl_5 94 rfl rfl
theorem q_fl_X8_53 : Cond.fieldLink RX8 53 (TX8 21).1 (TX8 21).2.1 (TX8 21).2.2.1 ∈ WL := wl_3 235 rfl rfl
theorem q_ml_X8_263 : Cond.methodLink RX8 263 yX8_wantItem ∈ WL := wl_5 73 rfl rfl
theorem q_instanceMethod_X8_wantItem : Cond.instanceMethod yX8_wantItem ∈ WL := wl_5 75 rfl rfl
theorem q_sel_X8_wantItem : Cond.selects RX8 yX8_wantItem yX8_wantItem ∈ WL := wl_p 45 rfl rfl
theorem q_code_X8_wantItem : Cond.code yX8_wantItem cX8_wantItem 1 none ∈ WL := wl_5 76 rfl rfl
theorem q_ml_X8_266 : Cond.methodLink RX8 266 yX8_isSheet ∈ WL := wl_5 116 rfl rfl
theorem q_static_X8_isSheet : Cond.static yX8_isSheet ∈ WL := wl_5 117 rfl rfl
theorem q_code_X8_isSheet : Cond.code yX8_isSheet cX8_isSheet 1 (some .boolean) ∈ WL := wl_5 118 rfl rfl
theorem q_fl_X8_37 : Cond.fieldLink RX8 37 (TX8 16).1 (TX8 16).2.1 (TX8 16).2.2.1 ∈ WL := wl_3 230 rfl rfl
theorem q_fl_X8_40 : Cond.fieldLink RX8 40 (TX8 17).1 (TX8 17).2.1 (TX8 17).2.2.1 ∈ WL := wl_3 231 rfl rfl
theorem q_fl_X8_43 : Cond.fieldLink RX8 43 (TX8 18).1 (TX8 18).2.1 (TX8 18).2.2.1 ∈ WL := wl_3 232 rfl rfl
theorem q_k_X8_269 : Cond.constant RX8 269 (-1000000007) ∈ WL := wl_5 119 rfl rfl
theorem q_ml_X8_271 : Cond.methodLink RX8 271 yX8_narrow ∈ WL := wl_5 125 rfl rfl
theorem q_static_X8_narrow : Cond.static yX8_narrow ∈ WL := wl_5 126 rfl rfl
theorem q_code_X8_narrow : Cond.code yX8_narrow cX8_narrow 3 (some .long) ∈ WL := wl_5 127 rfl rfl
theorem q_k_X8_270 : Cond.constant RX8 270 (-1000000006) ∈ WL := wl_5 124 rfl rfl
theorem q_ml_X8_275 : Cond.methodLink RX8 275 yX8_isPart ∈ WL := wl_5 132 rfl rfl
theorem q_instanceMethod_X8_isPart : Cond.instanceMethod yX8_isPart ∈ WL := wl_5 134 rfl rfl
theorem q_sel_X8_isPart : Cond.selects RX8 yX8_isPart yX8_isPart ∈ WL := wl_p 52 rfl rfl
theorem q_code_X8_isPart : Cond.code yX8_isPart cX8_isPart 4 (some .boolean) ∈ WL := wl_5 135 rfl rfl
theorem q_fl_X8_47 : Cond.fieldLink RX8 47 (TX8 19).1 (TX8 19).2.1 (TX8 19).2.2.1 ∈ WL := wl_3 233 rfl rfl
theorem q_ml_X8_278 : Cond.methodLink RX8 278 yX8_badSheet ∈ WL := wl_5 140 rfl rfl
theorem q_instanceMethod_X8_badSheet : Cond.instanceMethod yX8_badSheet ∈ WL := wl_5 142 rfl rfl
theorem q_sel_X8_badSheet : Cond.selects RX8 yX8_badSheet yX8_badSheet ∈ WL := wl_p 53 rfl rfl
theorem q_code_X8_badSheet : Cond.code yX8_badSheet cX8_badSheet 2 (some .int) ∈ WL := wl_5 143 rfl rfl
theorem q_ml_X8_281 : Cond.methodLink RX8 281 yX8_isSo ∈ WL := wl_5 152 rfl rfl
theorem q_instanceMethod_X8_isSo : Cond.instanceMethod yX8_isSo ∈ WL := wl_5 154 rfl rfl
theorem q_sel_X8_isSo : Cond.selects RX8 yX8_isSo yX8_isSo ∈ WL := wl_p 54 rfl rfl
theorem q_code_X8_isSo : Cond.code yX8_isSo cX8_isSo 4 (some .boolean) ∈ WL := wl_5 155 rfl rfl
theorem q_fl_X8_50 : Cond.fieldLink RX8 50 (TX8 20).1 (TX8 20).2.1 (TX8 20).2.2.1 ∈ WL := wl_3 234 rfl rfl
theorem q_fl_X8_284 : Cond.fieldLink RX8 284 (TX8 22).1 (TX8 22).2.1 (TX8 22).2.2.1 ∈ WL := wl_3 236 rfl rfl
theorem fk_X4_15 : FL RX4 15 3 3 := ⟨RX4, TX4, 13, rfl, by decide, by decide, Or.inl q_fl_X4_15, uX4⟩
theorem cv_X4_58 : CV RX4 58 RX4 yX4_isChild cX4_isChild 2 (some .boolean) 1 := ⟨q_ml_X4_58, q_instanceMethod_X4_isChild, q_sel_X4_isChild, q_ini_FridaySlips_Village, q_code_X4_isChild, ⟨by decide +kernel, by decide +kernel, by decide +kernel, by decide +kernel⟩⟩
theorem cm_X6_15 : CM RX6 15 Lib.Math.max.name Lib.Math.max.code := ⟨q_ml_X6_15, q_static_Mmax, q_ini_java_lang_Math, q_code_Mmax⟩
theorem fk_X4_19 : FL RX4 19 3 4 := ⟨RX4, TX4, 13, rfl, by decide, by decide, Or.inl q_fl_X4_19, uX4⟩
theorem fk_X4_25 : FL RX4 25 3 6 := ⟨RX4, TX4, 13, rfl, by decide, by decide, Or.inl q_fl_X4_25, uX4⟩
theorem fk_X4_28 : FL RX4 28 3 7 := ⟨RX4, TX4, 13, rfl, by decide, by decide, Or.inl q_fl_X4_28, uX4⟩
theorem cs_X4_66 : CS RX4 66 yX6_earned cX6_earned 8 (some .int) 5 := ⟨q_ml_X4_66, q_static_X6_earned, q_ini_FridaySlips_Ways, q_code_X6_earned, ⟨by decide +kernel, by decide +kernel, by decide +kernel⟩⟩
theorem cv_X4_62 : CV RX4 62 RX4 yX4_earningAs cX4_earningAs 4 (some .int) 3 := ⟨q_ml_X4_62, q_instanceMethod_X4_earningAs, q_sel_X4_earningAs, q_ini_FridaySlips_Village, q_code_X4_earningAs, ⟨by decide +kernel, by decide +kernel, by decide +kernel, by decide +kernel⟩⟩
theorem cv_X0_37 : CV RX0 37 RX4 yX4_areAlike cX4_areAlike 3 (some .boolean) 2 := ⟨q_ml_X0_37, q_instanceMethod_X4_areAlike, q_sel_X4_areAlike, q_ini_FridaySlips_Village, q_code_X4_areAlike, ⟨by decide +kernel, by decide +kernel, by decide +kernel, by decide +kernel⟩⟩
theorem fk_X0_9 : FL RX0 9 0 0 := ⟨RX0, TX0, 1, rfl, by decide, by decide, Or.inl q_fl_X0_9, uX0⟩
theorem cv_X0_41 : CV RX0 41 RX4 yX4_earning cX4_earning 3 (some .int) 2 := ⟨q_ml_X0_41, q_instanceMethod_X4_earning, q_sel_X4_earning, q_ini_FridaySlips_Village, q_code_X4_earning, ⟨by decide +kernel, by decide +kernel, by decide +kernel, by decide +kernel⟩⟩
theorem fk_X0_15 : FL RX0 15 3 2 := ⟨RX4, TX4, 13, rfl, by decide, by decide, Or.inr ⟨_, q_fn_X0_15⟩, uX4⟩
theorem cs_X0_21 : CS RX0 21 yJ6_bitCount_0f7a4 cJ6_bitCount_0f7a4 1 (some .int) 1 := ⟨q_ml_X0_21, q_static_J6_bitCount_0f7a4, q_ini_java_lang_Integer, q_code_J6_bitCount_0f7a4, ⟨by decide +kernel, by decide +kernel, by decide +kernel⟩⟩
theorem cv_X0_27 : CV RX0 27 RX0 yX0_mostWith cX0_mostWith 6 (some .int) 4 := ⟨q_ml_X0_27, q_instanceMethod_X0_mostWith, q_sel_X0_mostWith, q_ini_FridaySlips_BestLot, q_code_X0_mostWith, ⟨by decide +kernel, by decide +kernel, by decide +kernel, by decide +kernel⟩⟩
theorem cm_X0_31 : CM RX0 31 Lib.Math.max.name Lib.Math.max.code := ⟨q_ml_X0_31, q_static_Mmax, q_ini_java_lang_Math, q_code_Mmax⟩
theorem cv_X0_44 : CV RX0 44 RX0 yX0_leastBest cX0_leastBest 5 (some .int) 3 := ⟨q_ml_X0_44, q_instanceMethod_X0_leastBest, q_sel_X0_leastBest, q_ini_FridaySlips_BestLot, q_code_X0_leastBest, ⟨by decide +kernel, by decide +kernel, by decide +kernel, by decide +kernel⟩⟩
theorem cm_X1_16 : CM RX1 16 Lib.Math.max.name Lib.Math.max.code := ⟨q_ml_X1_16, q_static_Mmax, q_ini_java_lang_Math, q_code_Mmax⟩
theorem fk_X2_15 : FL RX2 15 1 1 := ⟨RX2, TX2, 3, rfl, by decide, by decide, Or.inl q_fl_X2_15, uX2⟩
theorem ft_1_1 {i : Nat} : FT i 1 1 .int := ⟨RX2, TX2, 3, tyX2, rfl, rfl, by decide +kernel, tyX2_ok, nmX2⟩
theorem fs_1_1 {G : GG} {M : Mem} {o : Nat} {x : Int32} : (fl G M o 1).set 1 (.int x) = fl G (w_I M o 1 x) o 1 := by simp [fl, m_I, m_J, w_I, w_J]
theorem fk_X2_19 : FL RX2 19 1 2 := ⟨RX2, TX2, 3, rfl, by decide, by decide, Or.inl q_fl_X2_19, uX2⟩
theorem ft_1_2 {i : Nat} : FT i 1 2 .int := ⟨RX2, TX2, 3, tyX2, rfl, rfl, by decide +kernel, tyX2_ok, nmX2⟩
theorem fs_1_2 {G : GG} {M : Mem} {o : Nat} {x : Int32} : (fl G M o 1).set 2 (.int x) = fl G (w_I M o 2 x) o 1 := by simp [fl, m_I, m_J, w_I, w_J]
theorem fk_X2_9 : FL RX2 9 1 0 := ⟨RX2, TX2, 3, rfl, by decide, by decide, Or.inl q_fl_X2_9, uX2⟩
theorem cs_X2_22 : CS RX2 22 yJ7_fill_d0a16 cJ7_fill_d0a16 5 none 2 := ⟨q_ml_X2_22, q_static_J7_fill_d0a16, q_ini_java_util_Arrays, q_code_J7_fill_d0a16, ⟨by decide +kernel, by decide +kernel, by decide +kernel⟩⟩
theorem fk_X3_9 : FL RX3 9 2 0 := ⟨RX3, TX3, 2, rfl, by decide, by decide, Or.inl q_fl_X3_9, uX3⟩
theorem fk_X3_15 : FL RX3 15 2 1 := ⟨RX3, TX3, 2, rfl, by decide, by decide, Or.inl q_fl_X3_15, uX3⟩
theorem ft_2_1 {i : Nat} : FT i 2 1 .int := ⟨RX3, TX3, 2, tyX3, rfl, rfl, by decide +kernel, tyX3_ok, nmX3⟩
theorem fs_2_1 {G : GG} {M : Mem} {o : Nat} {x : Int32} : (fl G M o 2).set 1 (.int x) = fl G (w_I M o 1 x) o 2 := by simp [fl, m_I, m_J, w_I, w_J]
theorem fk_X4_46 : FL RX4 46 3 0 := ⟨RX4, TX4, 13, rfl, by decide, by decide, Or.inl q_fl_X4_46, uX4⟩
theorem ft_3_0 {i : Nat} : FT i 3 0 .int := ⟨RX4, TX4, 13, tyX4, rfl, rfl, by decide +kernel, tyX4_ok, nmX4⟩
theorem fs_3_0 {G : GG} {M : Mem} {o : Nat} {x : Int32} : (fl G M o 3).set 0 (.int x) = fl G (w_I M o 0 x) o 3 := by simp [fl, m_I, m_J, w_I, w_J]
theorem fk_X4_9 : FL RX4 9 3 1 := ⟨RX4, TX4, 13, rfl, by decide, by decide, Or.inl q_fl_X4_9, uX4⟩
theorem ft_3_1 {i : Nat} : FT i 3 1 .int := ⟨RX4, TX4, 13, tyX4, rfl, rfl, by decide +kernel, tyX4_ok, nmX4⟩
theorem fs_3_1 {G : GG} {M : Mem} {o : Nat} {x : Int32} : (fl G M o 3).set 1 (.int x) = fl G (w_I M o 1 x) o 3 := by simp [fl, m_I, m_J, w_I, w_J]
theorem fk_X4_49 : FL RX4 49 3 2 := ⟨RX4, TX4, 13, rfl, by decide, by decide, Or.inl q_fl_X4_49, uX4⟩
theorem ft_3_2 {i : Nat} : FT i 3 2 .int := ⟨RX4, TX4, 13, tyX4, rfl, rfl, by decide +kernel, tyX4_ok, nmX4⟩
theorem fs_3_2 {G : GG} {M : Mem} {o : Nat} {x : Int32} : (fl G M o 3).set 2 (.int x) = fl G (w_I M o 2 x) o 3 := by simp [fl, m_I, m_J, w_I, w_J]
theorem ca_X4_52 : CA RX4 52 := ⟨q_ml_X4_52, q_native_SA, q_static_SA, q_ini_java_lang_System⟩
theorem fk_X4_22 : FL RX4 22 3 5 := ⟨RX4, TX4, 13, rfl, by decide, by decide, Or.inl q_fl_X4_22, uX4⟩
theorem fk_X4_31 : FL RX4 31 3 8 := ⟨RX4, TX4, 13, rfl, by decide, by decide, Or.inl q_fl_X4_31, uX4⟩
theorem cs_X4_71 : CS RX4 71 yX6_said cX6_said 4 (some .int) 3 := ⟨q_ml_X4_71, q_static_X6_said, q_ini_FridaySlips_Ways, q_code_X6_said, ⟨by decide +kernel, by decide +kernel, by decide +kernel⟩⟩
theorem cs_X4_73 : CS RX4 73 yX6_heard cX6_heard 3 (some .int) 2 := ⟨q_ml_X4_73, q_static_X6_heard, q_ini_FridaySlips_Ways, q_code_X6_heard, ⟨by decide +kernel, by decide +kernel, by decide +kernel⟩⟩
theorem cv_X4_76 : CV RX4 76 RX4 yX4_earning cX4_earning 3 (some .int) 2 := ⟨q_ml_X4_76, q_instanceMethod_X4_earning, q_sel_X4_earning, q_ini_FridaySlips_Village, q_code_X4_earning, ⟨by decide +kernel, by decide +kernel, by decide +kernel, by decide +kernel⟩⟩
theorem cv_X4_79 : CV RX4 79 RX4 yX4_ownSet cX4_ownSet 3 (some .int) 0 := ⟨q_ml_X4_79, q_instanceMethod_X4_ownSet, q_sel_X4_ownSet, q_ini_FridaySlips_Village, q_code_X4_ownSet, ⟨by decide +kernel, by decide +kernel, by decide +kernel, by decide +kernel⟩⟩
theorem cs_X4_83 : CS RX4 83 yJ6_bitCount_0f7a4 cJ6_bitCount_0f7a4 1 (some .int) 1 := ⟨q_ml_X4_83, q_static_J6_bitCount_0f7a4, q_ini_java_lang_Integer, q_code_J6_bitCount_0f7a4, ⟨by decide +kernel, by decide +kernel, by decide +kernel⟩⟩
theorem cv_X4_89 : CV RX4 89 RX4 yX4_areAlike cX4_areAlike 3 (some .boolean) 2 := ⟨q_ml_X4_89, q_instanceMethod_X4_areAlike, q_sel_X4_areAlike, q_ini_FridaySlips_Village, q_code_X4_areAlike, ⟨by decide +kernel, by decide +kernel, by decide +kernel, by decide +kernel⟩⟩
theorem fk_X4_43 : FL RX4 43 3 12 := ⟨RX4, TX4, 13, rfl, by decide, by decide, Or.inl q_fl_X4_43, uX4⟩
theorem cv_X4_100 : CV RX4 100 RX4 yX4_drawAmong cX4_drawAmong 2 (some .int) 1 := ⟨q_ml_X4_100, q_instanceMethod_X4_drawAmong, q_sel_X4_drawAmong, q_ini_FridaySlips_Village, q_code_X4_drawAmong, ⟨by decide +kernel, by decide +kernel, by decide +kernel, by decide +kernel⟩⟩
theorem cv_X4_103 : CV RX4 103 RX4 yX4_exchange cX4_exchange 4 none 2 := ⟨q_ml_X4_103, q_instanceMethod_X4_exchange, q_sel_X4_exchange, q_ini_FridaySlips_Village, q_code_X4_exchange, ⟨by decide +kernel, by decide +kernel, by decide +kernel, by decide +kernel⟩⟩
theorem cv_X4_93 : CV RX4 93 RX4 yX4_goHome cX4_goHome 2 none 0 := ⟨q_ml_X4_93, q_instanceMethod_X4_goHome, q_sel_X4_goHome, q_ini_FridaySlips_Village, q_code_X4_goHome, ⟨by decide +kernel, by decide +kernel, by decide +kernel, by decide +kernel⟩⟩
theorem cv_X4_96 : CV RX4 96 RX4 yX4_shuffle cX4_shuffle 4 none 1 := ⟨q_ml_X4_96, q_instanceMethod_X4_shuffle, q_sel_X4_shuffle, q_ini_FridaySlips_Village, q_code_X4_shuffle, ⟨by decide +kernel, by decide +kernel, by decide +kernel, by decide +kernel⟩⟩
theorem fk_X4_34 : FL RX4 34 3 9 := ⟨RX4, TX4, 13, rfl, by decide, by decide, Or.inl q_fl_X4_34, uX4⟩
theorem cm_X4_118 : CM RX4 118 Lib.Math.min.name Lib.Math.min.code := ⟨q_ml_X4_118, q_static_Mmin, q_ini_java_lang_Math, q_code_Mmin⟩
theorem fk_X4_37 : FL RX4 37 3 10 := ⟨RX4, TX4, 13, rfl, by decide, by decide, Or.inl q_fl_X4_37, uX4⟩
theorem cm_X4_123 : CM RX4 123 Lib.Math.max.name Lib.Math.max.code := ⟨q_ml_X4_123, q_static_Mmax, q_ini_java_lang_Math, q_code_Mmax⟩
theorem fk_X4_40 : FL RX4 40 3 11 := ⟨RX4, TX4, 13, rfl, by decide, by decide, Or.inl q_fl_X4_40, uX4⟩
theorem cv_X4_111 : CV RX4 111 RX4 yX4_saying cX4_saying 3 (some .int) 2 := ⟨q_ml_X4_111, q_instanceMethod_X4_saying, q_sel_X4_saying, q_ini_FridaySlips_Village, q_code_X4_saying, ⟨by decide +kernel, by decide +kernel, by decide +kernel, by decide +kernel⟩⟩
theorem cv_X4_114 : CV RX4 114 RX4 yX4_hearing cX4_hearing 3 (some .int) 2 := ⟨q_ml_X4_114, q_instanceMethod_X4_hearing, q_sel_X4_hearing, q_ini_FridaySlips_Village, q_code_X4_hearing, ⟨by decide +kernel, by decide +kernel, by decide +kernel, by decide +kernel⟩⟩
theorem cv_X4_108 : CV RX4 108 RX4 yX4_passFriday cX4_passFriday 3 none 0 := ⟨q_ml_X4_108, q_instanceMethod_X4_passFriday, q_sel_X4_passFriday, q_ini_FridaySlips_Village, q_code_X4_passFriday, ⟨by decide +kernel, by decide +kernel, by decide +kernel, by decide +kernel⟩⟩
theorem fk_X5_15 : FL RX5 15 4 2 := ⟨RX5, TX5, 5, rfl, by decide, by decide, Or.inl q_fl_X5_15, uX5⟩
theorem fk_X5_9 : FL RX5 9 4 0 := ⟨RX5, TX5, 5, rfl, by decide, by decide, Or.inl q_fl_X5_9, uX5⟩
theorem fk_X5_121 : FL RX5 121 2 1 := ⟨RX3, TX3, 2, rfl, by decide, by decide, Or.inr ⟨_, q_fn_X5_121⟩, uX3⟩
theorem cv_X5_112 : CV RX5 112 RX3 yX3_at cX3_at 2 (some .int) 1 := ⟨q_ml_X5_112, q_instanceMethod_X3_at, q_sel_X3_at, q_ini_FridaySlips_Tape, q_code_X3_at, ⟨by decide +kernel, by decide +kernel, by decide +kernel, by decide +kernel⟩⟩
theorem cs_X5_124 : CS RX5 124 yX5_isLetter cX5_isLetter 1 (some .boolean) 1 := ⟨q_ml_X5_124, q_static_X5_isLetter, q_ini_FridaySlips_VillageText, q_code_X5_isLetter, ⟨by decide +kernel, by decide +kernel, by decide +kernel⟩⟩
theorem ft_4_2 {i : Nat} : FT i 4 2 .int := ⟨RX5, TX5, 5, tyX5, rfl, rfl, by decide +kernel, tyX5_ok, nmX5⟩
theorem fs_4_2 {G : GG} {M : Mem} {o : Nat} {x : Int32} : (fl G M o 4).set 2 (.int x) = fl G (w_I M o 2 x) o 4 := by simp [fl, m_I, m_J, w_I, w_J]
theorem fk_X5_75 : FL RX5 75 4 4 := ⟨RX5, TX5, 5, rfl, by decide, by decide, Or.inl q_fl_X5_75, uX5⟩
theorem ft_4_4 {i : Nat} : FT i 4 4 .int := ⟨RX5, TX5, 5, tyX5, rfl, rfl, by decide +kernel, tyX5_ok, nmX5⟩
theorem fs_4_4 {G : GG} {M : Mem} {o : Nat} {x : Int32} : (fl G M o 4).set 4 (.int x) = fl G (w_I M o 4 x) o 4 := by simp [fl, m_I, m_J, w_I, w_J]
theorem cs_X5_130 : CS RX5 130 yX5_isDigit cX5_isDigit 1 (some .boolean) 1 := ⟨q_ml_X5_130, q_static_X5_isDigit, q_ini_FridaySlips_VillageText, q_code_X5_isDigit, ⟨by decide +kernel, by decide +kernel, by decide +kernel⟩⟩
theorem cm_X5_136 : CM RX5 136 Lib.Math.min.name Lib.Math.min.code := ⟨q_ml_X5_136, q_static_Mmin, q_ini_java_lang_Math, q_code_Mmin⟩
theorem fk_X5_38 : FL RX5 38 4 1 := ⟨RX5, TX5, 5, rfl, by decide, by decide, Or.inl q_fl_X5_38, uX5⟩
theorem ft_4_1 {i : Nat} : FT i 4 1 .int := ⟨RX5, TX5, 5, tyX5, rfl, rfl, by decide +kernel, tyX5_ok, nmX5⟩
theorem fs_4_1 {G : GG} {M : Mem} {o : Nat} {x : Int32} : (fl G M o 4).set 1 (.int x) = fl G (w_I M o 1 x) o 4 := by simp [fl, m_I, m_J, w_I, w_J]
theorem fk_X5_35 : FL RX5 35 4 3 := ⟨RX5, TX5, 5, rfl, by decide, by decide, Or.inl q_fl_X5_35, uX5⟩
theorem ft_4_3 {i : Nat} : FT i 4 3 .int := ⟨RX5, TX5, 5, tyX5, rfl, rfl, by decide +kernel, tyX5_ok, nmX5⟩
theorem fs_4_3 {G : GG} {M : Mem} {o : Nat} {x : Int32} : (fl G M o 4).set 3 (.int x) = fl G (w_I M o 3 x) o 4 := by simp [fl, m_I, m_J, w_I, w_J]
theorem cv_X5_133 : CV RX5 133 RX5 yX5_passDigits cX5_passDigits 1 none 0 := ⟨q_ml_X5_133, q_instanceMethod_X5_passDigits, q_sel_X5_passDigits, q_ini_FridaySlips_VillageText, q_code_X5_passDigits, ⟨by decide +kernel, by decide +kernel, by decide +kernel, by decide +kernel⟩⟩
theorem cv_X5_127 : CV RX5 127 RX5 yX5_passLetters cX5_passLetters 1 none 0 := ⟨q_ml_X5_127, q_instanceMethod_X5_passLetters, q_sel_X5_passLetters, q_ini_FridaySlips_VillageText, q_code_X5_passLetters, ⟨by decide +kernel, by decide +kernel, by decide +kernel, by decide +kernel⟩⟩
theorem cv_X5_107 : CV RX5 107 RJ0 yJ0_length_8abf5 cJ0_length_8abf5 1 (some .int) 0 := ⟨q_ml_X5_107, q_instanceMethod_J0_length_8abf5, q_sel_J0_length_8abf5, q_ini_java_lang_String, q_code_J0_length_8abf5, ⟨by decide +kernel, by decide +kernel, by decide +kernel, by decide +kernel⟩⟩
theorem cv_X5_117 : CV RX5 117 RJ0 yJ0_charAt_5068e cJ0_charAt_5068e 2 (some .char) 1 := ⟨q_ml_X5_117, q_instanceMethod_J0_charAt_5068e, q_sel_J0_charAt_5068e, q_ini_java_lang_String, q_code_J0_charAt_5068e, ⟨by decide +kernel, by decide +kernel, by decide +kernel, by decide +kernel⟩⟩
theorem cv_X5_19 : CV RX5 19 RX5 yX5_step cX5_step 2 none 0 := ⟨q_ml_X5_19, q_instanceMethod_X5_step, q_sel_X5_step, q_ini_FridaySlips_VillageText, q_code_X5_step, ⟨by decide +kernel, by decide +kernel, by decide +kernel, by decide +kernel⟩⟩
theorem cv_X5_78 : CV RX5 78 RX4 yX4_has cX4_has 2 (some .boolean) 1 := ⟨q_ml_X5_78, q_instanceMethod_X4_has, q_sel_X4_has, q_ini_FridaySlips_Village, q_code_X4_has, ⟨by decide +kernel, by decide +kernel, by decide +kernel, by decide +kernel⟩⟩
theorem cv_X5_24 : CV RX5 24 RX5 yX5_isWord cX5_isWord 3 (some .boolean) 1 := ⟨q_ml_X5_24, q_instanceMethod_X5_isWord, q_sel_X5_isWord, q_ini_FridaySlips_VillageText, q_code_X5_isWord, ⟨by decide +kernel, by decide +kernel, by decide +kernel, by decide +kernel⟩⟩
theorem cv_X5_84 : CV RX5 84 RX4 yX4_holder cX4_holder 3 (some .int) 1 := ⟨q_ml_X5_84, q_instanceMethod_X4_holder, q_sel_X4_holder, q_ini_FridaySlips_Village, q_code_X4_holder, ⟨by decide +kernel, by decide +kernel, by decide +kernel, by decide +kernel⟩⟩
theorem cv_X5_87 : CV RX5 87 RX4 yX4_exchange cX4_exchange 4 none 2 := ⟨q_ml_X5_87, q_instanceMethod_X4_exchange, q_sel_X4_exchange, q_ini_FridaySlips_Village, q_code_X4_exchange, ⟨by decide +kernel, by decide +kernel, by decide +kernel, by decide +kernel⟩⟩
theorem cs_X5_91 : CS RX5 91 yX5_nameOf cX5_nameOf 1 (some (.object "java/lang/String")) 1 := ⟨q_ml_X5_91, q_static_X5_nameOf, q_ini_FridaySlips_VillageText, q_code_X5_nameOf, ⟨by decide +kernel, by decide +kernel, by decide +kernel⟩⟩
theorem cv_X5_41 : CV RX5 41 RX5 yX5_namedKind cX5_namedKind 2 (some .int) 0 := ⟨q_ml_X5_41, q_instanceMethod_X5_namedKind, q_sel_X5_namedKind, q_ini_FridaySlips_VillageText, q_code_X5_namedKind, ⟨by decide +kernel, by decide +kernel, by decide +kernel, by decide +kernel⟩⟩
theorem cv_X5_45 : CV RX5 45 RX4 yX4_isFull cX4_isFull 1 (some .boolean) 0 := ⟨q_ml_X5_45, q_instanceMethod_X4_isFull, q_sel_X4_isFull, q_ini_FridaySlips_Village, q_code_X4_isFull, ⟨by decide +kernel, by decide +kernel, by decide +kernel, by decide +kernel⟩⟩
theorem cv_X5_51 : CV RX5 51 RX4 yX4_add cX4_add 3 (some .int) 1 := ⟨q_ml_X5_51, q_instanceMethod_X4_add, q_sel_X4_add, q_ini_FridaySlips_Village, q_code_X4_add, ⟨by decide +kernel, by decide +kernel, by decide +kernel, by decide +kernel⟩⟩
theorem fk_X5_57 : FL RX5 57 3 4 := ⟨RX4, TX4, 13, rfl, by decide, by decide, Or.inr ⟨_, q_fn_X5_57⟩, uX4⟩
theorem cv_X5_61 : CV RX5 61 RX5 yX5_takePart cX5_takePart 5 (some .boolean) 4 := ⟨q_ml_X5_61, q_instanceMethod_X5_takePart, q_sel_X5_takePart, q_ini_FridaySlips_VillageText, q_code_X5_takePart, ⟨by decide +kernel, by decide +kernel, by decide +kernel, by decide +kernel⟩⟩
theorem fk_X5_67 : FL RX5 67 3 5 := ⟨RX4, TX4, 13, rfl, by decide, by decide, Or.inr ⟨_, q_fn_X5_67⟩, uX4⟩
theorem fk_X5_72 : FL RX5 72 3 6 := ⟨RX4, TX4, 13, rfl, by decide, by decide, Or.inr ⟨_, q_fn_X5_72⟩, uX4⟩
theorem cv_X5_32 : CV RX5 32 RX5 yX5_takePerson cX5_takePerson 4 (some .boolean) 1 := ⟨q_ml_X5_32, q_instanceMethod_X5_takePerson, q_sel_X5_takePerson, q_ini_FridaySlips_VillageText, q_code_X5_takePerson, ⟨by decide +kernel, by decide +kernel, by decide +kernel, by decide +kernel⟩⟩
theorem cv_X5_28 : CV RX5 28 RX5 yX5_takeSlip cX5_takeSlip 3 (some .boolean) 1 := ⟨q_ml_X5_28, q_instanceMethod_X5_takeSlip, q_sel_X5_takeSlip, q_ini_FridaySlips_VillageText, q_code_X5_takeSlip, ⟨by decide +kernel, by decide +kernel, by decide +kernel, by decide +kernel⟩⟩
theorem fk_X7_51 : FL RX7 51 5 7 := ⟨RX7, TX7, 9, rfl, by decide, by decide, Or.inl q_fl_X7_51, uX7⟩
theorem cs_X7_56 : CS RX7 56 yX7_isKind cX7_isKind 1 (some .boolean) 1 := ⟨q_ml_X7_56, q_static_X7_isKind, q_ini_FridaySlips, q_code_X7_isKind, ⟨by decide +kernel, by decide +kernel, by decide +kernel⟩⟩
theorem fk_X7_10 : FL RX7 10 5 0 := ⟨RX7, TX7, 9, rfl, by decide, by decide, Or.inl q_fl_X7_10, uX7⟩
theorem cv_X7_64 : CV RX7 64 RX4 yX4_isFull cX4_isFull 1 (some .boolean) 0 := ⟨q_ml_X7_64, q_instanceMethod_X4_isFull, q_sel_X4_isFull, q_ini_FridaySlips_Village, q_code_X4_isFull, ⟨by decide +kernel, by decide +kernel, by decide +kernel, by decide +kernel⟩⟩
theorem cv_X7_68 : CV RX7 68 RX4 yX4_add cX4_add 3 (some .int) 1 := ⟨q_ml_X7_68, q_instanceMethod_X4_add, q_sel_X4_add, q_ini_FridaySlips_Village, q_code_X4_add, ⟨by decide +kernel, by decide +kernel, by decide +kernel, by decide +kernel⟩⟩
theorem cv_X7_60 : CV RX7 60 RX7 yX7_finding cX7_finding 2 (some .int) 1 := ⟨q_ml_X7_60, q_instanceMethod_X7_finding, q_sel_X7_finding, q_ini_FridaySlips, q_code_X7_finding, ⟨by decide +kernel, by decide +kernel, by decide +kernel, by decide +kernel⟩⟩
theorem cv_X7_71 : CV RX7 71 RX4 yX4_has cX4_has 2 (some .boolean) 1 := ⟨q_ml_X7_71, q_instanceMethod_X4_has, q_sel_X4_has, q_ini_FridaySlips_Village, q_code_X4_has, ⟨by decide +kernel, by decide +kernel, by decide +kernel, by decide +kernel⟩⟩
theorem fk_X7_74 : FL RX7 74 3 3 := ⟨RX4, TX4, 13, rfl, by decide, by decide, Or.inr ⟨_, q_fn_X7_74⟩, uX4⟩
theorem fk_X7_77 : FL RX7 77 3 4 := ⟨RX4, TX4, 13, rfl, by decide, by decide, Or.inr ⟨_, q_fn_X7_77⟩, uX4⟩
theorem fk_X7_80 : FL RX7 80 3 5 := ⟨RX4, TX4, 13, rfl, by decide, by decide, Or.inr ⟨_, q_fn_X7_80⟩, uX4⟩
theorem fk_X7_83 : FL RX7 83 3 6 := ⟨RX4, TX4, 13, rfl, by decide, by decide, Or.inr ⟨_, q_fn_X7_83⟩, uX4⟩
theorem fk_X7_86 : FL RX7 86 3 7 := ⟨RX4, TX4, 13, rfl, by decide, by decide, Or.inr ⟨_, q_fn_X7_86⟩, uX4⟩
theorem fk_X7_89 : FL RX7 89 3 8 := ⟨RX4, TX4, 13, rfl, by decide, by decide, Or.inr ⟨_, q_fn_X7_89⟩, uX4⟩
theorem cv_X7_92 : CV RX7 92 RX4 yX4_earning cX4_earning 3 (some .int) 2 := ⟨q_ml_X7_92, q_instanceMethod_X4_earning, q_sel_X4_earning, q_ini_FridaySlips_Village, q_code_X4_earning, ⟨by decide +kernel, by decide +kernel, by decide +kernel, by decide +kernel⟩⟩
theorem cv_X7_96 : CV RX7 96 RX4 yX4_saying cX4_saying 3 (some .int) 2 := ⟨q_ml_X7_96, q_instanceMethod_X4_saying, q_sel_X4_saying, q_ini_FridaySlips_Village, q_code_X4_saying, ⟨by decide +kernel, by decide +kernel, by decide +kernel, by decide +kernel⟩⟩
theorem cv_X7_99 : CV RX7 99 RX7 yX7_replace cX7_replace 6 (some .int) 4 := ⟨q_ml_X7_99, q_instanceMethod_X7_replace, q_sel_X7_replace, q_ini_FridaySlips, q_code_X7_replace, ⟨by decide +kernel, by decide +kernel, by decide +kernel, by decide +kernel⟩⟩
theorem cs_X7_104 : CS RX7 104 yX6_isUnder cX6_isUnder 4 (some .boolean) 2 := ⟨q_ml_X7_104, q_static_X6_isUnder, q_ini_FridaySlips_Ways, q_code_X6_isUnder, ⟨by decide +kernel, by decide +kernel, by decide +kernel⟩⟩
theorem cv_X7_110 : CV RX7 110 RX4 yX4_areAlike cX4_areAlike 3 (some .boolean) 2 := ⟨q_ml_X7_110, q_instanceMethod_X4_areAlike, q_sel_X4_areAlike, q_ini_FridaySlips_Village, q_code_X4_areAlike, ⟨by decide +kernel, by decide +kernel, by decide +kernel, by decide +kernel⟩⟩
theorem cv_X7_113 : CV RX7 113 RX4 yX4_exchange cX4_exchange 4 none 2 := ⟨q_ml_X7_113, q_instanceMethod_X4_exchange, q_sel_X4_exchange, q_ini_FridaySlips_Village, q_code_X4_exchange, ⟨by decide +kernel, by decide +kernel, by decide +kernel, by decide +kernel⟩⟩
theorem cv_X7_117 : CV RX7 117 RX4 yX4_ownCount cX4_ownCount 1 (some .int) 0 := ⟨q_ml_X7_117, q_instanceMethod_X4_ownCount, q_sel_X4_ownCount, q_ini_FridaySlips_Village, q_code_X4_ownCount, ⟨by decide +kernel, by decide +kernel, by decide +kernel, by decide +kernel⟩⟩
theorem fk_X7_121 : FL RX7 121 3 2 := ⟨RX4, TX4, 13, rfl, by decide, by decide, Or.inr ⟨_, q_fn_X7_121⟩, uX4⟩
theorem cv_X7_125 : CV RX7 125 RX4 yX4_goHome cX4_goHome 2 none 0 := ⟨q_ml_X7_125, q_instanceMethod_X4_goHome, q_sel_X4_goHome, q_ini_FridaySlips_Village, q_code_X4_goHome, ⟨by decide +kernel, by decide +kernel, by decide +kernel, by decide +kernel⟩⟩
theorem cv_X7_128 : CV RX7 128 RX4 yX4_drawLot cX4_drawLot 1 none 0 := ⟨q_ml_X7_128, q_instanceMethod_X4_drawLot, q_sel_X4_drawLot, q_ini_FridaySlips_Village, q_code_X4_drawLot, ⟨by decide +kernel, by decide +kernel, by decide +kernel, by decide +kernel⟩⟩
theorem fk_X7_131 : FL RX7 131 3 1 := ⟨RX4, TX4, 13, rfl, by decide, by decide, Or.inr ⟨_, q_fn_X7_131⟩, uX4⟩
theorem fk_X7_134 : FL RX7 134 3 0 := ⟨RX4, TX4, 13, rfl, by decide, by decide, Or.inr ⟨_, q_fn_X7_134⟩, uX4⟩
theorem cv_X7_137 : CV RX7 137 RX4 yX4_passFridays cX4_passFridays 3 none 1 := ⟨q_ml_X7_137, q_instanceMethod_X4_passFridays, q_sel_X4_passFridays, q_ini_FridaySlips_Village, q_code_X4_passFridays, ⟨by decide +kernel, by decide +kernel, by decide +kernel, by decide +kernel⟩⟩
theorem cv_X7_141 : CV RX7 141 RX4 yX4_total cX4_total 4 (some .int) 1 := ⟨q_ml_X7_141, q_instanceMethod_X4_total, q_sel_X4_total, q_ini_FridaySlips_Village, q_code_X4_total, ⟨by decide +kernel, by decide +kernel, by decide +kernel, by decide +kernel⟩⟩
theorem cv_X7_145 : CV RX7 145 RX4 yX4_passFriday cX4_passFriday 3 none 0 := ⟨q_ml_X7_145, q_instanceMethod_X4_passFriday, q_sel_X4_passFriday, q_ini_FridaySlips_Village, q_code_X4_passFriday, ⟨by decide +kernel, by decide +kernel, by decide +kernel, by decide +kernel⟩⟩
theorem cv_X7_148 : CV RX7 148 RX4 yX4_childrenSet cX4_childrenSet 3 (some .int) 0 := ⟨q_ml_X7_148, q_instanceMethod_X4_childrenSet, q_sel_X4_childrenSet, q_ini_FridaySlips_Village, q_code_X4_childrenSet, ⟨by decide +kernel, by decide +kernel, by decide +kernel, by decide +kernel⟩⟩
theorem cv_X7_151 : CV RX7 151 RX4 yX4_ownSet cX4_ownSet 3 (some .int) 0 := ⟨q_ml_X7_151, q_instanceMethod_X4_ownSet, q_sel_X4_ownSet, q_ini_FridaySlips_Village, q_code_X4_ownSet, ⟨by decide +kernel, by decide +kernel, by decide +kernel, by decide +kernel⟩⟩
theorem cv_X7_154 : CV RX7 154 RX4 yX4_earnings cX4_earnings 3 (some .int) 0 := ⟨q_ml_X7_154, q_instanceMethod_X4_earnings, q_sel_X4_earnings, q_ini_FridaySlips_Village, q_code_X4_earnings, ⟨by decide +kernel, by decide +kernel, by decide +kernel, by decide +kernel⟩⟩
theorem cv_X7_157 : CV RX7 157 RX4 yX4_isLotRight cX4_isLotRight 2 (some .boolean) 0 := ⟨q_ml_X7_157, q_instanceMethod_X4_isLotRight, q_sel_X4_isLotRight, q_ini_FridaySlips_Village, q_code_X4_isLotRight, ⟨by decide +kernel, by decide +kernel, by decide +kernel, by decide +kernel⟩⟩
theorem cv_X7_160 : CV RX7 160 RX4 yX4_holder cX4_holder 3 (some .int) 1 := ⟨q_ml_X7_160, q_instanceMethod_X4_holder, q_sel_X4_holder, q_ini_FridaySlips_Village, q_code_X4_holder, ⟨by decide +kernel, by decide +kernel, by decide +kernel, by decide +kernel⟩⟩
theorem cv_X7_163 : CV RX7 163 RX4 yX4_ringSet cX4_ringSet 5 (some .int) 1 := ⟨q_ml_X7_163, q_instanceMethod_X4_ringSet, q_sel_X4_ringSet, q_ini_FridaySlips_Village, q_code_X4_ringSet, ⟨by decide +kernel, by decide +kernel, by decide +kernel, by decide +kernel⟩⟩
theorem fk_X7_19 : FL RX7 19 5 2 := ⟨RX7, TX7, 9, rfl, by decide, by decide, Or.inl q_fl_X7_19, uX7⟩
theorem cv_X7_166 : CV RX7 166 RX4 yX4_become cX4_become 2 none 1 := ⟨q_ml_X7_166, q_instanceMethod_X4_become, q_sel_X4_become, q_ini_FridaySlips_Village, q_code_X4_become, ⟨by decide +kernel, by decide +kernel, by decide +kernel, by decide +kernel⟩⟩
theorem fk_X7_25 : FL RX7 25 5 3 := ⟨RX7, TX7, 9, rfl, by decide, by decide, Or.inl q_fl_X7_25, uX7⟩
theorem cv_X7_170 : CV RX7 170 RX0 yX0_search cX0_search 7 (some .int) 1 := ⟨q_ml_X7_170, q_instanceMethod_X0_search, q_sel_X0_search, q_ini_FridaySlips_BestLot, q_code_X0_search, ⟨by decide +kernel, by decide +kernel, by decide +kernel, by decide +kernel⟩⟩
theorem cv_X7_174 : CV RX7 174 RX0 yX0_slipOf cX0_slipOf 6 (some .int) 2 := ⟨q_ml_X7_174, q_instanceMethod_X0_slipOf, q_sel_X0_slipOf, q_ini_FridaySlips_BestLot, q_code_X0_slipOf, ⟨by decide +kernel, by decide +kernel, by decide +kernel, by decide +kernel⟩⟩
theorem cv_X7_178 : CV RX7 178 RX4 yX4_gainOfExchange cX4_gainOfExchange 4 (some .int) 2 := ⟨q_ml_X7_178, q_instanceMethod_X4_gainOfExchange, q_sel_X4_gainOfExchange, q_ini_FridaySlips_Village, q_code_X4_gainOfExchange, ⟨by decide +kernel, by decide +kernel, by decide +kernel, by decide +kernel⟩⟩
theorem cv_X7_181 : CV RX7 181 RX4 yX4_earningAs cX4_earningAs 4 (some .int) 3 := ⟨q_ml_X7_181, q_instanceMethod_X4_earningAs, q_sel_X4_earningAs, q_ini_FridaySlips_Village, q_code_X4_earningAs, ⟨by decide +kernel, by decide +kernel, by decide +kernel, by decide +kernel⟩⟩
theorem cs_X7_185 : CS RX7 185 yJ6_bitCount_0f7a4 cJ6_bitCount_0f7a4 1 (some .int) 1 := ⟨q_ml_X7_185, q_static_J6_bitCount_0f7a4, q_ini_java_lang_Integer, q_code_J6_bitCount_0f7a4, ⟨by decide +kernel, by decide +kernel, by decide +kernel⟩⟩
theorem cs_X7_190 : CS RX7 190 yX1_deranged cX1_deranged 1 (some .int) 1 := ⟨q_ml_X7_190, q_static_X1_deranged, q_ini_FridaySlips_Chances, q_code_X1_deranged, ⟨by decide +kernel, by decide +kernel, by decide +kernel⟩⟩
theorem cs_X7_195 : CS RX7 195 yX1_ordered cX1_ordered 1 (some .int) 1 := ⟨q_ml_X7_195, q_static_X1_ordered, q_ini_FridaySlips_Chances, q_code_X1_ordered, ⟨by decide +kernel, by decide +kernel, by decide +kernel⟩⟩
theorem cs_X7_198 : CS RX7 198 yX1_commonDivisor cX1_commonDivisor 6 (some .int) 2 := ⟨q_ml_X7_198, q_static_X1_commonDivisor, q_ini_FridaySlips_Chances, q_code_X1_commonDivisor, ⟨by decide +kernel, by decide +kernel, by decide +kernel⟩⟩
theorem cs_X7_201 : CS RX7 201 yX1_withOwn cX1_withOwn 3 (some .int) 2 := ⟨q_ml_X7_201, q_static_X1_withOwn, q_ini_FridaySlips_Chances, q_code_X1_withOwn, ⟨by decide +kernel, by decide +kernel, by decide +kernel⟩⟩
theorem fk_X7_32 : FL RX7 32 5 4 := ⟨RX7, TX7, 9, rfl, by decide, by decide, Or.inl q_fl_X7_32, uX7⟩
theorem fk_X7_204 : FL RX7 204 2 1 := ⟨RX3, TX3, 2, rfl, by decide, by decide, Or.inr ⟨_, q_fn_X7_204⟩, uX3⟩
theorem cv_X7_205 : CV RX7 205 RX3 yX3_add cX3_add 2 none 1 := ⟨q_ml_X7_205, q_instanceMethod_X3_add, q_sel_X3_add, q_ini_FridaySlips_Tape, q_code_X3_add, ⟨by decide +kernel, by decide +kernel, by decide +kernel, by decide +kernel⟩⟩
theorem fk_X7_41 : FL RX7 41 5 5 := ⟨RX7, TX7, 9, rfl, by decide, by decide, Or.inl q_fl_X7_41, uX7⟩
theorem cv_X7_207 : CV RX7 207 RX5 yX5_tell cX5_tell 4 (some .int) 1 := ⟨q_ml_X7_207, q_instanceMethod_X5_tell, q_sel_X5_tell, q_ini_FridaySlips_VillageText, q_code_X5_tell, ⟨by decide +kernel, by decide +kernel, by decide +kernel, by decide +kernel⟩⟩
theorem cs_X7_210 : CS RX7 210 yX7_isSheet cX7_isSheet 1 (some .boolean) 1 := ⟨q_ml_X7_210, q_static_X7_isSheet, q_ini_FridaySlips, q_code_X7_isSheet, ⟨by decide +kernel, by decide +kernel, by decide +kernel⟩⟩
theorem fk_X7_47 : FL RX7 47 5 6 := ⟨RX7, TX7, 9, rfl, by decide, by decide, Or.inl q_fl_X7_47, uX7⟩
theorem cv_X7_213 : CV RX7 213 RX2 yX2_begin cX2_begin 3 (some .int) 2 := ⟨q_ml_X7_213, q_instanceMethod_X2_begin, q_sel_X2_begin, q_ini_FridaySlips_Sheet, q_code_X2_begin, ⟨by decide +kernel, by decide +kernel, by decide +kernel, by decide +kernel⟩⟩
theorem cv_X7_216 : CV RX7 216 RX2 yX2_isMissing cX2_isMissing 1 (some .boolean) 0 := ⟨q_ml_X7_216, q_instanceMethod_X2_isMissing, q_sel_X2_isMissing, q_ini_FridaySlips_Sheet, q_code_X2_isMissing, ⟨by decide +kernel, by decide +kernel, by decide +kernel, by decide +kernel⟩⟩
theorem fk_X7_219 : FL RX7 219 1 2 := ⟨RX2, TX2, 3, rfl, by decide, by decide, Or.inr ⟨_, q_fn_X7_219⟩, uX2⟩
theorem fk_X7_220 : FL RX7 220 1 0 := ⟨RX2, TX2, 3, rfl, by decide, by decide, Or.inr ⟨_, q_fn_X7_220⟩, uX2⟩
theorem cv_X7_224 : CV RX7 224 RX2 yX2_put cX2_put 4 none 2 := ⟨q_ml_X7_224, q_instanceMethod_X2_put, q_sel_X2_put, q_ini_FridaySlips_Sheet, q_code_X2_put, ⟨by decide +kernel, by decide +kernel, by decide +kernel, by decide +kernel⟩⟩
theorem fk_X7_228 : FL RX7 228 1 1 := ⟨RX2, TX2, 3, rfl, by decide, by decide, Or.inr ⟨_, q_fn_X7_228⟩, uX2⟩
theorem cv_X7_231 : CV RX7 231 RX2 yX2_hasRun cX2_hasRun 3 (some .boolean) 2 := ⟨q_ml_X7_231, q_instanceMethod_X2_hasRun, q_sel_X2_hasRun, q_ini_FridaySlips_Sheet, q_code_X2_hasRun, ⟨by decide +kernel, by decide +kernel, by decide +kernel, by decide +kernel⟩⟩
theorem ca_X7_234 : CA RX7 234 := ⟨q_ml_X7_234, q_native_SA, q_static_SA, q_ini_java_lang_System⟩
theorem cv_X7_240 : CV RX7 240 RX7 yX7_isRightLot cX7_isRightLot 6 (some .boolean) 1 := ⟨q_ml_X7_240, q_instanceMethod_X7_isRightLot, q_sel_X7_isRightLot, q_ini_FridaySlips, q_code_X7_isRightLot, ⟨by decide +kernel, by decide +kernel, by decide +kernel, by decide +kernel⟩⟩
theorem cm_X7_253 : CM RX7 253 Lib.Math.min.name Lib.Math.min.code := ⟨q_ml_X7_253, q_static_Mmin, q_ini_java_lang_Math, q_code_Mmin⟩
theorem cv_X7_244 : CV RX7 244 RX7 yX7_fitsWith cX7_fitsWith 6 (some .boolean) 3 := ⟨q_ml_X7_244, q_instanceMethod_X7_fitsWith, q_sel_X7_fitsWith, q_ini_FridaySlips, q_code_X7_fitsWith, ⟨by decide +kernel, by decide +kernel, by decide +kernel, by decide +kernel⟩⟩
theorem fk_X7_16 : FL RX7 16 5 1 := ⟨RX7, TX7, 9, rfl, by decide, by decide, Or.inl q_fl_X7_16, uX7⟩
theorem fk_X7_248 : FL RX7 248 5 8 := ⟨RX7, TX7, 9, rfl, by decide, by decide, Or.inl q_fl_X7_248, uX7⟩
theorem ft_5_8 {i : Nat} : FT i 5 8 .boolean := ⟨RX7, TX7, 9, tyX7, rfl, rfl, by decide +kernel, tyX7_ok, nmX7⟩
theorem fs_5_8 {G : GG} {M : Mem} {o : Nat} {x : Int32} : (fl G M o 5).set 8 (.int x) = fl G (w_I M o 8 x) o 5 := by simp [fl, m_I, m_J, w_I, w_J]
theorem fk_X8_13 : FL RX8 13 6 1 := ⟨RX8, TX8, 23, rfl, by decide, by decide, Or.inl q_fl_X8_13, uX8⟩
theorem fk_X8_7 : FL RX8 7 6 0 := ⟨RX8, TX8, 23, rfl, by decide, by decide, Or.inl q_fl_X8_7, uX8⟩
theorem cs_X8_57 : CS RX8 57 yX8_in cX8_in 3 (some .boolean) 3 := ⟨q_ml_X8_57, q_static_X8_in, q_ini_FridaySlipsModel, q_code_X8_in, ⟨by decide +kernel, by decide +kernel, by decide +kernel⟩⟩
theorem cv_X8_61 : CV RX8 61 RX8 yX8_its cX8_its 3 (some .int) 2 := ⟨q_ml_X8_61, q_instanceMethod_X8_its, q_sel_X8_its, q_ini_FridaySlipsModel, q_code_X8_its, ⟨by decide +kernel, by decide +kernel, by decide +kernel, by decide +kernel⟩⟩
theorem cv_X8_65 : CV RX8 65 RX8 yX8_isChild cX8_isChild 2 (some .boolean) 1 := ⟨q_ml_X8_65, q_instanceMethod_X8_isChild, q_sel_X8_isChild, q_ini_FridaySlipsModel, q_code_X8_isChild, ⟨by decide +kernel, by decide +kernel, by decide +kernel, by decide +kernel⟩⟩
theorem cv_X8_69 : CV RX8 69 RX8 yX8_earnsAs cX8_earnsAs 6 (some .int) 2 := ⟨q_ml_X8_69, q_instanceMethod_X8_earnsAs, q_sel_X8_earnsAs, q_ini_FridaySlipsModel, q_code_X8_earnsAs, ⟨by decide +kernel, by decide +kernel, by decide +kernel, by decide +kernel⟩⟩
theorem cv_X8_72 : CV RX8 72 RX8 yX8_earns cX8_earns 2 (some .int) 1 := ⟨q_ml_X8_72, q_instanceMethod_X8_earns, q_sel_X8_earns, q_ini_FridaySlipsModel, q_code_X8_earns, ⟨by decide +kernel, by decide +kernel, by decide +kernel, by decide +kernel⟩⟩
theorem cv_X8_76 : CV RX8 76 RX8 yX8_puts cX8_puts 4 none 3 := ⟨q_ml_X8_76, q_instanceMethod_X8_puts, q_sel_X8_puts, q_ini_FridaySlipsModel, q_code_X8_puts, ⟨by decide +kernel, by decide +kernel, by decide +kernel, by decide +kernel⟩⟩
theorem cs_X8_80 : CS RX8 80 yX8_isKind cX8_isKind 1 (some .boolean) 1 := ⟨q_ml_X8_80, q_static_X8_isKind, q_ini_FridaySlipsModel, q_code_X8_isKind, ⟨by decide +kernel, by decide +kernel, by decide +kernel⟩⟩
theorem cv_X8_87 : CV RX8 87 RX8 yX8_adds cX8_adds 6 none 4 := ⟨q_ml_X8_87, q_instanceMethod_X8_adds, q_sel_X8_adds, q_ini_FridaySlipsModel, q_code_X8_adds, ⟨by decide +kernel, by decide +kernel, by decide +kernel, by decide +kernel⟩⟩
theorem cv_X8_83 : CV RX8 83 RX8 yX8_finds cX8_finds 2 (some .int) 1 := ⟨q_ml_X8_83, q_instanceMethod_X8_finds, q_sel_X8_finds, q_ini_FridaySlipsModel, q_code_X8_finds, ⟨by decide +kernel, by decide +kernel, by decide +kernel, by decide +kernel⟩⟩
theorem cv_X8_91 : CV RX8 91 RX8 yX8_isOne cX8_isOne 2 (some .boolean) 1 := ⟨q_ml_X8_91, q_instanceMethod_X8_isOne, q_sel_X8_isOne, q_ini_FridaySlipsModel, q_code_X8_isOne, ⟨by decide +kernel, by decide +kernel, by decide +kernel, by decide +kernel⟩⟩
theorem cv_X8_94 : CV RX8 94 RX8 yX8_saysAs cX8_saysAs 4 (some .int) 2 := ⟨q_ml_X8_94, q_instanceMethod_X8_saysAs, q_sel_X8_saysAs, q_ini_FridaySlipsModel, q_code_X8_saysAs, ⟨by decide +kernel, by decide +kernel, by decide +kernel, by decide +kernel⟩⟩
theorem cv_X8_98 : CV RX8 98 RX8 yX8_becomes cX8_becomes 4 (some .int) 2 := ⟨q_ml_X8_98, q_instanceMethod_X8_becomes, q_sel_X8_becomes, q_ini_FridaySlipsModel, q_code_X8_becomes, ⟨by decide +kernel, by decide +kernel, by decide +kernel, by decide +kernel⟩⟩
theorem cv_X8_102 : CV RX8 102 RX8 yX8_areAlike cX8_areAlike 3 (some .boolean) 2 := ⟨q_ml_X8_102, q_instanceMethod_X8_areAlike, q_sel_X8_areAlike, q_ini_FridaySlipsModel, q_code_X8_areAlike, ⟨by decide +kernel, by decide +kernel, by decide +kernel, by decide +kernel⟩⟩
theorem cv_X8_107 : CV RX8 107 RX8 yX8_swaps cX8_swaps 4 none 2 := ⟨q_ml_X8_107, q_instanceMethod_X8_swaps, q_sel_X8_swaps, q_ini_FridaySlipsModel, q_code_X8_swaps, ⟨by decide +kernel, by decide +kernel, by decide +kernel, by decide +kernel⟩⟩
theorem cv_X8_111 : CV RX8 111 RX8 yX8_ownSet cX8_ownSet 3 (some .int) 0 := ⟨q_ml_X8_111, q_instanceMethod_X8_ownSet, q_sel_X8_ownSet, q_ini_FridaySlipsModel, q_code_X8_ownSet, ⟨by decide +kernel, by decide +kernel, by decide +kernel, by decide +kernel⟩⟩
theorem cs_X8_115 : CS RX8 115 yX8_bits cX8_bits 3 (some .int) 1 := ⟨q_ml_X8_115, q_static_X8_bits, q_ini_FridaySlipsModel, q_code_X8_bits, ⟨by decide +kernel, by decide +kernel, by decide +kernel⟩⟩
theorem cv_X8_118 : CV RX8 118 RX8 yX8_allOwn cX8_allOwn 2 none 0 := ⟨q_ml_X8_118, q_instanceMethod_X8_allOwn, q_sel_X8_allOwn, q_ini_FridaySlipsModel, q_code_X8_allOwn, ⟨by decide +kernel, by decide +kernel, by decide +kernel, by decide +kernel⟩⟩
theorem fk_X8_16 : FL RX8 16 6 2 := ⟨RX8, TX8, 23, rfl, by decide, by decide, Or.inl q_fl_X8_16, uX8⟩
theorem cv_X8_122 : CV RX8 122 RX8 yX8_drawn cX8_drawn 2 (some .int) 1 := ⟨q_ml_X8_122, q_instanceMethod_X8_drawn, q_sel_X8_drawn, q_ini_FridaySlipsModel, q_code_X8_drawn, ⟨by decide +kernel, by decide +kernel, by decide +kernel, by decide +kernel⟩⟩
theorem cv_X8_125 : CV RX8 125 RX8 yX8_drawsOf cX8_drawsOf 4 none 1 := ⟨q_ml_X8_125, q_instanceMethod_X8_drawsOf, q_sel_X8_drawsOf, q_ini_FridaySlipsModel, q_code_X8_drawsOf, ⟨by decide +kernel, by decide +kernel, by decide +kernel, by decide +kernel⟩⟩
theorem cv_X8_129 : CV RX8 129 RX8 yX8_draws cX8_draws 1 none 0 := ⟨q_ml_X8_129, q_instanceMethod_X8_draws, q_sel_X8_draws, q_ini_FridaySlipsModel, q_code_X8_draws, ⟨by decide +kernel, by decide +kernel, by decide +kernel, by decide +kernel⟩⟩
theorem fk_X8_19 : FL RX8 19 6 3 := ⟨RX8, TX8, 23, rfl, by decide, by decide, Or.inl q_fl_X8_19, uX8⟩
theorem cs_X8_135 : CS RX8 135 yX8_held cX8_held 3 (some .int) 3 := ⟨q_ml_X8_135, q_static_X8_held, q_ini_FridaySlipsModel, q_code_X8_held, ⟨by decide +kernel, by decide +kernel, by decide +kernel⟩⟩
theorem fk_X8_22 : FL RX8 22 6 4 := ⟨RX8, TX8, 23, rfl, by decide, by decide, Or.inl q_fl_X8_22, uX8⟩
theorem fk_X8_25 : FL RX8 25 6 5 := ⟨RX8, TX8, 23, rfl, by decide, by decide, Or.inl q_fl_X8_25, uX8⟩
theorem cv_X8_132 : CV RX8 132 RX8 yX8_hearsAs cX8_hearsAs 4 (some .int) 2 := ⟨q_ml_X8_132, q_instanceMethod_X8_hearsAs, q_sel_X8_hearsAs, q_ini_FridaySlipsModel, q_code_X8_hearsAs, ⟨by decide +kernel, by decide +kernel, by decide +kernel, by decide +kernel⟩⟩
theorem cv_X8_142 : CV RX8 142 RX8 yX8_sumOf cX8_sumOf 4 (some .int) 1 := ⟨q_ml_X8_142, q_instanceMethod_X8_sumOf, q_sel_X8_sumOf, q_ini_FridaySlipsModel, q_code_X8_sumOf, ⟨by decide +kernel, by decide +kernel, by decide +kernel, by decide +kernel⟩⟩
theorem cv_X8_139 : CV RX8 139 RX8 yX8_oneFriday cX8_oneFriday 3 none 0 := ⟨q_ml_X8_139, q_instanceMethod_X8_oneFriday, q_sel_X8_oneFriday, q_ini_FridaySlipsModel, q_code_X8_oneFriday, ⟨by decide +kernel, by decide +kernel, by decide +kernel, by decide +kernel⟩⟩
theorem cv_X8_145 : CV RX8 145 RX8 yX8_children cX8_children 3 (some .int) 0 := ⟨q_ml_X8_145, q_instanceMethod_X8_children, q_sel_X8_children, q_ini_FridaySlipsModel, q_code_X8_children, ⟨by decide +kernel, by decide +kernel, by decide +kernel, by decide +kernel⟩⟩
theorem cv_X8_148 : CV RX8 148 RX8 yX8_earnAll cX8_earnAll 3 (some .int) 0 := ⟨q_ml_X8_148, q_instanceMethod_X8_earnAll, q_sel_X8_earnAll, q_ini_FridaySlipsModel, q_code_X8_earnAll, ⟨by decide +kernel, by decide +kernel, by decide +kernel, by decide +kernel⟩⟩
theorem cv_X8_151 : CV RX8 151 RX8 yX8_isRight cX8_isRight 3 (some .boolean) 0 := ⟨q_ml_X8_151, q_instanceMethod_X8_isRight, q_sel_X8_isRight, q_ini_FridaySlipsModel, q_code_X8_isRight, ⟨by decide +kernel, by decide +kernel, by decide +kernel, by decide +kernel⟩⟩
theorem cv_X8_155 : CV RX8 155 RX8 yX8_whoHas cX8_whoHas 3 (some .int) 1 := ⟨q_ml_X8_155, q_instanceMethod_X8_whoHas, q_sel_X8_whoHas, q_ini_FridaySlipsModel, q_code_X8_whoHas, ⟨by decide +kernel, by decide +kernel, by decide +kernel, by decide +kernel⟩⟩
theorem cv_X8_158 : CV RX8 158 RX8 yX8_ringOf cX8_ringOf 4 (some .int) 1 := ⟨q_ml_X8_158, q_instanceMethod_X8_ringOf, q_sel_X8_ringOf, q_ini_FridaySlipsModel, q_code_X8_ringOf, ⟨by decide +kernel, by decide +kernel, by decide +kernel, by decide +kernel⟩⟩
theorem fk_X8_28 : FL RX8 28 6 6 := ⟨RX8, TX8, 23, rfl, by decide, by decide, Or.inl q_fl_X8_28, uX8⟩
theorem cv_X8_161 : CV RX8 161 RX8 yX8_moveAll cX8_moveAll 4 none 2 := ⟨q_ml_X8_161, q_instanceMethod_X8_moveAll, q_sel_X8_moveAll, q_ini_FridaySlipsModel, q_code_X8_moveAll, ⟨by decide +kernel, by decide +kernel, by decide +kernel, by decide +kernel⟩⟩
theorem fk_X8_31 : FL RX8 31 6 7 := ⟨RX8, TX8, 23, rfl, by decide, by decide, Or.inl q_fl_X8_31, uX8⟩
theorem cv_X8_166 : CV RX8 166 RX8 yX8_findMost cX8_findMost 7 none 0 := ⟨q_ml_X8_166, q_instanceMethod_X8_findMost, q_sel_X8_findMost, q_ini_FridaySlipsModel, q_code_X8_findMost, ⟨by decide +kernel, by decide +kernel, by decide +kernel, by decide +kernel⟩⟩
theorem cs_X8_169 : CS RX8 169 yX8_ways cX8_ways 5 (some .int) 2 := ⟨q_ml_X8_169, q_static_X8_ways, q_ini_FridaySlipsModel, q_code_X8_ways, ⟨by decide +kernel, by decide +kernel, by decide +kernel⟩⟩
theorem cs_X8_172 : CS RX8 172 yX8_all cX8_all 3 (some .int) 1 := ⟨q_ml_X8_172, q_static_X8_all, q_ini_FridaySlipsModel, q_code_X8_all, ⟨by decide +kernel, by decide +kernel, by decide +kernel⟩⟩
theorem cs_X8_175 : CS RX8 175 yX8_divisor cX8_divisor 5 (some .int) 2 := ⟨q_ml_X8_175, q_static_X8_divisor, q_ini_FridaySlipsModel, q_code_X8_divisor, ⟨by decide +kernel, by decide +kernel, by decide +kernel⟩⟩
theorem fk_X8_178 : FL RX8 178 6 9 := ⟨RX8, TX8, 23, rfl, by decide, by decide, Or.inl q_fl_X8_178, uX8⟩
theorem fk_X8_34 : FL RX8 34 6 8 := ⟨RX8, TX8, 23, rfl, by decide, by decide, Or.inl q_fl_X8_34, uX8⟩
theorem ft_6_9 {i : Nat} : FT i 6 9 .int := ⟨RX8, TX8, 23, tyX8, rfl, rfl, by decide +kernel, tyX8_ok, nmX8⟩
theorem fs_6_9 {G : GG} {M : Mem} {o : Nat} {x : Int32} : (fl G M o 6).set 9 (.int x) = fl G (w_I M o 9 x) o 6 := by simp [fl, m_I, m_J, w_I, w_J]
theorem fk_X8_182 : FL RX8 182 6 12 := ⟨RX8, TX8, 23, rfl, by decide, by decide, Or.inl q_fl_X8_182, uX8⟩
theorem fk_X8_185 : FL RX8 185 6 11 := ⟨RX8, TX8, 23, rfl, by decide, by decide, Or.inl q_fl_X8_185, uX8⟩
theorem ft_6_11 {i : Nat} : FT i 6 11 .int := ⟨RX8, TX8, 23, tyX8, rfl, rfl, by decide +kernel, tyX8_ok, nmX8⟩
theorem fs_6_11 {G : GG} {M : Mem} {o : Nat} {x : Int32} : (fl G M o 6).set 11 (.int x) = fl G (w_I M o 11 x) o 6 := by simp [fl, m_I, m_J, w_I, w_J]
theorem cv_X8_188 : CV RX8 188 RX8 yX8_byteAt cX8_byteAt 2 (some .int) 1 := ⟨q_ml_X8_188, q_instanceMethod_X8_byteAt, q_sel_X8_byteAt, q_ini_FridaySlipsModel, q_code_X8_byteAt, ⟨by decide +kernel, by decide +kernel, by decide +kernel, by decide +kernel⟩⟩
theorem ft_6_12 {i : Nat} : FT i 6 12 .int := ⟨RX8, TX8, 23, tyX8, rfl, rfl, by decide +kernel, tyX8_ok, nmX8⟩
theorem fs_6_12 {G : GG} {M : Mem} {o : Nat} {x : Int32} : (fl G M o 6).set 12 (.int x) = fl G (w_I M o 12 x) o 6 := by simp [fl, m_I, m_J, w_I, w_J]
theorem cs_X8_191 : CS RX8 191 yX8_isLetter cX8_isLetter 1 (some .boolean) 1 := ⟨q_ml_X8_191, q_static_X8_isLetter, q_ini_FridaySlipsModel, q_code_X8_isLetter, ⟨by decide +kernel, by decide +kernel, by decide +kernel⟩⟩
theorem cs_X8_194 : CS RX8 194 yX8_isDigit cX8_isDigit 1 (some .boolean) 1 := ⟨q_ml_X8_194, q_static_X8_isDigit, q_ini_FridaySlipsModel, q_code_X8_isDigit, ⟨by decide +kernel, by decide +kernel, by decide +kernel⟩⟩
theorem fk_X8_197 : FL RX8 197 6 10 := ⟨RX8, TX8, 23, rfl, by decide, by decide, Or.inl q_fl_X8_197, uX8⟩
theorem ft_6_10 {i : Nat} : FT i 6 10 .int := ⟨RX8, TX8, 23, tyX8, rfl, rfl, by decide +kernel, tyX8_ok, nmX8⟩
theorem fs_6_10 {G : GG} {M : Mem} {o : Nat} {x : Int32} : (fl G M o 6).set 10 (.int x) = fl G (w_I M o 10 x) o 6 := by simp [fl, m_I, m_J, w_I, w_J]
theorem fk_X8_200 : FL RX8 200 6 13 := ⟨RX8, TX8, 23, rfl, by decide, by decide, Or.inl q_fl_X8_200, uX8⟩
theorem ft_6_13 {i : Nat} : FT i 6 13 .long := ⟨RX8, TX8, 23, tyX8, rfl, rfl, by decide +kernel, tyX8_ok, nmX8⟩
theorem fs_6_13 {G : GG} {M : Mem} {o : Nat} {x : Int64} : (fl G M o 6).set 13 (.long x) = fl G (w_J M o 13 x) o 6 := by simp [fl, m_I, m_J, w_I, w_J]
theorem fk_X8_204 : FL RX8 204 6 14 := ⟨RX8, TX8, 23, rfl, by decide, by decide, Or.inl q_fl_X8_204, uX8⟩
theorem ft_6_14 {i : Nat} : FT i 6 14 .int := ⟨RX8, TX8, 23, tyX8, rfl, rfl, by decide +kernel, tyX8_ok, nmX8⟩
theorem fs_6_14 {G : GG} {M : Mem} {o : Nat} {x : Int32} : (fl G M o 6).set 14 (.int x) = fl G (w_I M o 14 x) o 6 := by simp [fl, m_I, m_J, w_I, w_J]
theorem cv_X8_215 : CV RX8 215 RX8 yX8_isWord cX8_isWord 3 (some .boolean) 1 := ⟨q_ml_X8_215, q_instanceMethod_X8_isWord, q_sel_X8_isWord, q_ini_FridaySlipsModel, q_code_X8_isWord, ⟨by decide +kernel, by decide +kernel, by decide +kernel, by decide +kernel⟩⟩
theorem fk_X8_229 : FL RX8 229 6 15 := ⟨RX8, TX8, 23, rfl, by decide, by decide, Or.inl q_fl_X8_229, uX8⟩
theorem ft_6_15 {i : Nat} : FT i 6 15 .boolean := ⟨RX8, TX8, 23, tyX8, rfl, rfl, by decide +kernel, tyX8_ok, nmX8⟩
theorem fs_6_15 {G : GG} {M : Mem} {o : Nat} {x : Int32} : (fl G M o 6).set 15 (.int x) = fl G (w_I M o 15 x) o 6 := by simp [fl, m_I, m_J, w_I, w_J]
theorem cv_X8_233 : CV RX8 233 RX8 yX8_advance cX8_advance 2 none 0 := ⟨q_ml_X8_233, q_instanceMethod_X8_advance, q_sel_X8_advance, q_ini_FridaySlipsModel, q_code_X8_advance, ⟨by decide +kernel, by decide +kernel, by decide +kernel, by decide +kernel⟩⟩
theorem cv_X8_236 : CV RX8 236 RX8 yX8_wantNumber cX8_wantNumber 4 (some .int) 2 := ⟨q_ml_X8_236, q_instanceMethod_X8_wantNumber, q_sel_X8_wantNumber, q_ini_FridaySlipsModel, q_code_X8_wantNumber, ⟨by decide +kernel, by decide +kernel, by decide +kernel, by decide +kernel⟩⟩
theorem cv_X8_241 : CV RX8 241 RX8 yX8_mayWant cX8_mayWant 6 (some .int) 4 := ⟨q_ml_X8_241, q_instanceMethod_X8_mayWant, q_sel_X8_mayWant, q_ini_FridaySlipsModel, q_code_X8_mayWant, ⟨by decide +kernel, by decide +kernel, by decide +kernel, by decide +kernel⟩⟩
theorem cv_X8_251 : CV RX8 251 RX8 yX8_kindHere cX8_kindHere 1 (some .int) 0 := ⟨q_ml_X8_251, q_instanceMethod_X8_kindHere, q_sel_X8_kindHere, q_ini_FridaySlipsModel, q_code_X8_kindHere, ⟨by decide +kernel, by decide +kernel, by decide +kernel, by decide +kernel⟩⟩
theorem cv_X8_260 : CV RX8 260 RX8 yX8_wantSlip cX8_wantSlip 3 none 0 := ⟨q_ml_X8_260, q_instanceMethod_X8_wantSlip, q_sel_X8_wantSlip, q_ini_FridaySlipsModel, q_code_X8_wantSlip, ⟨by decide +kernel, by decide +kernel, by decide +kernel, by decide +kernel⟩⟩
theorem cv_X8_254 : CV RX8 254 RX8 yX8_wantPerson cX8_wantPerson 5 none 1 := ⟨q_ml_X8_254, q_instanceMethod_X8_wantPerson, q_sel_X8_wantPerson, q_ini_FridaySlipsModel, q_code_X8_wantPerson, ⟨by decide +kernel, by decide +kernel, by decide +kernel, by decide +kernel⟩⟩
theorem fk_X8_53 : FL RX8 53 6 21 := ⟨RX8, TX8, 23, rfl, by decide, by decide, Or.inl q_fl_X8_53, uX8⟩
theorem cv_X8_263 : CV RX8 263 RX8 yX8_wantItem cX8_wantItem 1 none 0 := ⟨q_ml_X8_263, q_instanceMethod_X8_wantItem, q_sel_X8_wantItem, q_ini_FridaySlipsModel, q_code_X8_wantItem, ⟨by decide +kernel, by decide +kernel, by decide +kernel, by decide +kernel⟩⟩
theorem cs_X8_266 : CS RX8 266 yX8_isSheet cX8_isSheet 1 (some .boolean) 1 := ⟨q_ml_X8_266, q_static_X8_isSheet, q_ini_FridaySlipsModel, q_code_X8_isSheet, ⟨by decide +kernel, by decide +kernel, by decide +kernel⟩⟩
theorem fk_X8_37 : FL RX8 37 6 16 := ⟨RX8, TX8, 23, rfl, by decide, by decide, Or.inl q_fl_X8_37, uX8⟩
theorem fk_X8_40 : FL RX8 40 6 17 := ⟨RX8, TX8, 23, rfl, by decide, by decide, Or.inl q_fl_X8_40, uX8⟩
theorem fk_X8_43 : FL RX8 43 6 18 := ⟨RX8, TX8, 23, rfl, by decide, by decide, Or.inl q_fl_X8_43, uX8⟩
theorem cs_X8_271 : CS RX8 271 yX8_narrow cX8_narrow 3 (some .long) 2 := ⟨q_ml_X8_271, q_static_X8_narrow, q_ini_FridaySlipsModel, q_code_X8_narrow, ⟨by decide +kernel, by decide +kernel, by decide +kernel⟩⟩
theorem cv_X8_275 : CV RX8 275 RX8 yX8_isPart cX8_isPart 4 (some .boolean) 3 := ⟨q_ml_X8_275, q_instanceMethod_X8_isPart, q_sel_X8_isPart, q_ini_FridaySlipsModel, q_code_X8_isPart, ⟨by decide +kernel, by decide +kernel, by decide +kernel, by decide +kernel⟩⟩
theorem fk_X8_47 : FL RX8 47 6 19 := ⟨RX8, TX8, 23, rfl, by decide, by decide, Or.inl q_fl_X8_47, uX8⟩
theorem cv_X8_278 : CV RX8 278 RX8 yX8_badSheet cX8_badSheet 2 (some .int) 1 := ⟨q_ml_X8_278, q_instanceMethod_X8_badSheet, q_sel_X8_badSheet, q_ini_FridaySlipsModel, q_code_X8_badSheet, ⟨by decide +kernel, by decide +kernel, by decide +kernel, by decide +kernel⟩⟩
theorem cv_X8_281 : CV RX8 281 RX8 yX8_isSo cX8_isSo 4 (some .boolean) 1 := ⟨q_ml_X8_281, q_instanceMethod_X8_isSo, q_sel_X8_isSo, q_ini_FridaySlipsModel, q_code_X8_isSo, ⟨by decide +kernel, by decide +kernel, by decide +kernel, by decide +kernel⟩⟩
theorem fk_X8_50 : FL RX8 50 6 20 := ⟨RX8, TX8, 23, rfl, by decide, by decide, Or.inl q_fl_X8_50, uX8⟩
theorem fk_X8_284 : FL RX8 284 6 22 := ⟨RX8, TX8, 23, rfl, by decide, by decide, Or.inl q_fl_X8_284, uX8⟩
theorem ft_6_22 {i : Nat} : FT i 6 22 .boolean := ⟨RX8, TX8, 23, tyX8, rfl, rfl, by decide +kernel, tyX8_ok, nmX8⟩
theorem fs_6_22 {G : GG} {M : Mem} {o : Nat} {x : Int32} : (fl G M o 6).set 22 (.int x) = fl G (w_I M o 22 x) o 6 := by simp [fl, m_I, m_J, w_I, w_J]
