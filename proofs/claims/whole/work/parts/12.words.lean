theorem tb_m0 {w : Cond} (i : Nat) (h : (k2_sels lw_privs)[i]? = some w) : w ∈ lw_tbl := by
  unfold lw_tbl tables_1
  exact List.mem_append_left _ (List.mem_of_getElem? h)
theorem tb_0 {w : Cond} (i : Nat) (h : (k2_sels lw_privs)[i]? = some w) (hg : (k2_isCode w || goodWord w) = true) : w ∈ tv_tb := List.mem_filter.mpr ⟨tb_m0 i h, hg⟩
theorem tn_0 {w : Cond} (i : Nat) (h : (k2_sels lw_privs)[i]? = some w) (hg : tv_isN w = true) : w ∈ tv_nb := List.mem_filter.mpr ⟨tb_m0 i h, hg⟩
theorem tb_m1 {w : Cond} (i : Nat) (h : (tables_1_1)[i]? = some w) : w ∈ lw_tbl := by
  unfold lw_tbl tables_1
  exact List.mem_append_right _ (List.mem_append_left _ (List.mem_of_getElem? h))
theorem tb_1 {w : Cond} (i : Nat) (h : (tables_1_1)[i]? = some w) (hg : (k2_isCode w || goodWord w) = true) : w ∈ tv_tb := List.mem_filter.mpr ⟨tb_m1 i h, hg⟩
theorem tn_1 {w : Cond} (i : Nat) (h : (tables_1_1)[i]? = some w) (hg : tv_isN w = true) : w ∈ tv_nb := List.mem_filter.mpr ⟨tb_m1 i h, hg⟩
theorem tb_m2 {w : Cond} (i : Nat) (h : (tables_1_2)[i]? = some w) : w ∈ lw_tbl := by
  unfold lw_tbl tables_1
  exact List.mem_append_right _ (List.mem_append_right _ (List.mem_append_left _ (List.mem_of_getElem? h)))
theorem tb_2 {w : Cond} (i : Nat) (h : (tables_1_2)[i]? = some w) (hg : (k2_isCode w || goodWord w) = true) : w ∈ tv_tb := List.mem_filter.mpr ⟨tb_m2 i h, hg⟩
theorem tn_2 {w : Cond} (i : Nat) (h : (tables_1_2)[i]? = some w) (hg : tv_isN w = true) : w ∈ tv_nb := List.mem_filter.mpr ⟨tb_m2 i h, hg⟩
theorem tb_m3 {w : Cond} (i : Nat) (h : (tables_1_3)[i]? = some w) : w ∈ lw_tbl := by
  unfold lw_tbl tables_1
  exact List.mem_append_right _ (List.mem_append_right _ (List.mem_append_right _ (List.mem_append_left _ (List.mem_of_getElem? h))))
theorem tb_3 {w : Cond} (i : Nat) (h : (tables_1_3)[i]? = some w) (hg : (k2_isCode w || goodWord w) = true) : w ∈ tv_tb := List.mem_filter.mpr ⟨tb_m3 i h, hg⟩
theorem tn_3 {w : Cond} (i : Nat) (h : (tables_1_3)[i]? = some w) (hg : tv_isN w = true) : w ∈ tv_nb := List.mem_filter.mpr ⟨tb_m3 i h, hg⟩
theorem tb_m4 {w : Cond} (i : Nat) (h : (tables_1_4)[i]? = some w) : w ∈ lw_tbl := by
  unfold lw_tbl tables_1
  exact List.mem_append_right _ (List.mem_append_right _ (List.mem_append_right _ (List.mem_append_right _ (List.mem_append_left _ (List.mem_of_getElem? h)))))
theorem tb_4 {w : Cond} (i : Nat) (h : (tables_1_4)[i]? = some w) (hg : (k2_isCode w || goodWord w) = true) : w ∈ tv_tb := List.mem_filter.mpr ⟨tb_m4 i h, hg⟩
theorem tn_4 {w : Cond} (i : Nat) (h : (tables_1_4)[i]? = some w) (hg : tv_isN w = true) : w ∈ tv_nb := List.mem_filter.mpr ⟨tb_m4 i h, hg⟩
theorem tb_m5 {w : Cond} (i : Nat) (h : (tables_1_5)[i]? = some w) : w ∈ lw_tbl := by
  unfold lw_tbl tables_1
  exact List.mem_append_right _ (List.mem_append_right _ (List.mem_append_right _ (List.mem_append_right _ (List.mem_append_right _ (List.mem_append_left _ (List.mem_of_getElem? h))))))
theorem tb_5 {w : Cond} (i : Nat) (h : (tables_1_5)[i]? = some w) (hg : (k2_isCode w || goodWord w) = true) : w ∈ tv_tb := List.mem_filter.mpr ⟨tb_m5 i h, hg⟩
theorem tn_5 {w : Cond} (i : Nat) (h : (tables_1_5)[i]? = some w) (hg : tv_isN w = true) : w ∈ tv_nb := List.mem_filter.mpr ⟨tb_m5 i h, hg⟩
theorem tb_m6 {w : Cond} (i : Nat) (h : (tables_1_6)[i]? = some w) : w ∈ lw_tbl := by
  unfold lw_tbl tables_1
  exact List.mem_append_right _ (List.mem_append_right _ (List.mem_append_right _ (List.mem_append_right _ (List.mem_append_right _ (List.mem_append_right _ (List.mem_append_left _ (List.mem_of_getElem? h)))))))
theorem tb_6 {w : Cond} (i : Nat) (h : (tables_1_6)[i]? = some w) (hg : (k2_isCode w || goodWord w) = true) : w ∈ tv_tb := List.mem_filter.mpr ⟨tb_m6 i h, hg⟩
theorem tn_6 {w : Cond} (i : Nat) (h : (tables_1_6)[i]? = some w) (hg : tv_isN w = true) : w ∈ tv_nb := List.mem_filter.mpr ⟨tb_m6 i h, hg⟩
theorem tb_m7 {w : Cond} (i : Nat) (h : (tables_1_7)[i]? = some w) : w ∈ lw_tbl := by
  unfold lw_tbl tables_1
  exact List.mem_append_right _ (List.mem_append_right _ (List.mem_append_right _ (List.mem_append_right _ (List.mem_append_right _ (List.mem_append_right _ (List.mem_append_right _ (List.mem_of_getElem? h)))))))
theorem tb_7 {w : Cond} (i : Nat) (h : (tables_1_7)[i]? = some w) (hg : (k2_isCode w || goodWord w) = true) : w ∈ tv_tb := List.mem_filter.mpr ⟨tb_m7 i h, hg⟩
theorem tn_7 {w : Cond} (i : Nat) (h : (tables_1_7)[i]? = some w) (hg : tv_isN w = true) : w ∈ tv_nb := List.mem_filter.mpr ⟨tb_m7 i h, hg⟩
theorem tw_all (C : String) (T : u_T) (N : Nat) (ps : List Nat) (h : u_ws C T N = ps.filterMap (fun i => lw_tbl[i]?)) (hg : (u_ws C T N).all (fun w => k2_isCode w || goodWord w) = true) : ∀ w ∈ u_ws C T N, w ∈ tv_tb := by
  intro w hw
  have h1 := List.all_eq_true.mp hg w hw
  rw [h] at hw
  obtain ⟨i, -, hi⟩ := List.mem_filterMap.mp hw
  exact tv_tbm i hi h1
set_option maxRecDepth 100000 in
theorem tw_c0 : tv_cls 0 RX0 TX0 6 := ⟨by decide, rfl, tw_all _ _ _ [319, 321, 323, 325, 327, 329] (by decide +kernel) (by decide +kernel), tyX0_ok, nmX0⟩
set_option maxRecDepth 100000 in
theorem tw_c1 : tv_cls 1 RX1 TX1 4 := ⟨by decide, rfl, tw_all _ _ _ [241, 243, 245, 247] (by decide +kernel) (by decide +kernel), tyX1_ok, nmX1⟩
set_option maxRecDepth 100000 in
theorem tw_c2 : tv_cls 2 RX2 TX2 5 := ⟨by decide, rfl, tw_all _ _ _ [346, 348, 350, 352, 354] (by decide +kernel) (by decide +kernel), tyX2_ok, nmX2⟩
set_option maxRecDepth 100000 in
theorem tw_c3 : tv_cls 3 RX3 TX3 13 := ⟨by decide, rfl, tw_all _ _ _ [182, 184, 186, 188, 190, 192, 194, 196, 198, 200, 202, 204, 206] (by decide +kernel) (by decide +kernel), tyX3_ok, nmX3⟩
set_option maxRecDepth 100000 in
theorem tw_c4 : tv_cls 4 RX4 TX4 1 := ⟨by decide, rfl, tw_all _ _ _ [276] (by decide +kernel) (by decide +kernel), tyX4_ok, nmX4⟩
set_option maxRecDepth 100000 in
theorem tw_c5 : tv_cls 5 RX5 TX5 4 := ⟨by decide, rfl, tw_all _ _ _ [292, 294, 296, 298] (by decide +kernel) (by decide +kernel), tyX5_ok, nmX5⟩
set_option maxRecDepth 100000 in
theorem tw_c6 : tv_cls 6 RX6 TX6 4 := ⟨by decide, rfl, tw_all _ _ _ [398, 400, 402, 404] (by decide +kernel) (by decide +kernel), tyX6_ok, nmX6⟩
set_option maxRecDepth 100000 in
theorem tw_c7 : tv_cls 7 RX7 TX7 1 := ⟨by decide, rfl, tw_all _ _ _ [137] (by decide +kernel) (by decide +kernel), tyX7_ok, nmX7⟩
set_option maxRecDepth 100000 in
theorem tw_c8 : tv_cls 8 RX8 TX8 5 := ⟨by decide, rfl, tw_all _ _ _ [372, 374, 376, 378, 380] (by decide +kernel) (by decide +kernel), tyX8_ok, nmX8⟩
set_option maxRecDepth 100000 in
theorem tw_c9 : tv_cls 9 RX9 TX9 4 := ⟨by decide, rfl, tw_all _ _ _ [220, 222, 224, 226] (by decide +kernel) (by decide +kernel), tyX9_ok, nmX9⟩
set_option maxRecDepth 100000 in
theorem tw_c10 : tv_cls 10 RX10 TX10 3 := ⟨by decide, rfl, tw_all _ _ _ [261, 263, 265] (by decide +kernel) (by decide +kernel), tyX10_ok, nmX10⟩
set_option maxRecDepth 100000 in
theorem tw_c11 : tv_cls 11 RX11 TX11 15 := ⟨by decide, rfl, tw_all _ _ _ [423, 425, 427, 429, 431, 433, 435, 437, 439, 441, 443, 445, 447, 449, 451] (by decide +kernel) (by decide +kernel), tyX11_ok, nmX11⟩
set_option maxRecDepth 100000 in
theorem tw_c12 : tv_cls 12 RX12 TX12 58 := ⟨by decide, rfl, tw_all _ _ _ [1119, 1121, 1123, 1125, 1127, 1129, 1131, 1133, 1135, 1137, 1139, 1141, 1143, 1145, 1147, 1149, 1151, 1153, 1155, 1157, 1159, 1161, 1163, 1165, 1167, 1169, 1171, 1173, 1175, 1177, 1179, 1181, 1183, 1185, 1187, 1189, 1191, 1193, 1195, 1197, 1199, 1201, 1203, 1205, 1207, 1209, 1211, 1213, 1215, 1217, 1219, 1221, 1223, 1225, 1227, 1229, 1231, 1233] (by decide +kernel) (by decide +kernel), tyX12_ok, nmX12⟩
abbrev mX0_init : tv_Y := (yX0_init, cX0_init, 1, none)
theorem tw_ini_0 : Cond.initialized "TemperInHive$Changes" ∈ tv_tb := tb_1 9 (by decide +kernel) rfl
set_option maxRecDepth 100000 in
theorem tw_X0_init : tv_mw mX0_init 0 := ⟨tw_ini_0, tb_1 205 rfl rfl, ⟨by decide +kernel, by decide +kernel, by decide +kernel⟩, by decide⟩
theorem tx_X0_init : tv_mi mX0_init := tb_1 204 (by decide +kernel) rfl
abbrev mX0_note : tv_Y := (yX0_note, cX0_note, 5, none)
set_option maxRecDepth 100000 in
theorem tw_X0_note : tv_mw mX0_note 4 := ⟨tw_ini_0, tb_2 207 rfl rfl, ⟨by decide +kernel, by decide +kernel, by decide +kernel⟩, by decide⟩
theorem tx_X0_note : tv_mv mX0_note := ⟨tb_2 205 (by decide +kernel) rfl, tb_2 206 (by decide +kernel) rfl⟩
abbrev mX0_forgetOldest : tv_Y := (yX0_forgetOldest, cX0_forgetOldest, 1, none)
set_option maxRecDepth 100000 in
theorem tw_X0_forgetOldest : tv_mw mX0_forgetOldest 0 := ⟨tw_ini_0, tb_2 211 rfl rfl, ⟨by decide +kernel, by decide +kernel, by decide +kernel⟩, by decide⟩
theorem tx_X0_forgetOldest : tv_mv mX0_forgetOldest := ⟨tb_2 210 (by decide +kernel) rfl, tb_0 2 (by decide +kernel) rfl⟩
abbrev mX1_init : tv_Y := (yX1_init, cX1_init, 1, none)
theorem tw_ini_1 : Cond.initialized "TemperInHive$Code" ∈ tv_tb := tb_1 5 (by decide +kernel) rfl
set_option maxRecDepth 100000 in
theorem tw_X1_init : tv_mw mX1_init 0 := ⟨tw_ini_1, tb_1 133 rfl rfl, ⟨by decide +kernel, by decide +kernel, by decide +kernel⟩, by decide⟩
theorem tx_X1_init : tv_mi mX1_init := tb_1 132 (by decide +kernel) rfl
abbrev mX1_add : tv_Y := (yX1_add, cX1_add, 3, none)
set_option maxRecDepth 100000 in
theorem tw_X1_add : tv_mw mX1_add 2 := ⟨tw_ini_1, tb_3 36 rfl rfl, ⟨by decide +kernel, by decide +kernel, by decide +kernel⟩, by decide⟩
theorem tx_X1_add : tv_mv mX1_add := ⟨tb_3 34 (by decide +kernel) rfl, tb_3 35 (by decide +kernel) rfl⟩
abbrev mX1_landHere : tv_Y := (yX1_landHere, cX1_landHere, 2, none)
set_option maxRecDepth 100000 in
theorem tw_X1_landHere : tv_mw mX1_landHere 1 := ⟨tw_ini_1, tb_3 47 rfl rfl, ⟨by decide +kernel, by decide +kernel, by decide +kernel⟩, by decide⟩
theorem tx_X1_landHere : tv_mv mX1_landHere := ⟨tb_3 45 (by decide +kernel) rfl, tb_3 46 (by decide +kernel) rfl⟩
abbrev mX1_workOut : tv_Y := (yX1_workOut, cX1_workOut, 5, some .int)
set_option maxRecDepth 100000 in
theorem tw_X1_workOut : tv_mw mX1_workOut 1 := ⟨tw_ini_1, tb_3 80 rfl rfl, ⟨by decide +kernel, by decide +kernel, by decide +kernel⟩, by decide⟩
theorem tx_X1_workOut : tv_mv mX1_workOut := ⟨tb_3 78 (by decide +kernel) rfl, tb_3 79 (by decide +kernel) rfl⟩
abbrev mX1_joined : tv_Y := (yX1_joined, cX1_joined, 3, some .int)
set_option maxRecDepth 100000 in
theorem tw_X1_joined : tv_mw mX1_joined 3 := ⟨tw_ini_1, tb_3 89 rfl rfl, ⟨by decide +kernel, by decide +kernel, by decide +kernel⟩, by decide⟩
theorem tx_X1_joined : tv_msx mX1_joined := tb_3 88 (by decide +kernel) rfl
abbrev mX1_truth : tv_Y := (yX1_truth, cX1_truth, 1, some .int)
set_option maxRecDepth 100000 in
theorem tw_X1_truth : tv_mw mX1_truth 1 := ⟨tw_ini_1, tb_3 86 rfl rfl, ⟨by decide +kernel, by decide +kernel, by decide +kernel⟩, by decide⟩
theorem tx_X1_truth : tv_msx mX1_truth := tb_3 85 (by decide +kernel) rfl
abbrev mX2_init : tv_Y := (yX2_init, cX2_init, 1, none)
theorem tw_ini_2 : Cond.initialized "TemperInHive$Image" ∈ tv_tb := tb_1 10 (by decide +kernel) rfl
set_option maxRecDepth 100000 in
theorem tw_X2_init : tv_mw mX2_init 0 := ⟨tw_ini_2, tb_1 236 rfl rfl, ⟨by decide +kernel, by decide +kernel, by decide +kernel⟩, by decide⟩
theorem tx_X2_init : tv_mi mX2_init := tb_1 235 (by decide +kernel) rfl
abbrev mX2_take : tv_Y := (yX2_take, cX2_take, 3, none)
set_option maxRecDepth 100000 in
theorem tw_X2_take : tv_mw mX2_take 2 := ⟨tw_ini_2, tb_4 124 rfl rfl, ⟨by decide +kernel, by decide +kernel, by decide +kernel⟩, by decide⟩
theorem tx_X2_take : tv_mv mX2_take := ⟨tb_4 122 (by decide +kernel) rfl, tb_4 123 (by decide +kernel) rfl⟩
abbrev mX2_layBack : tv_Y := (yX2_layBack, cX2_layBack, 3, none)
set_option maxRecDepth 100000 in
theorem tw_X2_layBack : tv_mw mX2_layBack 2 := ⟨tw_ini_2, tb_4 134 rfl rfl, ⟨by decide +kernel, by decide +kernel, by decide +kernel⟩, by decide⟩
theorem tx_X2_layBack : tv_mv mX2_layBack := ⟨tb_4 132 (by decide +kernel) rfl, tb_4 133 (by decide +kernel) rfl⟩
abbrev mX3_init : tv_Y := (yX3_init, cX3_init, 1, none)
theorem tw_ini_3 : Cond.initialized "TemperInHive$Land" ∈ tv_tb := tb_1 2 (by decide +kernel) rfl
set_option maxRecDepth 100000 in
theorem tw_X3_init : tv_mw mX3_init 0 := ⟨tw_ini_3, tb_1 28 rfl rfl, ⟨by decide +kernel, by decide +kernel, by decide +kernel⟩, by decide⟩
theorem tx_X3_init : tv_mi mX3_init := tb_1 27 (by decide +kernel) rfl
abbrev mX3_addPerson : tv_Y := (yX3_addPerson, cX3_addPerson, 2, some .int)
set_option maxRecDepth 100000 in
theorem tw_X3_addPerson : tv_mw mX3_addPerson 1 := ⟨tw_ini_3, tb_2 124 rfl rfl, ⟨by decide +kernel, by decide +kernel, by decide +kernel⟩, by decide⟩
theorem tx_X3_addPerson : tv_mv mX3_addPerson := ⟨tb_2 122 (by decide +kernel) rfl, tb_2 123 (by decide +kernel) rfl⟩
abbrev mX3_addHive : tv_Y := (yX3_addHive, cX3_addHive, 2, some .int)
set_option maxRecDepth 100000 in
theorem tw_X3_addHive : tv_mw mX3_addHive 1 := ⟨tw_ini_3, tb_2 135 rfl rfl, ⟨by decide +kernel, by decide +kernel, by decide +kernel⟩, by decide⟩
theorem tx_X3_addHive : tv_mv mX3_addHive := ⟨tb_2 133 (by decide +kernel) rfl, tb_2 134 (by decide +kernel) rfl⟩
abbrev mX3_addDeed : tv_Y := (yX3_addDeed, cX3_addDeed, 4, some .int)
set_option maxRecDepth 100000 in
theorem tw_X3_addDeed : tv_mw mX3_addDeed 3 := ⟨tw_ini_3, tb_2 146 rfl rfl, ⟨by decide +kernel, by decide +kernel, by decide +kernel⟩, by decide⟩
theorem tx_X3_addDeed : tv_mv mX3_addDeed := ⟨tb_2 144 (by decide +kernel) rfl, tb_2 145 (by decide +kernel) rfl⟩
abbrev mX3_isPerson : tv_Y := (yX3_isPerson, cX3_isPerson, 2, some .boolean)
set_option maxRecDepth 100000 in
theorem tw_X3_isPerson : tv_mw mX3_isPerson 1 := ⟨tw_ini_3, tb_2 178 rfl rfl, ⟨by decide +kernel, by decide +kernel, by decide +kernel⟩, by decide⟩
theorem tx_X3_isPerson : tv_mv mX3_isPerson := ⟨tb_2 176 (by decide +kernel) rfl, tb_2 177 (by decide +kernel) rfl⟩
abbrev mX3_isHive : tv_Y := (yX3_isHive, cX3_isHive, 2, some .boolean)
set_option maxRecDepth 100000 in
theorem tw_X3_isHive : tv_mw mX3_isHive 1 := ⟨tw_ini_3, tb_2 186 rfl rfl, ⟨by decide +kernel, by decide +kernel, by decide +kernel⟩, by decide⟩
theorem tx_X3_isHive : tv_mv mX3_isHive := ⟨tb_2 184 (by decide +kernel) rfl, tb_2 185 (by decide +kernel) rfl⟩
abbrev mX3_isDeed : tv_Y := (yX3_isDeed, cX3_isDeed, 2, some .boolean)
set_option maxRecDepth 100000 in
theorem tw_X3_isDeed : tv_mw mX3_isDeed 1 := ⟨tw_ini_3, tb_2 194 rfl rfl, ⟨by decide +kernel, by decide +kernel, by decide +kernel⟩, by decide⟩
theorem tx_X3_isDeed : tv_mv mX3_isDeed := ⟨tb_2 192 (by decide +kernel) rfl, tb_2 193 (by decide +kernel) rfl⟩
abbrev mX3_isShare : tv_Y := (yX3_isShare, cX3_isShare, 2, some .boolean)
set_option maxRecDepth 100000 in
theorem tw_X3_isShare : tv_mw mX3_isShare 1 := ⟨tw_ini_3, tb_2 182 rfl rfl, ⟨by decide +kernel, by decide +kernel, by decide +kernel⟩, by decide⟩
theorem tx_X3_isShare : tv_mv mX3_isShare := ⟨tb_2 180 (by decide +kernel) rfl, tb_2 181 (by decide +kernel) rfl⟩
abbrev mX3_mayDo : tv_Y := (yX3_mayDo, cX3_mayDo, 3, some .boolean)
set_option maxRecDepth 100000 in
theorem tw_X3_mayDo : tv_mw mX3_mayDo 2 := ⟨tw_ini_3, tb_3 149 rfl rfl, ⟨by decide +kernel, by decide +kernel, by decide +kernel⟩, by decide⟩
theorem tx_X3_mayDo : tv_mv mX3_mayDo := ⟨tb_3 147 (by decide +kernel) rfl, tb_3 148 (by decide +kernel) rfl⟩
abbrev mX3_farOf : tv_Y := (yX3_farOf, cX3_farOf, 2, some .int)
set_option maxRecDepth 100000 in
theorem tw_X3_farOf : tv_mw mX3_farOf 1 := ⟨tw_ini_3, tb_3 102 rfl rfl, ⟨by decide +kernel, by decide +kernel, by decide +kernel⟩, by decide⟩
theorem tx_X3_farOf : tv_mv mX3_farOf := ⟨tb_3 100 (by decide +kernel) rfl, tb_3 101 (by decide +kernel) rfl⟩
abbrev mX3_stingersAt : tv_Y := (yX3_stingersAt, cX3_stingersAt, 4, some .int)
set_option maxRecDepth 100000 in
theorem tw_X3_stingersAt : tv_mw mX3_stingersAt 1 := ⟨tw_ini_3, tb_3 201 rfl rfl, ⟨by decide +kernel, by decide +kernel, by decide +kernel⟩, by decide⟩
theorem tx_X3_stingersAt : tv_mv mX3_stingersAt := ⟨tb_3 199 (by decide +kernel) rfl, tb_3 200 (by decide +kernel) rfl⟩
abbrev mX3_leastOn : tv_Y := (yX3_leastOn, cX3_leastOn, 4, some .int)
set_option maxRecDepth 100000 in
theorem tw_X3_leastOn : tv_mw mX3_leastOn 1 := ⟨tw_ini_3, tb_3 114 rfl rfl, ⟨by decide +kernel, by decide +kernel, by decide +kernel⟩, by decide⟩
theorem tx_X3_leastOn : tv_mv mX3_leastOn := ⟨tb_3 112 (by decide +kernel) rfl, tb_3 113 (by decide +kernel) rfl⟩
abbrev mX3_mostOn : tv_Y := (yX3_mostOn, cX3_mostOn, 4, some .int)
set_option maxRecDepth 100000 in
theorem tw_X3_mostOn : tv_mw mX3_mostOn 1 := ⟨tw_ini_3, tb_3 119 rfl rfl, ⟨by decide +kernel, by decide +kernel, by decide +kernel⟩, by decide⟩
theorem tx_X3_mostOn : tv_mv mX3_mostOn := ⟨tb_3 117 (by decide +kernel) rfl, tb_3 118 (by decide +kernel) rfl⟩
abbrev mX3_numberOf : tv_Y := (yX3_numberOf, cX3_numberOf, 3, some .int)
set_option maxRecDepth 100000 in
theorem tw_X3_numberOf : tv_mw mX3_numberOf 2 := ⟨tw_ini_3, tb_2 174 rfl rfl, ⟨by decide +kernel, by decide +kernel, by decide +kernel⟩, by decide⟩
theorem tx_X3_numberOf : tv_mv mX3_numberOf := ⟨tb_2 172 (by decide +kernel) rfl, tb_2 173 (by decide +kernel) rfl⟩
abbrev mX3_setting : tv_Y := (yX3_setting, cX3_setting, 2, some .int)
set_option maxRecDepth 100000 in
theorem tw_X3_setting : tv_mw mX3_setting 1 := ⟨tw_ini_3, tb_2 198 rfl rfl, ⟨by decide +kernel, by decide +kernel, by decide +kernel⟩, by decide⟩
theorem tx_X3_setting : tv_mv mX3_setting := ⟨tb_2 197 (by decide +kernel) rfl, tb_0 1 (by decide +kernel) rfl⟩
abbrev mX3_fits : tv_Y := (yX3_fits, cX3_fits, 4, some .boolean)
set_option maxRecDepth 100000 in
theorem tw_X3_fits : tv_mw mX3_fits 3 := ⟨tw_ini_3, tb_2 202 rfl rfl, ⟨by decide +kernel, by decide +kernel, by decide +kernel⟩, by decide⟩
theorem tx_X3_fits : tv_mv mX3_fits := ⟨tb_2 200 (by decide +kernel) rfl, tb_2 201 (by decide +kernel) rfl⟩
abbrev mX3_change : tv_Y := (yX3_change, cX3_change, 4, none)
set_option maxRecDepth 100000 in
theorem tw_X3_change : tv_mw mX3_change 3 := ⟨tw_ini_3, tb_2 218 rfl rfl, ⟨by decide +kernel, by decide +kernel, by decide +kernel⟩, by decide⟩
theorem tx_X3_change : tv_mv mX3_change := ⟨tb_2 216 (by decide +kernel) rfl, tb_2 217 (by decide +kernel) rfl⟩
abbrev mX3_changeSetting : tv_Y := (yX3_changeSetting, cX3_changeSetting, 3, none)
set_option maxRecDepth 100000 in
theorem tw_X3_changeSetting : tv_mw mX3_changeSetting 2 := ⟨tw_ini_3, tb_2 226 rfl rfl, ⟨by decide +kernel, by decide +kernel, by decide +kernel⟩, by decide⟩
theorem tx_X3_changeSetting : tv_mv mX3_changeSetting := ⟨tb_2 225 (by decide +kernel) rfl, tb_0 3 (by decide +kernel) rfl⟩
abbrev mX4_init : tv_Y := (yX4_init, cX4_init, 1, none)
theorem tw_ini_4 : Cond.initialized "TemperInHive$Pairing" ∈ tv_tb := tb_1 7 (by decide +kernel) rfl
set_option maxRecDepth 100000 in
theorem tw_X4_init : tv_mw mX4_init 0 := ⟨tw_ini_4, tb_1 172 rfl rfl, ⟨by decide +kernel, by decide +kernel, by decide +kernel⟩, by decide⟩
theorem tx_X4_init : tv_mi mX4_init := tb_1 171 (by decide +kernel) rfl
abbrev mX4_reckon : tv_Y := (yX4_reckon, cX4_reckon, 4, none)
set_option maxRecDepth 100000 in
theorem tw_X4_reckon : tv_mw mX4_reckon 1 := ⟨tw_ini_4, tb_3 172 rfl rfl, ⟨by decide +kernel, by decide +kernel, by decide +kernel⟩, by decide⟩
theorem tx_X4_reckon : tv_mv mX4_reckon := ⟨tb_3 170 (by decide +kernel) rfl, tb_3 171 (by decide +kernel) rfl⟩
abbrev mX4_bestFrom : tv_Y := (yX4_bestFrom, cX4_bestFrom, 6, some .int)
set_option maxRecDepth 100000 in
theorem tw_X4_bestFrom : tv_mw mX4_bestFrom 3 := ⟨tw_ini_4, tb_3 176 rfl rfl, ⟨by decide +kernel, by decide +kernel, by decide +kernel⟩, by decide⟩
theorem tx_X4_bestFrom : tv_mv mX4_bestFrom := ⟨tb_3 175 (by decide +kernel) rfl, tb_0 16 (by decide +kernel) rfl⟩
abbrev mX4_isFree : tv_Y := (yX4_isFree, cX4_isFree, 4, some .boolean)
set_option maxRecDepth 100000 in
theorem tw_X4_isFree : tv_mw mX4_isFree 4 := ⟨tw_ini_4, tb_3 179 rfl rfl, ⟨by decide +kernel, by decide +kernel, by decide +kernel⟩, by decide⟩
theorem tx_X4_isFree : tv_msx mX4_isFree := tb_3 178 (by decide +kernel) rfl
abbrev mX4_worthBy : tv_Y := (yX4_worthBy, cX4_worthBy, 5, some .int)
set_option maxRecDepth 100000 in
theorem tw_X4_worthBy : tv_mw mX4_worthBy 4 := ⟨tw_ini_4, tb_3 184 rfl rfl, ⟨by decide +kernel, by decide +kernel, by decide +kernel⟩, by decide⟩
theorem tx_X4_worthBy : tv_mv mX4_worthBy := ⟨tb_3 183 (by decide +kernel) rfl, tb_0 17 (by decide +kernel) rfl⟩
abbrev mX4_doerOf : tv_Y := (yX4_doerOf, cX4_doerOf, 6, some .int)
set_option maxRecDepth 100000 in
theorem tw_X4_doerOf : tv_mw mX4_doerOf 2 := ⟨tw_ini_4, tb_3 189 rfl rfl, ⟨by decide +kernel, by decide +kernel, by decide +kernel⟩, by decide⟩
theorem tx_X4_doerOf : tv_mv mX4_doerOf := ⟨tb_3 187 (by decide +kernel) rfl, tb_3 188 (by decide +kernel) rfl⟩
abbrev mX4_firstDoer : tv_Y := (yX4_firstDoer, cX4_firstDoer, 5, some .int)
set_option maxRecDepth 100000 in
theorem tw_X4_firstDoer : tv_mw mX4_firstDoer 3 := ⟨tw_ini_4, tb_3 193 rfl rfl, ⟨by decide +kernel, by decide +kernel, by decide +kernel⟩, by decide⟩
theorem tx_X4_firstDoer : tv_mv mX4_firstDoer := ⟨tb_3 192 (by decide +kernel) rfl, tb_0 18 (by decide +kernel) rfl⟩
abbrev mX5_init : tv_Y := (yX5_init, cX5_init, 1, none)
theorem tw_ini_5 : Cond.initialized "TemperInHive$Round" ∈ tv_tb := tb_1 8 (by decide +kernel) rfl
set_option maxRecDepth 100000 in
theorem tw_X5_init : tv_mw mX5_init 0 := ⟨tw_ini_5, tb_1 183 rfl rfl, ⟨by decide +kernel, by decide +kernel, by decide +kernel⟩, by decide⟩
theorem tx_X5_init : tv_mi mX5_init := tb_1 182 (by decide +kernel) rfl
abbrev mX5_read : tv_Y := (yX5_read, cX5_read, 4, none)
set_option maxRecDepth 100000 in
theorem tw_X5_read : tv_mw mX5_read 2 := ⟨tw_ini_5, tb_3 135 rfl rfl, ⟨by decide +kernel, by decide +kernel, by decide +kernel⟩, by decide⟩
theorem tx_X5_read : tv_mv mX5_read := ⟨tb_3 134 (by decide +kernel) rfl, tb_0 13 (by decide +kernel) rfl⟩
abbrev mX5_worthWithoutGoing : tv_Y := (yX5_worthWithoutGoing, cX5_worthWithoutGoing, 6, some .int)
set_option maxRecDepth 100000 in
theorem tw_X5_worthWithoutGoing : tv_mw mX5_worthWithoutGoing 3 := ⟨tw_ini_5, tb_3 163 rfl rfl, ⟨by decide +kernel, by decide +kernel, by decide +kernel⟩, by decide⟩
theorem tx_X5_worthWithoutGoing : tv_mv mX5_worthWithoutGoing := ⟨tb_3 161 (by decide +kernel) rfl, tb_3 162 (by decide +kernel) rfl⟩
abbrev mX5_plan : tv_Y := (yX5_plan, cX5_plan, 6, some .boolean)
set_option maxRecDepth 100000 in
theorem tw_X5_plan : tv_mw mX5_plan 3 := ⟨tw_ini_5, tb_3 131 rfl rfl, ⟨by decide +kernel, by decide +kernel, by decide +kernel⟩, by decide⟩
theorem tx_X5_plan : tv_mv mX5_plan := ⟨tb_3 129 (by decide +kernel) rfl, tb_3 130 (by decide +kernel) rfl⟩
abbrev mX5_needsMoreThan : tv_Y := (yX5_needsMoreThan, cX5_needsMoreThan, 4, some .boolean)
set_option maxRecDepth 100000 in
theorem tw_X5_needsMoreThan : tv_mw mX5_needsMoreThan 2 := ⟨tw_ini_5, tb_3 145 rfl rfl, ⟨by decide +kernel, by decide +kernel, by decide +kernel⟩, by decide⟩
theorem tx_X5_needsMoreThan : tv_mv mX5_needsMoreThan := ⟨tb_3 144 (by decide +kernel) rfl, tb_0 14 (by decide +kernel) rfl⟩
abbrev mX5_goOnceFrom : tv_Y := (yX5_goOnceFrom, cX5_goOnceFrom, 9, some .int)
set_option maxRecDepth 100000 in
theorem tw_X5_goOnceFrom : tv_mw mX5_goOnceFrom 2 := ⟨tw_ini_5, tb_3 153 rfl rfl, ⟨by decide +kernel, by decide +kernel, by decide +kernel⟩, by decide⟩
theorem tx_X5_goOnceFrom : tv_mv mX5_goOnceFrom := ⟨tb_3 152 (by decide +kernel) rfl, tb_0 15 (by decide +kernel) rfl⟩
abbrev mX6_init : tv_Y := (yX6_init, cX6_init, 1, none)
theorem tw_ini_6 : Cond.initialized "TemperInHive$Shelf" ∈ tv_tb := tb_1 12 (by decide +kernel) rfl
set_option maxRecDepth 100000 in
theorem tw_X6_init : tv_mw mX6_init 0 := ⟨tw_ini_6, tb_2 48 rfl rfl, ⟨by decide +kernel, by decide +kernel, by decide +kernel⟩, by decide⟩
theorem tx_X6_init : tv_mi mX6_init := tb_2 47 (by decide +kernel) rfl
abbrev mX6_clear : tv_Y := (yX6_clear, cX6_clear, 4, none)
set_option maxRecDepth 100000 in
theorem tw_X6_clear : tv_mw mX6_clear 2 := ⟨tw_ini_6, tb_4 202 rfl rfl, ⟨by decide +kernel, by decide +kernel, by decide +kernel⟩, by decide⟩
theorem tx_X6_clear : tv_mv mX6_clear := ⟨tb_4 200 (by decide +kernel) rfl, tb_4 201 (by decide +kernel) rfl⟩
abbrev mX6_has : tv_Y := (yX6_has, cX6_has, 2, some .boolean)
set_option maxRecDepth 100000 in
theorem tw_X6_has : tv_mw mX6_has 1 := ⟨tw_ini_6, tb_2 165 rfl rfl, ⟨by decide +kernel, by decide +kernel, by decide +kernel⟩, by decide⟩
theorem tx_X6_has : tv_mv mX6_has := ⟨tb_2 163 (by decide +kernel) rfl, tb_2 164 (by decide +kernel) rfl⟩
abbrev mX6_at : tv_Y := (yX6_at, cX6_at, 2, some .int)
set_option maxRecDepth 100000 in
theorem tw_X6_at : tv_mw mX6_at 1 := ⟨tw_ini_6, tb_2 161 rfl rfl, ⟨by decide +kernel, by decide +kernel, by decide +kernel⟩, by decide⟩
theorem tx_X6_at : tv_mv mX6_at := ⟨tb_2 159 (by decide +kernel) rfl, tb_2 160 (by decide +kernel) rfl⟩
abbrev mX7_init : tv_Y := (yX7_init, cX7_init, 1, none)
theorem tw_ini_7 : Cond.initialized "TemperInHive$Stock" ∈ tv_tb := tb_1 3 (by decide +kernel) rfl
set_option maxRecDepth 100000 in
theorem tw_X7_init : tv_mw mX7_init 0 := ⟨tw_ini_7, tb_1 34 rfl rfl, ⟨by decide +kernel, by decide +kernel, by decide +kernel⟩, by decide⟩
theorem tx_X7_init : tv_mi mX7_init := tb_1 33 (by decide +kernel) rfl
abbrev mX7_share : tv_Y := (yX7_share, cX7_share, 3, some .int)
set_option maxRecDepth 100000 in
theorem tw_X7_share : tv_mw mX7_share 2 := ⟨tw_ini_7, tb_2 190 rfl rfl, ⟨by decide +kernel, by decide +kernel, by decide +kernel⟩, by decide⟩
theorem tx_X7_share : tv_mv mX7_share := ⟨tb_2 188 (by decide +kernel) rfl, tb_2 189 (by decide +kernel) rfl⟩
abbrev mX7_lay : tv_Y := (yX7_lay, cX7_lay, 4, none)
set_option maxRecDepth 100000 in
theorem tw_X7_lay : tv_mw mX7_lay 3 := ⟨tw_ini_7, tb_2 222 rfl rfl, ⟨by decide +kernel, by decide +kernel, by decide +kernel⟩, by decide⟩
theorem tx_X7_lay : tv_mv mX7_lay := ⟨tb_2 220 (by decide +kernel) rfl, tb_2 221 (by decide +kernel) rfl⟩
abbrev mX7_allIn : tv_Y := (yX7_allIn, cX7_allIn, 4, some .int)
set_option maxRecDepth 100000 in
theorem tw_X7_allIn : tv_mw mX7_allIn 1 := ⟨tw_ini_7, tb_3 66 rfl rfl, ⟨by decide +kernel, by decide +kernel, by decide +kernel⟩, by decide⟩
theorem tx_X7_allIn : tv_mv mX7_allIn := ⟨tb_3 64 (by decide +kernel) rfl, tb_3 65 (by decide +kernel) rfl⟩
abbrev mX7_allInAll : tv_Y := (yX7_allInAll, cX7_allInAll, 3, some .int)
set_option maxRecDepth 100000 in
theorem tw_X7_allInAll : tv_mw mX7_allInAll 0 := ⟨tw_ini_7, tb_4 76 rfl rfl, ⟨by decide +kernel, by decide +kernel, by decide +kernel⟩, by decide⟩
theorem tx_X7_allInAll : tv_mv mX7_allInAll := ⟨tb_4 74 (by decide +kernel) rfl, tb_4 75 (by decide +kernel) rfl⟩
abbrev mX7_allOf : tv_Y := (yX7_allOf, cX7_allOf, 4, some .int)
set_option maxRecDepth 100000 in
theorem tw_X7_allOf : tv_mw mX7_allOf 1 := ⟨tw_ini_7, tb_3 141 rfl rfl, ⟨by decide +kernel, by decide +kernel, by decide +kernel⟩, by decide⟩
theorem tx_X7_allOf : tv_mv mX7_allOf := ⟨tb_3 139 (by decide +kernel) rfl, tb_3 140 (by decide +kernel) rfl⟩
abbrev mX7_holders : tv_Y := (yX7_holders, cX7_holders, 4, some .int)
set_option maxRecDepth 100000 in
theorem tw_X7_holders : tv_mw mX7_holders 1 := ⟨tw_ini_7, tb_3 71 rfl rfl, ⟨by decide +kernel, by decide +kernel, by decide +kernel⟩, by decide⟩
theorem tx_X7_holders : tv_mv mX7_holders := ⟨tb_3 69 (by decide +kernel) rfl, tb_3 70 (by decide +kernel) rfl⟩
abbrev mX7_copyFrom : tv_Y := (yX7_copyFrom, cX7_copyFrom, 2, none)
set_option maxRecDepth 100000 in
theorem tw_X7_copyFrom : tv_mw mX7_copyFrom 1 := ⟨tw_ini_7, tb_3 57 rfl rfl, ⟨by decide +kernel, by decide +kernel, by decide +kernel⟩, by decide⟩
theorem tx_X7_copyFrom : tv_mv mX7_copyFrom := ⟨tb_3 55 (by decide +kernel) rfl, tb_3 56 (by decide +kernel) rfl⟩
abbrev mX8_init : tv_Y := (yX8_init, cX8_init, 1, none)
theorem tw_ini_8 : Cond.initialized "TemperInHive$Swarms" ∈ tv_tb := tb_1 11 (by decide +kernel) rfl
set_option maxRecDepth 100000 in
theorem tw_X8_init : tv_mw mX8_init 0 := ⟨tw_ini_8, tb_2 21 rfl rfl, ⟨by decide +kernel, by decide +kernel, by decide +kernel⟩, by decide⟩
theorem tx_X8_init : tv_mi mX8_init := tb_2 20 (by decide +kernel) rfl
abbrev mX8_add : tv_Y := (yX8_add, cX8_add, 2, some .int)
set_option maxRecDepth 100000 in
theorem tw_X8_add : tv_mw mX8_add 1 := ⟨tw_ini_8, tb_4 153 rfl rfl, ⟨by decide +kernel, by decide +kernel, by decide +kernel⟩, by decide⟩
theorem tx_X8_add : tv_mv mX8_add := ⟨tb_4 151 (by decide +kernel) rfl, tb_4 152 (by decide +kernel) rfl⟩
abbrev mX8_isBody : tv_Y := (yX8_isBody, cX8_isBody, 2, some .boolean)
set_option maxRecDepth 100000 in
theorem tw_X8_isBody : tv_mw mX8_isBody 1 := ⟨tw_ini_8, tb_4 161 rfl rfl, ⟨by decide +kernel, by decide +kernel, by decide +kernel⟩, by decide⟩
theorem tx_X8_isBody : tv_mv mX8_isBody := ⟨tb_4 159 (by decide +kernel) rfl, tb_4 160 (by decide +kernel) rfl⟩
abbrev mX8_begin : tv_Y := (yX8_begin, cX8_begin, 4, some .int)
set_option maxRecDepth 100000 in
theorem tw_X8_begin : tv_mw mX8_begin 3 := ⟨tw_ini_8, tb_4 165 rfl rfl, ⟨by decide +kernel, by decide +kernel, by decide +kernel⟩, by decide⟩
theorem tx_X8_begin : tv_mv mX8_begin := ⟨tb_4 163 (by decide +kernel) rfl, tb_4 164 (by decide +kernel) rfl⟩
abbrev mX8_own : tv_Y := (yX8_own, cX8_own, 4, some .int)
set_option maxRecDepth 100000 in
theorem tw_X8_own : tv_mw mX8_own 3 := ⟨tw_ini_8, tb_4 169 rfl rfl, ⟨by decide +kernel, by decide +kernel, by decide +kernel⟩, by decide⟩
theorem tx_X8_own : tv_mv mX8_own := ⟨tb_4 168 (by decide +kernel) rfl, tb_0 28 (by decide +kernel) rfl⟩
abbrev mX8_above : tv_Y := (yX8_above, cX8_above, 5, some .int)
set_option maxRecDepth 100000 in
theorem tw_X8_above : tv_mw mX8_above 4 := ⟨tw_ini_8, tb_4 186 rfl rfl, ⟨by decide +kernel, by decide +kernel, by decide +kernel⟩, by decide⟩
theorem tx_X8_above : tv_mv mX8_above := ⟨tb_4 185 (by decide +kernel) rfl, tb_0 31 (by decide +kernel) rfl⟩
abbrev mX8_run : tv_Y := (yX8_run, cX8_run, 8, some .int)
set_option maxRecDepth 100000 in
theorem tw_X8_run : tv_mw mX8_run 4 := ⟨tw_ini_8, tb_4 173 rfl rfl, ⟨by decide +kernel, by decide +kernel, by decide +kernel⟩, by decide⟩
theorem tx_X8_run : tv_mv mX8_run := ⟨tb_4 172 (by decide +kernel) rfl, tb_0 29 (by decide +kernel) rfl⟩
abbrev mX8_answer : tv_Y := (yX8_answer, cX8_answer, 4, some .int)
set_option maxRecDepth 100000 in
theorem tw_X8_answer : tv_mw mX8_answer 3 := ⟨tw_ini_8, tb_4 182 rfl rfl, ⟨by decide +kernel, by decide +kernel, by decide +kernel⟩, by decide⟩
theorem tx_X8_answer : tv_mv mX8_answer := ⟨tb_4 181 (by decide +kernel) rfl, tb_0 30 (by decide +kernel) rfl⟩
abbrev mX9_init : tv_Y := (yX9_init, cX9_init, 1, none)
theorem tw_ini_9 : Cond.initialized "TemperInHive$Tape" ∈ tv_tb := tb_1 4 (by decide +kernel) rfl
set_option maxRecDepth 100000 in
theorem tw_X9_init : tv_mw mX9_init 0 := ⟨tw_ini_9, tb_1 113 rfl rfl, ⟨by decide +kernel, by decide +kernel, by decide +kernel⟩, by decide⟩
theorem tx_X9_init : tv_mi mX9_init := tb_1 112 (by decide +kernel) rfl
abbrev mX9_add : tv_Y := (yX9_add, cX9_add, 2, some .int)
set_option maxRecDepth 100000 in
theorem tw_X9_add : tv_mw mX9_add 1 := ⟨tw_ini_9, tb_2 238 rfl rfl, ⟨by decide +kernel, by decide +kernel, by decide +kernel⟩, by decide⟩
theorem tx_X9_add : tv_mv mX9_add := ⟨tb_2 236 (by decide +kernel) rfl, tb_2 237 (by decide +kernel) rfl⟩
abbrev mX9_readInto : tv_Y := (yX9_readInto, cX9_readInto, 3, some .int)
set_option maxRecDepth 100000 in
theorem tw_X9_readInto : tv_mw mX9_readInto 1 := ⟨tw_ini_9, tb_3 6 rfl rfl, ⟨by decide +kernel, by decide +kernel, by decide +kernel⟩, by decide⟩
theorem tx_X9_readInto : tv_mv mX9_readInto := ⟨tb_3 4 (by decide +kernel) rfl, tb_3 5 (by decide +kernel) rfl⟩
abbrev mX9_sign : tv_Y := (yX9_sign, cX9_sign, 1, some .int)
set_option maxRecDepth 100000 in
theorem tw_X9_sign : tv_mw mX9_sign 0 := ⟨tw_ini_9, tb_3 22 rfl rfl, ⟨by decide +kernel, by decide +kernel, by decide +kernel⟩, by decide⟩
theorem tx_X9_sign : tv_mv mX9_sign := ⟨tb_3 21 (by decide +kernel) rfl, tb_0 7 (by decide +kernel) rfl⟩
abbrev mX9_readLine : tv_Y := (yX9_readLine, cX9_readLine, 3, none)
set_option maxRecDepth 100000 in
theorem tw_X9_readLine : tv_mw mX9_readLine 1 := ⟨tw_ini_9, tb_3 10 rfl rfl, ⟨by decide +kernel, by decide +kernel, by decide +kernel⟩, by decide⟩
theorem tx_X9_readLine : tv_mv mX9_readLine := ⟨tb_3 9 (by decide +kernel) rfl, tb_0 4 (by decide +kernel) rfl⟩
abbrev mX9_readRank : tv_Y := (yX9_readRank, cX9_readRank, 7, none)
set_option maxRecDepth 100000 in
theorem tw_X9_readRank : tv_mw mX9_readRank 3 := ⟨tw_ini_9, tb_3 14 rfl rfl, ⟨by decide +kernel, by decide +kernel, by decide +kernel⟩, by decide⟩
theorem tx_X9_readRank : tv_mv mX9_readRank := ⟨tb_3 13 (by decide +kernel) rfl, tb_0 5 (by decide +kernel) rfl⟩
abbrev mX9_readOperand : tv_Y := (yX9_readOperand, cX9_readOperand, 5, none)
set_option maxRecDepth 100000 in
theorem tw_X9_readOperand : tv_mw mX9_readOperand 2 := ⟨tw_ini_9, tb_3 18 rfl rfl, ⟨by decide +kernel, by decide +kernel, by decide +kernel⟩, by decide⟩
theorem tx_X9_readOperand : tv_mv mX9_readOperand := ⟨tb_3 17 (by decide +kernel) rfl, tb_0 6 (by decide +kernel) rfl⟩
abbrev mX9_readNumber : tv_Y := (yX9_readNumber, cX9_readNumber, 4, none)
set_option maxRecDepth 100000 in
theorem tw_X9_readNumber : tv_mw mX9_readNumber 1 := ⟨tw_ini_9, tb_3 32 rfl rfl, ⟨by decide +kernel, by decide +kernel, by decide +kernel⟩, by decide⟩
theorem tx_X9_readNumber : tv_mv mX9_readNumber := ⟨tb_3 31 (by decide +kernel) rfl, tb_0 8 (by decide +kernel) rfl⟩
abbrev mX9_readClosing : tv_Y := (yX9_readClosing, cX9_readClosing, 1, none)
set_option maxRecDepth 100000 in
theorem tw_X9_readClosing : tv_mw mX9_readClosing 0 := ⟨tw_ini_9, tb_3 40 rfl rfl, ⟨by decide +kernel, by decide +kernel, by decide +kernel⟩, by decide⟩
theorem tx_X9_readClosing : tv_mv mX9_readClosing := ⟨tb_3 39 (by decide +kernel) rfl, tb_0 9 (by decide +kernel) rfl⟩
abbrev mX9_isDigit : tv_Y := (yX9_isDigit, cX9_isDigit, 1, some .boolean)
set_option maxRecDepth 100000 in
theorem tw_X9_isDigit : tv_mw mX9_isDigit 1 := ⟨tw_ini_9, tb_3 28 rfl rfl, ⟨by decide +kernel, by decide +kernel, by decide +kernel⟩, by decide⟩
theorem tx_X9_isDigit : tv_msx mX9_isDigit := tb_3 27 (by decide +kernel) rfl
abbrev mX9_nameOf : tv_Y := (yX9_nameOf, cX9_nameOf, 1, some .int)
set_option maxRecDepth 100000 in
theorem tw_X9_nameOf : tv_mw mX9_nameOf 1 := ⟨tw_ini_9, tb_3 25 rfl rfl, ⟨by decide +kernel, by decide +kernel, by decide +kernel⟩, by decide⟩
theorem tx_X9_nameOf : tv_msx mX9_nameOf := tb_3 24 (by decide +kernel) rfl
abbrev mX9_rankOf : tv_Y := (yX9_rankOf, cX9_rankOf, 1, some .int)
set_option maxRecDepth 100000 in
theorem tw_X9_rankOf : tv_mw mX9_rankOf 1 := ⟨tw_ini_9, tb_3 43 rfl rfl, ⟨by decide +kernel, by decide +kernel, by decide +kernel⟩, by decide⟩
theorem tx_X9_rankOf : tv_msx mX9_rankOf := tb_3 42 (by decide +kernel) rfl
abbrev mX10_init : tv_Y := (yX10_init, cX10_init, 1, none)
theorem tw_ini_10 : Cond.initialized "TemperInHive$Ways" ∈ tv_tb := tb_1 6 (by decide +kernel) rfl
set_option maxRecDepth 100000 in
theorem tw_X10_init : tv_mw mX10_init 0 := ⟨tw_ini_10, tb_1 156 rfl rfl, ⟨by decide +kernel, by decide +kernel, by decide +kernel⟩, by decide⟩
theorem tx_X10_init : tv_mi mX10_init := tb_1 155 (by decide +kernel) rfl
abbrev mX10_look : tv_Y := (yX10_look, cX10_look, 5, none)
set_option maxRecDepth 100000 in
theorem tw_X10_look : tv_mw mX10_look 1 := ⟨tw_ini_10, tb_3 217 rfl rfl, ⟨by decide +kernel, by decide +kernel, by decide +kernel⟩, by decide⟩
theorem tx_X10_look : tv_mv mX10_look := ⟨tb_3 215 (by decide +kernel) rfl, tb_3 216 (by decide +kernel) rfl⟩
abbrev mX10_cellsWithin : tv_Y := (yX10_cellsWithin, cX10_cellsWithin, 4, some .int)
set_option maxRecDepth 100000 in
theorem tw_X10_cellsWithin : tv_mw mX10_cellsWithin 2 := ⟨tw_ini_10, tb_4 25 rfl rfl, ⟨by decide +kernel, by decide +kernel, by decide +kernel⟩, by decide⟩
theorem tx_X10_cellsWithin : tv_msx mX10_cellsWithin := tb_4 24 (by decide +kernel) rfl
abbrev mX10_beside : tv_Y := (yX10_beside, cX10_beside, 4, some .int)
set_option maxRecDepth 100000 in
theorem tw_X10_beside : tv_mw mX10_beside 2 := ⟨tw_ini_10, tb_3 235 rfl rfl, ⟨by decide +kernel, by decide +kernel, by decide +kernel⟩, by decide⟩
theorem tx_X10_beside : tv_msx mX10_beside := tb_3 234 (by decide +kernel) rfl
abbrev mX10_isSafe : tv_Y := (yX10_isSafe, cX10_isSafe, 4, some .boolean)
set_option maxRecDepth 100000 in
theorem tw_X10_isSafe : tv_mw mX10_isSafe 3 := ⟨tw_ini_10, tb_3 228 rfl rfl, ⟨by decide +kernel, by decide +kernel, by decide +kernel⟩, by decide⟩
theorem tx_X10_isSafe : tv_mv mX10_isSafe := ⟨tb_3 227 (by decide +kernel) rfl, tb_0 19 (by decide +kernel) rfl⟩
abbrev mX10_steps : tv_Y := (yX10_steps, cX10_steps, 7, some .int)
set_option maxRecDepth 100000 in
theorem tw_X10_steps : tv_mw mX10_steps 4 := ⟨tw_ini_10, tb_3 224 rfl rfl, ⟨by decide +kernel, by decide +kernel, by decide +kernel⟩, by decide⟩
theorem tx_X10_steps : tv_mv mX10_steps := ⟨tb_3 222 (by decide +kernel) rfl, tb_3 223 (by decide +kernel) rfl⟩
abbrev mX10_spread : tv_Y := (yX10_spread, cX10_spread, 8, some .int)
set_option maxRecDepth 100000 in
theorem tw_X10_spread : tv_mw mX10_spread 4 := ⟨tw_ini_10, tb_3 232 rfl rfl, ⟨by decide +kernel, by decide +kernel, by decide +kernel⟩, by decide⟩
theorem tx_X10_spread : tv_mv mX10_spread := ⟨tb_3 231 (by decide +kernel) rfl, tb_0 20 (by decide +kernel) rfl⟩
abbrev mX10_bestCell : tv_Y := (yX10_bestCell, cX10_bestCell, 9, some .int)
set_option maxRecDepth 100000 in
theorem tw_X10_bestCell : tv_mw mX10_bestCell 3 := ⟨tw_ini_10, tb_4 21 rfl rfl, ⟨by decide +kernel, by decide +kernel, by decide +kernel⟩, by decide⟩
theorem tx_X10_bestCell : tv_mv mX10_bestCell := ⟨tb_4 19 (by decide +kernel) rfl, tb_4 20 (by decide +kernel) rfl⟩
abbrev mX10_leastPrice : tv_Y := (yX10_leastPrice, cX10_leastPrice, 5, some .int)
set_option maxRecDepth 100000 in
theorem tw_X10_leastPrice : tv_mw mX10_leastPrice 2 := ⟨tw_ini_10, tb_4 3 rfl rfl, ⟨by decide +kernel, by decide +kernel, by decide +kernel⟩, by decide⟩
theorem tx_X10_leastPrice : tv_mv mX10_leastPrice := ⟨tb_4 1 (by decide +kernel) rfl, tb_4 2 (by decide +kernel) rfl⟩
abbrev mX10_cheapestOpen : tv_Y := (yX10_cheapestOpen, cX10_cheapestOpen, 3, some .int)
set_option maxRecDepth 100000 in
theorem tw_X10_cheapestOpen : tv_mw mX10_cheapestOpen 0 := ⟨tw_ini_10, tb_4 8 rfl rfl, ⟨by decide +kernel, by decide +kernel, by decide +kernel⟩, by decide⟩
theorem tx_X10_cheapestOpen : tv_mv mX10_cheapestOpen := ⟨tb_4 7 (by decide +kernel) rfl, tb_0 21 (by decide +kernel) rfl⟩
abbrev mX10_cheapen : tv_Y := (yX10_cheapen, cX10_cheapen, 4, none)
set_option maxRecDepth 100000 in
theorem tw_X10_cheapen : tv_mw mX10_cheapen 1 := ⟨tw_ini_10, tb_4 12 rfl rfl, ⟨by decide +kernel, by decide +kernel, by decide +kernel⟩, by decide⟩
theorem tx_X10_cheapen : tv_mv mX10_cheapen := ⟨tb_4 11 (by decide +kernel) rfl, tb_0 22 (by decide +kernel) rfl⟩
abbrev mX11_init : tv_Y := (yX11_init, cX11_init, 2, none)
theorem tw_ini_11 : Cond.initialized "TemperInHive" ∈ tv_tb := tb_1 1 (by decide +kernel) rfl
set_option maxRecDepth 100000 in
theorem tw_X11_init : tv_mw mX11_init 0 := ⟨tw_ini_11, tb_1 20 rfl rfl, ⟨by decide +kernel, by decide +kernel, by decide +kernel⟩, by decide⟩
theorem tx_X11_init : tv_mi mX11_init := tb_1 19 (by decide +kernel) rfl
abbrev mX11_person : tv_Y := (yX11_person, cX11_person, 2, some .int)
set_option maxRecDepth 100000 in
theorem tw_X11_person : tv_mw mX11_person 1 := ⟨tw_ini_11, tb_2 117 rfl rfl, ⟨by decide +kernel, by decide +kernel, by decide +kernel⟩, by decide⟩
theorem tx_X11_person : tv_mv mX11_person := ⟨tb_2 115 (by decide +kernel) rfl, tb_2 116 (by decide +kernel) rfl⟩
abbrev mX11_hive : tv_Y := (yX11_hive, cX11_hive, 2, some .int)
set_option maxRecDepth 100000 in
theorem tw_X11_hive : tv_mw mX11_hive 1 := ⟨tw_ini_11, tb_2 128 rfl rfl, ⟨by decide +kernel, by decide +kernel, by decide +kernel⟩, by decide⟩
theorem tx_X11_hive : tv_mv mX11_hive := ⟨tb_2 126 (by decide +kernel) rfl, tb_2 127 (by decide +kernel) rfl⟩
abbrev mX11_deed : tv_Y := (yX11_deed, cX11_deed, 3, some .int)
set_option maxRecDepth 100000 in
theorem tw_X11_deed : tv_mw mX11_deed 2 := ⟨tw_ini_11, tb_2 139 rfl rfl, ⟨by decide +kernel, by decide +kernel, by decide +kernel⟩, by decide⟩
theorem tx_X11_deed : tv_mv mX11_deed := ⟨tb_2 137 (by decide +kernel) rfl, tb_2 138 (by decide +kernel) rfl⟩
abbrev mX11_deeds : tv_Y := (yX11_deeds, cX11_deeds, 7, some .int)
set_option maxRecDepth 100000 in
theorem tw_X11_deeds : tv_mw mX11_deeds 3 := ⟨tw_ini_11, tb_2 150 rfl rfl, ⟨by decide +kernel, by decide +kernel, by decide +kernel⟩, by decide⟩
theorem tx_X11_deeds : tv_mv mX11_deeds := ⟨tb_2 148 (by decide +kernel) rfl, tb_2 149 (by decide +kernel) rfl⟩
abbrev mX11_addDeedFrom : tv_Y := (yX11_addDeedFrom, cX11_addDeedFrom, 6, some .boolean)
set_option maxRecDepth 100000 in
theorem tw_X11_addDeedFrom : tv_mw mX11_addDeedFrom 2 := ⟨tw_ini_11, tb_2 157 rfl rfl, ⟨by decide +kernel, by decide +kernel, by decide +kernel⟩, by decide⟩
theorem tx_X11_addDeedFrom : tv_mv mX11_addDeedFrom := ⟨tb_2 156 (by decide +kernel) rfl, tb_0 0 (by decide +kernel) rfl⟩
abbrev mX11_mend : tv_Y := (yX11_mend, cX11_mend, 5, some .int)
set_option maxRecDepth 100000 in
theorem tw_X11_mend : tv_mw mX11_mend 3 := ⟨tw_ini_11, tb_2 170 rfl rfl, ⟨by decide +kernel, by decide +kernel, by decide +kernel⟩, by decide⟩
theorem tx_X11_mend : tv_mv mX11_mend := ⟨tb_2 168 (by decide +kernel) rfl, tb_2 169 (by decide +kernel) rfl⟩
abbrev mX11_of : tv_Y := (yX11_of, cX11_of, 3, some .int)
set_option maxRecDepth 100000 in
theorem tw_X11_of : tv_mw mX11_of 2 := ⟨tw_ini_11, tb_2 230 rfl rfl, ⟨by decide +kernel, by decide +kernel, by decide +kernel⟩, by decide⟩
theorem tx_X11_of : tv_mv mX11_of := ⟨tb_2 228 (by decide +kernel) rfl, tb_2 229 (by decide +kernel) rfl⟩
abbrev mX11_feed : tv_Y := (yX11_feed, cX11_feed, 2, some .int)
set_option maxRecDepth 100000 in
theorem tw_X11_feed : tv_mw mX11_feed 1 := ⟨tw_ini_11, tb_2 234 rfl rfl, ⟨by decide +kernel, by decide +kernel, by decide +kernel⟩, by decide⟩
theorem tx_X11_feed : tv_mv mX11_feed := ⟨tb_2 232 (by decide +kernel) rfl, tb_2 233 (by decide +kernel) rfl⟩
abbrev mX11_law : tv_Y := (yX11_law, cX11_law, 3, some .int)
set_option maxRecDepth 100000 in
theorem tw_X11_law : tv_mw mX11_law 0 := ⟨tw_ini_11, tb_3 2 rfl rfl, ⟨by decide +kernel, by decide +kernel, by decide +kernel⟩, by decide⟩
theorem tx_X11_law : tv_mv mX11_law := ⟨tb_3 0 (by decide +kernel) rfl, tb_3 1 (by decide +kernel) rfl⟩
abbrev mX11_later : tv_Y := (yX11_later, cX11_later, 6, some .int)
set_option maxRecDepth 100000 in
theorem tw_X11_later : tv_mw mX11_later 2 := ⟨tw_ini_11, tb_3 51 rfl rfl, ⟨by decide +kernel, by decide +kernel, by decide +kernel⟩, by decide⟩
theorem tx_X11_later : tv_mv mX11_later := ⟨tb_3 49 (by decide +kernel) rfl, tb_3 50 (by decide +kernel) rfl⟩
abbrev mX11_still : tv_Y := (yX11_still, cX11_still, 3, some .int)
set_option maxRecDepth 100000 in
theorem tw_X11_still : tv_mw mX11_still 1 := ⟨tw_ini_11, tb_3 106 rfl rfl, ⟨by decide +kernel, by decide +kernel, by decide +kernel⟩, by decide⟩
theorem tx_X11_still : tv_mv mX11_still := ⟨tb_3 104 (by decide +kernel) rfl, tb_3 105 (by decide +kernel) rfl⟩
abbrev mX11_passDay : tv_Y := (yX11_passDay, cX11_passDay, 8, some .boolean)
set_option maxRecDepth 100000 in
theorem tw_X11_passDay : tv_mw mX11_passDay 3 := ⟨tw_ini_11, tb_3 62 rfl rfl, ⟨by decide +kernel, by decide +kernel, by decide +kernel⟩, by decide⟩
theorem tx_X11_passDay : tv_mv mX11_passDay := ⟨tb_3 61 (by decide +kernel) rfl, tb_0 10 (by decide +kernel) rfl⟩
abbrev mX11_shareNextDay : tv_Y := (yX11_shareNextDay, cX11_shareNextDay, 3, some .int)
set_option maxRecDepth 100000 in
theorem tw_X11_shareNextDay : tv_mw mX11_shareNextDay 1 := ⟨tw_ini_11, tb_3 76 rfl rfl, ⟨by decide +kernel, by decide +kernel, by decide +kernel⟩, by decide⟩
theorem tx_X11_shareNextDay : tv_mv mX11_shareNextDay := ⟨tb_3 75 (by decide +kernel) rfl, tb_0 11 (by decide +kernel) rfl⟩
abbrev mX11_farOrNot : tv_Y := (yX11_farOrNot, cX11_farOrNot, 3, some .int)
set_option maxRecDepth 100000 in
theorem tw_X11_farOrNot : tv_mw mX11_farOrNot 1 := ⟨tw_ini_11, tb_3 98 rfl rfl, ⟨by decide +kernel, by decide +kernel, by decide +kernel⟩, by decide⟩
theorem tx_X11_farOrNot : tv_mv mX11_farOrNot := ⟨tb_3 97 (by decide +kernel) rfl, tb_0 12 (by decide +kernel) rfl⟩
abbrev mX11_can : tv_Y := (yX11_can, cX11_can, 7, some .int)
set_option maxRecDepth 100000 in
theorem tw_X11_can : tv_mw mX11_can 2 := ⟨tw_ini_11, tb_3 110 rfl rfl, ⟨by decide +kernel, by decide +kernel, by decide +kernel⟩, by decide⟩
theorem tx_X11_can : tv_mv mX11_can := ⟨tb_3 108 (by decide +kernel) rfl, tb_3 109 (by decide +kernel) rfl⟩
abbrev mX11_round : tv_Y := (yX11_round, cX11_round, 5, some .int)
set_option maxRecDepth 100000 in
theorem tw_X11_round : tv_mw mX11_round 3 := ⟨tw_ini_11, tb_3 124 rfl rfl, ⟨by decide +kernel, by decide +kernel, by decide +kernel⟩, by decide⟩
theorem tx_X11_round : tv_mv mX11_round := ⟨tb_3 122 (by decide +kernel) rfl, tb_3 123 (by decide +kernel) rfl⟩
abbrev mX11_without : tv_Y := (yX11_without, cX11_without, 4, some .int)
set_option maxRecDepth 100000 in
theorem tw_X11_without : tv_mw mX11_without 2 := ⟨tw_ini_11, tb_3 159 rfl rfl, ⟨by decide +kernel, by decide +kernel, by decide +kernel⟩, by decide⟩
theorem tx_X11_without : tv_mv mX11_without := ⟨tb_3 157 (by decide +kernel) rfl, tb_3 158 (by decide +kernel) rfl⟩
abbrev mX11_who : tv_Y := (yX11_who, cX11_who, 2, some .int)
set_option maxRecDepth 100000 in
theorem tw_X11_who : tv_mw mX11_who 1 := ⟨tw_ini_11, tb_3 167 rfl rfl, ⟨by decide +kernel, by decide +kernel, by decide +kernel⟩, by decide⟩
theorem tx_X11_who : tv_mv mX11_who := ⟨tb_3 165 (by decide +kernel) rfl, tb_3 166 (by decide +kernel) rfl⟩
abbrev mX11_stung : tv_Y := (yX11_stung, cX11_stung, 2, some .int)
set_option maxRecDepth 100000 in
theorem tw_X11_stung : tv_mw mX11_stung 1 := ⟨tw_ini_11, tb_3 197 rfl rfl, ⟨by decide +kernel, by decide +kernel, by decide +kernel⟩, by decide⟩
theorem tx_X11_stung : tv_mv mX11_stung := ⟨tb_3 195 (by decide +kernel) rfl, tb_3 196 (by decide +kernel) rfl⟩
abbrev mX11_way : tv_Y := (yX11_way, cX11_way, 3, some .int)
set_option maxRecDepth 100000 in
theorem tw_X11_way : tv_mw mX11_way 2 := ⟨tw_ini_11, tb_3 213 rfl rfl, ⟨by decide +kernel, by decide +kernel, by decide +kernel⟩, by decide⟩
theorem tx_X11_way : tv_mv mX11_way := ⟨tb_3 211 (by decide +kernel) rfl, tb_3 212 (by decide +kernel) rfl⟩
abbrev mX11_least : tv_Y := (yX11_least, cX11_least, 5, some .int)
set_option maxRecDepth 100000 in
theorem tw_X11_least : tv_mw mX11_least 3 := ⟨tw_ini_11, tb_3 239 rfl rfl, ⟨by decide +kernel, by decide +kernel, by decide +kernel⟩, by decide⟩
theorem tx_X11_least : tv_mv mX11_least := ⟨tb_3 237 (by decide +kernel) rfl, tb_3 238 (by decide +kernel) rfl⟩
abbrev mX11_set : tv_Y := (yX11_set, cX11_set, 8, some .int)
set_option maxRecDepth 100000 in
theorem tw_X11_set : tv_mw mX11_set 3 := ⟨tw_ini_11, tb_4 17 rfl rfl, ⟨by decide +kernel, by decide +kernel, by decide +kernel⟩, by decide⟩
theorem tx_X11_set : tv_mv mX11_set := ⟨tb_4 15 (by decide +kernel) rfl, tb_4 16 (by decide +kernel) rfl⟩
abbrev mX11_tries : tv_Y := (yX11_tries, cX11_tries, 12, some .int)
set_option maxRecDepth 100000 in
theorem tw_X11_tries : tv_mw mX11_tries 3 := ⟨tw_ini_11, tb_4 30 rfl rfl, ⟨by decide +kernel, by decide +kernel, by decide +kernel⟩, by decide⟩
theorem tx_X11_tries : tv_mv mX11_tries := ⟨tb_4 28 (by decide +kernel) rfl, tb_4 29 (by decide +kernel) rfl⟩
abbrev mX11_next : tv_Y := (yX11_next, cX11_next, 13, some .int)
set_option maxRecDepth 100000 in
theorem tw_X11_next : tv_mw mX11_next 2 := ⟨tw_ini_11, tb_4 48 rfl rfl, ⟨by decide +kernel, by decide +kernel, by decide +kernel⟩, by decide⟩
theorem tx_X11_next : tv_mv mX11_next := ⟨tb_4 46 (by decide +kernel) rfl, tb_4 47 (by decide +kernel) rfl⟩
abbrev mX11_amountsThatSting : tv_Y := (yX11_amountsThatSting, cX11_amountsThatSting, 6, some .int)
set_option maxRecDepth 100000 in
theorem tw_X11_amountsThatSting : tv_mw mX11_amountsThatSting 3 := ⟨tw_ini_11, tb_4 52 rfl rfl, ⟨by decide +kernel, by decide +kernel, by decide +kernel⟩, by decide⟩
theorem tx_X11_amountsThatSting : tv_mv mX11_amountsThatSting := ⟨tb_4 51 (by decide +kernel) rfl, tb_0 24 (by decide +kernel) rfl⟩
abbrev mX11_makesAllSo : tv_Y := (yX11_makesAllSo, cX11_makesAllSo, 5, some .boolean)
set_option maxRecDepth 100000 in
theorem tw_X11_makesAllSo : tv_mw mX11_makesAllSo 3 := ⟨tw_ini_11, tb_4 44 rfl rfl, ⟨by decide +kernel, by decide +kernel, by decide +kernel⟩, by decide⟩
theorem tx_X11_makesAllSo : tv_mv mX11_makesAllSo := ⟨tb_4 43 (by decide +kernel) rfl, tb_0 23 (by decide +kernel) rfl⟩
abbrev mX11_farthestStung : tv_Y := (yX11_farthestStung, cX11_farthestStung, 4, some .int)
set_option maxRecDepth 100000 in
theorem tw_X11_farthestStung : tv_mw mX11_farthestStung 2 := ⟨tw_ini_11, tb_4 33 rfl rfl, ⟨by decide +kernel, by decide +kernel, by decide +kernel⟩, by decide⟩
theorem tx_X11_farthestStung : tv_msx mX11_farthestStung := tb_4 32 (by decide +kernel) rfl
abbrev mX11_nearestSafe : tv_Y := (yX11_nearestSafe, cX11_nearestSafe, 4, some .int)
set_option maxRecDepth 100000 in
theorem tw_X11_nearestSafe : tv_mw mX11_nearestSafe 2 := ⟨tw_ini_11, tb_4 40 rfl rfl, ⟨by decide +kernel, by decide +kernel, by decide +kernel⟩, by decide⟩
theorem tx_X11_nearestSafe : tv_msx mX11_nearestSafe := tb_4 39 (by decide +kernel) rfl
abbrev mX11_isTry : tv_Y := (yX11_isTry, cX11_isTry, 5, some .boolean)
set_option maxRecDepth 100000 in
theorem tw_X11_isTry : tv_mw mX11_isTry 2 := ⟨tw_ini_11, tb_4 36 rfl rfl, ⟨by decide +kernel, by decide +kernel, by decide +kernel⟩, by decide⟩
theorem tx_X11_isTry : tv_msx mX11_isTry := tb_4 35 (by decide +kernel) rfl
abbrev mX11_leave : tv_Y := (yX11_leave, cX11_leave, 4, some .int)
set_option maxRecDepth 100000 in
theorem tw_X11_leave : tv_mw mX11_leave 1 := ⟨tw_ini_11, tb_4 56 rfl rfl, ⟨by decide +kernel, by decide +kernel, by decide +kernel⟩, by decide⟩
theorem tx_X11_leave : tv_mv mX11_leave := ⟨tb_4 54 (by decide +kernel) rfl, tb_4 55 (by decide +kernel) rfl⟩
abbrev mX11_costOfHaving : tv_Y := (yX11_costOfHaving, cX11_costOfHaving, 2, some .int)
set_option maxRecDepth 100000 in
theorem tw_X11_costOfHaving : tv_mw mX11_costOfHaving 1 := ⟨tw_ini_11, tb_4 60 rfl rfl, ⟨by decide +kernel, by decide +kernel, by decide +kernel⟩, by decide⟩
theorem tx_X11_costOfHaving : tv_mv mX11_costOfHaving := ⟨tb_4 59 (by decide +kernel) rfl, tb_0 25 (by decide +kernel) rfl⟩
abbrev mX11_judge : tv_Y := (yX11_judge, cX11_judge, 6, some .int)
set_option maxRecDepth 100000 in
theorem tw_X11_judge : tv_mw mX11_judge 1 := ⟨tw_ini_11, tb_4 64 rfl rfl, ⟨by decide +kernel, by decide +kernel, by decide +kernel⟩, by decide⟩
theorem tx_X11_judge : tv_mv mX11_judge := ⟨tb_4 62 (by decide +kernel) rfl, tb_4 63 (by decide +kernel) rfl⟩
abbrev mX11_from : tv_Y := (yX11_from, cX11_from, 5, some .int)
set_option maxRecDepth 100000 in
theorem tw_X11_from : tv_mw mX11_from 2 := ⟨tw_ini_11, tb_4 68 rfl rfl, ⟨by decide +kernel, by decide +kernel, by decide +kernel⟩, by decide⟩
theorem tx_X11_from : tv_mv mX11_from := ⟨tb_4 66 (by decide +kernel) rfl, tb_4 67 (by decide +kernel) rfl⟩
abbrev mX11_swarm : tv_Y := (yX11_swarm, cX11_swarm, 3, some .int)
set_option maxRecDepth 100000 in
theorem tw_X11_swarm : tv_mw mX11_swarm 1 := ⟨tw_ini_11, tb_4 72 rfl rfl, ⟨by decide +kernel, by decide +kernel, by decide +kernel⟩, by decide⟩
theorem tx_X11_swarm : tv_mv mX11_swarm := ⟨tb_4 70 (by decide +kernel) rfl, tb_4 71 (by decide +kernel) rfl⟩
abbrev mX11_drawn : tv_Y := (yX11_drawn, cX11_drawn, 12, some .int)
set_option maxRecDepth 100000 in
theorem tw_X11_drawn : tv_mw mX11_drawn 3 := ⟨tw_ini_11, tb_4 81 rfl rfl, ⟨by decide +kernel, by decide +kernel, by decide +kernel⟩, by decide⟩
theorem tx_X11_drawn : tv_mv mX11_drawn := ⟨tb_4 79 (by decide +kernel) rfl, tb_4 80 (by decide +kernel) rfl⟩
abbrev mX11_foreseeMonth : tv_Y := (yX11_foreseeMonth, cX11_foreseeMonth, 4, none)
set_option maxRecDepth 100000 in
theorem tw_X11_foreseeMonth : tv_mw mX11_foreseeMonth 1 := ⟨tw_ini_11, tb_4 85 rfl rfl, ⟨by decide +kernel, by decide +kernel, by decide +kernel⟩, by decide⟩
theorem tx_X11_foreseeMonth : tv_mv mX11_foreseeMonth := ⟨tb_4 84 (by decide +kernel) rfl, tb_0 26 (by decide +kernel) rfl⟩
abbrev mX11_stingsOn : tv_Y := (yX11_stingsOn, cX11_stingsOn, 5, some .int)
set_option maxRecDepth 100000 in
theorem tw_X11_stingsOn : tv_mw mX11_stingsOn 2 := ⟨tw_ini_11, tb_4 90 rfl rfl, ⟨by decide +kernel, by decide +kernel, by decide +kernel⟩, by decide⟩
theorem tx_X11_stingsOn : tv_mv mX11_stingsOn := ⟨tb_4 89 (by decide +kernel) rfl, tb_0 27 (by decide +kernel) rfl⟩
abbrev mX11_takes : tv_Y := (yX11_takes, cX11_takes, 6, some .int)
set_option maxRecDepth 100000 in
theorem tw_X11_takes : tv_mw mX11_takes 2 := ⟨tw_ini_11, tb_4 94 rfl rfl, ⟨by decide +kernel, by decide +kernel, by decide +kernel⟩, by decide⟩
theorem tx_X11_takes : tv_mv mX11_takes := ⟨tb_4 92 (by decide +kernel) rfl, tb_4 93 (by decide +kernel) rfl⟩
abbrev mX11_puts : tv_Y := (yX11_puts, cX11_puts, 6, some .int)
set_option maxRecDepth 100000 in
theorem tw_X11_puts : tv_mw mX11_puts 2 := ⟨tw_ini_11, tb_4 99 rfl rfl, ⟨by decide +kernel, by decide +kernel, by decide +kernel⟩, by decide⟩
theorem tx_X11_puts : tv_mv mX11_puts := ⟨tb_4 97 (by decide +kernel) rfl, tb_4 98 (by decide +kernel) rfl⟩
abbrev mX11_day : tv_Y := (yX11_day, cX11_day, 2, some .int)
set_option maxRecDepth 100000 in
theorem tw_X11_day : tv_mw mX11_day 0 := ⟨tw_ini_11, tb_4 103 rfl rfl, ⟨by decide +kernel, by decide +kernel, by decide +kernel⟩, by decide⟩
theorem tx_X11_day : tv_mv mX11_day := ⟨tb_4 101 (by decide +kernel) rfl, tb_4 102 (by decide +kernel) rfl⟩
abbrev mX11_does : tv_Y := (yX11_does, cX11_does, 4, some .int)
set_option maxRecDepth 100000 in
theorem tw_X11_does : tv_mw mX11_does 1 := ⟨tw_ini_11, tb_4 107 rfl rfl, ⟨by decide +kernel, by decide +kernel, by decide +kernel⟩, by decide⟩
theorem tx_X11_does : tv_mv mX11_does := ⟨tb_4 105 (by decide +kernel) rfl, tb_4 106 (by decide +kernel) rfl⟩
abbrev mX11_marry : tv_Y := (yX11_marry, cX11_marry, 5, some .int)
set_option maxRecDepth 100000 in
theorem tw_X11_marry : tv_mw mX11_marry 1 := ⟨tw_ini_11, tb_4 112 rfl rfl, ⟨by decide +kernel, by decide +kernel, by decide +kernel⟩, by decide⟩
theorem tx_X11_marry : tv_mv mX11_marry := ⟨tb_4 110 (by decide +kernel) rfl, tb_4 111 (by decide +kernel) rfl⟩
abbrev mX11_led : tv_Y := (yX11_led, cX11_led, 2, some .int)
set_option maxRecDepth 100000 in
theorem tw_X11_led : tv_mw mX11_led 1 := ⟨tw_ini_11, tb_4 116 rfl rfl, ⟨by decide +kernel, by decide +kernel, by decide +kernel⟩, by decide⟩
theorem tx_X11_led : tv_mv mX11_led := ⟨tb_4 114 (by decide +kernel) rfl, tb_4 115 (by decide +kernel) rfl⟩
abbrev mX11_image : tv_Y := (yX11_image, cX11_image, 1, some .int)
set_option maxRecDepth 100000 in
theorem tw_X11_image : tv_mw mX11_image 0 := ⟨tw_ini_11, tb_4 120 rfl rfl, ⟨by decide +kernel, by decide +kernel, by decide +kernel⟩, by decide⟩
theorem tx_X11_image : tv_mv mX11_image := ⟨tb_4 118 (by decide +kernel) rfl, tb_4 119 (by decide +kernel) rfl⟩
abbrev mX11_back : tv_Y := (yX11_back, cX11_back, 1, some .int)
set_option maxRecDepth 100000 in
theorem tw_X11_back : tv_mw mX11_back 0 := ⟨tw_ini_11, tb_4 130 rfl rfl, ⟨by decide +kernel, by decide +kernel, by decide +kernel⟩, by decide⟩
theorem tx_X11_back : tv_mv mX11_back := ⟨tb_4 128 (by decide +kernel) rfl, tb_4 129 (by decide +kernel) rfl⟩
abbrev mX11_undo : tv_Y := (yX11_undo, cX11_undo, 2, some .int)
set_option maxRecDepth 100000 in
theorem tw_X11_undo : tv_mw mX11_undo 0 := ⟨tw_ini_11, tb_4 138 rfl rfl, ⟨by decide +kernel, by decide +kernel, by decide +kernel⟩, by decide⟩
theorem tx_X11_undo : tv_mv mX11_undo := ⟨tb_4 136 (by decide +kernel) rfl, tb_4 137 (by decide +kernel) rfl⟩
abbrev mX11_redo : tv_Y := (yX11_redo, cX11_redo, 2, some .int)
set_option maxRecDepth 100000 in
theorem tw_X11_redo : tv_mw mX11_redo 0 := ⟨tw_ini_11, tb_4 142 rfl rfl, ⟨by decide +kernel, by decide +kernel, by decide +kernel⟩, by decide⟩
theorem tx_X11_redo : tv_mv mX11_redo := ⟨tb_4 140 (by decide +kernel) rfl, tb_4 141 (by decide +kernel) rfl⟩
abbrev mX11_body : tv_Y := (yX11_body, cX11_body, 2, some .int)
set_option maxRecDepth 100000 in
theorem tw_X11_body : tv_mw mX11_body 1 := ⟨tw_ini_11, tb_4 146 rfl rfl, ⟨by decide +kernel, by decide +kernel, by decide +kernel⟩, by decide⟩
theorem tx_X11_body : tv_mv mX11_body := ⟨tb_4 144 (by decide +kernel) rfl, tb_4 145 (by decide +kernel) rfl⟩
abbrev mX11_act : tv_Y := (yX11_act, cX11_act, 4, some .int)
set_option maxRecDepth 100000 in
theorem tw_X11_act : tv_mw mX11_act 3 := ⟨tw_ini_11, tb_4 157 rfl rfl, ⟨by decide +kernel, by decide +kernel, by decide +kernel⟩, by decide⟩
theorem tx_X11_act : tv_mv mX11_act := ⟨tb_4 155 (by decide +kernel) rfl, tb_4 156 (by decide +kernel) rfl⟩
abbrev mX11_trace : tv_Y := (yX11_trace, cX11_trace, 2, some .int)
set_option maxRecDepth 100000 in
theorem tw_X11_trace : tv_mw mX11_trace 1 := ⟨tw_ini_11, tb_4 190 rfl rfl, ⟨by decide +kernel, by decide +kernel, by decide +kernel⟩, by decide⟩
theorem tx_X11_trace : tv_mv mX11_trace := ⟨tb_4 188 (by decide +kernel) rfl, tb_4 189 (by decide +kernel) rfl⟩
abbrev mX11_keep : tv_Y := (yX11_keep, cX11_keep, 3, some .int)
set_option maxRecDepth 100000 in
theorem tw_X11_keep : tv_mw mX11_keep 2 := ⟨tw_ini_11, tb_4 194 rfl rfl, ⟨by decide +kernel, by decide +kernel, by decide +kernel⟩, by decide⟩
theorem tx_X11_keep : tv_mv mX11_keep := ⟨tb_4 192 (by decide +kernel) rfl, tb_4 193 (by decide +kernel) rfl⟩
abbrev mX11_row : tv_Y := (yX11_row, cX11_row, 4, some .int)
set_option maxRecDepth 100000 in
theorem tw_X11_row : tv_mw mX11_row 3 := ⟨tw_ini_11, tb_4 198 rfl rfl, ⟨by decide +kernel, by decide +kernel, by decide +kernel⟩, by decide⟩
theorem tx_X11_row : tv_mv mX11_row := ⟨tb_4 196 (by decide +kernel) rfl, tb_4 197 (by decide +kernel) rfl⟩
abbrev mX11_put : tv_Y := (yX11_put, cX11_put, 7, some .int)
set_option maxRecDepth 100000 in
theorem tw_X11_put : tv_mw mX11_put 3 := ⟨tw_ini_11, tb_4 206 rfl rfl, ⟨by decide +kernel, by decide +kernel, by decide +kernel⟩, by decide⟩
theorem tx_X11_put : tv_mv mX11_put := ⟨tb_4 204 (by decide +kernel) rfl, tb_4 205 (by decide +kernel) rfl⟩
abbrev mX11_element : tv_Y := (yX11_element, cX11_element, 3, some .long)
set_option maxRecDepth 100000 in
theorem tw_X11_element : tv_mw mX11_element 2 := ⟨tw_ini_11, tb_4 217 rfl rfl, ⟨by decide +kernel, by decide +kernel, by decide +kernel⟩, by decide⟩
theorem tx_X11_element : tv_mv mX11_element := ⟨tb_4 215 (by decide +kernel) rfl, tb_4 216 (by decide +kernel) rfl⟩
abbrev mX11_shift : tv_Y := (yX11_shift, cX11_shift, 8, some .int)
set_option maxRecDepth 100000 in
theorem tw_X11_shift : tv_mw mX11_shift 5 := ⟨tw_ini_11, tb_4 222 rfl rfl, ⟨by decide +kernel, by decide +kernel, by decide +kernel⟩, by decide⟩
theorem tx_X11_shift : tv_mv mX11_shift := ⟨tb_4 220 (by decide +kernel) rfl, tb_4 221 (by decide +kernel) rfl⟩
abbrev mX11_taken : tv_Y := (yX11_taken, cX11_taken, 5, some .int)
set_option maxRecDepth 100000 in
theorem tw_X11_taken : tv_mw mX11_taken 2 := ⟨tw_ini_11, tb_4 227 rfl rfl, ⟨by decide +kernel, by decide +kernel, by decide +kernel⟩, by decide⟩
theorem tx_X11_taken : tv_mv mX11_taken := ⟨tb_4 225 (by decide +kernel) rfl, tb_4 226 (by decide +kernel) rfl⟩
abbrev mX11_count : tv_Y := (yX11_count, cX11_count, 2, some .int)
set_option maxRecDepth 100000 in
theorem tw_X11_count : tv_mw mX11_count 1 := ⟨tw_ini_11, tb_4 235 rfl rfl, ⟨by decide +kernel, by decide +kernel, by decide +kernel⟩, by decide⟩
theorem tx_X11_count : tv_mv mX11_count := ⟨tb_4 233 (by decide +kernel) rfl, tb_4 234 (by decide +kernel) rfl⟩
abbrev mX11_isTemper : tv_Y := (yX11_isTemper, cX11_isTemper, 1, some .boolean)
set_option maxRecDepth 100000 in
theorem tw_X11_isTemper : tv_mw mX11_isTemper 1 := ⟨tw_ini_11, tb_2 120 rfl rfl, ⟨by decide +kernel, by decide +kernel, by decide +kernel⟩, by decide⟩
theorem tx_X11_isTemper : tv_msx mX11_isTemper := tb_2 119 (by decide +kernel) rfl
abbrev mX11_isCell : tv_Y := (yX11_isCell, cX11_isCell, 1, some .boolean)
set_option maxRecDepth 100000 in
theorem tw_X11_isCell : tv_mw mX11_isCell 1 := ⟨tw_ini_11, tb_2 131 rfl rfl, ⟨by decide +kernel, by decide +kernel, by decide +kernel⟩, by decide⟩
theorem tx_X11_isCell : tv_msx mX11_isCell := tb_2 130 (by decide +kernel) rfl
abbrev mX11_isShelf : tv_Y := (yX11_isShelf, cX11_isShelf, 1, some .boolean)
set_option maxRecDepth 100000 in
theorem tw_X11_isShelf : tv_mw mX11_isShelf 1 := ⟨tw_ini_11, tb_2 153 rfl rfl, ⟨by decide +kernel, by decide +kernel, by decide +kernel⟩, by decide⟩
theorem tx_X11_isShelf : tv_msx mX11_isShelf := tb_2 152 (by decide +kernel) rfl
abbrev mX11_isKind : tv_Y := (yX11_isKind, cX11_isKind, 1, some .boolean)
set_option maxRecDepth 100000 in
theorem tw_X11_isKind : tv_mw mX11_isKind 1 := ⟨tw_ini_11, tb_4 149 rfl rfl, ⟨by decide +kernel, by decide +kernel, by decide +kernel⟩, by decide⟩
theorem tx_X11_isKind : tv_msx mX11_isKind := tb_4 148 (by decide +kernel) rfl
abbrev mX11_isUnder : tv_Y := (yX11_isUnder, cX11_isUnder, 4, some .boolean)
set_option maxRecDepth 100000 in
theorem tw_X11_isUnder : tv_mw mX11_isUnder 2 := ⟨tw_ini_11, tb_4 230 rfl rfl, ⟨by decide +kernel, by decide +kernel, by decide +kernel⟩, by decide⟩
theorem tx_X11_isUnder : tv_msx mX11_isUnder := tb_4 229 (by decide +kernel) rfl
abbrev mX11_isDeedAsItMayBe : tv_Y := (yX11_isDeedAsItMayBe, cX11_isDeedAsItMayBe, 3, some .boolean)
set_option maxRecDepth 100000 in
theorem tw_X11_isDeedAsItMayBe : tv_mw mX11_isDeedAsItMayBe 3 := ⟨tw_ini_11, tb_2 142 rfl rfl, ⟨by decide +kernel, by decide +kernel, by decide +kernel⟩, by decide⟩
theorem tx_X11_isDeedAsItMayBe : tv_msx mX11_isDeedAsItMayBe := tb_2 141 (by decide +kernel) rfl
abbrev mX11_apart : tv_Y := (yX11_apart, cX11_apart, 2, some .int)
set_option maxRecDepth 100000 in
theorem tw_X11_apart : tv_mw mX11_apart 2 := ⟨tw_ini_11, tb_3 204 rfl rfl, ⟨by decide +kernel, by decide +kernel, by decide +kernel⟩, by decide⟩
theorem tx_X11_apart : tv_msx mX11_apart := tb_3 203 (by decide +kernel) rfl
abbrev mX11_refusal : tv_Y := (yX11_refusal, cX11_refusal, 2, some .int)
set_option maxRecDepth 100000 in
theorem tw_X11_refusal : tv_mw mX11_refusal 2 := ⟨tw_ini_11, tb_3 127 rfl rfl, ⟨by decide +kernel, by decide +kernel, by decide +kernel⟩, by decide⟩
theorem tx_X11_refusal : tv_msx mX11_refusal := tb_3 126 (by decide +kernel) rfl
abbrev mX11_rowRefusal : tv_Y := (yX11_rowRefusal, cX11_rowRefusal, 1, some .int)
set_option maxRecDepth 100000 in
theorem tw_X11_rowRefusal : tv_mw mX11_rowRefusal 1 := ⟨tw_ini_11, tb_4 209 rfl rfl, ⟨by decide +kernel, by decide +kernel, by decide +kernel⟩, by decide⟩
theorem tx_X11_rowRefusal : tv_msx mX11_rowRefusal := tb_4 208 (by decide +kernel) rfl
abbrev mX11_lowestBits : tv_Y := (yX11_lowestBits, cX11_lowestBits, 3, some .long)
set_option maxRecDepth 100000 in
theorem tw_X11_lowestBits : tv_mw mX11_lowestBits 2 := ⟨tw_ini_11, tb_4 213 rfl rfl, ⟨by decide +kernel, by decide +kernel, by decide +kernel⟩, by decide⟩
theorem tx_X11_lowestBits : tv_msx mX11_lowestBits := tb_4 212 (by decide +kernel) rfl
abbrev mX12_init : tv_Y := (yX12_init, cX12_init, 1, none)
theorem tw_ini_12 : Cond.initialized "TemperInHiveModel" ∈ tv_tb := tb_1 13 (by decide +kernel) rfl
set_option maxRecDepth 100000 in
theorem tw_X12_init : tv_mw mX12_init 0 := ⟨tw_ini_12, tb_5 0 rfl rfl, ⟨by decide +kernel, by decide +kernel, by decide +kernel⟩, by decide⟩
theorem tx_X12_init : tv_mi mX12_init := tb_4 239 (by decide +kernel) rfl
abbrev mX12_in : tv_Y := (yX12_in, cX12_in, 3, some .boolean)
set_option maxRecDepth 100000 in
theorem tw_X12_in : tv_mw mX12_in 3 := ⟨tw_ini_12, tb_5 188 rfl rfl, ⟨by decide +kernel, by decide +kernel, by decide +kernel⟩, by decide⟩
theorem tx_X12_in : tv_msx mX12_in := tb_5 187 (by decide +kernel) rfl
abbrev mX12_apart : tv_Y := (yX12_apart, cX12_apart, 2, some .int)
set_option maxRecDepth 100000 in
theorem tw_X12_apart : tv_mw mX12_apart 2 := ⟨tw_ini_12, tb_6 210 rfl rfl, ⟨by decide +kernel, by decide +kernel, by decide +kernel⟩, by decide⟩
theorem tx_X12_apart : tv_msx mX12_apart := tb_6 209 (by decide +kernel) rfl
abbrev mX12_far : tv_Y := (yX12_far, cX12_far, 2, some .int)
set_option maxRecDepth 100000 in
theorem tw_X12_far : tv_mw mX12_far 2 := ⟨tw_ini_12, tb_6 207 rfl rfl, ⟨by decide +kernel, by decide +kernel, by decide +kernel⟩, by decide⟩
theorem tx_X12_far : tv_msx mX12_far := tb_6 206 (by decide +kernel) rfl
abbrev mX12_isPerson : tv_Y := (yX12_isPerson, cX12_isPerson, 2, some .boolean)
set_option maxRecDepth 100000 in
theorem tw_X12_isPerson : tv_mw mX12_isPerson 1 := ⟨tw_ini_12, tb_5 238 rfl rfl, ⟨by decide +kernel, by decide +kernel, by decide +kernel⟩, by decide⟩
theorem tx_X12_isPerson : tv_mv mX12_isPerson := ⟨tb_5 237 (by decide +kernel) rfl, tb_0 35 (by decide +kernel) rfl⟩
abbrev mX12_isHive : tv_Y := (yX12_isHive, cX12_isHive, 2, some .boolean)
set_option maxRecDepth 100000 in
theorem tw_X12_isHive : tv_mw mX12_isHive 1 := ⟨tw_ini_12, tb_6 6 rfl rfl, ⟨by decide +kernel, by decide +kernel, by decide +kernel⟩, by decide⟩
theorem tx_X12_isHive : tv_mv mX12_isHive := ⟨tb_6 5 (by decide +kernel) rfl, tb_0 37 (by decide +kernel) rfl⟩
abbrev mX12_isDeed : tv_Y := (yX12_isDeed, cX12_isDeed, 2, some .boolean)
set_option maxRecDepth 100000 in
theorem tw_X12_isDeed : tv_mw mX12_isDeed 1 := ⟨tw_ini_12, tb_6 10 rfl rfl, ⟨by decide +kernel, by decide +kernel, by decide +kernel⟩, by decide⟩
theorem tx_X12_isDeed : tv_mv mX12_isDeed := ⟨tb_6 9 (by decide +kernel) rfl, tb_0 38 (by decide +kernel) rfl⟩
abbrev mX12_isCell : tv_Y := (yX12_isCell, cX12_isCell, 1, some .boolean)
set_option maxRecDepth 100000 in
theorem tw_X12_isCell : tv_mw mX12_isCell 1 := ⟨tw_ini_12, tb_5 195 rfl rfl, ⟨by decide +kernel, by decide +kernel, by decide +kernel⟩, by decide⟩
theorem tx_X12_isCell : tv_msx mX12_isCell := tb_5 194 (by decide +kernel) rfl
abbrev mX12_isMuch : tv_Y := (yX12_isMuch, cX12_isMuch, 1, some .boolean)
set_option maxRecDepth 100000 in
theorem tw_X12_isMuch : tv_mw mX12_isMuch 1 := ⟨tw_ini_12, tb_5 185 rfl rfl, ⟨by decide +kernel, by decide +kernel, by decide +kernel⟩, by decide⟩
theorem tx_X12_isMuch : tv_msx mX12_isMuch := tb_5 184 (by decide +kernel) rfl
abbrev mX12_person : tv_Y := (yX12_person, cX12_person, 3, some .int)
set_option maxRecDepth 100000 in
theorem tw_X12_person : tv_mw mX12_person 1 := ⟨tw_ini_12, tb_5 182 rfl rfl, ⟨by decide +kernel, by decide +kernel, by decide +kernel⟩, by decide⟩
theorem tx_X12_person : tv_mv mX12_person := ⟨tb_5 180 (by decide +kernel) rfl, tb_5 181 (by decide +kernel) rfl⟩
abbrev mX12_hive : tv_Y := (yX12_hive, cX12_hive, 3, some .int)
set_option maxRecDepth 100000 in
theorem tw_X12_hive : tv_mw mX12_hive 1 := ⟨tw_ini_12, tb_5 192 rfl rfl, ⟨by decide +kernel, by decide +kernel, by decide +kernel⟩, by decide⟩
theorem tx_X12_hive : tv_mv mX12_hive := ⟨tb_5 190 (by decide +kernel) rfl, tb_5 191 (by decide +kernel) rfl⟩
abbrev mX12_areDeed : tv_Y := (yX12_areDeed, cX12_areDeed, 2, some .boolean)
set_option maxRecDepth 100000 in
theorem tw_X12_areDeed : tv_mw mX12_areDeed 2 := ⟨tw_ini_12, tb_5 202 rfl rfl, ⟨by decide +kernel, by decide +kernel, by decide +kernel⟩, by decide⟩
theorem tx_X12_areDeed : tv_msx mX12_areDeed := tb_5 201 (by decide +kernel) rfl
abbrev mX12_addDeed : tv_Y := (yX12_addDeed, cX12_addDeed, 4, some .int)
set_option maxRecDepth 100000 in
theorem tw_X12_addDeed : tv_mw mX12_addDeed 3 := ⟨tw_ini_12, tb_5 206 rfl rfl, ⟨by decide +kernel, by decide +kernel, by decide +kernel⟩, by decide⟩
theorem tx_X12_addDeed : tv_mv mX12_addDeed := ⟨tb_5 205 (by decide +kernel) rfl, tb_0 32 (by decide +kernel) rfl⟩
abbrev mX12_deed : tv_Y := (yX12_deed, cX12_deed, 3, some .int)
set_option maxRecDepth 100000 in
theorem tw_X12_deed : tv_mw mX12_deed 2 := ⟨tw_ini_12, tb_5 199 rfl rfl, ⟨by decide +kernel, by decide +kernel, by decide +kernel⟩, by decide⟩
theorem tx_X12_deed : tv_mv mX12_deed := ⟨tb_5 197 (by decide +kernel) rfl, tb_5 198 (by decide +kernel) rfl⟩
abbrev mX12_deeds : tv_Y := (yX12_deeds, cX12_deeds, 8, some .int)
set_option maxRecDepth 100000 in
theorem tw_X12_deeds : tv_mw mX12_deeds 3 := ⟨tw_ini_12, tb_5 210 rfl rfl, ⟨by decide +kernel, by decide +kernel, by decide +kernel⟩, by decide⟩
theorem tx_X12_deeds : tv_mv mX12_deeds := ⟨tb_5 208 (by decide +kernel) rfl, tb_5 209 (by decide +kernel) rfl⟩
abbrev mX12_valueAt : tv_Y := (yX12_valueAt, cX12_valueAt, 3, some .int)
set_option maxRecDepth 100000 in
theorem tw_X12_valueAt : tv_mw mX12_valueAt 2 := ⟨tw_ini_12, tb_6 22 rfl rfl, ⟨by decide +kernel, by decide +kernel, by decide +kernel⟩, by decide⟩
theorem tx_X12_valueAt : tv_mv mX12_valueAt := ⟨tb_6 21 (by decide +kernel) rfl, tb_0 41 (by decide +kernel) rfl⟩
abbrev mX12_lays : tv_Y := (yX12_lays, cX12_lays, 4, none)
set_option maxRecDepth 100000 in
theorem tw_X12_lays : tv_mw mX12_lays 3 := ⟨tw_ini_12, tb_5 222 rfl rfl, ⟨by decide +kernel, by decide +kernel, by decide +kernel⟩, by decide⟩
theorem tx_X12_lays : tv_mv mX12_lays := ⟨tb_5 221 (by decide +kernel) rfl, tb_0 33 (by decide +kernel) rfl⟩
abbrev mX12_changes : tv_Y := (yX12_changes, cX12_changes, 6, some .int)
set_option maxRecDepth 100000 in
theorem tw_X12_changes : tv_mw mX12_changes 3 := ⟨tw_ini_12, tb_6 18 rfl rfl, ⟨by decide +kernel, by decide +kernel, by decide +kernel⟩, by decide⟩
theorem tx_X12_changes : tv_mv mX12_changes := ⟨tb_6 17 (by decide +kernel) rfl, tb_0 40 (by decide +kernel) rfl⟩
abbrev mX12_undo : tv_Y := (yX12_undo, cX12_undo, 1, some .int)
set_option maxRecDepth 100000 in
theorem tw_X12_undo : tv_mw mX12_undo 0 := ⟨tw_ini_12, tb_5 218 rfl rfl, ⟨by decide +kernel, by decide +kernel, by decide +kernel⟩, by decide⟩
theorem tx_X12_undo : tv_mv mX12_undo := ⟨tb_5 216 (by decide +kernel) rfl, tb_5 217 (by decide +kernel) rfl⟩
abbrev mX12_redo : tv_Y := (yX12_redo, cX12_redo, 1, some .int)
set_option maxRecDepth 100000 in
theorem tw_X12_redo : tv_mw mX12_redo 0 := ⟨tw_ini_12, tb_5 226 rfl rfl, ⟨by decide +kernel, by decide +kernel, by decide +kernel⟩, by decide⟩
theorem tx_X12_redo : tv_mv mX12_redo := ⟨tb_5 224 (by decide +kernel) rfl, tb_5 225 (by decide +kernel) rfl⟩
abbrev mX12_areHis : tv_Y := (yX12_areHis, cX12_areHis, 2, some .boolean)
set_option maxRecDepth 100000 in
theorem tw_X12_areHis : tv_mw mX12_areHis 1 := ⟨tw_ini_12, tb_6 2 rfl rfl, ⟨by decide +kernel, by decide +kernel, by decide +kernel⟩, by decide⟩
theorem tx_X12_areHis : tv_mv mX12_areHis := ⟨tb_6 1 (by decide +kernel) rfl, tb_0 36 (by decide +kernel) rfl⟩
abbrev mX12_isOne : tv_Y := (yX12_isOne, cX12_isOne, 3, some .boolean)
set_option maxRecDepth 100000 in
theorem tw_X12_isOne : tv_mw mX12_isOne 2 := ⟨tw_ini_12, tb_5 234 rfl rfl, ⟨by decide +kernel, by decide +kernel, by decide +kernel⟩, by decide⟩
theorem tx_X12_isOne : tv_mv mX12_isOne := ⟨tb_5 233 (by decide +kernel) rfl, tb_0 34 (by decide +kernel) rfl⟩
abbrev mX12_mayHave : tv_Y := (yX12_mayHave, cX12_mayHave, 4, some .boolean)
set_option maxRecDepth 100000 in
theorem tw_X12_mayHave : tv_mw mX12_mayHave 3 := ⟨tw_ini_12, tb_6 14 rfl rfl, ⟨by decide +kernel, by decide +kernel, by decide +kernel⟩, by decide⟩
theorem tx_X12_mayHave : tv_mv mX12_mayHave := ⟨tb_6 13 (by decide +kernel) rfl, tb_0 39 (by decide +kernel) rfl⟩
abbrev mX12_mend : tv_Y := (yX12_mend, cX12_mend, 4, some .int)
set_option maxRecDepth 100000 in
theorem tw_X12_mend : tv_mw mX12_mend 3 := ⟨tw_ini_12, tb_5 230 rfl rfl, ⟨by decide +kernel, by decide +kernel, by decide +kernel⟩, by decide⟩
theorem tx_X12_mend : tv_mv mX12_mend := ⟨tb_5 228 (by decide +kernel) rfl, tb_5 229 (by decide +kernel) rfl⟩
abbrev mX12_of : tv_Y := (yX12_of, cX12_of, 3, some .int)
set_option maxRecDepth 100000 in
theorem tw_X12_of : tv_mw mX12_of 2 := ⟨tw_ini_12, tb_6 26 rfl rfl, ⟨by decide +kernel, by decide +kernel, by decide +kernel⟩, by decide⟩
theorem tx_X12_of : tv_mv mX12_of := ⟨tb_6 24 (by decide +kernel) rfl, tb_6 25 (by decide +kernel) rfl⟩
abbrev mX12_feed : tv_Y := (yX12_feed, cX12_feed, 2, some .int)
set_option maxRecDepth 100000 in
theorem tw_X12_feed : tv_mw mX12_feed 1 := ⟨tw_ini_12, tb_6 30 rfl rfl, ⟨by decide +kernel, by decide +kernel, by decide +kernel⟩, by decide⟩
theorem tx_X12_feed : tv_mv mX12_feed := ⟨tb_6 28 (by decide +kernel) rfl, tb_6 29 (by decide +kernel) rfl⟩
abbrev mX12_look : tv_Y := (yX12_look, cX12_look, 1, some .int)
set_option maxRecDepth 100000 in
theorem tw_X12_look : tv_mw mX12_look 0 := ⟨tw_ini_12, tb_6 70 rfl rfl, ⟨by decide +kernel, by decide +kernel, by decide +kernel⟩, by decide⟩
theorem tx_X12_look : tv_mv mX12_look := ⟨tb_6 69 (by decide +kernel) rfl, tb_0 50 (by decide +kernel) rfl⟩
abbrev mX12_wrong : tv_Y := (yX12_wrong, cX12_wrong, 1, none)
set_option maxRecDepth 100000 in
theorem tw_X12_wrong : tv_mw mX12_wrong 0 := ⟨tw_ini_12, tb_6 85 rfl rfl, ⟨by decide +kernel, by decide +kernel, by decide +kernel⟩, by decide⟩
theorem tx_X12_wrong : tv_mv mX12_wrong := ⟨tb_6 84 (by decide +kernel) rfl, tb_0 53 (by decide +kernel) rfl⟩
abbrev mX12_addStep : tv_Y := (yX12_addStep, cX12_addStep, 3, none)
set_option maxRecDepth 100000 in
theorem tw_X12_addStep : tv_mw mX12_addStep 2 := ⟨tw_ini_12, tb_6 77 rfl rfl, ⟨by decide +kernel, by decide +kernel, by decide +kernel⟩, by decide⟩
theorem tx_X12_addStep : tv_mv mX12_addStep := ⟨tb_6 76 (by decide +kernel) rfl, tb_0 51 (by decide +kernel) rfl⟩
abbrev mX12_nameOf : tv_Y := (yX12_nameOf, cX12_nameOf, 1, some .int)
set_option maxRecDepth 100000 in
theorem tw_X12_nameOf : tv_mw mX12_nameOf 1 := ⟨tw_ini_12, tb_6 73 rfl rfl, ⟨by decide +kernel, by decide +kernel, by decide +kernel⟩, by decide⟩
theorem tx_X12_nameOf : tv_msx mX12_nameOf := tb_6 72 (by decide +kernel) rfl
abbrev mX12_opens : tv_Y := (yX12_opens, cX12_opens, 1, some .boolean)
set_option maxRecDepth 100000 in
theorem tw_X12_opens : tv_mw mX12_opens 0 := ⟨tw_ini_12, tb_6 81 rfl rfl, ⟨by decide +kernel, by decide +kernel, by decide +kernel⟩, by decide⟩
theorem tx_X12_opens : tv_mv mX12_opens := ⟨tb_6 80 (by decide +kernel) rfl, tb_0 52 (by decide +kernel) rfl⟩
abbrev mX12_figure : tv_Y := (yX12_figure, cX12_figure, 3, none)
set_option maxRecDepth 100000 in
theorem tw_X12_figure : tv_mw mX12_figure 0 := ⟨tw_ini_12, tb_6 89 rfl rfl, ⟨by decide +kernel, by decide +kernel, by decide +kernel⟩, by decide⟩
theorem tx_X12_figure : tv_mv mX12_figure := ⟨tb_6 88 (by decide +kernel) rfl, tb_0 54 (by decide +kernel) rfl⟩
abbrev mX12_operand : tv_Y := (yX12_operand, cX12_operand, 2, none)
set_option maxRecDepth 100000 in
theorem tw_X12_operand : tv_mw mX12_operand 0 := ⟨tw_ini_12, tb_6 66 rfl rfl, ⟨by decide +kernel, by decide +kernel, by decide +kernel⟩, by decide⟩
theorem tx_X12_operand : tv_mv mX12_operand := ⟨tb_6 65 (by decide +kernel) rfl, tb_0 49 (by decide +kernel) rfl⟩
abbrev mX12_product : tv_Y := (yX12_product, cX12_product, 2, none)
set_option maxRecDepth 100000 in
theorem tw_X12_product : tv_mw mX12_product 0 := ⟨tw_ini_12, tb_6 62 rfl rfl, ⟨by decide +kernel, by decide +kernel, by decide +kernel⟩, by decide⟩
theorem tx_X12_product : tv_mv mX12_product := ⟨tb_6 61 (by decide +kernel) rfl, tb_0 48 (by decide +kernel) rfl⟩
abbrev mX12_sum : tv_Y := (yX12_sum, cX12_sum, 2, none)
set_option maxRecDepth 100000 in
theorem tw_X12_sum : tv_mw mX12_sum 0 := ⟨tw_ini_12, tb_6 58 rfl rfl, ⟨by decide +kernel, by decide +kernel, by decide +kernel⟩, by decide⟩
theorem tx_X12_sum : tv_mv mX12_sum := ⟨tb_6 57 (by decide +kernel) rfl, tb_0 47 (by decide +kernel) rfl⟩
abbrev mX12_compared : tv_Y := (yX12_compared, cX12_compared, 2, none)
set_option maxRecDepth 100000 in
theorem tw_X12_compared : tv_mw mX12_compared 0 := ⟨tw_ini_12, tb_6 54 rfl rfl, ⟨by decide +kernel, by decide +kernel, by decide +kernel⟩, by decide⟩
theorem tx_X12_compared : tv_mv mX12_compared := ⟨tb_6 53 (by decide +kernel) rfl, tb_0 46 (by decide +kernel) rfl⟩
abbrev mX12_both : tv_Y := (yX12_both, cX12_both, 1, none)
set_option maxRecDepth 100000 in
theorem tw_X12_both : tv_mw mX12_both 0 := ⟨tw_ini_12, tb_6 50 rfl rfl, ⟨by decide +kernel, by decide +kernel, by decide +kernel⟩, by decide⟩
theorem tx_X12_both : tv_mv mX12_both := ⟨tb_6 49 (by decide +kernel) rfl, tb_0 45 (by decide +kernel) rfl⟩
abbrev mX12_either : tv_Y := (yX12_either, cX12_either, 1, none)
set_option maxRecDepth 100000 in
theorem tw_X12_either : tv_mw mX12_either 0 := ⟨tw_ini_12, tb_6 46 rfl rfl, ⟨by decide +kernel, by decide +kernel, by decide +kernel⟩, by decide⟩
theorem tx_X12_either : tv_mv mX12_either := ⟨tb_6 45 (by decide +kernel) rfl, tb_0 44 (by decide +kernel) rfl⟩
abbrev mX12_line : tv_Y := (yX12_line, cX12_line, 2, none)
set_option maxRecDepth 100000 in
theorem tw_X12_line : tv_mw mX12_line 0 := ⟨tw_ini_12, tb_6 42 rfl rfl, ⟨by decide +kernel, by decide +kernel, by decide +kernel⟩, by decide⟩
theorem tx_X12_line : tv_mv mX12_line := ⟨tb_6 41 (by decide +kernel) rfl, tb_0 43 (by decide +kernel) rfl⟩
abbrev mX12_readText : tv_Y := (yX12_readText, cX12_readText, 3, some .int)
set_option maxRecDepth 100000 in
theorem tw_X12_readText : tv_mw mX12_readText 1 := ⟨tw_ini_12, tb_6 38 rfl rfl, ⟨by decide +kernel, by decide +kernel, by decide +kernel⟩, by decide⟩
theorem tx_X12_readText : tv_mv mX12_readText := ⟨tb_6 37 (by decide +kernel) rfl, tb_0 42 (by decide +kernel) rfl⟩
abbrev mX12_twoOf : tv_Y := (yX12_twoOf, cX12_twoOf, 3, some .int)
set_option maxRecDepth 100000 in
theorem tw_X12_twoOf : tv_mw mX12_twoOf 3 := ⟨tw_ini_12, tb_6 124 rfl rfl, ⟨by decide +kernel, by decide +kernel, by decide +kernel⟩, by decide⟩
theorem tx_X12_twoOf : tv_msx mX12_twoOf := tb_6 123 (by decide +kernel) rfl
abbrev mX12_worked : tv_Y := (yX12_worked, cX12_worked, 7, some .int)
set_option maxRecDepth 100000 in
theorem tw_X12_worked : tv_mw mX12_worked 3 := ⟨tw_ini_12, tb_6 121 rfl rfl, ⟨by decide +kernel, by decide +kernel, by decide +kernel⟩, by decide⟩
theorem tx_X12_worked : tv_mv mX12_worked := ⟨tb_6 120 (by decide +kernel) rfl, tb_0 61 (by decide +kernel) rfl⟩
abbrev mX12_gives : tv_Y := (yX12_gives, cX12_gives, 4, some .int)
set_option maxRecDepth 100000 in
theorem tw_X12_gives : tv_mw mX12_gives 1 := ⟨tw_ini_12, tb_6 117 rfl rfl, ⟨by decide +kernel, by decide +kernel, by decide +kernel⟩, by decide⟩
theorem tx_X12_gives : tv_mv mX12_gives := ⟨tb_6 116 (by decide +kernel) rfl, tb_0 60 (by decide +kernel) rfl⟩
abbrev mX12_law : tv_Y := (yX12_law, cX12_law, 2, some .int)
set_option maxRecDepth 100000 in
theorem tw_X12_law : tv_mw mX12_law 0 := ⟨tw_ini_12, tb_6 34 rfl rfl, ⟨by decide +kernel, by decide +kernel, by decide +kernel⟩, by decide⟩
theorem tx_X12_law : tv_mv mX12_law := ⟨tb_6 32 (by decide +kernel) rfl, tb_6 33 (by decide +kernel) rfl⟩
abbrev mX12_layNow : tv_Y := (yX12_layNow, cX12_layNow, 2, none)
set_option maxRecDepth 100000 in
theorem tw_X12_layNow : tv_mw mX12_layNow 0 := ⟨tw_ini_12, tb_6 97 rfl rfl, ⟨by decide +kernel, by decide +kernel, by decide +kernel⟩, by decide⟩
theorem tx_X12_layNow : tv_mv mX12_layNow := ⟨tb_6 96 (by decide +kernel) rfl, tb_0 55 (by decide +kernel) rfl⟩
abbrev mX12_allIn : tv_Y := (yX12_allIn, cX12_allIn, 4, some .int)
set_option maxRecDepth 100000 in
theorem tw_X12_allIn : tv_mw mX12_allIn 1 := ⟨tw_ini_12, tb_6 109 rfl rfl, ⟨by decide +kernel, by decide +kernel, by decide +kernel⟩, by decide⟩
theorem tx_X12_allIn : tv_mv mX12_allIn := ⟨tb_6 108 (by decide +kernel) rfl, tb_0 58 (by decide +kernel) rfl⟩
abbrev mX12_keepers : tv_Y := (yX12_keepers, cX12_keepers, 4, some .int)
set_option maxRecDepth 100000 in
theorem tw_X12_keepers : tv_mw mX12_keepers 1 := ⟨tw_ini_12, tb_6 113 rfl rfl, ⟨by decide +kernel, by decide +kernel, by decide +kernel⟩, by decide⟩
theorem tx_X12_keepers : tv_mv mX12_keepers := ⟨tb_6 112 (by decide +kernel) rfl, tb_0 59 (by decide +kernel) rfl⟩
abbrev mX12_growsTo : tv_Y := (yX12_growsTo, cX12_growsTo, 6, some .int)
set_option maxRecDepth 100000 in
theorem tw_X12_growsTo : tv_mw mX12_growsTo 3 := ⟨tw_ini_12, tb_6 105 rfl rfl, ⟨by decide +kernel, by decide +kernel, by decide +kernel⟩, by decide⟩
theorem tx_X12_growsTo : tv_mv mX12_growsTo := ⟨tb_6 104 (by decide +kernel) rfl, tb_0 57 (by decide +kernel) rfl⟩
abbrev mX12_goDay : tv_Y := (yX12_goDay, cX12_goDay, 5, some .boolean)
set_option maxRecDepth 100000 in
theorem tw_X12_goDay : tv_mw mX12_goDay 2 := ⟨tw_ini_12, tb_6 101 rfl rfl, ⟨by decide +kernel, by decide +kernel, by decide +kernel⟩, by decide⟩
theorem tx_X12_goDay : tv_mv mX12_goDay := ⟨tb_6 100 (by decide +kernel) rfl, tb_0 56 (by decide +kernel) rfl⟩
abbrev mX12_stingsTo : tv_Y := (yX12_stingsTo, cX12_stingsTo, 2, some .int)
set_option maxRecDepth 100000 in
theorem tw_X12_stingsTo : tv_mw mX12_stingsTo 1 := ⟨tw_ini_12, tb_6 128 rfl rfl, ⟨by decide +kernel, by decide +kernel, by decide +kernel⟩, by decide⟩
theorem tx_X12_stingsTo : tv_mv mX12_stingsTo := ⟨tb_6 127 (by decide +kernel) rfl, tb_0 62 (by decide +kernel) rfl⟩
abbrev mX12_later : tv_Y := (yX12_later, cX12_later, 5, some .int)
set_option maxRecDepth 100000 in
theorem tw_X12_later : tv_mw mX12_later 2 := ⟨tw_ini_12, tb_6 93 rfl rfl, ⟨by decide +kernel, by decide +kernel, by decide +kernel⟩, by decide⟩
theorem tx_X12_later : tv_mv mX12_later := ⟨tb_6 91 (by decide +kernel) rfl, tb_6 92 (by decide +kernel) rfl⟩
abbrev mX12_still : tv_Y := (yX12_still, cX12_still, 3, some .int)
set_option maxRecDepth 100000 in
theorem tw_X12_still : tv_mw mX12_still 1 := ⟨tw_ini_12, tb_6 132 rfl rfl, ⟨by decide +kernel, by decide +kernel, by decide +kernel⟩, by decide⟩
theorem tx_X12_still : tv_mv mX12_still := ⟨tb_6 130 (by decide +kernel) rfl, tb_6 131 (by decide +kernel) rfl⟩
abbrev mX12_mayDo : tv_Y := (yX12_mayDo, cX12_mayDo, 3, some .boolean)
set_option maxRecDepth 100000 in
theorem tw_X12_mayDo : tv_mw mX12_mayDo 2 := ⟨tw_ini_12, tb_6 168 rfl rfl, ⟨by decide +kernel, by decide +kernel, by decide +kernel⟩, by decide⟩
theorem tx_X12_mayDo : tv_mv mX12_mayDo := ⟨tb_6 167 (by decide +kernel) rfl, tb_0 69 (by decide +kernel) rfl⟩
abbrev mX12_lowestOn : tv_Y := (yX12_lowestOn, cX12_lowestOn, 6, some .int)
set_option maxRecDepth 100000 in
theorem tw_X12_lowestOn : tv_mw mX12_lowestOn 1 := ⟨tw_ini_12, tb_6 140 rfl rfl, ⟨by decide +kernel, by decide +kernel, by decide +kernel⟩, by decide⟩
theorem tx_X12_lowestOn : tv_mv mX12_lowestOn := ⟨tb_6 139 (by decide +kernel) rfl, tb_0 63 (by decide +kernel) rfl⟩
abbrev mX12_highestOn : tv_Y := (yX12_highestOn, cX12_highestOn, 5, some .int)
set_option maxRecDepth 100000 in
theorem tw_X12_highestOn : tv_mw mX12_highestOn 1 := ⟨tw_ini_12, tb_6 144 rfl rfl, ⟨by decide +kernel, by decide +kernel, by decide +kernel⟩, by decide⟩
theorem tx_X12_highestOn : tv_mv mX12_highestOn := ⟨tb_6 143 (by decide +kernel) rfl, tb_0 64 (by decide +kernel) rfl⟩
abbrev mX12_can : tv_Y := (yX12_can, cX12_can, 7, some .int)
set_option maxRecDepth 100000 in
theorem tw_X12_can : tv_mw mX12_can 2 := ⟨tw_ini_12, tb_6 136 rfl rfl, ⟨by decide +kernel, by decide +kernel, by decide +kernel⟩, by decide⟩
theorem tx_X12_can : tv_mv mX12_can := ⟨tb_6 134 (by decide +kernel) rfl, tb_6 135 (by decide +kernel) rfl⟩
abbrev mX12_rowFault : tv_Y := (yX12_rowFault, cX12_rowFault, 3, some .int)
set_option maxRecDepth 100000 in
theorem tw_X12_rowFault : tv_mw mX12_rowFault 2 := ⟨tw_ini_12, tb_6 152 rfl rfl, ⟨by decide +kernel, by decide +kernel, by decide +kernel⟩, by decide⟩
theorem tx_X12_rowFault : tv_mv mX12_rowFault := ⟨tb_6 151 (by decide +kernel) rfl, tb_0 65 (by decide +kernel) rfl⟩
abbrev mX12_at : tv_Y := (yX12_at, cX12_at, 3, some .int)
set_option maxRecDepth 100000 in
theorem tw_X12_at : tv_mw mX12_at 2 := ⟨tw_ini_12, tb_6 160 rfl rfl, ⟨by decide +kernel, by decide +kernel, by decide +kernel⟩, by decide⟩
theorem tx_X12_at : tv_mv mX12_at := ⟨tb_6 159 (by decide +kernel) rfl, tb_0 67 (by decide +kernel) rfl⟩
abbrev mX12_layRound : tv_Y := (yX12_layRound, cX12_layRound, 2, none)
set_option maxRecDepth 100000 in
theorem tw_X12_layRound : tv_mw mX12_layRound 1 := ⟨tw_ini_12, tb_6 156 rfl rfl, ⟨by decide +kernel, by decide +kernel, by decide +kernel⟩, by decide⟩
theorem tx_X12_layRound : tv_mv mX12_layRound := ⟨tb_6 155 (by decide +kernel) rfl, tb_0 66 (by decide +kernel) rfl⟩
abbrev mX12_runFrom : tv_Y := (yX12_runFrom, cX12_runFrom, 9, some .int)
set_option maxRecDepth 100000 in
theorem tw_X12_runFrom : tv_mw mX12_runFrom 2 := ⟨tw_ini_12, tb_6 172 rfl rfl, ⟨by decide +kernel, by decide +kernel, by decide +kernel⟩, by decide⟩
theorem tx_X12_runFrom : tv_mv mX12_runFrom := ⟨tb_6 171 (by decide +kernel) rfl, tb_0 70 (by decide +kernel) rfl⟩
abbrev mX12_goRound : tv_Y := (yX12_goRound, cX12_goRound, 7, some .int)
set_option maxRecDepth 100000 in
theorem tw_X12_goRound : tv_mw mX12_goRound 1 := ⟨tw_ini_12, tb_6 164 rfl rfl, ⟨by decide +kernel, by decide +kernel, by decide +kernel⟩, by decide⟩
theorem tx_X12_goRound : tv_mv mX12_goRound := ⟨tb_6 163 (by decide +kernel) rfl, tb_0 68 (by decide +kernel) rfl⟩
abbrev mX12_round : tv_Y := (yX12_round, cX12_round, 6, some .int)
set_option maxRecDepth 100000 in
theorem tw_X12_round : tv_mw mX12_round 3 := ⟨tw_ini_12, tb_6 148 rfl rfl, ⟨by decide +kernel, by decide +kernel, by decide +kernel⟩, by decide⟩
theorem tx_X12_round : tv_mv mX12_round := ⟨tb_6 146 (by decide +kernel) rfl, tb_6 147 (by decide +kernel) rfl⟩
abbrev mX12_without : tv_Y := (yX12_without, cX12_without, 6, some .int)
set_option maxRecDepth 100000 in
theorem tw_X12_without : tv_mw mX12_without 2 := ⟨tw_ini_12, tb_6 176 rfl rfl, ⟨by decide +kernel, by decide +kernel, by decide +kernel⟩, by decide⟩
theorem tx_X12_without : tv_mv mX12_without := ⟨tb_6 174 (by decide +kernel) rfl, tb_6 175 (by decide +kernel) rfl⟩
abbrev mX12_worthBy : tv_Y := (yX12_worthBy, cX12_worthBy, 4, some .int)
set_option maxRecDepth 100000 in
theorem tw_X12_worthBy : tv_mw mX12_worthBy 3 := ⟨tw_ini_12, tb_6 192 rfl rfl, ⟨by decide +kernel, by decide +kernel, by decide +kernel⟩, by decide⟩
theorem tx_X12_worthBy : tv_mv mX12_worthBy := ⟨tb_6 191 (by decide +kernel) rfl, tb_0 73 (by decide +kernel) rfl⟩
abbrev mX12_mayTake : tv_Y := (yX12_mayTake, cX12_mayTake, 4, some .boolean)
set_option maxRecDepth 100000 in
theorem tw_X12_mayTake : tv_mw mX12_mayTake 3 := ⟨tw_ini_12, tb_6 188 rfl rfl, ⟨by decide +kernel, by decide +kernel, by decide +kernel⟩, by decide⟩
theorem tx_X12_mayTake : tv_mv mX12_mayTake := ⟨tb_6 187 (by decide +kernel) rfl, tb_0 72 (by decide +kernel) rfl⟩
abbrev mX12_findWho : tv_Y := (yX12_findWho, cX12_findWho, 5, none)
set_option maxRecDepth 100000 in
theorem tw_X12_findWho : tv_mw mX12_findWho 0 := ⟨tw_ini_12, tb_6 184 rfl rfl, ⟨by decide +kernel, by decide +kernel, by decide +kernel⟩, by decide⟩
theorem tx_X12_findWho : tv_mv mX12_findWho := ⟨tb_6 183 (by decide +kernel) rfl, tb_0 71 (by decide +kernel) rfl⟩
abbrev mX12_who : tv_Y := (yX12_who, cX12_who, 5, some .int)
set_option maxRecDepth 100000 in
theorem tw_X12_who : tv_mw mX12_who 1 := ⟨tw_ini_12, tb_6 180 rfl rfl, ⟨by decide +kernel, by decide +kernel, by decide +kernel⟩, by decide⟩
theorem tx_X12_who : tv_mv mX12_who := ⟨tb_6 178 (by decide +kernel) rfl, tb_6 179 (by decide +kernel) rfl⟩
abbrev mX12_stingsIn : tv_Y := (yX12_stingsIn, cX12_stingsIn, 4, some .boolean)
set_option maxRecDepth 100000 in
theorem tw_X12_stingsIn : tv_mw mX12_stingsIn 3 := ⟨tw_ini_12, tb_6 204 rfl rfl, ⟨by decide +kernel, by decide +kernel, by decide +kernel⟩, by decide⟩
theorem tx_X12_stingsIn : tv_mv mX12_stingsIn := ⟨tb_6 203 (by decide +kernel) rfl, tb_0 75 (by decide +kernel) rfl⟩
abbrev mX12_stungBits : tv_Y := (yX12_stungBits, cX12_stungBits, 4, some .int)
set_option maxRecDepth 100000 in
theorem tw_X12_stungBits : tv_mw mX12_stungBits 1 := ⟨tw_ini_12, tb_6 200 rfl rfl, ⟨by decide +kernel, by decide +kernel, by decide +kernel⟩, by decide⟩
theorem tx_X12_stungBits : tv_mv mX12_stungBits := ⟨tb_6 199 (by decide +kernel) rfl, tb_0 74 (by decide +kernel) rfl⟩
abbrev mX12_findStings : tv_Y := (yX12_findStings, cX12_findStings, 3, none)
set_option maxRecDepth 100000 in
theorem tw_X12_findStings : tv_mw mX12_findStings 0 := ⟨tw_ini_12, tb_6 218 rfl rfl, ⟨by decide +kernel, by decide +kernel, by decide +kernel⟩, by decide⟩
theorem tx_X12_findStings : tv_mv mX12_findStings := ⟨tb_6 217 (by decide +kernel) rfl, tb_0 76 (by decide +kernel) rfl⟩
abbrev mX12_stung : tv_Y := (yX12_stung, cX12_stung, 2, some .int)
set_option maxRecDepth 100000 in
theorem tw_X12_stung : tv_mw mX12_stung 1 := ⟨tw_ini_12, tb_6 196 rfl rfl, ⟨by decide +kernel, by decide +kernel, by decide +kernel⟩, by decide⟩
theorem tx_X12_stung : tv_mv mX12_stung := ⟨tb_6 194 (by decide +kernel) rfl, tb_6 195 (by decide +kernel) rfl⟩
abbrev mX12_isNearer : tv_Y := (yX12_isNearer, cX12_isNearer, 3, some .boolean)
set_option maxRecDepth 100000 in
theorem tw_X12_isNearer : tv_mw mX12_isNearer 2 := ⟨tw_ini_12, tb_6 238 rfl rfl, ⟨by decide +kernel, by decide +kernel, by decide +kernel⟩, by decide⟩
theorem tx_X12_isNearer : tv_mv mX12_isNearer := ⟨tb_6 237 (by decide +kernel) rfl, tb_0 81 (by decide +kernel) rfl⟩
abbrev mX12_nearest : tv_Y := (yX12_nearest, cX12_nearest, 3, some .int)
set_option maxRecDepth 100000 in
theorem tw_X12_nearest : tv_mw mX12_nearest 0 := ⟨tw_ini_12, tb_6 234 rfl rfl, ⟨by decide +kernel, by decide +kernel, by decide +kernel⟩, by decide⟩
theorem tx_X12_nearest : tv_mv mX12_nearest := ⟨tb_6 233 (by decide +kernel) rfl, tb_0 80 (by decide +kernel) rfl⟩
abbrev mX12_stepTo : tv_Y := (yX12_stepTo, cX12_stepTo, 6, none)
set_option maxRecDepth 100000 in
theorem tw_X12_stepTo : tv_mw mX12_stepTo 3 := ⟨tw_ini_12, tb_6 230 rfl rfl, ⟨by decide +kernel, by decide +kernel, by decide +kernel⟩, by decide⟩
theorem tx_X12_stepTo : tv_mv mX12_stepTo := ⟨tb_6 229 (by decide +kernel) rfl, tb_0 79 (by decide +kernel) rfl⟩
abbrev mX12_goWays : tv_Y := (yX12_goWays, cX12_goWays, 4, none)
set_option maxRecDepth 100000 in
theorem tw_X12_goWays : tv_mw mX12_goWays 2 := ⟨tw_ini_12, tb_6 226 rfl rfl, ⟨by decide +kernel, by decide +kernel, by decide +kernel⟩, by decide⟩
theorem tx_X12_goWays : tv_mv mX12_goWays := ⟨tb_6 225 (by decide +kernel) rfl, tb_0 78 (by decide +kernel) rfl⟩
abbrev mX12_wayOf : tv_Y := (yX12_wayOf, cX12_wayOf, 3, some .int)
set_option maxRecDepth 100000 in
theorem tw_X12_wayOf : tv_mw mX12_wayOf 2 := ⟨tw_ini_12, tb_6 222 rfl rfl, ⟨by decide +kernel, by decide +kernel, by decide +kernel⟩, by decide⟩
theorem tx_X12_wayOf : tv_mv mX12_wayOf := ⟨tb_6 221 (by decide +kernel) rfl, tb_0 77 (by decide +kernel) rfl⟩
abbrev mX12_way : tv_Y := (yX12_way, cX12_way, 3, some .int)
set_option maxRecDepth 100000 in
theorem tw_X12_way : tv_mw mX12_way 2 := ⟨tw_ini_12, tb_6 214 rfl rfl, ⟨by decide +kernel, by decide +kernel, by decide +kernel⟩, by decide⟩
theorem tx_X12_way : tv_mv mX12_way := ⟨tb_6 212 (by decide +kernel) rfl, tb_6 213 (by decide +kernel) rfl⟩
abbrev mX12_least : tv_Y := (yX12_least, cX12_least, 4, some .int)
set_option maxRecDepth 100000 in
theorem tw_X12_least : tv_mw mX12_least 3 := ⟨tw_ini_12, tb_7 2 rfl rfl, ⟨by decide +kernel, by decide +kernel, by decide +kernel⟩, by decide⟩
theorem tx_X12_least : tv_mv mX12_least := ⟨tb_7 0 (by decide +kernel) rfl, tb_7 1 (by decide +kernel) rfl⟩
abbrev mX12_sets : tv_Y := (yX12_sets, cX12_sets, 6, some .int)
set_option maxRecDepth 100000 in
theorem tw_X12_sets : tv_mw mX12_sets 3 := ⟨tw_ini_12, tb_7 10 rfl rfl, ⟨by decide +kernel, by decide +kernel, by decide +kernel⟩, by decide⟩
theorem tx_X12_sets : tv_mv mX12_sets := ⟨tb_7 9 (by decide +kernel) rfl, tb_0 82 (by decide +kernel) rfl⟩
abbrev mX12_set : tv_Y := (yX12_set, cX12_set, 10, some .int)
set_option maxRecDepth 100000 in
theorem tw_X12_set : tv_mw mX12_set 3 := ⟨tw_ini_12, tb_7 6 rfl rfl, ⟨by decide +kernel, by decide +kernel, by decide +kernel⟩, by decide⟩
theorem tx_X12_set : tv_mv mX12_set := ⟨tb_7 4 (by decide +kernel) rfl, tb_7 5 (by decide +kernel) rfl⟩
abbrev mX12_isSo : tv_Y := (yX12_isSo, cX12_isSo, 8, some .boolean)
set_option maxRecDepth 100000 in
theorem tw_X12_isSo : tv_mw mX12_isSo 3 := ⟨tw_ini_12, tb_7 18 rfl rfl, ⟨by decide +kernel, by decide +kernel, by decide +kernel⟩, by decide⟩
theorem tx_X12_isSo : tv_mv mX12_isSo := ⟨tb_7 17 (by decide +kernel) rfl, tb_0 83 (by decide +kernel) rfl⟩
abbrev mX12_tries : tv_Y := (yX12_tries, cX12_tries, 9, some .int)
set_option maxRecDepth 100000 in
theorem tw_X12_tries : tv_mw mX12_tries 3 := ⟨tw_ini_12, tb_7 14 rfl rfl, ⟨by decide +kernel, by decide +kernel, by decide +kernel⟩, by decide⟩
theorem tx_X12_tries : tv_mv mX12_tries := ⟨tb_7 12 (by decide +kernel) rfl, tb_7 13 (by decide +kernel) rfl⟩
abbrev mX12_next : tv_Y := (yX12_next, cX12_next, 10, some .int)
set_option maxRecDepth 100000 in
theorem tw_X12_next : tv_mw mX12_next 2 := ⟨tw_ini_12, tb_7 22 rfl rfl, ⟨by decide +kernel, by decide +kernel, by decide +kernel⟩, by decide⟩
theorem tx_X12_next : tv_mv mX12_next := ⟨tb_7 20 (by decide +kernel) rfl, tb_7 21 (by decide +kernel) rfl⟩
abbrev mX12_costBy : tv_Y := (yX12_costBy, cX12_costBy, 3, some .int)
set_option maxRecDepth 100000 in
theorem tw_X12_costBy : tv_mw mX12_costBy 1 := ⟨tw_ini_12, tb_7 30 rfl rfl, ⟨by decide +kernel, by decide +kernel, by decide +kernel⟩, by decide⟩
theorem tx_X12_costBy : tv_mv mX12_costBy := ⟨tb_7 29 (by decide +kernel) rfl, tb_0 84 (by decide +kernel) rfl⟩
abbrev mX12_leave : tv_Y := (yX12_leave, cX12_leave, 4, some .int)
set_option maxRecDepth 100000 in
theorem tw_X12_leave : tv_mw mX12_leave 1 := ⟨tw_ini_12, tb_7 26 rfl rfl, ⟨by decide +kernel, by decide +kernel, by decide +kernel⟩, by decide⟩
theorem tx_X12_leave : tv_mv mX12_leave := ⟨tb_7 24 (by decide +kernel) rfl, tb_7 25 (by decide +kernel) rfl⟩
abbrev mX12_judge : tv_Y := (yX12_judge, cX12_judge, 5, some .int)
set_option maxRecDepth 100000 in
theorem tw_X12_judge : tv_mw mX12_judge 1 := ⟨tw_ini_12, tb_7 34 rfl rfl, ⟨by decide +kernel, by decide +kernel, by decide +kernel⟩, by decide⟩
theorem tx_X12_judge : tv_mv mX12_judge := ⟨tb_7 32 (by decide +kernel) rfl, tb_7 33 (by decide +kernel) rfl⟩
abbrev mX12_from : tv_Y := (yX12_from, cX12_from, 5, some .int)
set_option maxRecDepth 100000 in
theorem tw_X12_from : tv_mw mX12_from 2 := ⟨tw_ini_12, tb_7 38 rfl rfl, ⟨by decide +kernel, by decide +kernel, by decide +kernel⟩, by decide⟩
theorem tx_X12_from : tv_mv mX12_from := ⟨tb_7 36 (by decide +kernel) rfl, tb_7 37 (by decide +kernel) rfl⟩
abbrev mX12_allOfAll : tv_Y := (yX12_allOfAll, cX12_allOfAll, 3, some .int)
set_option maxRecDepth 100000 in
theorem tw_X12_allOfAll : tv_mw mX12_allOfAll 0 := ⟨tw_ini_12, tb_7 46 rfl rfl, ⟨by decide +kernel, by decide +kernel, by decide +kernel⟩, by decide⟩
theorem tx_X12_allOfAll : tv_mv mX12_allOfAll := ⟨tb_7 45 (by decide +kernel) rfl, tb_0 85 (by decide +kernel) rfl⟩
abbrev mX12_swarm : tv_Y := (yX12_swarm, cX12_swarm, 3, some .int)
set_option maxRecDepth 100000 in
theorem tw_X12_swarm : tv_mw mX12_swarm 1 := ⟨tw_ini_12, tb_7 42 rfl rfl, ⟨by decide +kernel, by decide +kernel, by decide +kernel⟩, by decide⟩
theorem tx_X12_swarm : tv_mv mX12_swarm := ⟨tb_7 40 (by decide +kernel) rfl, tb_7 41 (by decide +kernel) rfl⟩
abbrev mX12_drawn : tv_Y := (yX12_drawn, cX12_drawn, 11, some .int)
set_option maxRecDepth 100000 in
theorem tw_X12_drawn : tv_mw mX12_drawn 3 := ⟨tw_ini_12, tb_7 50 rfl rfl, ⟨by decide +kernel, by decide +kernel, by decide +kernel⟩, by decide⟩
theorem tx_X12_drawn : tv_mv mX12_drawn := ⟨tb_7 48 (by decide +kernel) rfl, tb_7 49 (by decide +kernel) rfl⟩
abbrev mX12_takes : tv_Y := (yX12_takes, cX12_takes, 4, some .int)
set_option maxRecDepth 100000 in
theorem tw_X12_takes : tv_mw mX12_takes 2 := ⟨tw_ini_12, tb_7 55 rfl rfl, ⟨by decide +kernel, by decide +kernel, by decide +kernel⟩, by decide⟩
theorem tx_X12_takes : tv_mv mX12_takes := ⟨tb_7 53 (by decide +kernel) rfl, tb_7 54 (by decide +kernel) rfl⟩
abbrev mX12_puts : tv_Y := (yX12_puts, cX12_puts, 4, some .int)
set_option maxRecDepth 100000 in
theorem tw_X12_puts : tv_mw mX12_puts 2 := ⟨tw_ini_12, tb_7 59 rfl rfl, ⟨by decide +kernel, by decide +kernel, by decide +kernel⟩, by decide⟩
theorem tx_X12_puts : tv_mv mX12_puts := ⟨tb_7 57 (by decide +kernel) rfl, tb_7 58 (by decide +kernel) rfl⟩
abbrev mX12_day : tv_Y := (yX12_day, cX12_day, 2, some .int)
set_option maxRecDepth 100000 in
theorem tw_X12_day : tv_mw mX12_day 0 := ⟨tw_ini_12, tb_7 63 rfl rfl, ⟨by decide +kernel, by decide +kernel, by decide +kernel⟩, by decide⟩
theorem tx_X12_day : tv_mv mX12_day := ⟨tb_7 61 (by decide +kernel) rfl, tb_7 62 (by decide +kernel) rfl⟩
abbrev mX12_does : tv_Y := (yX12_does, cX12_does, 2, some .int)
set_option maxRecDepth 100000 in
theorem tw_X12_does : tv_mw mX12_does 1 := ⟨tw_ini_12, tb_7 67 rfl rfl, ⟨by decide +kernel, by decide +kernel, by decide +kernel⟩, by decide⟩
theorem tx_X12_does : tv_mv mX12_does := ⟨tb_7 65 (by decide +kernel) rfl, tb_7 66 (by decide +kernel) rfl⟩
abbrev mX12_marry : tv_Y := (yX12_marry, cX12_marry, 5, some .int)
set_option maxRecDepth 100000 in
theorem tw_X12_marry : tv_mw mX12_marry 1 := ⟨tw_ini_12, tb_7 71 rfl rfl, ⟨by decide +kernel, by decide +kernel, by decide +kernel⟩, by decide⟩
theorem tx_X12_marry : tv_mv mX12_marry := ⟨tb_7 69 (by decide +kernel) rfl, tb_7 70 (by decide +kernel) rfl⟩
abbrev mX12_led : tv_Y := (yX12_led, cX12_led, 2, some .int)
set_option maxRecDepth 100000 in
theorem tw_X12_led : tv_mw mX12_led 1 := ⟨tw_ini_12, tb_7 75 rfl rfl, ⟨by decide +kernel, by decide +kernel, by decide +kernel⟩, by decide⟩
theorem tx_X12_led : tv_mv mX12_led := ⟨tb_7 73 (by decide +kernel) rfl, tb_7 74 (by decide +kernel) rfl⟩
abbrev mX12_image : tv_Y := (yX12_image, cX12_image, 2, some .int)
set_option maxRecDepth 100000 in
theorem tw_X12_image : tv_mw mX12_image 0 := ⟨tw_ini_12, tb_7 79 rfl rfl, ⟨by decide +kernel, by decide +kernel, by decide +kernel⟩, by decide⟩
theorem tx_X12_image : tv_mv mX12_image := ⟨tb_7 77 (by decide +kernel) rfl, tb_7 78 (by decide +kernel) rfl⟩
abbrev mX12_back : tv_Y := (yX12_back, cX12_back, 3, some .int)
set_option maxRecDepth 100000 in
theorem tw_X12_back : tv_mw mX12_back 0 := ⟨tw_ini_12, tb_7 83 rfl rfl, ⟨by decide +kernel, by decide +kernel, by decide +kernel⟩, by decide⟩
theorem tx_X12_back : tv_mv mX12_back := ⟨tb_7 81 (by decide +kernel) rfl, tb_7 82 (by decide +kernel) rfl⟩
abbrev mX12_isBody : tv_Y := (yX12_isBody, cX12_isBody, 2, some .boolean)
set_option maxRecDepth 100000 in
theorem tw_X12_isBody : tv_mw mX12_isBody 1 := ⟨tw_ini_12, tb_7 99 rfl rfl, ⟨by decide +kernel, by decide +kernel, by decide +kernel⟩, by decide⟩
theorem tx_X12_isBody : tv_mv mX12_isBody := ⟨tb_7 98 (by decide +kernel) rfl, tb_0 86 (by decide +kernel) rfl⟩
abbrev mX12_ran : tv_Y := (yX12_ran, cX12_ran, 2, none)
set_option maxRecDepth 100000 in
theorem tw_X12_ran : tv_mw mX12_ran 1 := ⟨tw_ini_12, tb_7 110 rfl rfl, ⟨by decide +kernel, by decide +kernel, by decide +kernel⟩, by decide⟩
theorem tx_X12_ran : tv_mv mX12_ran := ⟨tb_7 109 (by decide +kernel) rfl, tb_0 88 (by decide +kernel) rfl⟩
abbrev mX12_trace : tv_Y := (yX12_trace, cX12_trace, 2, some .int)
set_option maxRecDepth 100000 in
theorem tw_X12_trace : tv_mw mX12_trace 1 := ⟨tw_ini_12, tb_7 87 rfl rfl, ⟨by decide +kernel, by decide +kernel, by decide +kernel⟩, by decide⟩
theorem tx_X12_trace : tv_mv mX12_trace := ⟨tb_7 85 (by decide +kernel) rfl, tb_7 86 (by decide +kernel) rfl⟩
abbrev mX12_body : tv_Y := (yX12_body, cX12_body, 2, some .int)
set_option maxRecDepth 100000 in
theorem tw_X12_body : tv_mw mX12_body 1 := ⟨tw_ini_12, tb_7 91 rfl rfl, ⟨by decide +kernel, by decide +kernel, by decide +kernel⟩, by decide⟩
theorem tx_X12_body : tv_mv mX12_body := ⟨tb_7 89 (by decide +kernel) rfl, tb_7 90 (by decide +kernel) rfl⟩
abbrev mX12_isUnder : tv_Y := (yX12_isUnder, cX12_isUnder, 2, some .boolean)
set_option maxRecDepth 100000 in
theorem tw_X12_isUnder : tv_mw mX12_isUnder 2 := ⟨tw_ini_12, tb_7 106 rfl rfl, ⟨by decide +kernel, by decide +kernel, by decide +kernel⟩, by decide⟩
theorem tx_X12_isUnder : tv_msx mX12_isUnder := tb_7 105 (by decide +kernel) rfl
abbrev mX12_plainKeeps : tv_Y := (yX12_plainKeeps, cX12_plainKeeps, 3, some .int)
set_option maxRecDepth 100000 in
theorem tw_X12_plainKeeps : tv_mw mX12_plainKeeps 2 := ⟨tw_ini_12, tb_7 114 rfl rfl, ⟨by decide +kernel, by decide +kernel, by decide +kernel⟩, by decide⟩
theorem tx_X12_plainKeeps : tv_mv mX12_plainKeeps := ⟨tb_7 113 (by decide +kernel) rfl, tb_0 89 (by decide +kernel) rfl⟩
abbrev mX12_frostKeeps : tv_Y := (yX12_frostKeeps, cX12_frostKeeps, 3, some .int)
set_option maxRecDepth 100000 in
theorem tw_X12_frostKeeps : tv_mw mX12_frostKeeps 2 := ⟨tw_ini_12, tb_7 118 rfl rfl, ⟨by decide +kernel, by decide +kernel, by decide +kernel⟩, by decide⟩
theorem tx_X12_frostKeeps : tv_mv mX12_frostKeeps := ⟨tb_7 117 (by decide +kernel) rfl, tb_0 90 (by decide +kernel) rfl⟩
abbrev mX12_keeping : tv_Y := (yX12_keeping, cX12_keeping, 3, some .int)
set_option maxRecDepth 100000 in
theorem tw_X12_keeping : tv_mw mX12_keeping 2 := ⟨tw_ini_12, tb_7 103 rfl rfl, ⟨by decide +kernel, by decide +kernel, by decide +kernel⟩, by decide⟩
theorem tx_X12_keeping : tv_mv mX12_keeping := ⟨tb_7 102 (by decide +kernel) rfl, tb_0 87 (by decide +kernel) rfl⟩
abbrev mX12_plainStings : tv_Y := (yX12_plainStings, cX12_plainStings, 3, some .int)
set_option maxRecDepth 100000 in
theorem tw_X12_plainStings : tv_mw mX12_plainStings 2 := ⟨tw_ini_12, tb_7 130 rfl rfl, ⟨by decide +kernel, by decide +kernel, by decide +kernel⟩, by decide⟩
theorem tx_X12_plainStings : tv_mv mX12_plainStings := ⟨tb_7 129 (by decide +kernel) rfl, tb_0 93 (by decide +kernel) rfl⟩
abbrev mX12_veilStings : tv_Y := (yX12_veilStings, cX12_veilStings, 3, some .int)
set_option maxRecDepth 100000 in
theorem tw_X12_veilStings : tv_mw mX12_veilStings 2 := ⟨tw_ini_12, tb_7 126 rfl rfl, ⟨by decide +kernel, by decide +kernel, by decide +kernel⟩, by decide⟩
theorem tx_X12_veilStings : tv_mv mX12_veilStings := ⟨tb_7 125 (by decide +kernel) rfl, tb_0 92 (by decide +kernel) rfl⟩
abbrev mX12_stinging : tv_Y := (yX12_stinging, cX12_stinging, 4, some .int)
set_option maxRecDepth 100000 in
theorem tw_X12_stinging : tv_mw mX12_stinging 2 := ⟨tw_ini_12, tb_7 122 rfl rfl, ⟨by decide +kernel, by decide +kernel, by decide +kernel⟩, by decide⟩
theorem tx_X12_stinging : tv_mv mX12_stinging := ⟨tb_7 121 (by decide +kernel) rfl, tb_0 91 (by decide +kernel) rfl⟩
abbrev mX12_plainGrows : tv_Y := (yX12_plainGrows, cX12_plainGrows, 3, some .int)
set_option maxRecDepth 100000 in
theorem tw_X12_plainGrows : tv_mw mX12_plainGrows 2 := ⟨tw_ini_12, tb_7 142 rfl rfl, ⟨by decide +kernel, by decide +kernel, by decide +kernel⟩, by decide⟩
theorem tx_X12_plainGrows : tv_mv mX12_plainGrows := ⟨tb_7 141 (by decide +kernel) rfl, tb_0 96 (by decide +kernel) rfl⟩
abbrev mX12_slateGrows : tv_Y := (yX12_slateGrows, cX12_slateGrows, 3, some .int)
set_option maxRecDepth 100000 in
theorem tw_X12_slateGrows : tv_mw mX12_slateGrows 2 := ⟨tw_ini_12, tb_7 138 rfl rfl, ⟨by decide +kernel, by decide +kernel, by decide +kernel⟩, by decide⟩
theorem tx_X12_slateGrows : tv_mv mX12_slateGrows := ⟨tb_7 137 (by decide +kernel) rfl, tb_0 95 (by decide +kernel) rfl⟩
abbrev mX12_growing : tv_Y := (yX12_growing, cX12_growing, 4, some .int)
set_option maxRecDepth 100000 in
theorem tw_X12_growing : tv_mw mX12_growing 2 := ⟨tw_ini_12, tb_7 134 rfl rfl, ⟨by decide +kernel, by decide +kernel, by decide +kernel⟩, by decide⟩
theorem tx_X12_growing : tv_mv mX12_growing := ⟨tb_7 133 (by decide +kernel) rfl, tb_0 94 (by decide +kernel) rfl⟩
abbrev mX12_plainTells : tv_Y := (yX12_plainTells, cX12_plainTells, 4, some .int)
set_option maxRecDepth 100000 in
theorem tw_X12_plainTells : tv_mw mX12_plainTells 2 := ⟨tw_ini_12, tb_7 150 rfl rfl, ⟨by decide +kernel, by decide +kernel, by decide +kernel⟩, by decide⟩
theorem tx_X12_plainTells : tv_mv mX12_plainTells := ⟨tb_7 149 (by decide +kernel) rfl, tb_0 98 (by decide +kernel) rfl⟩
abbrev mX12_telling : tv_Y := (yX12_telling, cX12_telling, 3, some .int)
set_option maxRecDepth 100000 in
theorem tw_X12_telling : tv_mw mX12_telling 2 := ⟨tw_ini_12, tb_7 146 rfl rfl, ⟨by decide +kernel, by decide +kernel, by decide +kernel⟩, by decide⟩
theorem tx_X12_telling : tv_mv mX12_telling := ⟨tb_7 145 (by decide +kernel) rfl, tb_0 97 (by decide +kernel) rfl⟩
abbrev mX12_act : tv_Y := (yX12_act, cX12_act, 4, some .int)
set_option maxRecDepth 100000 in
theorem tw_X12_act : tv_mw mX12_act 3 := ⟨tw_ini_12, tb_7 95 rfl rfl, ⟨by decide +kernel, by decide +kernel, by decide +kernel⟩, by decide⟩
theorem tx_X12_act : tv_mv mX12_act := ⟨tb_7 93 (by decide +kernel) rfl, tb_7 94 (by decide +kernel) rfl⟩
abbrev mX12_count : tv_Y := (yX12_count, cX12_count, 2, some .int)
set_option maxRecDepth 100000 in
theorem tw_X12_count : tv_mw mX12_count 1 := ⟨tw_ini_12, tb_7 154 rfl rfl, ⟨by decide +kernel, by decide +kernel, by decide +kernel⟩, by decide⟩
theorem tx_X12_count : tv_mv mX12_count := ⟨tb_7 152 (by decide +kernel) rfl, tb_7 153 (by decide +kernel) rfl⟩
abbrev mX12_isShelf : tv_Y := (yX12_isShelf, cX12_isShelf, 1, some .boolean)
set_option maxRecDepth 100000 in
theorem tw_X12_isShelf : tv_mw mX12_isShelf 1 := ⟨tw_ini_12, tb_5 213 rfl rfl, ⟨by decide +kernel, by decide +kernel, by decide +kernel⟩, by decide⟩
theorem tx_X12_isShelf : tv_msx mX12_isShelf := tb_5 212 (by decide +kernel) rfl
abbrev mX12_keep : tv_Y := (yX12_keep, cX12_keep, 3, some .int)
set_option maxRecDepth 100000 in
theorem tw_X12_keep : tv_mw mX12_keep 2 := ⟨tw_ini_12, tb_7 158 rfl rfl, ⟨by decide +kernel, by decide +kernel, by decide +kernel⟩, by decide⟩
theorem tx_X12_keep : tv_mv mX12_keep := ⟨tb_7 156 (by decide +kernel) rfl, tb_7 157 (by decide +kernel) rfl⟩
abbrev mX12_row : tv_Y := (yX12_row, cX12_row, 5, some .int)
set_option maxRecDepth 100000 in
theorem tw_X12_row : tv_mw mX12_row 3 := ⟨tw_ini_12, tb_7 162 rfl rfl, ⟨by decide +kernel, by decide +kernel, by decide +kernel⟩, by decide⟩
theorem tx_X12_row : tv_mv mX12_row := ⟨tb_7 160 (by decide +kernel) rfl, tb_7 161 (by decide +kernel) rfl⟩
abbrev mX12_whyNoPlace : tv_Y := (yX12_whyNoPlace, cX12_whyNoPlace, 3, some .int)
set_option maxRecDepth 100000 in
theorem tw_X12_whyNoPlace : tv_mw mX12_whyNoPlace 2 := ⟨tw_ini_12, tb_7 170 rfl rfl, ⟨by decide +kernel, by decide +kernel, by decide +kernel⟩, by decide⟩
theorem tx_X12_whyNoPlace : tv_mv mX12_whyNoPlace := ⟨tb_7 169 (by decide +kernel) rfl, tb_0 99 (by decide +kernel) rfl⟩
abbrev mX12_put : tv_Y := (yX12_put, cX12_put, 7, some .int)
set_option maxRecDepth 100000 in
theorem tw_X12_put : tv_mw mX12_put 3 := ⟨tw_ini_12, tb_7 166 rfl rfl, ⟨by decide +kernel, by decide +kernel, by decide +kernel⟩, by decide⟩
theorem tx_X12_put : tv_mv mX12_put := ⟨tb_7 164 (by decide +kernel) rfl, tb_7 165 (by decide +kernel) rfl⟩
abbrev mX12_element : tv_Y := (yX12_element, cX12_element, 3, some .long)
set_option maxRecDepth 100000 in
theorem tw_X12_element : tv_mw mX12_element 2 := ⟨tw_ini_12, tb_7 174 rfl rfl, ⟨by decide +kernel, by decide +kernel, by decide +kernel⟩, by decide⟩
theorem tx_X12_element : tv_mv mX12_element := ⟨tb_7 172 (by decide +kernel) rfl, tb_7 173 (by decide +kernel) rfl⟩
abbrev mX12_shift : tv_Y := (yX12_shift, cX12_shift, 7, some .int)
set_option maxRecDepth 100000 in
theorem tw_X12_shift : tv_mw mX12_shift 5 := ⟨tw_ini_12, tb_7 179 rfl rfl, ⟨by decide +kernel, by decide +kernel, by decide +kernel⟩, by decide⟩
theorem tx_X12_shift : tv_mv mX12_shift := ⟨tb_7 177 (by decide +kernel) rfl, tb_7 178 (by decide +kernel) rfl⟩
abbrev mX12_taken : tv_Y := (yX12_taken, cX12_taken, 3, some .int)
set_option maxRecDepth 100000 in
theorem tw_X12_taken : tv_mw mX12_taken 2 := ⟨tw_ini_12, tb_7 183 rfl rfl, ⟨by decide +kernel, by decide +kernel, by decide +kernel⟩, by decide⟩
theorem tx_X12_taken : tv_mv mX12_taken := ⟨tb_7 181 (by decide +kernel) rfl, tb_7 182 (by decide +kernel) rfl⟩
abbrev mJ9_abs_0f7a4 : tv_Y := (yJ9_abs_0f7a4, cJ9_abs_0f7a4, 1, some .int)
theorem tw_ini_13 : Cond.initialized "java/lang/Math" ∈ tv_tb := tb_1 15 (by decide +kernel) rfl
set_option maxRecDepth 100000 in
theorem tw_J9_abs_0f7a4 : tv_mw mJ9_abs_0f7a4 1 := ⟨tw_ini_13, tb_3 207 rfl rfl, ⟨by decide +kernel, by decide +kernel, by decide +kernel⟩, by decide⟩
theorem tx_J9_abs_0f7a4 : tv_msx mJ9_abs_0f7a4 := tb_3 206 (by decide +kernel) rfl
abbrev mJ9_max_7cf53 : tv_Y := (yJ9_max_7cf53, cJ9_max_7cf53, 2, some .int)
set_option maxRecDepth 100000 in
theorem tw_J9_max_7cf53 : tv_mw mJ9_max_7cf53 2 := ⟨tw_ini_13, tb_3 83 rfl rfl, ⟨by decide +kernel, by decide +kernel, by decide +kernel⟩, by decide⟩
theorem tx_J9_max_7cf53 : tv_msx mJ9_max_7cf53 := tb_3 82 (by decide +kernel) rfl
abbrev mJ9_min_7cf53 : tv_Y := (yJ9_min_7cf53, cJ9_min_7cf53, 2, some .int)
set_option maxRecDepth 100000 in
theorem tw_J9_min_7cf53 : tv_mw mJ9_min_7cf53 2 := ⟨tw_ini_13, tb_3 92 rfl rfl, ⟨by decide +kernel, by decide +kernel, by decide +kernel⟩, by decide⟩
theorem tx_J9_min_7cf53 : tv_msx mJ9_min_7cf53 := tb_3 91 (by decide +kernel) rfl
theorem tl_X0_3 : Cond.methodLink "TemperInHive$Changes" 3 objectInit ∈ tv_tb := tb_1 206 (by decide +kernel) rfl
theorem tl_X0_9 : tv_fl "TemperInHive$Changes" 9 0 0 6 := ⟨_, _, tw_c0, by decide, tb_1 207 (by decide +kernel) rfl⟩
theorem tf_X0_9 : tv_flF "TemperInHive$Changes" 9 0 0 6 true := ⟨_, _, tw_c0, by decide, tb_1 207 (by decide +kernel) rfl, rfl, fun h => by first | rfl | cases h⟩
theorem tl_X0_15 : tv_fl "TemperInHive$Changes" 15 0 1 6 := ⟨_, _, tw_c0, by decide, tb_1 209 (by decide +kernel) rfl⟩
theorem tf_X0_15 : tv_flF "TemperInHive$Changes" 15 0 1 6 true := ⟨_, _, tw_c0, by decide, tb_1 209 (by decide +kernel) rfl, rfl, fun h => by first | rfl | cases h⟩
theorem tl_X0_18 : tv_fl "TemperInHive$Changes" 18 0 2 6 := ⟨_, _, tw_c0, by decide, tb_1 211 (by decide +kernel) rfl⟩
theorem tf_X0_18 : tv_flF "TemperInHive$Changes" 18 0 2 6 true := ⟨_, _, tw_c0, by decide, tb_1 211 (by decide +kernel) rfl, rfl, fun h => by first | rfl | cases h⟩
theorem tl_X0_21 : tv_fl "TemperInHive$Changes" 21 0 3 6 := ⟨_, _, tw_c0, by decide, tb_1 213 (by decide +kernel) rfl⟩
theorem tf_X0_21 : tv_flF "TemperInHive$Changes" 21 0 3 6 true := ⟨_, _, tw_c0, by decide, tb_1 213 (by decide +kernel) rfl, rfl, fun h => by first | rfl | cases h⟩
theorem tl_X0_24 : tv_fl "TemperInHive$Changes" 24 0 4 6 := ⟨_, _, tw_c0, by decide, tb_1 215 (by decide +kernel) rfl⟩
theorem tf_X0_24 : tv_flF "TemperInHive$Changes" 24 0 4 6 false := ⟨_, _, tw_c0, by decide, tb_1 215 (by decide +kernel) rfl, rfl, fun h => by first | rfl | cases h⟩
theorem tl_X0_28 : tv_fl "TemperInHive$Changes" 28 0 5 6 := ⟨_, _, tw_c0, by decide, tb_1 217 (by decide +kernel) rfl⟩
theorem tf_X0_28 : tv_flF "TemperInHive$Changes" 28 0 5 6 false := ⟨_, _, tw_c0, by decide, tb_1 217 (by decide +kernel) rfl, rfl, fun h => by first | rfl | cases h⟩
theorem tl_X0_31 : Cond.methodLink "TemperInHive$Changes" 31 yX0_forgetOldest ∈ tv_tb := tb_2 208 (by decide +kernel) rfl
theorem tl_X0_34 : Cond.methodLink "TemperInHive$Changes" 34 arraycopyName ∈ tv_tb := tb_2 212 (by decide +kernel) rfl
theorem tl_X1_3 : Cond.methodLink "TemperInHive$Code" 3 objectInit ∈ tv_tb := tb_1 134 (by decide +kernel) rfl
theorem tl_X1_9 : tv_fl "TemperInHive$Code" 9 1 0 4 := ⟨_, _, tw_c1, by decide, tb_1 135 (by decide +kernel) rfl⟩
theorem tf_X1_9 : tv_flF "TemperInHive$Code" 9 1 0 4 true := ⟨_, _, tw_c1, by decide, tb_1 135 (by decide +kernel) rfl, rfl, fun h => by first | rfl | cases h⟩
theorem tl_X1_15 : tv_fl "TemperInHive$Code" 15 1 1 4 := ⟨_, _, tw_c1, by decide, tb_1 136 (by decide +kernel) rfl⟩
theorem tf_X1_15 : tv_flF "TemperInHive$Code" 15 1 1 4 true := ⟨_, _, tw_c1, by decide, tb_1 136 (by decide +kernel) rfl, rfl, fun h => by first | rfl | cases h⟩
theorem tl_X1_18 : tv_fl "TemperInHive$Code" 18 1 2 4 := ⟨_, _, tw_c1, by decide, tb_1 137 (by decide +kernel) rfl⟩
theorem tf_X1_18 : tv_flF "TemperInHive$Code" 18 1 2 4 true := ⟨_, _, tw_c1, by decide, tb_1 137 (by decide +kernel) rfl, rfl, fun h => by first | rfl | cases h⟩
theorem tl_X1_21 : tv_fl "TemperInHive$Code" 21 1 3 4 := ⟨_, _, tw_c1, by decide, tb_1 138 (by decide +kernel) rfl⟩
theorem tf_X1_21 : tv_flF "TemperInHive$Code" 21 1 3 4 false := ⟨_, _, tw_c1, by decide, tb_1 138 (by decide +kernel) rfl, rfl, fun h => by first | rfl | cases h⟩
theorem tl_X1_25 : Cond.methodLink "TemperInHive$Code" 25 yJ9_max_7cf53 ∈ tv_tb := tb_3 81 (by decide +kernel) rfl
theorem tl_X1_31 : Cond.methodLink "TemperInHive$Code" 31 yX1_truth ∈ tv_tb := tb_3 84 (by decide +kernel) rfl
theorem tl_X1_35 : Cond.methodLink "TemperInHive$Code" 35 yX1_joined ∈ tv_tb := tb_3 87 (by decide +kernel) rfl
theorem tl_X2_3 : Cond.methodLink "TemperInHive$Image" 3 objectInit ∈ tv_tb := tb_1 237 (by decide +kernel) rfl
theorem tl_X2_9 : tv_fl "TemperInHive$Image" 9 2 0 5 := ⟨_, _, tw_c2, by decide, tb_2 0 (by decide +kernel) rfl⟩
theorem tf_X2_9 : tv_flF "TemperInHive$Image" 9 2 0 5 false := ⟨_, _, tw_c2, by decide, tb_2 0 (by decide +kernel) rfl, rfl, fun h => by first | rfl | cases h⟩
theorem tl_X2_15 : tv_fl "TemperInHive$Image" 15 2 1 5 := ⟨_, _, tw_c2, by decide, tb_2 2 (by decide +kernel) rfl⟩
theorem tf_X2_15 : tv_flF "TemperInHive$Image" 15 2 1 5 false := ⟨_, _, tw_c2, by decide, tb_2 2 (by decide +kernel) rfl, rfl, fun h => by first | rfl | cases h⟩
theorem tl_X2_19 : tv_fl "TemperInHive$Image" 19 2 2 5 := ⟨_, _, tw_c2, by decide, tb_2 3 (by decide +kernel) rfl⟩
theorem tf_X2_19 : tv_flF "TemperInHive$Image" 19 2 2 5 true := ⟨_, _, tw_c2, by decide, tb_2 3 (by decide +kernel) rfl, rfl, fun h => by first | rfl | cases h⟩
theorem tl_X2_23 : Cond.classLink "TemperInHive$Image" 23 "TemperInHive$Stock" ∈ tv_tb := tb_1 238 (by decide +kernel) rfl
theorem tl_X2_25 : Cond.methodLinkNest "TemperInHive$Image" 25 yX7_init "TemperInHive" ∈ tv_nb := tn_1 239 (by decide +kernel) rfl
theorem tl_X2_26 : tv_fl "TemperInHive$Image" 26 2 3 5 := ⟨_, _, tw_c2, by decide, tb_2 4 (by decide +kernel) rfl⟩
theorem tf_X2_26 : tv_flF "TemperInHive$Image" 26 2 3 5 true := ⟨_, _, tw_c2, by decide, tb_2 4 (by decide +kernel) rfl, rfl, fun h => by first | rfl | cases h⟩
theorem tl_X2_30 : tv_fl "TemperInHive$Image" 30 2 4 5 := ⟨_, _, tw_c2, by decide, tb_2 5 (by decide +kernel) rfl⟩
theorem tf_X2_30 : tv_flF "TemperInHive$Image" 30 2 4 5 true := ⟨_, _, tw_c2, by decide, tb_2 5 (by decide +kernel) rfl, rfl, fun h => by first | rfl | cases h⟩
theorem tl_X2_33 : tv_fl "TemperInHive$Image" 33 3 0 13 := ⟨_, _, tw_c3, by decide, tb_1 42 (by decide +kernel) rfl⟩
theorem tf_X2_33 : tv_flF "TemperInHive$Image" 33 3 0 13 false := ⟨_, _, tw_c3, by decide, tb_1 42 (by decide +kernel) rfl, rfl, fun h => by first | rfl | cases h⟩
theorem tl_X2_36 : tv_fl "TemperInHive$Image" 36 3 3 13 := ⟨_, _, tw_c3, by decide, tb_1 53 (by decide +kernel) rfl⟩
-- TemperInHive$Image 36: a final field of another class
theorem tl_X2_37 : Cond.methodLink "TemperInHive$Image" 37 arraycopyName ∈ tv_tb := tb_4 125 (by decide +kernel) rfl
theorem tl_X2_43 : tv_fl "TemperInHive$Image" 43 3 5 13 := ⟨_, _, tw_c3, by decide, tb_1 62 (by decide +kernel) rfl⟩
-- TemperInHive$Image 43: a final field of another class
theorem tl_X2_44 : Cond.methodLink "TemperInHive$Image" 44 yX7_copyFrom ∈ tv_tb := tb_4 126 (by decide +kernel) rfl
theorem tl_X3_3 : Cond.methodLink "TemperInHive$Land" 3 objectInit ∈ tv_tb := tb_1 29 (by decide +kernel) rfl
theorem tl_X3_9 : tv_fl "TemperInHive$Land" 9 3 0 13 := ⟨_, _, tw_c3, by decide, tb_1 41 (by decide +kernel) rfl⟩
theorem tf_X3_9 : tv_flF "TemperInHive$Land" 9 3 0 13 false := ⟨_, _, tw_c3, by decide, tb_1 41 (by decide +kernel) rfl, rfl, fun h => by first | rfl | cases h⟩
theorem tl_X3_15 : tv_fl "TemperInHive$Land" 15 3 1 13 := ⟨_, _, tw_c3, by decide, tb_1 45 (by decide +kernel) rfl⟩
theorem tf_X3_15 : tv_flF "TemperInHive$Land" 15 3 1 13 false := ⟨_, _, tw_c3, by decide, tb_1 45 (by decide +kernel) rfl, rfl, fun h => by first | rfl | cases h⟩
theorem tl_X3_18 : tv_fl "TemperInHive$Land" 18 3 2 13 := ⟨_, _, tw_c3, by decide, tb_1 49 (by decide +kernel) rfl⟩
theorem tf_X3_18 : tv_flF "TemperInHive$Land" 18 3 2 13 false := ⟨_, _, tw_c3, by decide, tb_1 49 (by decide +kernel) rfl, rfl, fun h => by first | rfl | cases h⟩
theorem tl_X3_21 : tv_fl "TemperInHive$Land" 21 3 3 13 := ⟨_, _, tw_c3, by decide, tb_1 52 (by decide +kernel) rfl⟩
theorem tf_X3_21 : tv_flF "TemperInHive$Land" 21 3 3 13 true := ⟨_, _, tw_c3, by decide, tb_1 52 (by decide +kernel) rfl, rfl, fun h => by first | rfl | cases h⟩
theorem tl_X3_25 : tv_fl "TemperInHive$Land" 25 3 4 13 := ⟨_, _, tw_c3, by decide, tb_1 57 (by decide +kernel) rfl⟩
theorem tf_X3_25 : tv_flF "TemperInHive$Land" 25 3 4 13 true := ⟨_, _, tw_c3, by decide, tb_1 57 (by decide +kernel) rfl, rfl, fun h => by first | rfl | cases h⟩
theorem tl_X3_28 : Cond.classLink "TemperInHive$Land" 28 "TemperInHive$Stock" ∈ tv_tb := tb_1 30 (by decide +kernel) rfl
theorem tl_X3_30 : Cond.methodLinkNest "TemperInHive$Land" 30 yX7_init "TemperInHive" ∈ tv_nb := tn_1 32 (by decide +kernel) rfl
theorem tl_X3_31 : tv_fl "TemperInHive$Land" 31 3 5 13 := ⟨_, _, tw_c3, by decide, tb_1 60 (by decide +kernel) rfl⟩
theorem tf_X3_31 : tv_flF "TemperInHive$Land" 31 3 5 13 true := ⟨_, _, tw_c3, by decide, tb_1 60 (by decide +kernel) rfl, rfl, fun h => by first | rfl | cases h⟩
theorem tl_X3_35 : tv_fl "TemperInHive$Land" 35 3 6 13 := ⟨_, _, tw_c3, by decide, tb_1 65 (by decide +kernel) rfl⟩
theorem tf_X3_35 : tv_flF "TemperInHive$Land" 35 3 6 13 true := ⟨_, _, tw_c3, by decide, tb_1 65 (by decide +kernel) rfl, rfl, fun h => by first | rfl | cases h⟩
theorem tl_X3_38 : tv_fl "TemperInHive$Land" 38 3 7 13 := ⟨_, _, tw_c3, by decide, tb_1 68 (by decide +kernel) rfl⟩
theorem tf_X3_38 : tv_flF "TemperInHive$Land" 38 3 7 13 true := ⟨_, _, tw_c3, by decide, tb_1 68 (by decide +kernel) rfl, rfl, fun h => by first | rfl | cases h⟩
theorem tl_X3_41 : tv_fl "TemperInHive$Land" 41 3 8 13 := ⟨_, _, tw_c3, by decide, tb_1 71 (by decide +kernel) rfl⟩
theorem tf_X3_41 : tv_flF "TemperInHive$Land" 41 3 8 13 true := ⟨_, _, tw_c3, by decide, tb_1 71 (by decide +kernel) rfl, rfl, fun h => by first | rfl | cases h⟩
theorem tl_X3_44 : tv_fl "TemperInHive$Land" 44 3 9 13 := ⟨_, _, tw_c3, by decide, tb_1 75 (by decide +kernel) rfl⟩
theorem tf_X3_44 : tv_flF "TemperInHive$Land" 44 3 9 13 false := ⟨_, _, tw_c3, by decide, tb_1 75 (by decide +kernel) rfl, rfl, fun h => by first | rfl | cases h⟩
theorem tl_X3_47 : tv_fl "TemperInHive$Land" 47 3 10 13 := ⟨_, _, tw_c3, by decide, tb_1 77 (by decide +kernel) rfl⟩
theorem tf_X3_47 : tv_flF "TemperInHive$Land" 47 3 10 13 false := ⟨_, _, tw_c3, by decide, tb_1 77 (by decide +kernel) rfl, rfl, fun h => by first | rfl | cases h⟩
theorem tl_X3_50 : tv_fl "TemperInHive$Land" 50 3 11 13 := ⟨_, _, tw_c3, by decide, tb_1 78 (by decide +kernel) rfl⟩
theorem tf_X3_50 : tv_flF "TemperInHive$Land" 50 3 11 13 false := ⟨_, _, tw_c3, by decide, tb_1 78 (by decide +kernel) rfl, rfl, fun h => by first | rfl | cases h⟩
theorem tl_X3_53 : tv_fl "TemperInHive$Land" 53 3 12 13 := ⟨_, _, tw_c3, by decide, tb_1 80 (by decide +kernel) rfl⟩
theorem tf_X3_53 : tv_flF "TemperInHive$Land" 53 3 12 13 false := ⟨_, _, tw_c3, by decide, tb_1 80 (by decide +kernel) rfl, rfl, fun h => by first | rfl | cases h⟩
theorem tl_X3_56 : Cond.methodLink "TemperInHive$Land" 56 yX3_isHive ∈ tv_tb := tb_2 183 (by decide +kernel) rfl
theorem tl_X3_60 : Cond.methodLink "TemperInHive$Land" 60 yX3_isPerson ∈ tv_tb := tb_2 175 (by decide +kernel) rfl
theorem tl_X3_65 : Cond.methodLinkNest "TemperInHive$Land" 65 yX11_apart "TemperInHive" ∈ tv_nb := tn_3 202 (by decide +kernel) rfl
theorem tl_X3_69 : Cond.methodLink "TemperInHive$Land" 69 yX7_allIn ∈ tv_tb := tb_3 208 (by decide +kernel) rfl
theorem tl_X3_73 : Cond.methodLink "TemperInHive$Land" 73 yX3_farOf ∈ tv_tb := tb_3 209 (by decide +kernel) rfl
theorem tl_X3_76 : Cond.methodLink "TemperInHive$Land" 76 yX7_share ∈ tv_tb := tb_2 187 (by decide +kernel) rfl
theorem tl_X3_79 : Cond.methodLink "TemperInHive$Land" 79 yJ9_min_7cf53 ∈ tv_tb := tb_3 115 (by decide +kernel) rfl
theorem tl_X3_84 : Cond.methodLink "TemperInHive$Land" 84 yJ9_max_7cf53 ∈ tv_tb := tb_3 120 (by decide +kernel) rfl
theorem tl_X3_87 : Cond.methodLink "TemperInHive$Land" 87 yX3_isShare ∈ tv_tb := tb_2 179 (by decide +kernel) rfl
theorem tl_X3_90 : Cond.methodLink "TemperInHive$Land" 90 yX3_isDeed ∈ tv_tb := tb_2 191 (by decide +kernel) rfl
theorem tl_X3_93 : Cond.methodLink "TemperInHive$Land" 93 yX3_setting ∈ tv_tb := tb_2 195 (by decide +kernel) rfl
theorem tl_X3_96 : Cond.methodLinkNest "TemperInHive$Land" 96 yX11_isTemper "TemperInHive" ∈ tv_nb := tn_2 203 (by decide +kernel) rfl
theorem tl_X3_99 : Cond.methodLink "TemperInHive$Land" 99 yX7_lay ∈ tv_tb := tb_2 219 (by decide +kernel) rfl
theorem tl_X3_103 : Cond.methodLink "TemperInHive$Land" 103 yX3_changeSetting ∈ tv_tb := tb_2 223 (by decide +kernel) rfl
theorem tl_X4_3 : Cond.methodLink "TemperInHive$Pairing" 3 objectInit ∈ tv_tb := tb_1 173 (by decide +kernel) rfl
theorem tl_X4_11 : tv_fl "TemperInHive$Pairing" 11 4 0 1 := ⟨_, _, tw_c4, by decide, tb_1 174 (by decide +kernel) rfl⟩
theorem tf_X4_11 : tv_flF "TemperInHive$Pairing" 11 4 0 1 true := ⟨_, _, tw_c4, by decide, tb_1 174 (by decide +kernel) rfl, rfl, fun h => by first | rfl | cases h⟩
theorem tl_X4_15 : tv_fl "TemperInHive$Pairing" 15 3 2 13 := ⟨_, _, tw_c3, by decide, tb_1 50 (by decide +kernel) rfl⟩
theorem tf_X4_15 : tv_flF "TemperInHive$Pairing" 15 3 2 13 false := ⟨_, _, tw_c3, by decide, tb_1 50 (by decide +kernel) rfl, rfl, fun h => by first | rfl | cases h⟩
theorem tl_X4_21 : Cond.methodLink "TemperInHive$Pairing" 21 yX4_bestFrom ∈ tv_tb := tb_3 173 (by decide +kernel) rfl
theorem tl_X4_25 : tv_fl "TemperInHive$Pairing" 25 3 0 13 := ⟨_, _, tw_c3, by decide, tb_1 44 (by decide +kernel) rfl⟩
theorem tf_X4_25 : tv_flF "TemperInHive$Pairing" 25 3 0 13 false := ⟨_, _, tw_c3, by decide, tb_1 44 (by decide +kernel) rfl, rfl, fun h => by first | rfl | cases h⟩
theorem tl_X4_28 : Cond.methodLink "TemperInHive$Pairing" 28 yX4_isFree ∈ tv_tb := tb_3 177 (by decide +kernel) rfl
theorem tl_X4_32 : Cond.methodLink "TemperInHive$Pairing" 32 yX4_worthBy ∈ tv_tb := tb_3 181 (by decide +kernel) rfl
theorem tl_X4_36 : Cond.methodLink "TemperInHive$Pairing" 36 yJ9_max_7cf53 ∈ tv_tb := tb_3 185 (by decide +kernel) rfl
theorem tl_X4_42 : tv_fl "TemperInHive$Pairing" 42 3 3 13 := ⟨_, _, tw_c3, by decide, tb_1 55 (by decide +kernel) rfl⟩
-- TemperInHive$Pairing 42: a final field of another class
theorem tl_X4_45 : Cond.methodLink "TemperInHive$Pairing" 45 yX3_mayDo ∈ tv_tb := tb_3 180 (by decide +kernel) rfl
theorem tl_X4_49 : tv_fl "TemperInHive$Pairing" 49 3 8 13 := ⟨_, _, tw_c3, by decide, tb_1 73 (by decide +kernel) rfl⟩
-- TemperInHive$Pairing 49: a final field of another class
theorem tl_X4_52 : Cond.methodLink "TemperInHive$Pairing" 52 yX4_firstDoer ∈ tv_tb := tb_3 190 (by decide +kernel) rfl
theorem tl_X5_3 : Cond.methodLink "TemperInHive$Round" 3 objectInit ∈ tv_tb := tb_1 184 (by decide +kernel) rfl
theorem tl_X5_9 : tv_fl "TemperInHive$Round" 9 5 0 4 := ⟨_, _, tw_c5, by decide, tb_1 185 (by decide +kernel) rfl⟩
theorem tf_X5_9 : tv_flF "TemperInHive$Round" 9 5 0 4 true := ⟨_, _, tw_c5, by decide, tb_1 185 (by decide +kernel) rfl, rfl, fun h => by first | rfl | cases h⟩
theorem tl_X5_15 : tv_fl "TemperInHive$Round" 15 5 1 4 := ⟨_, _, tw_c5, by decide, tb_1 186 (by decide +kernel) rfl⟩
theorem tf_X5_15 : tv_flF "TemperInHive$Round" 15 5 1 4 true := ⟨_, _, tw_c5, by decide, tb_1 186 (by decide +kernel) rfl, rfl, fun h => by first | rfl | cases h⟩
theorem tl_X5_18 : tv_fl "TemperInHive$Round" 18 5 2 4 := ⟨_, _, tw_c5, by decide, tb_1 188 (by decide +kernel) rfl⟩
theorem tf_X5_18 : tv_flF "TemperInHive$Round" 18 5 2 4 false := ⟨_, _, tw_c5, by decide, tb_1 188 (by decide +kernel) rfl, rfl, fun h => by first | rfl | cases h⟩
theorem tl_X5_22 : tv_fl "TemperInHive$Round" 22 5 3 4 := ⟨_, _, tw_c5, by decide, tb_1 190 (by decide +kernel) rfl⟩
theorem tf_X5_22 : tv_flF "TemperInHive$Round" 22 5 3 4 false := ⟨_, _, tw_c5, by decide, tb_1 190 (by decide +kernel) rfl, rfl, fun h => by first | rfl | cases h⟩
theorem tl_X5_25 : Cond.methodLink "TemperInHive$Round" 25 yX6_at ∈ tv_tb := tb_3 136 (by decide +kernel) rfl
theorem tl_X5_31 : Cond.methodLink "TemperInHive$Round" 31 yX3_isDeed ∈ tv_tb := tb_3 137 (by decide +kernel) rfl
theorem tl_X5_37 : Cond.methodLink "TemperInHive$Round" 37 yX5_read ∈ tv_tb := tb_3 132 (by decide +kernel) rfl
theorem tl_X5_41 : tv_fl "TemperInHive$Round" 41 3 3 13 := ⟨_, _, tw_c3, by decide, tb_1 54 (by decide +kernel) rfl⟩
-- TemperInHive$Round 41: a final field of another class
theorem tl_X5_42 : Cond.methodLink "TemperInHive$Round" 42 yX3_mayDo ∈ tv_tb := tb_3 146 (by decide +kernel) rfl
theorem tl_X5_46 : tv_fl "TemperInHive$Round" 46 3 8 13 := ⟨_, _, tw_c3, by decide, tb_1 72 (by decide +kernel) rfl⟩
-- TemperInHive$Round 46: a final field of another class
theorem tl_X5_49 : tv_fl "TemperInHive$Round" 49 3 5 13 := ⟨_, _, tw_c3, by decide, tb_1 63 (by decide +kernel) rfl⟩
-- TemperInHive$Round 49: a final field of another class
theorem tl_X5_53 : Cond.methodLink "TemperInHive$Round" 53 yX7_allOf ∈ tv_tb := tb_3 138 (by decide +kernel) rfl
theorem tl_X5_58 : Cond.methodLink "TemperInHive$Round" 58 yX5_needsMoreThan ∈ tv_tb := tb_3 142 (by decide +kernel) rfl
theorem tl_X5_62 : Cond.methodLink "TemperInHive$Round" 62 yX5_goOnceFrom ∈ tv_tb := tb_3 150 (by decide +kernel) rfl
theorem tl_X5_66 : tv_fl "TemperInHive$Round" 66 3 1 13 := ⟨_, _, tw_c3, by decide, tb_1 48 (by decide +kernel) rfl⟩
theorem tf_X5_66 : tv_flF "TemperInHive$Round" 66 3 1 13 false := ⟨_, _, tw_c3, by decide, tb_1 48 (by decide +kernel) rfl, rfl, fun h => by first | rfl | cases h⟩
theorem tl_X5_69 : tv_fl "TemperInHive$Round" 69 3 6 13 := ⟨_, _, tw_c3, by decide, tb_1 66 (by decide +kernel) rfl⟩
-- TemperInHive$Round 69: a final field of another class
theorem tl_X5_72 : Cond.methodLink "TemperInHive$Round" 72 yJ9_max_7cf53 ∈ tv_tb := tb_3 154 (by decide +kernel) rfl
theorem tl_X5_78 : tv_fl "TemperInHive$Round" 78 3 7 13 := ⟨_, _, tw_c3, by decide, tb_1 69 (by decide +kernel) rfl⟩
-- TemperInHive$Round 78: a final field of another class
theorem tl_X5_81 : Cond.methodLink "TemperInHive$Round" 81 yJ9_min_7cf53 ∈ tv_tb := tb_3 155 (by decide +kernel) rfl
theorem tl_X6_3 : Cond.methodLink "TemperInHive$Shelf" 3 objectInit ∈ tv_tb := tb_2 49 (by decide +kernel) rfl
theorem tl_X6_9 : tv_fl "TemperInHive$Shelf" 9 6 0 4 := ⟨_, _, tw_c6, by decide, tb_2 50 (by decide +kernel) rfl⟩
theorem tf_X6_9 : tv_flF "TemperInHive$Shelf" 9 6 0 4 false := ⟨_, _, tw_c6, by decide, tb_2 50 (by decide +kernel) rfl, rfl, fun h => by first | rfl | cases h⟩
theorem tl_X6_15 : tv_fl "TemperInHive$Shelf" 15 6 1 4 := ⟨_, _, tw_c6, by decide, tb_2 52 (by decide +kernel) rfl⟩
theorem tf_X6_15 : tv_flF "TemperInHive$Shelf" 15 6 1 4 false := ⟨_, _, tw_c6, by decide, tb_2 52 (by decide +kernel) rfl, rfl, fun h => by first | rfl | cases h⟩
theorem tl_X6_18 : tv_fl "TemperInHive$Shelf" 18 6 2 4 := ⟨_, _, tw_c6, by decide, tb_2 54 (by decide +kernel) rfl⟩
theorem tf_X6_18 : tv_flF "TemperInHive$Shelf" 18 6 2 4 false := ⟨_, _, tw_c6, by decide, tb_2 54 (by decide +kernel) rfl, rfl, fun h => by first | rfl | cases h⟩
theorem tl_X6_21 : tv_fl "TemperInHive$Shelf" 21 6 3 4 := ⟨_, _, tw_c6, by decide, tb_2 56 (by decide +kernel) rfl⟩
theorem tf_X6_21 : tv_flF "TemperInHive$Shelf" 21 6 3 4 true := ⟨_, _, tw_c6, by decide, tb_2 56 (by decide +kernel) rfl, rfl, fun h => by first | rfl | cases h⟩
theorem tl_X6_25 : Cond.methodLink "TemperInHive$Shelf" 25 yX6_has ∈ tv_tb := tb_2 162 (by decide +kernel) rfl
theorem tl_X6_29 : Cond.constant "TemperInHive$Shelf" 29 (Int32.ofInt (-2000000000)) ∈ tv_tb := tb_2 166 (by decide +kernel) rfl
theorem tl_X7_3 : Cond.methodLink "TemperInHive$Stock" 3 objectInit ∈ tv_tb := tb_1 35 (by decide +kernel) rfl
theorem tl_X7_9 : tv_fl "TemperInHive$Stock" 9 7 0 1 := ⟨_, _, tw_c7, by decide, tb_1 36 (by decide +kernel) rfl⟩
theorem tf_X7_9 : tv_flF "TemperInHive$Stock" 9 7 0 1 true := ⟨_, _, tw_c7, by decide, tb_1 36 (by decide +kernel) rfl, rfl, fun h => by first | rfl | cases h⟩
theorem tl_X7_15 : Cond.methodLink "TemperInHive$Stock" 15 yX7_share ∈ tv_tb := tb_3 67 (by decide +kernel) rfl
theorem tl_X7_19 : Cond.methodLink "TemperInHive$Stock" 19 yX7_allIn ∈ tv_tb := tb_4 77 (by decide +kernel) rfl
theorem tl_X7_23 : Cond.methodLink "TemperInHive$Stock" 23 arraycopyName ∈ tv_tb := tb_3 58 (by decide +kernel) rfl
theorem tl_X8_3 : Cond.methodLink "TemperInHive$Swarms" 3 objectInit ∈ tv_tb := tb_2 22 (by decide +kernel) rfl
theorem tl_X8_9 : tv_fl "TemperInHive$Swarms" 9 8 0 5 := ⟨_, _, tw_c8, by decide, tb_2 23 (by decide +kernel) rfl⟩
theorem tf_X8_9 : tv_flF "TemperInHive$Swarms" 9 8 0 5 true := ⟨_, _, tw_c8, by decide, tb_2 23 (by decide +kernel) rfl, rfl, fun h => by first | rfl | cases h⟩
theorem tl_X8_15 : tv_fl "TemperInHive$Swarms" 15 8 1 5 := ⟨_, _, tw_c8, by decide, tb_2 25 (by decide +kernel) rfl⟩
theorem tf_X8_15 : tv_flF "TemperInHive$Swarms" 15 8 1 5 false := ⟨_, _, tw_c8, by decide, tb_2 25 (by decide +kernel) rfl, rfl, fun h => by first | rfl | cases h⟩
theorem tl_X8_19 : tv_fl "TemperInHive$Swarms" 19 8 2 5 := ⟨_, _, tw_c8, by decide, tb_2 27 (by decide +kernel) rfl⟩
theorem tf_X8_19 : tv_flF "TemperInHive$Swarms" 19 8 2 5 true := ⟨_, _, tw_c8, by decide, tb_2 27 (by decide +kernel) rfl, rfl, fun h => by first | rfl | cases h⟩
theorem tl_X8_22 : tv_fl "TemperInHive$Swarms" 22 8 3 5 := ⟨_, _, tw_c8, by decide, tb_2 29 (by decide +kernel) rfl⟩
theorem tf_X8_22 : tv_flF "TemperInHive$Swarms" 22 8 3 5 false := ⟨_, _, tw_c8, by decide, tb_2 29 (by decide +kernel) rfl, rfl, fun h => by first | rfl | cases h⟩
theorem tl_X8_25 : tv_fl "TemperInHive$Swarms" 25 8 4 5 := ⟨_, _, tw_c8, by decide, tb_2 31 (by decide +kernel) rfl⟩
theorem tf_X8_25 : tv_flF "TemperInHive$Swarms" 25 8 4 5 false := ⟨_, _, tw_c8, by decide, tb_2 31 (by decide +kernel) rfl, rfl, fun h => by first | rfl | cases h⟩
theorem tl_X8_28 : Cond.methodLink "TemperInHive$Swarms" 28 yX8_own ∈ tv_tb := tb_4 166 (by decide +kernel) rfl
theorem tl_X8_32 : Cond.methodLink "TemperInHive$Swarms" 32 yX8_run ∈ tv_tb := tb_4 170 (by decide +kernel) rfl
theorem tl_X8_36 : Cond.fieldLinkNest "TemperInHive$Swarms" 36 "TemperInHive" "KIND_ABOVE" "[I" "TemperInHive" ∈ tv_nb := tn_4 177 (by decide +kernel) rfl
theorem tl_X8_39 : Cond.methodLinkNest "TemperInHive$Swarms" 39 yX11_isKind "TemperInHive" ∈ tv_nb := tn_4 174 (by decide +kernel) rfl
theorem tl_X8_43 : Cond.fieldLinkNest "TemperInHive$Swarms" 43 "TemperInHive" "OWN_BODIES" "[I" "TemperInHive" ∈ tv_nb := tn_4 175 (by decide +kernel) rfl
theorem tl_X8_46 : Cond.methodLink "TemperInHive$Swarms" 46 yX8_answer ∈ tv_tb := tb_4 179 (by decide +kernel) rfl
theorem tl_X8_49 : Cond.methodLink "TemperInHive$Swarms" 49 yX8_above ∈ tv_tb := tb_4 183 (by decide +kernel) rfl
theorem tl_X9_3 : Cond.methodLink "TemperInHive$Tape" 3 objectInit ∈ tv_tb := tb_1 114 (by decide +kernel) rfl
theorem tl_X9_9 : tv_fl "TemperInHive$Tape" 9 9 0 4 := ⟨_, _, tw_c9, by decide, tb_1 115 (by decide +kernel) rfl⟩
theorem tf_X9_9 : tv_flF "TemperInHive$Tape" 9 9 0 4 true := ⟨_, _, tw_c9, by decide, tb_1 115 (by decide +kernel) rfl, rfl, fun h => by first | rfl | cases h⟩
theorem tl_X9_15 : tv_fl "TemperInHive$Tape" 15 9 1 4 := ⟨_, _, tw_c9, by decide, tb_1 116 (by decide +kernel) rfl⟩
theorem tf_X9_15 : tv_flF "TemperInHive$Tape" 15 9 1 4 false := ⟨_, _, tw_c9, by decide, tb_1 116 (by decide +kernel) rfl, rfl, fun h => by first | rfl | cases h⟩
theorem tl_X9_19 : tv_fl "TemperInHive$Tape" 19 9 2 4 := ⟨_, _, tw_c9, by decide, tb_1 118 (by decide +kernel) rfl⟩
theorem tf_X9_19 : tv_flF "TemperInHive$Tape" 19 9 2 4 false := ⟨_, _, tw_c9, by decide, tb_1 118 (by decide +kernel) rfl, rfl, fun h => by first | rfl | cases h⟩
theorem tl_X9_22 : tv_fl "TemperInHive$Tape" 22 9 3 4 := ⟨_, _, tw_c9, by decide, tb_1 119 (by decide +kernel) rfl⟩
theorem tf_X9_22 : tv_flF "TemperInHive$Tape" 22 9 3 4 false := ⟨_, _, tw_c9, by decide, tb_1 119 (by decide +kernel) rfl, rfl, fun h => by first | rfl | cases h⟩
theorem tl_X9_26 : tv_fl "TemperInHive$Tape" 26 1 3 4 := ⟨_, _, tw_c1, by decide, tb_1 139 (by decide +kernel) rfl⟩
theorem tf_X9_26 : tv_flF "TemperInHive$Tape" 26 1 3 4 false := ⟨_, _, tw_c1, by decide, tb_1 139 (by decide +kernel) rfl, rfl, fun h => by first | rfl | cases h⟩
theorem tl_X9_31 : Cond.methodLink "TemperInHive$Tape" 31 yX9_readLine ∈ tv_tb := tb_3 7 (by decide +kernel) rfl
theorem tl_X9_35 : Cond.methodLink "TemperInHive$Tape" 35 yX9_sign ∈ tv_tb := tb_3 19 (by decide +kernel) rfl
theorem tl_X9_39 : Cond.methodLink "TemperInHive$Tape" 39 yX9_readRank ∈ tv_tb := tb_3 11 (by decide +kernel) rfl
theorem tl_X9_43 : Cond.methodLink "TemperInHive$Tape" 43 yX1_add ∈ tv_tb := tb_3 33 (by decide +kernel) rfl
theorem tl_X9_47 : Cond.methodLink "TemperInHive$Tape" 47 yX1_landHere ∈ tv_tb := tb_3 44 (by decide +kernel) rfl
theorem tl_X9_51 : Cond.methodLink "TemperInHive$Tape" 51 yX9_readOperand ∈ tv_tb := tb_3 15 (by decide +kernel) rfl
theorem tl_X9_55 : Cond.methodLink "TemperInHive$Tape" 55 yX9_rankOf ∈ tv_tb := tb_3 41 (by decide +kernel) rfl
theorem tl_X9_59 : Cond.methodLink "TemperInHive$Tape" 59 yX9_nameOf ∈ tv_tb := tb_3 23 (by decide +kernel) rfl
theorem tl_X9_62 : Cond.methodLink "TemperInHive$Tape" 62 yX9_isDigit ∈ tv_tb := tb_3 26 (by decide +kernel) rfl
theorem tl_X9_66 : Cond.methodLink "TemperInHive$Tape" 66 yX9_readNumber ∈ tv_tb := tb_3 29 (by decide +kernel) rfl
theorem tl_X9_69 : Cond.methodLink "TemperInHive$Tape" 69 yX9_readClosing ∈ tv_tb := tb_3 37 (by decide +kernel) rfl
theorem tl_X10_3 : Cond.methodLink "TemperInHive$Ways" 3 objectInit ∈ tv_tb := tb_1 157 (by decide +kernel) rfl
theorem tl_X10_9 : tv_fl "TemperInHive$Ways" 9 10 0 3 := ⟨_, _, tw_c10, by decide, tb_1 158 (by decide +kernel) rfl⟩
theorem tf_X10_9 : tv_flF "TemperInHive$Ways" 9 10 0 3 true := ⟨_, _, tw_c10, by decide, tb_1 158 (by decide +kernel) rfl, rfl, fun h => by first | rfl | cases h⟩
theorem tl_X10_15 : tv_fl "TemperInHive$Ways" 15 10 1 3 := ⟨_, _, tw_c10, by decide, tb_1 159 (by decide +kernel) rfl⟩
theorem tf_X10_15 : tv_flF "TemperInHive$Ways" 15 10 1 3 true := ⟨_, _, tw_c10, by decide, tb_1 159 (by decide +kernel) rfl, rfl, fun h => by first | rfl | cases h⟩
theorem tl_X10_18 : tv_fl "TemperInHive$Ways" 18 10 2 3 := ⟨_, _, tw_c10, by decide, tb_1 160 (by decide +kernel) rfl⟩
theorem tf_X10_18 : tv_flF "TemperInHive$Ways" 18 10 2 3 true := ⟨_, _, tw_c10, by decide, tb_1 160 (by decide +kernel) rfl, rfl, fun h => by first | rfl | cases h⟩
theorem tl_X10_21 : tv_fl "TemperInHive$Ways" 21 3 1 13 := ⟨_, _, tw_c3, by decide, tb_1 46 (by decide +kernel) rfl⟩
theorem tf_X10_21 : tv_flF "TemperInHive$Ways" 21 3 1 13 false := ⟨_, _, tw_c3, by decide, tb_1 46 (by decide +kernel) rfl, rfl, fun h => by first | rfl | cases h⟩
theorem tl_X10_27 : tv_fl "TemperInHive$Ways" 27 3 5 13 := ⟨_, _, tw_c3, by decide, tb_1 61 (by decide +kernel) rfl⟩
-- TemperInHive$Ways 27: a final field of another class
theorem tl_X10_31 : Cond.methodLink "TemperInHive$Ways" 31 yX7_allIn ∈ tv_tb := tb_3 218 (by decide +kernel) rfl
theorem tl_X10_37 : Cond.methodLink "TemperInHive$Ways" 37 yX3_farOf ∈ tv_tb := tb_3 219 (by decide +kernel) rfl
theorem tl_X10_40 : tv_fl "TemperInHive$Ways" 40 3 4 13 := ⟨_, _, tw_c3, by decide, tb_1 58 (by decide +kernel) rfl⟩
-- TemperInHive$Ways 40: a final field of another class
theorem tl_X10_43 : Cond.methodLinkNest "TemperInHive$Ways" 43 yX11_apart "TemperInHive" ∈ tv_nb := tn_3 220 (by decide +kernel) rfl
theorem tl_X10_47 : Cond.methodLink "TemperInHive$Ways" 47 yX10_isSafe ∈ tv_tb := tb_3 225 (by decide +kernel) rfl
theorem tl_X10_51 : Cond.methodLink "TemperInHive$Ways" 51 yX10_spread ∈ tv_tb := tb_3 229 (by decide +kernel) rfl
theorem tl_X10_55 : Cond.methodLink "TemperInHive$Ways" 55 yX10_beside ∈ tv_tb := tb_3 233 (by decide +kernel) rfl
theorem tl_X10_58 : Cond.methodLink "TemperInHive$Ways" 58 yX10_steps ∈ tv_tb := tb_4 22 (by decide +kernel) rfl
theorem tl_X10_61 : Cond.methodLink "TemperInHive$Ways" 61 yX10_cellsWithin ∈ tv_tb := tb_4 23 (by decide +kernel) rfl
theorem tl_X10_64 : Cond.constant "TemperInHive$Ways" 64 (Int32.ofInt (1000000000)) ∈ tv_tb := tb_4 4 (by decide +kernel) rfl
theorem tl_X10_65 : Cond.methodLink "TemperInHive$Ways" 65 yX10_cheapestOpen ∈ tv_tb := tb_4 5 (by decide +kernel) rfl
theorem tl_X10_69 : Cond.methodLink "TemperInHive$Ways" 69 yX10_cheapen ∈ tv_tb := tb_4 9 (by decide +kernel) rfl
theorem tl_X10_73 : Cond.methodLink "TemperInHive$Ways" 73 yJ9_min_7cf53 ∈ tv_tb := tb_4 13 (by decide +kernel) rfl
theorem tl_X11_3 : Cond.methodLink "TemperInHive" 3 objectInit ∈ tv_tb := tb_1 21 (by decide +kernel) rfl
theorem tl_X11_9 : Cond.classLink "TemperInHive" 9 "TemperInHive$Land" ∈ tv_tb := tb_1 24 (by decide +kernel) rfl
theorem tl_X11_11 : Cond.methodLinkNest "TemperInHive" 11 yX3_init "TemperInHive" ∈ tv_nb := tn_1 26 (by decide +kernel) rfl
theorem tl_X11_12 : tv_fl "TemperInHive" 12 11 0 15 := ⟨_, _, tw_c11, by decide, tb_2 68 (by decide +kernel) rfl⟩
theorem tf_X11_12 : tv_flF "TemperInHive" 12 11 0 15 true := ⟨_, _, tw_c11, by decide, tb_2 68 (by decide +kernel) rfl, rfl, fun h => by first | rfl | cases h⟩
theorem tl_X11_16 : Cond.classLink "TemperInHive" 16 "TemperInHive$Tape" ∈ tv_tb := tb_1 109 (by decide +kernel) rfl
theorem tl_X11_18 : Cond.methodLinkNest "TemperInHive" 18 yX9_init "TemperInHive" ∈ tv_nb := tn_1 111 (by decide +kernel) rfl
theorem tl_X11_19 : tv_fl "TemperInHive" 19 11 1 15 := ⟨_, _, tw_c11, by decide, tb_2 69 (by decide +kernel) rfl⟩
theorem tf_X11_19 : tv_flF "TemperInHive" 19 11 1 15 true := ⟨_, _, tw_c11, by decide, tb_2 69 (by decide +kernel) rfl, rfl, fun h => by first | rfl | cases h⟩
theorem tl_X11_23 : Cond.classLink "TemperInHive" 23 "TemperInHive$Code" ∈ tv_tb := tb_1 129 (by decide +kernel) rfl
theorem tl_X11_25 : Cond.methodLinkNest "TemperInHive" 25 yX1_init "TemperInHive" ∈ tv_nb := tn_1 131 (by decide +kernel) rfl
theorem tl_X11_26 : tv_fl "TemperInHive" 26 11 2 15 := ⟨_, _, tw_c11, by decide, tb_2 70 (by decide +kernel) rfl⟩
theorem tf_X11_26 : tv_flF "TemperInHive" 26 11 2 15 false := ⟨_, _, tw_c11, by decide, tb_2 70 (by decide +kernel) rfl, rfl, fun h => by first | rfl | cases h⟩
theorem tl_X11_30 : tv_fl "TemperInHive" 30 11 3 15 := ⟨_, _, tw_c11, by decide, tb_2 71 (by decide +kernel) rfl⟩
theorem tf_X11_30 : tv_flF "TemperInHive" 30 11 3 15 false := ⟨_, _, tw_c11, by decide, tb_2 71 (by decide +kernel) rfl, rfl, fun h => by first | rfl | cases h⟩
theorem tl_X11_33 : tv_fl "TemperInHive" 33 11 4 15 := ⟨_, _, tw_c11, by decide, tb_2 72 (by decide +kernel) rfl⟩
theorem tf_X11_33 : tv_flF "TemperInHive" 33 11 4 15 true := ⟨_, _, tw_c11, by decide, tb_2 72 (by decide +kernel) rfl, rfl, fun h => by first | rfl | cases h⟩
theorem tl_X11_37 : Cond.classLink "TemperInHive" 37 "TemperInHive$Stock" ∈ tv_tb := tb_1 150 (by decide +kernel) rfl
theorem tl_X11_39 : Cond.methodLinkNest "TemperInHive" 39 yX7_init "TemperInHive" ∈ tv_nb := tn_1 151 (by decide +kernel) rfl
theorem tl_X11_40 : tv_fl "TemperInHive" 40 11 5 15 := ⟨_, _, tw_c11, by decide, tb_2 73 (by decide +kernel) rfl⟩
theorem tf_X11_40 : tv_flF "TemperInHive" 40 11 5 15 true := ⟨_, _, tw_c11, by decide, tb_2 73 (by decide +kernel) rfl, rfl, fun h => by first | rfl | cases h⟩
theorem tl_X11_44 : tv_fl "TemperInHive" 44 11 6 15 := ⟨_, _, tw_c11, by decide, tb_2 74 (by decide +kernel) rfl⟩
theorem tf_X11_44 : tv_flF "TemperInHive" 44 11 6 15 true := ⟨_, _, tw_c11, by decide, tb_2 74 (by decide +kernel) rfl, rfl, fun h => by first | rfl | cases h⟩
theorem tl_X11_47 : Cond.classLink "TemperInHive" 47 "TemperInHive$Ways" ∈ tv_tb := tb_1 152 (by decide +kernel) rfl
theorem tl_X11_49 : Cond.methodLinkNest "TemperInHive" 49 yX10_init "TemperInHive" ∈ tv_nb := tn_1 154 (by decide +kernel) rfl
theorem tl_X11_50 : tv_fl "TemperInHive" 50 11 7 15 := ⟨_, _, tw_c11, by decide, tb_2 75 (by decide +kernel) rfl⟩
theorem tf_X11_50 : tv_flF "TemperInHive" 50 11 7 15 true := ⟨_, _, tw_c11, by decide, tb_2 75 (by decide +kernel) rfl, rfl, fun h => by first | rfl | cases h⟩
theorem tl_X11_54 : Cond.classLink "TemperInHive" 54 "TemperInHive$Pairing" ∈ tv_tb := tb_1 168 (by decide +kernel) rfl
theorem tl_X11_56 : Cond.methodLinkNest "TemperInHive" 56 yX4_init "TemperInHive" ∈ tv_nb := tn_1 170 (by decide +kernel) rfl
theorem tl_X11_57 : tv_fl "TemperInHive" 57 11 8 15 := ⟨_, _, tw_c11, by decide, tb_2 76 (by decide +kernel) rfl⟩
theorem tf_X11_57 : tv_flF "TemperInHive" 57 11 8 15 true := ⟨_, _, tw_c11, by decide, tb_2 76 (by decide +kernel) rfl, rfl, fun h => by first | rfl | cases h⟩
theorem tl_X11_61 : Cond.classLink "TemperInHive" 61 "TemperInHive$Round" ∈ tv_tb := tb_1 179 (by decide +kernel) rfl
theorem tl_X11_63 : Cond.methodLinkNest "TemperInHive" 63 yX5_init "TemperInHive" ∈ tv_nb := tn_1 181 (by decide +kernel) rfl
theorem tl_X11_64 : tv_fl "TemperInHive" 64 11 9 15 := ⟨_, _, tw_c11, by decide, tb_2 77 (by decide +kernel) rfl⟩
theorem tf_X11_64 : tv_flF "TemperInHive" 64 11 9 15 true := ⟨_, _, tw_c11, by decide, tb_2 77 (by decide +kernel) rfl, rfl, fun h => by first | rfl | cases h⟩
theorem tl_X11_68 : Cond.classLink "TemperInHive" 68 "TemperInHive$Changes" ∈ tv_tb := tb_1 201 (by decide +kernel) rfl
theorem tl_X11_70 : Cond.methodLinkNest "TemperInHive" 70 yX0_init "TemperInHive" ∈ tv_nb := tn_1 203 (by decide +kernel) rfl
theorem tl_X11_71 : tv_fl "TemperInHive" 71 11 10 15 := ⟨_, _, tw_c11, by decide, tb_2 78 (by decide +kernel) rfl⟩
theorem tf_X11_71 : tv_flF "TemperInHive" 71 11 10 15 true := ⟨_, _, tw_c11, by decide, tb_2 78 (by decide +kernel) rfl, rfl, fun h => by first | rfl | cases h⟩
theorem tl_X11_75 : Cond.classLink "TemperInHive" 75 "TemperInHive$Image" ∈ tv_tb := tb_1 232 (by decide +kernel) rfl
theorem tl_X11_77 : Cond.methodLinkNest "TemperInHive" 77 yX2_init "TemperInHive" ∈ tv_nb := tn_1 234 (by decide +kernel) rfl
theorem tl_X11_78 : tv_fl "TemperInHive" 78 11 11 15 := ⟨_, _, tw_c11, by decide, tb_2 79 (by decide +kernel) rfl⟩
theorem tf_X11_78 : tv_flF "TemperInHive" 78 11 11 15 true := ⟨_, _, tw_c11, by decide, tb_2 79 (by decide +kernel) rfl, rfl, fun h => by first | rfl | cases h⟩
theorem tl_X11_82 : tv_fl "TemperInHive" 82 11 12 15 := ⟨_, _, tw_c11, by decide, tb_2 80 (by decide +kernel) rfl⟩
theorem tf_X11_82 : tv_flF "TemperInHive" 82 11 12 15 true := ⟨_, _, tw_c11, by decide, tb_2 80 (by decide +kernel) rfl, rfl, fun h => by first | rfl | cases h⟩
theorem tl_X11_85 : Cond.classLink "TemperInHive" 85 "TemperInHive$Swarms" ∈ tv_tb := tb_2 17 (by decide +kernel) rfl
theorem tl_X11_87 : Cond.methodLinkNest "TemperInHive" 87 yX8_init "TemperInHive" ∈ tv_nb := tn_2 19 (by decide +kernel) rfl
theorem tl_X11_88 : tv_fl "TemperInHive" 88 11 13 15 := ⟨_, _, tw_c11, by decide, tb_2 81 (by decide +kernel) rfl⟩
theorem tf_X11_88 : tv_flF "TemperInHive" 88 11 13 15 true := ⟨_, _, tw_c11, by decide, tb_2 81 (by decide +kernel) rfl, rfl, fun h => by first | rfl | cases h⟩
theorem tl_X11_92 : Cond.classLink "TemperInHive" 92 "TemperInHive$Shelf" ∈ tv_tb := tb_2 43 (by decide +kernel) rfl
theorem tl_X11_94 : tv_fl "TemperInHive" 94 11 14 15 := ⟨_, _, tw_c11, by decide, tb_2 82 (by decide +kernel) rfl⟩
theorem tf_X11_94 : tv_flF "TemperInHive" 94 11 14 15 true := ⟨_, _, tw_c11, by decide, tb_2 82 (by decide +kernel) rfl, rfl, fun h => by first | rfl | cases h⟩
theorem tl_X11_98 : Cond.methodLinkNest "TemperInHive" 98 yX6_init "TemperInHive" ∈ tv_nb := tn_2 46 (by decide +kernel) rfl
theorem tl_X11_99 : Cond.methodLink "TemperInHive" 99 yX11_isTemper ∈ tv_tb := tb_2 118 (by decide +kernel) rfl
theorem tl_X11_103 : tv_fl "TemperInHive" 103 3 0 13 := ⟨_, _, tw_c3, by decide, tb_1 43 (by decide +kernel) rfl⟩
theorem tf_X11_103 : tv_flF "TemperInHive" 103 3 0 13 false := ⟨_, _, tw_c3, by decide, tb_1 43 (by decide +kernel) rfl, rfl, fun h => by first | rfl | cases h⟩
theorem tl_X11_107 : Cond.methodLink "TemperInHive" 107 yX3_addPerson ∈ tv_tb := tb_2 121 (by decide +kernel) rfl
theorem tl_X11_111 : Cond.methodLink "TemperInHive" 111 yX11_isCell ∈ tv_tb := tb_2 129 (by decide +kernel) rfl
theorem tl_X11_114 : tv_fl "TemperInHive" 114 3 1 13 := ⟨_, _, tw_c3, by decide, tb_1 47 (by decide +kernel) rfl⟩
theorem tf_X11_114 : tv_flF "TemperInHive" 114 3 1 13 false := ⟨_, _, tw_c3, by decide, tb_1 47 (by decide +kernel) rfl, rfl, fun h => by first | rfl | cases h⟩
theorem tl_X11_117 : Cond.methodLink "TemperInHive" 117 yX3_addHive ∈ tv_tb := tb_2 132 (by decide +kernel) rfl
theorem tl_X11_120 : Cond.methodLink "TemperInHive" 120 yX11_isDeedAsItMayBe ∈ tv_tb := tb_2 140 (by decide +kernel) rfl
theorem tl_X11_124 : tv_fl "TemperInHive" 124 3 2 13 := ⟨_, _, tw_c3, by decide, tb_1 51 (by decide +kernel) rfl⟩
theorem tf_X11_124 : tv_flF "TemperInHive" 124 3 2 13 false := ⟨_, _, tw_c3, by decide, tb_1 51 (by decide +kernel) rfl, rfl, fun h => by first | rfl | cases h⟩
theorem tl_X11_127 : Cond.methodLink "TemperInHive" 127 yX3_addDeed ∈ tv_tb := tb_2 143 (by decide +kernel) rfl
theorem tl_X11_131 : Cond.methodLink "TemperInHive" 131 yX11_isShelf ∈ tv_tb := tb_2 151 (by decide +kernel) rfl
theorem tl_X11_134 : tv_fl "TemperInHive" 134 6 0 4 := ⟨_, _, tw_c6, by decide, tb_2 51 (by decide +kernel) rfl⟩
theorem tf_X11_134 : tv_flF "TemperInHive" 134 6 0 4 false := ⟨_, _, tw_c6, by decide, tb_2 51 (by decide +kernel) rfl, rfl, fun h => by first | rfl | cases h⟩
theorem tl_X11_137 : Cond.methodLink "TemperInHive" 137 yX11_addDeedFrom ∈ tv_tb := tb_2 154 (by decide +kernel) rfl
theorem tl_X11_141 : Cond.methodLink "TemperInHive" 141 yX6_at ∈ tv_tb := tb_2 158 (by decide +kernel) rfl
theorem tl_X11_144 : Cond.methodLink "TemperInHive" 144 yX3_numberOf ∈ tv_tb := tb_2 171 (by decide +kernel) rfl
theorem tl_X11_148 : Cond.methodLink "TemperInHive" 148 yX3_fits ∈ tv_tb := tb_2 199 (by decide +kernel) rfl
theorem tl_X11_151 : Cond.methodLink "TemperInHive" 151 yX0_note ∈ tv_tb := tb_2 204 (by decide +kernel) rfl
theorem tl_X11_155 : Cond.methodLink "TemperInHive" 155 yX3_change ∈ tv_tb := tb_2 215 (by decide +kernel) rfl
theorem tl_X11_159 : tv_fl "TemperInHive" 159 9 1 4 := ⟨_, _, tw_c9, by decide, tb_1 117 (by decide +kernel) rfl⟩
theorem tf_X11_159 : tv_flF "TemperInHive" 159 9 1 4 false := ⟨_, _, tw_c9, by decide, tb_1 117 (by decide +kernel) rfl, rfl, fun h => by first | rfl | cases h⟩
theorem tl_X11_162 : Cond.methodLink "TemperInHive" 162 yX9_add ∈ tv_tb := tb_2 235 (by decide +kernel) rfl
theorem tl_X11_165 : Cond.methodLink "TemperInHive" 165 yX9_readInto ∈ tv_tb := tb_3 3 (by decide +kernel) rfl
theorem tl_X11_169 : Cond.methodLink "TemperInHive" 169 yX3_isHive ∈ tv_tb := tb_3 52 (by decide +kernel) rfl
theorem tl_X11_172 : Cond.methodLink "TemperInHive" 172 yX3_isPerson ∈ tv_tb := tb_3 53 (by decide +kernel) rfl
theorem tl_X11_175 : tv_fl "TemperInHive" 175 3 5 13 := ⟨_, _, tw_c3, by decide, tb_1 64 (by decide +kernel) rfl⟩
-- TemperInHive 175: a final field of another class
theorem tl_X11_178 : Cond.methodLink "TemperInHive" 178 yX7_copyFrom ∈ tv_tb := tb_3 54 (by decide +kernel) rfl
theorem tl_X11_182 : Cond.methodLink "TemperInHive" 182 yX11_passDay ∈ tv_tb := tb_3 59 (by decide +kernel) rfl
theorem tl_X11_186 : Cond.methodLink "TemperInHive" 186 yX7_allIn ∈ tv_tb := tb_3 63 (by decide +kernel) rfl
theorem tl_X11_189 : Cond.methodLink "TemperInHive" 189 yX11_farOrNot ∈ tv_tb := tb_3 95 (by decide +kernel) rfl
theorem tl_X11_192 : Cond.methodLink "TemperInHive" 192 yX7_share ∈ tv_tb := tb_3 72 (by decide +kernel) rfl
theorem tl_X11_195 : tv_fl "TemperInHive" 195 3 9 13 := ⟨_, _, tw_c3, by decide, tb_1 76 (by decide +kernel) rfl⟩
theorem tf_X11_195 : tv_flF "TemperInHive" 195 3 9 13 false := ⟨_, _, tw_c3, by decide, tb_1 76 (by decide +kernel) rfl, rfl, fun h => by first | rfl | cases h⟩
theorem tl_X11_198 : Cond.methodLink "TemperInHive" 198 yX7_holders ∈ tv_tb := tb_3 68 (by decide +kernel) rfl
theorem tl_X11_201 : Cond.methodLink "TemperInHive" 201 yX11_shareNextDay ∈ tv_tb := tb_3 73 (by decide +kernel) rfl
theorem tl_X11_204 : Cond.methodLink "TemperInHive" 204 yX7_lay ∈ tv_tb := tb_3 94 (by decide +kernel) rfl
theorem tl_X11_207 : tv_fl "TemperInHive" 207 1 3 4 := ⟨_, _, tw_c1, by decide, tb_1 140 (by decide +kernel) rfl⟩
theorem tf_X11_207 : tv_flF "TemperInHive" 207 1 3 4 false := ⟨_, _, tw_c1, by decide, tb_1 140 (by decide +kernel) rfl, rfl, fun h => by first | rfl | cases h⟩
theorem tl_X11_210 : Cond.methodLink "TemperInHive" 210 yX1_workOut ∈ tv_tb := tb_3 77 (by decide +kernel) rfl
theorem tl_X11_214 : Cond.methodLink "TemperInHive" 214 yJ9_min_7cf53 ∈ tv_tb := tb_3 90 (by decide +kernel) rfl
theorem tl_X11_219 : Cond.methodLink "TemperInHive" 219 yJ9_max_7cf53 ∈ tv_tb := tb_3 93 (by decide +kernel) rfl
theorem tl_X11_222 : Cond.methodLink "TemperInHive" 222 yX3_farOf ∈ tv_tb := tb_3 99 (by decide +kernel) rfl
theorem tl_X11_225 : tv_fl "TemperInHive" 225 3 3 13 := ⟨_, _, tw_c3, by decide, tb_1 56 (by decide +kernel) rfl⟩
-- TemperInHive 225: a final field of another class
theorem tl_X11_228 : Cond.methodLink "TemperInHive" 228 yX3_leastOn ∈ tv_tb := tb_3 111 (by decide +kernel) rfl
theorem tl_X11_231 : Cond.methodLink "TemperInHive" 231 yX3_mostOn ∈ tv_tb := tb_3 116 (by decide +kernel) rfl
theorem tl_X11_234 : tv_fl "TemperInHive" 234 3 6 13 := ⟨_, _, tw_c3, by decide, tb_1 67 (by decide +kernel) rfl⟩
-- TemperInHive 234: a final field of another class
theorem tl_X11_237 : tv_fl "TemperInHive" 237 3 7 13 := ⟨_, _, tw_c3, by decide, tb_1 70 (by decide +kernel) rfl⟩
-- TemperInHive 237: a final field of another class
theorem tl_X11_240 : Cond.methodLink "TemperInHive" 240 yX11_refusal ∈ tv_tb := tb_3 125 (by decide +kernel) rfl
theorem tl_X11_244 : Cond.methodLink "TemperInHive" 244 yX5_plan ∈ tv_tb := tb_3 128 (by decide +kernel) rfl
theorem tl_X11_248 : tv_fl "TemperInHive" 248 5 3 4 := ⟨_, _, tw_c5, by decide, tb_1 191 (by decide +kernel) rfl⟩
theorem tf_X11_248 : tv_flF "TemperInHive" 248 5 3 4 false := ⟨_, _, tw_c5, by decide, tb_1 191 (by decide +kernel) rfl, rfl, fun h => by first | rfl | cases h⟩
theorem tl_X11_251 : tv_fl "TemperInHive" 251 5 2 4 := ⟨_, _, tw_c5, by decide, tb_1 189 (by decide +kernel) rfl⟩
theorem tf_X11_251 : tv_flF "TemperInHive" 251 5 2 4 false := ⟨_, _, tw_c5, by decide, tb_1 189 (by decide +kernel) rfl, rfl, fun h => by first | rfl | cases h⟩
theorem tl_X11_252 : tv_fl "TemperInHive" 252 5 1 4 := ⟨_, _, tw_c5, by decide, tb_1 187 (by decide +kernel) rfl⟩
-- TemperInHive 252: a final field of another class
theorem tl_X11_253 : Cond.methodLink "TemperInHive" 253 yX5_worthWithoutGoing ∈ tv_tb := tb_3 160 (by decide +kernel) rfl
theorem tl_X11_257 : Cond.methodLink "TemperInHive" 257 yX3_isDeed ∈ tv_tb := tb_3 168 (by decide +kernel) rfl
theorem tl_X11_260 : Cond.methodLink "TemperInHive" 260 yX4_reckon ∈ tv_tb := tb_3 169 (by decide +kernel) rfl
theorem tl_X11_264 : tv_fl "TemperInHive" 264 4 0 1 := ⟨_, _, tw_c4, by decide, tb_1 175 (by decide +kernel) rfl⟩
-- TemperInHive 264: a final field of another class
theorem tl_X11_267 : Cond.methodLink "TemperInHive" 267 yX4_doerOf ∈ tv_tb := tb_3 186 (by decide +kernel) rfl
theorem tl_X11_271 : Cond.methodLink "TemperInHive" 271 yX3_stingersAt ∈ tv_tb := tb_3 198 (by decide +kernel) rfl
theorem tl_X11_274 : Cond.methodLink "TemperInHive" 274 yX10_look ∈ tv_tb := tb_3 214 (by decide +kernel) rfl
theorem tl_X11_277 : Cond.methodLink "TemperInHive" 277 yX10_steps ∈ tv_tb := tb_3 221 (by decide +kernel) rfl
theorem tl_X11_281 : Cond.methodLink "TemperInHive" 281 yX10_leastPrice ∈ tv_tb := tb_4 0 (by decide +kernel) rfl
theorem tl_X11_284 : Cond.methodLink "TemperInHive" 284 yX10_bestCell ∈ tv_tb := tb_4 18 (by decide +kernel) rfl
theorem tl_X11_287 : Cond.methodLink "TemperInHive" 287 yX10_cellsWithin ∈ tv_tb := tb_4 26 (by decide +kernel) rfl
theorem tl_X11_290 : tv_fl "TemperInHive" 290 3 4 13 := ⟨_, _, tw_c3, by decide, tb_1 59 (by decide +kernel) rfl⟩
-- TemperInHive 290: a final field of another class
theorem tl_X11_293 : Cond.methodLink "TemperInHive" 293 yX11_farthestStung ∈ tv_tb := tb_4 31 (by decide +kernel) rfl
theorem tl_X11_296 : Cond.methodLink "TemperInHive" 296 yX11_nearestSafe ∈ tv_tb := tb_4 38 (by decide +kernel) rfl
theorem tl_X11_299 : Cond.methodLink "TemperInHive" 299 yX11_makesAllSo ∈ tv_tb := tb_4 41 (by decide +kernel) rfl
theorem tl_X11_302 : Cond.methodLink "TemperInHive" 302 yX11_amountsThatSting ∈ tv_tb := tb_4 49 (by decide +kernel) rfl
theorem tl_X11_305 : Cond.methodLink "TemperInHive" 305 yX11_isTry ∈ tv_tb := tb_4 34 (by decide +kernel) rfl
theorem tl_X11_308 : Cond.methodLink "TemperInHive" 308 yX11_apart ∈ tv_tb := tb_4 37 (by decide +kernel) rfl
theorem tl_X11_311 : Cond.methodLink "TemperInHive" 311 yX11_costOfHaving ∈ tv_tb := tb_4 57 (by decide +kernel) rfl
theorem tl_X11_314 : tv_fl "TemperInHive" 314 3 11 13 := ⟨_, _, tw_c3, by decide, tb_1 79 (by decide +kernel) rfl⟩
theorem tf_X11_314 : tv_flF "TemperInHive" 314 3 11 13 false := ⟨_, _, tw_c3, by decide, tb_1 79 (by decide +kernel) rfl, rfl, fun h => by first | rfl | cases h⟩
theorem tl_X11_317 : tv_fl "TemperInHive" 317 3 12 13 := ⟨_, _, tw_c3, by decide, tb_1 81 (by decide +kernel) rfl⟩
theorem tf_X11_317 : tv_flF "TemperInHive" 317 3 12 13 false := ⟨_, _, tw_c3, by decide, tb_1 81 (by decide +kernel) rfl, rfl, fun h => by first | rfl | cases h⟩
theorem tl_X11_320 : tv_fl "TemperInHive" 320 6 2 4 := ⟨_, _, tw_c6, by decide, tb_2 55 (by decide +kernel) rfl⟩
theorem tf_X11_320 : tv_flF "TemperInHive" 320 6 2 4 false := ⟨_, _, tw_c6, by decide, tb_2 55 (by decide +kernel) rfl, rfl, fun h => by first | rfl | cases h⟩
theorem tl_X11_321 : Cond.methodLink "TemperInHive" 321 yX7_allInAll ∈ tv_tb := tb_4 73 (by decide +kernel) rfl
theorem tl_X11_325 : Cond.methodLink "TemperInHive" 325 yX11_foreseeMonth ∈ tv_tb := tb_4 82 (by decide +kernel) rfl
theorem tl_X11_329 : Cond.constant "TemperInHive" 329 (Int32.ofInt (1103515245)) ∈ tv_tb := tb_4 86 (by decide +kernel) rfl
theorem tl_X11_330 : Cond.methodLink "TemperInHive" 330 yX11_stingsOn ∈ tv_tb := tb_4 87 (by decide +kernel) rfl
theorem tl_X11_333 : Cond.methodLink "TemperInHive" 333 yX3_isShare ∈ tv_tb := tb_4 95 (by decide +kernel) rfl
theorem tl_X11_336 : Cond.methodLink "TemperInHive" 336 yX3_mayDo ∈ tv_tb := tb_4 108 (by decide +kernel) rfl
theorem tl_X11_340 : tv_fl "TemperInHive" 340 3 8 13 := ⟨_, _, tw_c3, by decide, tb_1 74 (by decide +kernel) rfl⟩
-- TemperInHive 340: a final field of another class
theorem tl_X11_343 : Cond.methodLink "TemperInHive" 343 yX2_take ∈ tv_tb := tb_4 121 (by decide +kernel) rfl
theorem tl_X11_347 : tv_fl "TemperInHive" 347 2 0 5 := ⟨_, _, tw_c2, by decide, tb_2 1 (by decide +kernel) rfl⟩
theorem tf_X11_347 : tv_flF "TemperInHive" 347 2 0 5 false := ⟨_, _, tw_c2, by decide, tb_2 1 (by decide +kernel) rfl, rfl, fun h => by first | rfl | cases h⟩
theorem tl_X11_351 : Cond.methodLink "TemperInHive" 351 yX2_layBack ∈ tv_tb := tb_4 131 (by decide +kernel) rfl
theorem tl_X11_354 : tv_fl "TemperInHive" 354 0 5 6 := ⟨_, _, tw_c0, by decide, tb_1 218 (by decide +kernel) rfl⟩
theorem tf_X11_354 : tv_flF "TemperInHive" 354 0 5 6 false := ⟨_, _, tw_c0, by decide, tb_1 218 (by decide +kernel) rfl, rfl, fun h => by first | rfl | cases h⟩
theorem tl_X11_357 : tv_fl "TemperInHive" 357 0 0 6 := ⟨_, _, tw_c0, by decide, tb_1 208 (by decide +kernel) rfl⟩
-- TemperInHive 357: a final field of another class
theorem tl_X11_360 : tv_fl "TemperInHive" 360 0 1 6 := ⟨_, _, tw_c0, by decide, tb_1 210 (by decide +kernel) rfl⟩
-- TemperInHive 360: a final field of another class
theorem tl_X11_363 : tv_fl "TemperInHive" 363 0 2 6 := ⟨_, _, tw_c0, by decide, tb_1 212 (by decide +kernel) rfl⟩
-- TemperInHive 363: a final field of another class
theorem tl_X11_366 : tv_fl "TemperInHive" 366 0 4 6 := ⟨_, _, tw_c0, by decide, tb_1 216 (by decide +kernel) rfl⟩
theorem tf_X11_366 : tv_flF "TemperInHive" 366 0 4 6 false := ⟨_, _, tw_c0, by decide, tb_1 216 (by decide +kernel) rfl, rfl, fun h => by first | rfl | cases h⟩
theorem tl_X11_367 : tv_fl "TemperInHive" 367 0 3 6 := ⟨_, _, tw_c0, by decide, tb_1 214 (by decide +kernel) rfl⟩
-- TemperInHive 367: a final field of another class
theorem tl_X11_370 : Cond.methodLink "TemperInHive" 370 yX11_isKind ∈ tv_tb := tb_4 147 (by decide +kernel) rfl
theorem tl_X11_373 : tv_fl "TemperInHive" 373 8 1 5 := ⟨_, _, tw_c8, by decide, tb_2 26 (by decide +kernel) rfl⟩
theorem tf_X11_373 : tv_flF "TemperInHive" 373 8 1 5 false := ⟨_, _, tw_c8, by decide, tb_2 26 (by decide +kernel) rfl, rfl, fun h => by first | rfl | cases h⟩
theorem tl_X11_374 : Cond.methodLink "TemperInHive" 374 yX8_add ∈ tv_tb := tb_4 150 (by decide +kernel) rfl
theorem tl_X11_375 : tv_fl "TemperInHive" 375 8 3 5 := ⟨_, _, tw_c8, by decide, tb_2 30 (by decide +kernel) rfl⟩
theorem tf_X11_375 : tv_flF "TemperInHive" 375 8 3 5 false := ⟨_, _, tw_c8, by decide, tb_2 30 (by decide +kernel) rfl, rfl, fun h => by first | rfl | cases h⟩
theorem tl_X11_378 : Cond.methodLink "TemperInHive" 378 yX8_isBody ∈ tv_tb := tb_4 158 (by decide +kernel) rfl
theorem tl_X11_381 : Cond.methodLink "TemperInHive" 381 yX8_begin ∈ tv_tb := tb_4 162 (by decide +kernel) rfl
theorem tl_X11_384 : tv_fl "TemperInHive" 384 8 2 5 := ⟨_, _, tw_c8, by decide, tb_2 28 (by decide +kernel) rfl⟩
-- TemperInHive 384: a final field of another class
theorem tl_X11_387 : tv_fl "TemperInHive" 387 6 1 4 := ⟨_, _, tw_c6, by decide, tb_2 53 (by decide +kernel) rfl⟩
theorem tf_X11_387 : tv_flF "TemperInHive" 387 6 1 4 false := ⟨_, _, tw_c6, by decide, tb_2 53 (by decide +kernel) rfl, rfl, fun h => by first | rfl | cases h⟩
theorem tl_X11_390 : Cond.methodLink "TemperInHive" 390 yX6_clear ∈ tv_tb := tb_4 199 (by decide +kernel) rfl
theorem tl_X11_394 : Cond.methodLink "TemperInHive" 394 yX11_rowRefusal ∈ tv_tb := tb_4 207 (by decide +kernel) rfl
theorem tl_X11_398 : Cond.methodLink "TemperInHive" 398 yX6_has ∈ tv_tb := tb_4 210 (by decide +kernel) rfl
theorem tl_X11_401 : tv_fl "TemperInHive" 401 6 3 4 := ⟨_, _, tw_c6, by decide, tb_2 57 (by decide +kernel) rfl⟩
-- TemperInHive 401: a final field of another class
theorem tl_X11_405 : Cond.methodLink "TemperInHive" 405 yX11_lowestBits ∈ tv_tb := tb_4 211 (by decide +kernel) rfl
theorem tl_X11_409 : Cond.constantLong "TemperInHive" 409 (Int64.ofInt (-9223372036854775808)) ∈ tv_tb := tb_4 218 (by decide +kernel) rfl
theorem tl_X11_411 : Cond.methodLink "TemperInHive" 411 arraycopyName ∈ tv_tb := tb_4 223 (by decide +kernel) rfl
theorem tl_X11_417 : tv_fl "TemperInHive" 417 8 0 5 := ⟨_, _, tw_c8, by decide, tb_2 24 (by decide +kernel) rfl⟩
-- TemperInHive 417: a final field of another class
theorem tl_X11_420 : Cond.methodLink "TemperInHive" 420 yX11_isUnder ∈ tv_tb := tb_4 228 (by decide +kernel) rfl
theorem tl_X11_423 : Cond.fieldLink "TemperInHive" 423 "TemperInHive" "KIND_ABOVE" "[I" ∈ tv_tb := tb_4 231 (by decide +kernel) rfl
theorem tl_X11_426 : Cond.methodLink "TemperInHive" 426 yJ9_abs_0f7a4 ∈ tv_tb := tb_3 205 (by decide +kernel) rfl
theorem tl_X12_1 : Cond.methodLink "TemperInHiveModel" 1 objectInit ∈ tv_tb := tb_5 1 (by decide +kernel) rfl
theorem tl_X12_7 : tv_fl "TemperInHiveModel" 7 12 2 58 := ⟨_, _, tw_c12, by decide, tb_5 3 (by decide +kernel) rfl⟩
theorem tf_X12_7 : tv_flF "TemperInHiveModel" 7 12 2 58 true := ⟨_, _, tw_c12, by decide, tb_5 3 (by decide +kernel) rfl, rfl, fun h => by first | rfl | cases h⟩
theorem tl_X12_13 : tv_fl "TemperInHiveModel" 13 12 4 58 := ⟨_, _, tw_c12, by decide, tb_5 5 (by decide +kernel) rfl⟩
theorem tf_X12_13 : tv_flF "TemperInHiveModel" 13 12 4 58 true := ⟨_, _, tw_c12, by decide, tb_5 5 (by decide +kernel) rfl, rfl, fun h => by first | rfl | cases h⟩
theorem tl_X12_16 : tv_fl "TemperInHiveModel" 16 12 5 58 := ⟨_, _, tw_c12, by decide, tb_5 6 (by decide +kernel) rfl⟩
theorem tf_X12_16 : tv_flF "TemperInHiveModel" 16 12 5 58 true := ⟨_, _, tw_c12, by decide, tb_5 6 (by decide +kernel) rfl, rfl, fun h => by first | rfl | cases h⟩
theorem tl_X12_19 : tv_fl "TemperInHiveModel" 19 12 7 58 := ⟨_, _, tw_c12, by decide, tb_5 8 (by decide +kernel) rfl⟩
theorem tf_X12_19 : tv_flF "TemperInHiveModel" 19 12 7 58 true := ⟨_, _, tw_c12, by decide, tb_5 8 (by decide +kernel) rfl, rfl, fun h => by first | rfl | cases h⟩
theorem tl_X12_22 : tv_fl "TemperInHiveModel" 22 12 8 58 := ⟨_, _, tw_c12, by decide, tb_5 9 (by decide +kernel) rfl⟩
theorem tf_X12_22 : tv_flF "TemperInHiveModel" 22 12 8 58 true := ⟨_, _, tw_c12, by decide, tb_5 9 (by decide +kernel) rfl, rfl, fun h => by first | rfl | cases h⟩
theorem tl_X12_25 : tv_fl "TemperInHiveModel" 25 12 9 58 := ⟨_, _, tw_c12, by decide, tb_5 10 (by decide +kernel) rfl⟩
theorem tf_X12_25 : tv_flF "TemperInHiveModel" 25 12 9 58 true := ⟨_, _, tw_c12, by decide, tb_5 10 (by decide +kernel) rfl, rfl, fun h => by first | rfl | cases h⟩
theorem tl_X12_28 : tv_fl "TemperInHiveModel" 28 12 10 58 := ⟨_, _, tw_c12, by decide, tb_5 11 (by decide +kernel) rfl⟩
theorem tf_X12_28 : tv_flF "TemperInHiveModel" 28 12 10 58 true := ⟨_, _, tw_c12, by decide, tb_5 11 (by decide +kernel) rfl, rfl, fun h => by first | rfl | cases h⟩
theorem tl_X12_31 : tv_fl "TemperInHiveModel" 31 12 13 58 := ⟨_, _, tw_c12, by decide, tb_5 14 (by decide +kernel) rfl⟩
theorem tf_X12_31 : tv_flF "TemperInHiveModel" 31 12 13 58 true := ⟨_, _, tw_c12, by decide, tb_5 14 (by decide +kernel) rfl, rfl, fun h => by first | rfl | cases h⟩
theorem tl_X12_34 : tv_fl "TemperInHiveModel" 34 12 14 58 := ⟨_, _, tw_c12, by decide, tb_5 15 (by decide +kernel) rfl⟩
theorem tf_X12_34 : tv_flF "TemperInHiveModel" 34 12 14 58 true := ⟨_, _, tw_c12, by decide, tb_5 15 (by decide +kernel) rfl, rfl, fun h => by first | rfl | cases h⟩
theorem tl_X12_37 : tv_fl "TemperInHiveModel" 37 12 15 58 := ⟨_, _, tw_c12, by decide, tb_5 16 (by decide +kernel) rfl⟩
theorem tf_X12_37 : tv_flF "TemperInHiveModel" 37 12 15 58 true := ⟨_, _, tw_c12, by decide, tb_5 16 (by decide +kernel) rfl, rfl, fun h => by first | rfl | cases h⟩
theorem tl_X12_40 : tv_fl "TemperInHiveModel" 40 12 16 58 := ⟨_, _, tw_c12, by decide, tb_5 17 (by decide +kernel) rfl⟩
theorem tf_X12_40 : tv_flF "TemperInHiveModel" 40 12 16 58 true := ⟨_, _, tw_c12, by decide, tb_5 17 (by decide +kernel) rfl, rfl, fun h => by first | rfl | cases h⟩
theorem tl_X12_43 : tv_fl "TemperInHiveModel" 43 12 17 58 := ⟨_, _, tw_c12, by decide, tb_5 18 (by decide +kernel) rfl⟩
theorem tf_X12_43 : tv_flF "TemperInHiveModel" 43 12 17 58 true := ⟨_, _, tw_c12, by decide, tb_5 18 (by decide +kernel) rfl, rfl, fun h => by first | rfl | cases h⟩
theorem tl_X12_47 : tv_fl "TemperInHiveModel" 47 12 23 58 := ⟨_, _, tw_c12, by decide, tb_5 24 (by decide +kernel) rfl⟩
theorem tf_X12_47 : tv_flF "TemperInHiveModel" 47 12 23 58 true := ⟨_, _, tw_c12, by decide, tb_5 24 (by decide +kernel) rfl, rfl, fun h => by first | rfl | cases h⟩
theorem tl_X12_50 : tv_fl "TemperInHiveModel" 50 12 24 58 := ⟨_, _, tw_c12, by decide, tb_5 25 (by decide +kernel) rfl⟩
theorem tf_X12_50 : tv_flF "TemperInHiveModel" 50 12 24 58 true := ⟨_, _, tw_c12, by decide, tb_5 25 (by decide +kernel) rfl, rfl, fun h => by first | rfl | cases h⟩
theorem tl_X12_53 : tv_fl "TemperInHiveModel" 53 12 25 58 := ⟨_, _, tw_c12, by decide, tb_5 26 (by decide +kernel) rfl⟩
theorem tf_X12_53 : tv_flF "TemperInHiveModel" 53 12 25 58 true := ⟨_, _, tw_c12, by decide, tb_5 26 (by decide +kernel) rfl, rfl, fun h => by first | rfl | cases h⟩
theorem tl_X12_56 : tv_fl "TemperInHiveModel" 56 12 26 58 := ⟨_, _, tw_c12, by decide, tb_5 27 (by decide +kernel) rfl⟩
theorem tf_X12_56 : tv_flF "TemperInHiveModel" 56 12 26 58 true := ⟨_, _, tw_c12, by decide, tb_5 27 (by decide +kernel) rfl, rfl, fun h => by first | rfl | cases h⟩
theorem tl_X12_60 : tv_fl "TemperInHiveModel" 60 12 27 58 := ⟨_, _, tw_c12, by decide, tb_5 28 (by decide +kernel) rfl⟩
theorem tf_X12_60 : tv_flF "TemperInHiveModel" 60 12 27 58 true := ⟨_, _, tw_c12, by decide, tb_5 28 (by decide +kernel) rfl, rfl, fun h => by first | rfl | cases h⟩
theorem tl_X12_63 : tv_fl "TemperInHiveModel" 63 12 28 58 := ⟨_, _, tw_c12, by decide, tb_5 29 (by decide +kernel) rfl⟩
theorem tf_X12_63 : tv_flF "TemperInHiveModel" 63 12 28 58 true := ⟨_, _, tw_c12, by decide, tb_5 29 (by decide +kernel) rfl, rfl, fun h => by first | rfl | cases h⟩
theorem tl_X12_66 : tv_fl "TemperInHiveModel" 66 12 29 58 := ⟨_, _, tw_c12, by decide, tb_5 30 (by decide +kernel) rfl⟩
theorem tf_X12_66 : tv_flF "TemperInHiveModel" 66 12 29 58 true := ⟨_, _, tw_c12, by decide, tb_5 30 (by decide +kernel) rfl, rfl, fun h => by first | rfl | cases h⟩
theorem tl_X12_69 : tv_fl "TemperInHiveModel" 69 12 31 58 := ⟨_, _, tw_c12, by decide, tb_5 32 (by decide +kernel) rfl⟩
theorem tf_X12_69 : tv_flF "TemperInHiveModel" 69 12 31 58 true := ⟨_, _, tw_c12, by decide, tb_5 32 (by decide +kernel) rfl, rfl, fun h => by first | rfl | cases h⟩
theorem tl_X12_72 : tv_fl "TemperInHiveModel" 72 12 32 58 := ⟨_, _, tw_c12, by decide, tb_5 33 (by decide +kernel) rfl⟩
theorem tf_X12_72 : tv_flF "TemperInHiveModel" 72 12 32 58 true := ⟨_, _, tw_c12, by decide, tb_5 33 (by decide +kernel) rfl, rfl, fun h => by first | rfl | cases h⟩
theorem tl_X12_75 : tv_fl "TemperInHiveModel" 75 12 33 58 := ⟨_, _, tw_c12, by decide, tb_5 34 (by decide +kernel) rfl⟩
theorem tf_X12_75 : tv_flF "TemperInHiveModel" 75 12 33 58 true := ⟨_, _, tw_c12, by decide, tb_5 34 (by decide +kernel) rfl, rfl, fun h => by first | rfl | cases h⟩
theorem tl_X12_78 : tv_fl "TemperInHiveModel" 78 12 34 58 := ⟨_, _, tw_c12, by decide, tb_5 35 (by decide +kernel) rfl⟩
theorem tf_X12_78 : tv_flF "TemperInHiveModel" 78 12 34 58 true := ⟨_, _, tw_c12, by decide, tb_5 35 (by decide +kernel) rfl, rfl, fun h => by first | rfl | cases h⟩
theorem tl_X12_81 : tv_fl "TemperInHiveModel" 81 12 37 58 := ⟨_, _, tw_c12, by decide, tb_5 38 (by decide +kernel) rfl⟩
theorem tf_X12_81 : tv_flF "TemperInHiveModel" 81 12 37 58 true := ⟨_, _, tw_c12, by decide, tb_5 38 (by decide +kernel) rfl, rfl, fun h => by first | rfl | cases h⟩
theorem tl_X12_84 : tv_fl "TemperInHiveModel" 84 12 38 58 := ⟨_, _, tw_c12, by decide, tb_5 39 (by decide +kernel) rfl⟩
theorem tf_X12_84 : tv_flF "TemperInHiveModel" 84 12 38 58 true := ⟨_, _, tw_c12, by decide, tb_5 39 (by decide +kernel) rfl, rfl, fun h => by first | rfl | cases h⟩
theorem tl_X12_87 : tv_fl "TemperInHiveModel" 87 12 39 58 := ⟨_, _, tw_c12, by decide, tb_5 40 (by decide +kernel) rfl⟩
theorem tf_X12_87 : tv_flF "TemperInHiveModel" 87 12 39 58 true := ⟨_, _, tw_c12, by decide, tb_5 40 (by decide +kernel) rfl, rfl, fun h => by first | rfl | cases h⟩
theorem tl_X12_90 : tv_fl "TemperInHiveModel" 90 12 40 58 := ⟨_, _, tw_c12, by decide, tb_5 41 (by decide +kernel) rfl⟩
theorem tf_X12_90 : tv_flF "TemperInHiveModel" 90 12 40 58 true := ⟨_, _, tw_c12, by decide, tb_5 41 (by decide +kernel) rfl, rfl, fun h => by first | rfl | cases h⟩
theorem tl_X12_93 : tv_fl "TemperInHiveModel" 93 12 41 58 := ⟨_, _, tw_c12, by decide, tb_5 42 (by decide +kernel) rfl⟩
theorem tf_X12_93 : tv_flF "TemperInHiveModel" 93 12 41 58 true := ⟨_, _, tw_c12, by decide, tb_5 42 (by decide +kernel) rfl, rfl, fun h => by first | rfl | cases h⟩
theorem tl_X12_97 : tv_fl "TemperInHiveModel" 97 12 42 58 := ⟨_, _, tw_c12, by decide, tb_5 43 (by decide +kernel) rfl⟩
theorem tf_X12_97 : tv_flF "TemperInHiveModel" 97 12 42 58 true := ⟨_, _, tw_c12, by decide, tb_5 43 (by decide +kernel) rfl, rfl, fun h => by first | rfl | cases h⟩
theorem tl_X12_100 : tv_fl "TemperInHiveModel" 100 12 43 58 := ⟨_, _, tw_c12, by decide, tb_5 44 (by decide +kernel) rfl⟩
theorem tf_X12_100 : tv_flF "TemperInHiveModel" 100 12 43 58 true := ⟨_, _, tw_c12, by decide, tb_5 44 (by decide +kernel) rfl, rfl, fun h => by first | rfl | cases h⟩
theorem tl_X12_103 : tv_fl "TemperInHiveModel" 103 12 47 58 := ⟨_, _, tw_c12, by decide, tb_5 48 (by decide +kernel) rfl⟩
theorem tf_X12_103 : tv_flF "TemperInHiveModel" 103 12 47 58 true := ⟨_, _, tw_c12, by decide, tb_5 48 (by decide +kernel) rfl, rfl, fun h => by first | rfl | cases h⟩
theorem tl_X12_106 : tv_fl "TemperInHiveModel" 106 12 48 58 := ⟨_, _, tw_c12, by decide, tb_5 49 (by decide +kernel) rfl⟩
theorem tf_X12_106 : tv_flF "TemperInHiveModel" 106 12 48 58 true := ⟨_, _, tw_c12, by decide, tb_5 49 (by decide +kernel) rfl, rfl, fun h => by first | rfl | cases h⟩
theorem tl_X12_109 : tv_fl "TemperInHiveModel" 109 12 49 58 := ⟨_, _, tw_c12, by decide, tb_5 50 (by decide +kernel) rfl⟩
theorem tf_X12_109 : tv_flF "TemperInHiveModel" 109 12 49 58 true := ⟨_, _, tw_c12, by decide, tb_5 50 (by decide +kernel) rfl, rfl, fun h => by first | rfl | cases h⟩
theorem tl_X12_112 : tv_fl "TemperInHiveModel" 112 12 51 58 := ⟨_, _, tw_c12, by decide, tb_5 52 (by decide +kernel) rfl⟩
theorem tf_X12_112 : tv_flF "TemperInHiveModel" 112 12 51 58 true := ⟨_, _, tw_c12, by decide, tb_5 52 (by decide +kernel) rfl, rfl, fun h => by first | rfl | cases h⟩
theorem tl_X12_115 : tv_fl "TemperInHiveModel" 115 12 53 58 := ⟨_, _, tw_c12, by decide, tb_5 54 (by decide +kernel) rfl⟩
theorem tf_X12_115 : tv_flF "TemperInHiveModel" 115 12 53 58 true := ⟨_, _, tw_c12, by decide, tb_5 54 (by decide +kernel) rfl, rfl, fun h => by first | rfl | cases h⟩
theorem tl_X12_118 : tv_fl "TemperInHiveModel" 118 12 54 58 := ⟨_, _, tw_c12, by decide, tb_5 55 (by decide +kernel) rfl⟩
theorem tf_X12_118 : tv_flF "TemperInHiveModel" 118 12 54 58 true := ⟨_, _, tw_c12, by decide, tb_5 55 (by decide +kernel) rfl, rfl, fun h => by first | rfl | cases h⟩
theorem tl_X12_121 : tv_fl "TemperInHiveModel" 121 12 55 58 := ⟨_, _, tw_c12, by decide, tb_5 56 (by decide +kernel) rfl⟩
theorem tf_X12_121 : tv_flF "TemperInHiveModel" 121 12 55 58 true := ⟨_, _, tw_c12, by decide, tb_5 56 (by decide +kernel) rfl, rfl, fun h => by first | rfl | cases h⟩
theorem tl_X12_124 : tv_fl "TemperInHiveModel" 124 12 56 58 := ⟨_, _, tw_c12, by decide, tb_5 57 (by decide +kernel) rfl⟩
theorem tf_X12_124 : tv_flF "TemperInHiveModel" 124 12 56 58 true := ⟨_, _, tw_c12, by decide, tb_5 57 (by decide +kernel) rfl, rfl, fun h => by first | rfl | cases h⟩
theorem tl_X12_128 : tv_fl "TemperInHiveModel" 128 12 57 58 := ⟨_, _, tw_c12, by decide, tb_5 58 (by decide +kernel) rfl⟩
theorem tf_X12_128 : tv_flF "TemperInHiveModel" 128 12 57 58 true := ⟨_, _, tw_c12, by decide, tb_5 58 (by decide +kernel) rfl, rfl, fun h => by first | rfl | cases h⟩
theorem tl_X12_135 : Cond.methodLink "TemperInHiveModel" 135 yX12_apart ∈ tv_tb := tb_6 208 (by decide +kernel) rfl
theorem tl_X12_139 : tv_fl "TemperInHiveModel" 139 12 1 58 := ⟨_, _, tw_c12, by decide, tb_5 2 (by decide +kernel) rfl⟩
theorem tf_X12_139 : tv_flF "TemperInHiveModel" 139 12 1 58 false := ⟨_, _, tw_c12, by decide, tb_5 2 (by decide +kernel) rfl, rfl, fun h => by first | rfl | cases h⟩
theorem tl_X12_142 : Cond.methodLink "TemperInHiveModel" 142 yX12_in ∈ tv_tb := tb_5 186 (by decide +kernel) rfl
theorem tl_X12_146 : tv_fl "TemperInHiveModel" 146 12 3 58 := ⟨_, _, tw_c12, by decide, tb_5 4 (by decide +kernel) rfl⟩
theorem tf_X12_146 : tv_flF "TemperInHiveModel" 146 12 3 58 false := ⟨_, _, tw_c12, by decide, tb_5 4 (by decide +kernel) rfl, rfl, fun h => by first | rfl | cases h⟩
theorem tl_X12_149 : tv_fl "TemperInHiveModel" 149 12 6 58 := ⟨_, _, tw_c12, by decide, tb_5 7 (by decide +kernel) rfl⟩
theorem tf_X12_149 : tv_flF "TemperInHiveModel" 149 12 6 58 false := ⟨_, _, tw_c12, by decide, tb_5 7 (by decide +kernel) rfl, rfl, fun h => by first | rfl | cases h⟩
theorem tl_X12_152 : Cond.methodLink "TemperInHiveModel" 152 yX12_isMuch ∈ tv_tb := tb_5 183 (by decide +kernel) rfl
theorem tl_X12_156 : Cond.methodLink "TemperInHiveModel" 156 yX12_isCell ∈ tv_tb := tb_5 193 (by decide +kernel) rfl
theorem tl_X12_159 : Cond.methodLink "TemperInHiveModel" 159 yX12_areDeed ∈ tv_tb := tb_5 200 (by decide +kernel) rfl
theorem tl_X12_163 : Cond.methodLink "TemperInHiveModel" 163 yX12_addDeed ∈ tv_tb := tb_5 203 (by decide +kernel) rfl
theorem tl_X12_167 : Cond.methodLink "TemperInHiveModel" 167 yX12_isShelf ∈ tv_tb := tb_5 211 (by decide +kernel) rfl
theorem tl_X12_170 : Cond.constantLong "TemperInHiveModel" 170 (Int64.ofInt (2)) ∈ tv_tb := tb_5 214 (by decide +kernel) rfl
theorem tl_X12_172 : Cond.methodLink "TemperInHiveModel" 172 yX12_valueAt ∈ tv_tb := tb_6 19 (by decide +kernel) rfl
theorem tl_X12_175 : tv_fl "TemperInHiveModel" 175 12 12 58 := ⟨_, _, tw_c12, by decide, tb_5 13 (by decide +kernel) rfl⟩
theorem tf_X12_175 : tv_flF "TemperInHiveModel" 175 12 12 58 false := ⟨_, _, tw_c12, by decide, tb_5 13 (by decide +kernel) rfl, rfl, fun h => by first | rfl | cases h⟩
theorem tl_X12_178 : tv_fl "TemperInHiveModel" 178 12 11 58 := ⟨_, _, tw_c12, by decide, tb_5 12 (by decide +kernel) rfl⟩
theorem tf_X12_178 : tv_flF "TemperInHiveModel" 178 12 11 58 false := ⟨_, _, tw_c12, by decide, tb_5 12 (by decide +kernel) rfl, rfl, fun h => by first | rfl | cases h⟩
theorem tl_X12_181 : Cond.methodLink "TemperInHiveModel" 181 yX12_lays ∈ tv_tb := tb_5 219 (by decide +kernel) rfl
theorem tl_X12_185 : Cond.methodLink "TemperInHiveModel" 185 yX12_isHive ∈ tv_tb := tb_6 3 (by decide +kernel) rfl
theorem tl_X12_188 : Cond.methodLink "TemperInHiveModel" 188 yX12_isPerson ∈ tv_tb := tb_5 235 (by decide +kernel) rfl
theorem tl_X12_191 : Cond.methodLink "TemperInHiveModel" 191 yX12_areHis ∈ tv_tb := tb_5 239 (by decide +kernel) rfl
theorem tl_X12_194 : Cond.methodLink "TemperInHiveModel" 194 yX12_isDeed ∈ tv_tb := tb_6 7 (by decide +kernel) rfl
theorem tl_X12_197 : Cond.methodLink "TemperInHiveModel" 197 yX12_isOne ∈ tv_tb := tb_5 231 (by decide +kernel) rfl
theorem tl_X12_200 : Cond.methodLink "TemperInHiveModel" 200 yX12_mayHave ∈ tv_tb := tb_6 11 (by decide +kernel) rfl
theorem tl_X12_203 : Cond.methodLink "TemperInHiveModel" 203 yX12_changes ∈ tv_tb := tb_6 15 (by decide +kernel) rfl
theorem tl_X12_206 : tv_fl "TemperInHiveModel" 206 12 18 58 := ⟨_, _, tw_c12, by decide, tb_5 19 (by decide +kernel) rfl⟩
theorem tf_X12_206 : tv_flF "TemperInHiveModel" 206 12 18 58 false := ⟨_, _, tw_c12, by decide, tb_5 19 (by decide +kernel) rfl, rfl, fun h => by first | rfl | cases h⟩
theorem tl_X12_209 : tv_fl "TemperInHiveModel" 209 12 19 58 := ⟨_, _, tw_c12, by decide, tb_5 20 (by decide +kernel) rfl⟩
theorem tf_X12_209 : tv_flF "TemperInHiveModel" 209 12 19 58 false := ⟨_, _, tw_c12, by decide, tb_5 20 (by decide +kernel) rfl, rfl, fun h => by first | rfl | cases h⟩
theorem tl_X12_212 : tv_fl "TemperInHiveModel" 212 12 20 58 := ⟨_, _, tw_c12, by decide, tb_5 21 (by decide +kernel) rfl⟩
theorem tf_X12_212 : tv_flF "TemperInHiveModel" 212 12 20 58 false := ⟨_, _, tw_c12, by decide, tb_5 21 (by decide +kernel) rfl, rfl, fun h => by first | rfl | cases h⟩
theorem tl_X12_215 : tv_fl "TemperInHiveModel" 215 12 22 58 := ⟨_, _, tw_c12, by decide, tb_5 23 (by decide +kernel) rfl⟩
theorem tf_X12_215 : tv_flF "TemperInHiveModel" 215 12 22 58 false := ⟨_, _, tw_c12, by decide, tb_5 23 (by decide +kernel) rfl, rfl, fun h => by first | rfl | cases h⟩
theorem tl_X12_218 : tv_fl "TemperInHiveModel" 218 12 21 58 := ⟨_, _, tw_c12, by decide, tb_5 22 (by decide +kernel) rfl⟩
theorem tf_X12_218 : tv_flF "TemperInHiveModel" 218 12 21 58 false := ⟨_, _, tw_c12, by decide, tb_5 22 (by decide +kernel) rfl, rfl, fun h => by first | rfl | cases h⟩
theorem tl_X12_221 : Cond.methodLink "TemperInHiveModel" 221 yX12_wrong ∈ tv_tb := tb_6 82 (by decide +kernel) rfl
theorem tl_X12_224 : Cond.methodLink "TemperInHiveModel" 224 yX12_look ∈ tv_tb := tb_6 67 (by decide +kernel) rfl
theorem tl_X12_228 : Cond.methodLink "TemperInHiveModel" 228 yX12_addStep ∈ tv_tb := tb_6 74 (by decide +kernel) rfl
theorem tl_X12_232 : Cond.methodLink "TemperInHiveModel" 232 yX12_nameOf ∈ tv_tb := tb_6 71 (by decide +kernel) rfl
theorem tl_X12_236 : Cond.methodLink "TemperInHiveModel" 236 yX12_opens ∈ tv_tb := tb_6 78 (by decide +kernel) rfl
theorem tl_X12_240 : Cond.methodLink "TemperInHiveModel" 240 yX12_operand ∈ tv_tb := tb_6 63 (by decide +kernel) rfl
theorem tl_X12_243 : Cond.methodLink "TemperInHiveModel" 243 yX12_either ∈ tv_tb := tb_6 43 (by decide +kernel) rfl
theorem tl_X12_246 : Cond.methodLink "TemperInHiveModel" 246 yX12_figure ∈ tv_tb := tb_6 86 (by decide +kernel) rfl
theorem tl_X12_249 : Cond.methodLink "TemperInHiveModel" 249 yX12_product ∈ tv_tb := tb_6 59 (by decide +kernel) rfl
theorem tl_X12_252 : Cond.methodLink "TemperInHiveModel" 252 yX12_sum ∈ tv_tb := tb_6 55 (by decide +kernel) rfl
theorem tl_X12_255 : Cond.methodLink "TemperInHiveModel" 255 yX12_compared ∈ tv_tb := tb_6 51 (by decide +kernel) rfl
theorem tl_X12_258 : Cond.methodLink "TemperInHiveModel" 258 yX12_both ∈ tv_tb := tb_6 47 (by decide +kernel) rfl
theorem tl_X12_261 : Cond.methodLink "TemperInHiveModel" 261 yX12_line ∈ tv_tb := tb_6 39 (by decide +kernel) rfl
theorem tl_X12_264 : Cond.methodLink "TemperInHiveModel" 264 yX12_twoOf ∈ tv_tb := tb_6 122 (by decide +kernel) rfl
theorem tl_X12_267 : Cond.methodLink "TemperInHiveModel" 267 yX12_worked ∈ tv_tb := tb_6 118 (by decide +kernel) rfl
theorem tl_X12_270 : Cond.methodLink "TemperInHiveModel" 270 yX12_readText ∈ tv_tb := tb_6 35 (by decide +kernel) rfl
theorem tl_X12_273 : tv_fl "TemperInHiveModel" 273 12 30 58 := ⟨_, _, tw_c12, by decide, tb_5 31 (by decide +kernel) rfl⟩
theorem tf_X12_273 : tv_flF "TemperInHiveModel" 273 12 30 58 false := ⟨_, _, tw_c12, by decide, tb_5 31 (by decide +kernel) rfl, rfl, fun h => by first | rfl | cases h⟩
theorem tl_X12_277 : Cond.methodLink "TemperInHiveModel" 277 yX12_allIn ∈ tv_tb := tb_6 106 (by decide +kernel) rfl
theorem tl_X12_280 : Cond.methodLink "TemperInHiveModel" 280 yX12_keepers ∈ tv_tb := tb_6 110 (by decide +kernel) rfl
theorem tl_X12_283 : Cond.methodLink "TemperInHiveModel" 283 yX12_gives ∈ tv_tb := tb_6 114 (by decide +kernel) rfl
theorem tl_X12_286 : Cond.methodLink "TemperInHiveModel" 286 yX12_growsTo ∈ tv_tb := tb_6 102 (by decide +kernel) rfl
theorem tl_X12_289 : Cond.methodLink "TemperInHiveModel" 289 yX12_layNow ∈ tv_tb := tb_6 94 (by decide +kernel) rfl
theorem tl_X12_292 : Cond.methodLink "TemperInHiveModel" 292 yX12_goDay ∈ tv_tb := tb_6 98 (by decide +kernel) rfl
theorem tl_X12_295 : Cond.methodLink "TemperInHiveModel" 295 yX12_stingsTo ∈ tv_tb := tb_6 125 (by decide +kernel) rfl
theorem tl_X12_298 : Cond.methodLink "TemperInHiveModel" 298 yX12_lowestOn ∈ tv_tb := tb_6 137 (by decide +kernel) rfl
theorem tl_X12_301 : Cond.methodLink "TemperInHiveModel" 301 yX12_highestOn ∈ tv_tb := tb_6 141 (by decide +kernel) rfl
theorem tl_X12_304 : tv_fl "TemperInHiveModel" 304 12 35 58 := ⟨_, _, tw_c12, by decide, tb_5 36 (by decide +kernel) rfl⟩
theorem tf_X12_304 : tv_flF "TemperInHiveModel" 304 12 35 58 false := ⟨_, _, tw_c12, by decide, tb_5 36 (by decide +kernel) rfl, rfl, fun h => by first | rfl | cases h⟩
theorem tl_X12_307 : Cond.methodLink "TemperInHiveModel" 307 yX12_at ∈ tv_tb := tb_6 157 (by decide +kernel) rfl
theorem tl_X12_310 : tv_fl "TemperInHiveModel" 310 12 36 58 := ⟨_, _, tw_c12, by decide, tb_5 37 (by decide +kernel) rfl⟩
theorem tf_X12_310 : tv_flF "TemperInHiveModel" 310 12 36 58 false := ⟨_, _, tw_c12, by decide, tb_5 37 (by decide +kernel) rfl, rfl, fun h => by first | rfl | cases h⟩
theorem tl_X12_313 : Cond.methodLink "TemperInHiveModel" 313 yX12_mayDo ∈ tv_tb := tb_6 165 (by decide +kernel) rfl
theorem tl_X12_316 : Cond.methodLink "TemperInHiveModel" 316 yX12_runFrom ∈ tv_tb := tb_6 169 (by decide +kernel) rfl
theorem tl_X12_319 : Cond.methodLink "TemperInHiveModel" 319 yX12_rowFault ∈ tv_tb := tb_6 149 (by decide +kernel) rfl
theorem tl_X12_322 : Cond.methodLink "TemperInHiveModel" 322 yX12_layRound ∈ tv_tb := tb_6 153 (by decide +kernel) rfl
theorem tl_X12_326 : Cond.methodLink "TemperInHiveModel" 326 yX12_goRound ∈ tv_tb := tb_6 161 (by decide +kernel) rfl
theorem tl_X12_329 : Cond.methodLink "TemperInHiveModel" 329 yX12_mayTake ∈ tv_tb := tb_6 185 (by decide +kernel) rfl
theorem tl_X12_332 : Cond.methodLink "TemperInHiveModel" 332 yX12_worthBy ∈ tv_tb := tb_6 189 (by decide +kernel) rfl
theorem tl_X12_335 : Cond.methodLink "TemperInHiveModel" 335 yX12_findWho ∈ tv_tb := tb_6 181 (by decide +kernel) rfl
theorem tl_X12_338 : Cond.methodLink "TemperInHiveModel" 338 yX12_far ∈ tv_tb := tb_6 205 (by decide +kernel) rfl
theorem tl_X12_341 : Cond.methodLink "TemperInHiveModel" 341 yX12_stingsIn ∈ tv_tb := tb_6 201 (by decide +kernel) rfl
theorem tl_X12_344 : Cond.methodLink "TemperInHiveModel" 344 yX12_stungBits ∈ tv_tb := tb_6 197 (by decide +kernel) rfl
theorem tl_X12_347 : Cond.methodLink "TemperInHiveModel" 347 yX12_isNearer ∈ tv_tb := tb_6 235 (by decide +kernel) rfl
theorem tl_X12_350 : Cond.methodLink "TemperInHiveModel" 350 yX12_stepTo ∈ tv_tb := tb_6 227 (by decide +kernel) rfl
theorem tl_X12_354 : Cond.methodLink "TemperInHiveModel" 354 yX12_nearest ∈ tv_tb := tb_6 231 (by decide +kernel) rfl
theorem tl_X12_357 : Cond.methodLink "TemperInHiveModel" 357 yX12_goWays ∈ tv_tb := tb_6 223 (by decide +kernel) rfl
theorem tl_X12_361 : Cond.methodLink "TemperInHiveModel" 361 yX12_findStings ∈ tv_tb := tb_6 215 (by decide +kernel) rfl
theorem tl_X12_364 : Cond.methodLink "TemperInHiveModel" 364 yX12_wayOf ∈ tv_tb := tb_6 219 (by decide +kernel) rfl
theorem tl_X12_367 : Cond.methodLink "TemperInHiveModel" 367 yX12_sets ∈ tv_tb := tb_7 7 (by decide +kernel) rfl
theorem tl_X12_370 : Cond.methodLink "TemperInHiveModel" 370 yX12_isSo ∈ tv_tb := tb_7 15 (by decide +kernel) rfl
theorem tl_X12_373 : Cond.methodLink "TemperInHiveModel" 373 yX12_costBy ∈ tv_tb := tb_7 27 (by decide +kernel) rfl
theorem tl_X12_376 : Cond.methodLink "TemperInHiveModel" 376 yX12_allOfAll ∈ tv_tb := tb_7 43 (by decide +kernel) rfl
theorem tl_X12_379 : Cond.constant "TemperInHiveModel" 379 (Int32.ofInt (1103515245)) ∈ tv_tb := tb_7 51 (by decide +kernel) rfl
theorem tl_X12_380 : tv_fl "TemperInHiveModel" 380 12 44 58 := ⟨_, _, tw_c12, by decide, tb_5 45 (by decide +kernel) rfl⟩
theorem tf_X12_380 : tv_flF "TemperInHiveModel" 380 12 44 58 false := ⟨_, _, tw_c12, by decide, tb_5 45 (by decide +kernel) rfl, rfl, fun h => by first | rfl | cases h⟩
theorem tl_X12_383 : tv_fl "TemperInHiveModel" 383 12 45 58 := ⟨_, _, tw_c12, by decide, tb_5 46 (by decide +kernel) rfl⟩
theorem tf_X12_383 : tv_flF "TemperInHiveModel" 383 12 45 58 false := ⟨_, _, tw_c12, by decide, tb_5 46 (by decide +kernel) rfl, rfl, fun h => by first | rfl | cases h⟩
theorem tl_X12_386 : tv_fl "TemperInHiveModel" 386 12 46 58 := ⟨_, _, tw_c12, by decide, tb_5 47 (by decide +kernel) rfl⟩
theorem tf_X12_386 : tv_flF "TemperInHiveModel" 386 12 46 58 false := ⟨_, _, tw_c12, by decide, tb_5 47 (by decide +kernel) rfl, rfl, fun h => by first | rfl | cases h⟩
theorem tl_X12_389 : tv_fl "TemperInHiveModel" 389 12 50 58 := ⟨_, _, tw_c12, by decide, tb_5 51 (by decide +kernel) rfl⟩
theorem tf_X12_389 : tv_flF "TemperInHiveModel" 389 12 50 58 false := ⟨_, _, tw_c12, by decide, tb_5 51 (by decide +kernel) rfl, rfl, fun h => by first | rfl | cases h⟩
theorem tl_X12_392 : tv_fl "TemperInHiveModel" 392 12 52 58 := ⟨_, _, tw_c12, by decide, tb_5 53 (by decide +kernel) rfl⟩
theorem tf_X12_392 : tv_flF "TemperInHiveModel" 392 12 52 58 false := ⟨_, _, tw_c12, by decide, tb_5 53 (by decide +kernel) rfl, rfl, fun h => by first | rfl | cases h⟩
theorem tl_X12_395 : Cond.methodLink "TemperInHiveModel" 395 yX12_ran ∈ tv_tb := tb_7 107 (by decide +kernel) rfl
theorem tl_X12_398 : Cond.methodLink "TemperInHiveModel" 398 yX12_plainKeeps ∈ tv_tb := tb_7 111 (by decide +kernel) rfl
theorem tl_X12_401 : Cond.methodLink "TemperInHiveModel" 401 yX12_isUnder ∈ tv_tb := tb_7 104 (by decide +kernel) rfl
theorem tl_X12_404 : Cond.methodLink "TemperInHiveModel" 404 yX12_frostKeeps ∈ tv_tb := tb_7 115 (by decide +kernel) rfl
theorem tl_X12_407 : Cond.methodLink "TemperInHiveModel" 407 yX12_keeping ∈ tv_tb := tb_7 100 (by decide +kernel) rfl
theorem tl_X12_410 : Cond.methodLink "TemperInHiveModel" 410 yX12_plainStings ∈ tv_tb := tb_7 127 (by decide +kernel) rfl
theorem tl_X12_413 : Cond.methodLink "TemperInHiveModel" 413 yX12_veilStings ∈ tv_tb := tb_7 123 (by decide +kernel) rfl
theorem tl_X12_416 : Cond.methodLink "TemperInHiveModel" 416 yX12_growing ∈ tv_tb := tb_7 131 (by decide +kernel) rfl
theorem tl_X12_419 : Cond.methodLink "TemperInHiveModel" 419 yX12_plainGrows ∈ tv_tb := tb_7 139 (by decide +kernel) rfl
theorem tl_X12_422 : Cond.methodLink "TemperInHiveModel" 422 yX12_slateGrows ∈ tv_tb := tb_7 135 (by decide +kernel) rfl
theorem tl_X12_425 : Cond.methodLink "TemperInHiveModel" 425 yX12_stinging ∈ tv_tb := tb_7 119 (by decide +kernel) rfl
theorem tl_X12_428 : Cond.methodLink "TemperInHiveModel" 428 yX12_plainTells ∈ tv_tb := tb_7 147 (by decide +kernel) rfl
theorem tl_X12_431 : Cond.methodLink "TemperInHiveModel" 431 yX12_isBody ∈ tv_tb := tb_7 96 (by decide +kernel) rfl
theorem tl_X12_434 : Cond.methodLink "TemperInHiveModel" 434 yX12_telling ∈ tv_tb := tb_7 143 (by decide +kernel) rfl
theorem tl_X12_437 : Cond.methodLink "TemperInHiveModel" 437 yX12_whyNoPlace ∈ tv_tb := tb_7 167 (by decide +kernel) rfl
theorem tl_X12_442 : Cond.constantLong "TemperInHiveModel" 442 (Int64.ofInt (-9223372036854775808)) ∈ tv_tb := tb_7 175 (by decide +kernel) rfl
theorem tl_L_7 : Cond.classLink "TemperInHiveLaw" 7 "TemperInHive" ∈ tv_tb := tb_1 16 (by decide +kernel) rfl
theorem tl_L_9 : Cond.methodLink "TemperInHiveLaw" 9 yX11_init ∈ tv_tb := tb_1 18 (by decide +kernel) rfl
theorem tl_L_10 : Cond.classLink "TemperInHiveLaw" 10 "TemperInHiveModel" ∈ tv_tb := tb_4 236 (by decide +kernel) rfl
theorem tl_L_12 : Cond.methodLink "TemperInHiveLaw" 12 yX12_init ∈ tv_tb := tb_4 238 (by decide +kernel) rfl
theorem tl_L_13 : Cond.methodLink "TemperInHiveLaw" 13 yX11_person ∈ tv_tb := tb_2 114 (by decide +kernel) rfl
theorem tl_L_17 : Cond.methodLink "TemperInHiveLaw" 17 yX12_person ∈ tv_tb := tb_5 179 (by decide +kernel) rfl
theorem tl_L_18 : Cond.methodLink "TemperInHiveLaw" 18 yX11_hive ∈ tv_tb := tb_2 125 (by decide +kernel) rfl
theorem tl_L_21 : Cond.methodLink "TemperInHiveLaw" 21 yX12_hive ∈ tv_tb := tb_5 189 (by decide +kernel) rfl
theorem tl_L_22 : Cond.methodLink "TemperInHiveLaw" 22 yX11_deed ∈ tv_tb := tb_2 136 (by decide +kernel) rfl
theorem tl_L_26 : Cond.methodLink "TemperInHiveLaw" 26 yX12_deed ∈ tv_tb := tb_5 196 (by decide +kernel) rfl
theorem tl_L_27 : Cond.methodLink "TemperInHiveLaw" 27 yX11_deeds ∈ tv_tb := tb_2 147 (by decide +kernel) rfl
theorem tl_L_31 : Cond.methodLink "TemperInHiveLaw" 31 yX12_deeds ∈ tv_tb := tb_5 207 (by decide +kernel) rfl
theorem tl_L_32 : Cond.methodLink "TemperInHiveLaw" 32 yX11_mend ∈ tv_tb := tb_2 167 (by decide +kernel) rfl
theorem tl_L_35 : Cond.methodLink "TemperInHiveLaw" 35 yX12_mend ∈ tv_tb := tb_5 227 (by decide +kernel) rfl
theorem tl_L_36 : Cond.methodLink "TemperInHiveLaw" 36 yX11_of ∈ tv_tb := tb_2 227 (by decide +kernel) rfl
theorem tl_L_39 : Cond.methodLink "TemperInHiveLaw" 39 yX12_of ∈ tv_tb := tb_6 23 (by decide +kernel) rfl
theorem tl_L_40 : Cond.methodLink "TemperInHiveLaw" 40 yX11_feed ∈ tv_tb := tb_2 231 (by decide +kernel) rfl
theorem tl_L_43 : Cond.methodLink "TemperInHiveLaw" 43 yX12_feed ∈ tv_tb := tb_6 27 (by decide +kernel) rfl
theorem tl_L_44 : Cond.methodLink "TemperInHiveLaw" 44 yX11_law ∈ tv_tb := tb_2 239 (by decide +kernel) rfl
theorem tl_L_48 : Cond.methodLink "TemperInHiveLaw" 48 yX12_law ∈ tv_tb := tb_6 31 (by decide +kernel) rfl
theorem tl_L_49 : Cond.methodLink "TemperInHiveLaw" 49 yX11_later ∈ tv_tb := tb_3 48 (by decide +kernel) rfl
theorem tl_L_52 : Cond.methodLink "TemperInHiveLaw" 52 yX12_later ∈ tv_tb := tb_6 90 (by decide +kernel) rfl
theorem tl_L_53 : Cond.methodLink "TemperInHiveLaw" 53 yX11_still ∈ tv_tb := tb_3 103 (by decide +kernel) rfl
theorem tl_L_56 : Cond.methodLink "TemperInHiveLaw" 56 yX12_still ∈ tv_tb := tb_6 129 (by decide +kernel) rfl
theorem tl_L_57 : Cond.methodLink "TemperInHiveLaw" 57 yX11_can ∈ tv_tb := tb_3 107 (by decide +kernel) rfl
theorem tl_L_60 : Cond.methodLink "TemperInHiveLaw" 60 yX12_can ∈ tv_tb := tb_6 133 (by decide +kernel) rfl
theorem tl_L_61 : Cond.methodLink "TemperInHiveLaw" 61 yX11_round ∈ tv_tb := tb_3 121 (by decide +kernel) rfl
theorem tl_L_64 : Cond.methodLink "TemperInHiveLaw" 64 yX12_round ∈ tv_tb := tb_6 145 (by decide +kernel) rfl
theorem tl_L_65 : Cond.methodLink "TemperInHiveLaw" 65 yX11_without ∈ tv_tb := tb_3 156 (by decide +kernel) rfl
theorem tl_L_68 : Cond.methodLink "TemperInHiveLaw" 68 yX12_without ∈ tv_tb := tb_6 173 (by decide +kernel) rfl
theorem tl_L_69 : Cond.methodLink "TemperInHiveLaw" 69 yX11_who ∈ tv_tb := tb_3 164 (by decide +kernel) rfl
theorem tl_L_72 : Cond.methodLink "TemperInHiveLaw" 72 yX12_who ∈ tv_tb := tb_6 177 (by decide +kernel) rfl
theorem tl_L_73 : Cond.methodLink "TemperInHiveLaw" 73 yX11_stung ∈ tv_tb := tb_3 194 (by decide +kernel) rfl
theorem tl_L_76 : Cond.methodLink "TemperInHiveLaw" 76 yX12_stung ∈ tv_tb := tb_6 193 (by decide +kernel) rfl
theorem tl_L_77 : Cond.methodLink "TemperInHiveLaw" 77 yX11_way ∈ tv_tb := tb_3 210 (by decide +kernel) rfl
theorem tl_L_80 : Cond.methodLink "TemperInHiveLaw" 80 yX12_way ∈ tv_tb := tb_6 211 (by decide +kernel) rfl
theorem tl_L_81 : Cond.methodLink "TemperInHiveLaw" 81 yX11_least ∈ tv_tb := tb_3 236 (by decide +kernel) rfl
theorem tl_L_84 : Cond.methodLink "TemperInHiveLaw" 84 yX12_least ∈ tv_tb := tb_6 239 (by decide +kernel) rfl
theorem tl_L_85 : Cond.methodLink "TemperInHiveLaw" 85 yX11_set ∈ tv_tb := tb_4 14 (by decide +kernel) rfl
theorem tl_L_88 : Cond.methodLink "TemperInHiveLaw" 88 yX12_set ∈ tv_tb := tb_7 3 (by decide +kernel) rfl
theorem tl_L_89 : Cond.methodLink "TemperInHiveLaw" 89 yX11_tries ∈ tv_tb := tb_4 27 (by decide +kernel) rfl
theorem tl_L_92 : Cond.methodLink "TemperInHiveLaw" 92 yX12_tries ∈ tv_tb := tb_7 11 (by decide +kernel) rfl
theorem tl_L_93 : Cond.methodLink "TemperInHiveLaw" 93 yX11_next ∈ tv_tb := tb_4 45 (by decide +kernel) rfl
theorem tl_L_96 : Cond.methodLink "TemperInHiveLaw" 96 yX12_next ∈ tv_tb := tb_7 19 (by decide +kernel) rfl
theorem tl_L_97 : Cond.methodLink "TemperInHiveLaw" 97 yX11_leave ∈ tv_tb := tb_4 53 (by decide +kernel) rfl
theorem tl_L_100 : Cond.methodLink "TemperInHiveLaw" 100 yX12_leave ∈ tv_tb := tb_7 23 (by decide +kernel) rfl
theorem tl_L_101 : Cond.methodLink "TemperInHiveLaw" 101 yX11_judge ∈ tv_tb := tb_4 61 (by decide +kernel) rfl
theorem tl_L_104 : Cond.methodLink "TemperInHiveLaw" 104 yX12_judge ∈ tv_tb := tb_7 31 (by decide +kernel) rfl
theorem tl_L_105 : Cond.methodLink "TemperInHiveLaw" 105 yX11_from ∈ tv_tb := tb_4 65 (by decide +kernel) rfl
theorem tl_L_108 : Cond.methodLink "TemperInHiveLaw" 108 yX12_from ∈ tv_tb := tb_7 35 (by decide +kernel) rfl
theorem tl_L_109 : Cond.methodLink "TemperInHiveLaw" 109 yX11_swarm ∈ tv_tb := tb_4 69 (by decide +kernel) rfl
theorem tl_L_112 : Cond.methodLink "TemperInHiveLaw" 112 yX12_swarm ∈ tv_tb := tb_7 39 (by decide +kernel) rfl
theorem tl_L_113 : Cond.methodLink "TemperInHiveLaw" 113 yX11_drawn ∈ tv_tb := tb_4 78 (by decide +kernel) rfl
theorem tl_L_116 : Cond.methodLink "TemperInHiveLaw" 116 yX12_drawn ∈ tv_tb := tb_7 47 (by decide +kernel) rfl
theorem tl_L_117 : Cond.methodLink "TemperInHiveLaw" 117 yX11_takes ∈ tv_tb := tb_4 91 (by decide +kernel) rfl
theorem tl_L_120 : Cond.methodLink "TemperInHiveLaw" 120 yX12_takes ∈ tv_tb := tb_7 52 (by decide +kernel) rfl
theorem tl_L_121 : Cond.methodLink "TemperInHiveLaw" 121 yX11_puts ∈ tv_tb := tb_4 96 (by decide +kernel) rfl
theorem tl_L_124 : Cond.methodLink "TemperInHiveLaw" 124 yX12_puts ∈ tv_tb := tb_7 56 (by decide +kernel) rfl
theorem tl_L_125 : Cond.methodLink "TemperInHiveLaw" 125 yX11_day ∈ tv_tb := tb_4 100 (by decide +kernel) rfl
theorem tl_L_128 : Cond.methodLink "TemperInHiveLaw" 128 yX12_day ∈ tv_tb := tb_7 60 (by decide +kernel) rfl
theorem tl_L_129 : Cond.methodLink "TemperInHiveLaw" 129 yX11_does ∈ tv_tb := tb_4 104 (by decide +kernel) rfl
theorem tl_L_132 : Cond.methodLink "TemperInHiveLaw" 132 yX12_does ∈ tv_tb := tb_7 64 (by decide +kernel) rfl
theorem tl_L_133 : Cond.methodLink "TemperInHiveLaw" 133 yX11_marry ∈ tv_tb := tb_4 109 (by decide +kernel) rfl
theorem tl_L_136 : Cond.methodLink "TemperInHiveLaw" 136 yX12_marry ∈ tv_tb := tb_7 68 (by decide +kernel) rfl
theorem tl_L_137 : Cond.methodLink "TemperInHiveLaw" 137 yX11_led ∈ tv_tb := tb_4 113 (by decide +kernel) rfl
theorem tl_L_140 : Cond.methodLink "TemperInHiveLaw" 140 yX12_led ∈ tv_tb := tb_7 72 (by decide +kernel) rfl
theorem tl_L_141 : Cond.methodLink "TemperInHiveLaw" 141 yX11_image ∈ tv_tb := tb_4 117 (by decide +kernel) rfl
theorem tl_L_144 : Cond.methodLink "TemperInHiveLaw" 144 yX12_image ∈ tv_tb := tb_7 76 (by decide +kernel) rfl
theorem tl_L_145 : Cond.methodLink "TemperInHiveLaw" 145 yX11_back ∈ tv_tb := tb_4 127 (by decide +kernel) rfl
theorem tl_L_148 : Cond.methodLink "TemperInHiveLaw" 148 yX12_back ∈ tv_tb := tb_7 80 (by decide +kernel) rfl
theorem tl_L_149 : Cond.methodLink "TemperInHiveLaw" 149 yX11_undo ∈ tv_tb := tb_4 135 (by decide +kernel) rfl
theorem tl_L_152 : Cond.methodLink "TemperInHiveLaw" 152 yX12_undo ∈ tv_tb := tb_5 215 (by decide +kernel) rfl
theorem tl_L_153 : Cond.methodLink "TemperInHiveLaw" 153 yX11_redo ∈ tv_tb := tb_4 139 (by decide +kernel) rfl
theorem tl_L_156 : Cond.methodLink "TemperInHiveLaw" 156 yX12_redo ∈ tv_tb := tb_5 223 (by decide +kernel) rfl
theorem tl_L_157 : Cond.methodLink "TemperInHiveLaw" 157 yX11_body ∈ tv_tb := tb_4 143 (by decide +kernel) rfl
theorem tl_L_160 : Cond.methodLink "TemperInHiveLaw" 160 yX12_body ∈ tv_tb := tb_7 88 (by decide +kernel) rfl
theorem tl_L_161 : Cond.methodLink "TemperInHiveLaw" 161 yX11_act ∈ tv_tb := tb_4 154 (by decide +kernel) rfl
theorem tl_L_164 : Cond.methodLink "TemperInHiveLaw" 164 yX12_act ∈ tv_tb := tb_7 92 (by decide +kernel) rfl
theorem tl_L_165 : Cond.methodLink "TemperInHiveLaw" 165 yX11_trace ∈ tv_tb := tb_4 187 (by decide +kernel) rfl
theorem tl_L_168 : Cond.methodLink "TemperInHiveLaw" 168 yX12_trace ∈ tv_tb := tb_7 84 (by decide +kernel) rfl
theorem tl_L_169 : Cond.methodLink "TemperInHiveLaw" 169 yX11_keep ∈ tv_tb := tb_4 191 (by decide +kernel) rfl
theorem tl_L_172 : Cond.methodLink "TemperInHiveLaw" 172 yX12_keep ∈ tv_tb := tb_7 155 (by decide +kernel) rfl
theorem tl_L_173 : Cond.methodLink "TemperInHiveLaw" 173 yX11_row ∈ tv_tb := tb_4 195 (by decide +kernel) rfl
theorem tl_L_176 : Cond.methodLink "TemperInHiveLaw" 176 yX12_row ∈ tv_tb := tb_7 159 (by decide +kernel) rfl
theorem tl_L_177 : Cond.constantLong "TemperInHiveLaw" 177 (Int64.ofInt (4294967295)) ∈ tv_tb := tb_7 184 (by decide +kernel) rfl
theorem tl_L_179 : Cond.methodLink "TemperInHiveLaw" 179 yX11_put ∈ tv_tb := tb_4 203 (by decide +kernel) rfl
theorem tl_L_183 : Cond.methodLink "TemperInHiveLaw" 183 yX12_put ∈ tv_tb := tb_7 163 (by decide +kernel) rfl
theorem tl_L_184 : Cond.methodLink "TemperInHiveLaw" 184 yX11_element ∈ tv_tb := tb_4 214 (by decide +kernel) rfl
theorem tl_L_188 : Cond.methodLink "TemperInHiveLaw" 188 yX12_element ∈ tv_tb := tb_7 171 (by decide +kernel) rfl
theorem tl_L_189 : Cond.methodLink "TemperInHiveLaw" 189 yX11_shift ∈ tv_tb := tb_4 219 (by decide +kernel) rfl
theorem tl_L_193 : Cond.methodLink "TemperInHiveLaw" 193 yX12_shift ∈ tv_tb := tb_7 176 (by decide +kernel) rfl
theorem tl_L_194 : Cond.methodLink "TemperInHiveLaw" 194 yX11_taken ∈ tv_tb := tb_4 224 (by decide +kernel) rfl
theorem tl_L_197 : Cond.methodLink "TemperInHiveLaw" 197 yX12_taken ∈ tv_tb := tb_7 180 (by decide +kernel) rfl
theorem tl_L_198 : Cond.methodLink "TemperInHiveLaw" 198 yX11_count ∈ tv_tb := tb_4 232 (by decide +kernel) rfl
theorem tl_L_201 : Cond.methodLink "TemperInHiveLaw" 201 yX12_count ∈ tv_tb := tb_7 151 (by decide +kernel) rfl
theorem tk_11 : Cond.instantiable "TemperInHive" 15 ∈ tv_tb := tb_1 17 (by decide +kernel) rfl
theorem tk_0 : Cond.instantiable "TemperInHive$Changes" 6 ∈ tv_tb := tb_1 202 (by decide +kernel) rfl
theorem tk_1 : Cond.instantiable "TemperInHive$Code" 4 ∈ tv_tb := tb_1 130 (by decide +kernel) rfl
theorem tk_2 : Cond.instantiable "TemperInHive$Image" 5 ∈ tv_tb := tb_1 233 (by decide +kernel) rfl
theorem tk_3 : Cond.instantiable "TemperInHive$Land" 13 ∈ tv_tb := tb_1 25 (by decide +kernel) rfl
theorem tk_4 : Cond.instantiable "TemperInHive$Pairing" 1 ∈ tv_tb := tb_1 169 (by decide +kernel) rfl
theorem tk_5 : Cond.instantiable "TemperInHive$Round" 4 ∈ tv_tb := tb_1 180 (by decide +kernel) rfl
theorem tk_6 : Cond.instantiable "TemperInHive$Shelf" 4 ∈ tv_tb := tb_2 45 (by decide +kernel) rfl
theorem tk_7 : Cond.instantiable "TemperInHive$Stock" 1 ∈ tv_tb := tb_1 31 (by decide +kernel) rfl
theorem tk_8 : Cond.instantiable "TemperInHive$Swarms" 5 ∈ tv_tb := tb_2 18 (by decide +kernel) rfl
theorem tk_9 : Cond.instantiable "TemperInHive$Tape" 4 ∈ tv_tb := tb_1 110 (by decide +kernel) rfl
theorem tk_10 : Cond.instantiable "TemperInHive$Ways" 3 ∈ tv_tb := tb_1 153 (by decide +kernel) rfl
theorem tk_12 : Cond.instantiable "TemperInHiveModel" 58 ∈ tv_tb := tb_4 237 (by decide +kernel) rfl
theorem tw_obi : Cond.instanceMethod objectInit ∈ tv_tb := tb_1 22 (by decide +kernel) rfl
set_option maxRecDepth 100000 in
theorem tw_obc : Cond.code objectInit ⟨#[0xb1]⟩ 1 none ∈ tv_tb := tb_1 23 rfl rfl
