theorem wn_oi : Cond.instanceMethod objectInit ∈ gt := gt_i 116 (by decide +kernel)
theorem wn_oc : Cond.code objectInit ⟨#[0xb1]⟩ 1 none ∈ gt := gt_i 117 (by decide +kernel)
theorem wn_int : Cond.arrayClass .int ∈ gt := gt_i 224 (by decide +kernel)
theorem wn_long : Cond.arrayClass .long ∈ gt := gt_i 242 (by decide +kernel)
theorem wn_byte : Cond.arrayClass .byte ∈ gt := gt_i 223 (by decide +kernel)
theorem wn_inst_0 : Cond.instantiable RX0 3 ∈ gt := gt_i 313 (by decide +kernel)
theorem wn_init_0 : Cond.initialized RX0 ∈ gt := gt_i 98 (by decide +kernel)
theorem wn_def_0 : ∀ E : Ev, ∀ j, j < 3 → defaultValue (tyX0 j) = vp_V (fvs E (fun _ => 0) (fun _ => none) 0) j := fun E j hj => by
  match j, hj with
  | 0, _ => rfl
  | 1, _ => rfl
  | 2, _ => rfl
  | k + 3, h => exact absurd h (by omega)
theorem fF_0_0 : FwF TX0 3 0 tyX0 RX0 := ⟨tyX0_ok, nmX0, rfl, rfl⟩
theorem wn_inst_1 : Cond.instantiable RX1 13 ∈ gt := gt_i 125 (by decide +kernel)
theorem wn_init_1 : Cond.initialized RX1 ∈ gt := gt_i 95 (by decide +kernel)
theorem wn_def_1 : ∀ E : Ev, ∀ j, j < 13 → defaultValue (tyX1 j) = vp_V (fvs E (fun _ => 0) (fun _ => none) 1) j := fun E j hj => by
  match j, hj with
  | 0, _ => rfl
  | 1, _ => rfl
  | 2, _ => rfl
  | 3, _ => rfl
  | 4, _ => rfl
  | 5, _ => rfl
  | 6, _ => rfl
  | 7, _ => rfl
  | 8, _ => rfl
  | 9, _ => rfl
  | 10, _ => rfl
  | 11, _ => rfl
  | 12, _ => rfl
  | k + 13, h => exact absurd h (by omega)
theorem fF_1_5 : FwF TX1 13 5 tyX1 RX1 := ⟨tyX1_ok, nmX1, rfl, rfl⟩
theorem fF_1_6 : FwF TX1 13 6 tyX1 RX1 := ⟨tyX1_ok, nmX1, rfl, rfl⟩
theorem fF_1_7 : FwF TX1 13 7 tyX1 RX1 := ⟨tyX1_ok, nmX1, rfl, rfl⟩
theorem fF_1_8 : FwF TX1 13 8 tyX1 RX1 := ⟨tyX1_ok, nmX1, rfl, rfl⟩
theorem fF_1_9 : FwF TX1 13 9 tyX1 RX1 := ⟨tyX1_ok, nmX1, rfl, rfl⟩
theorem fF_1_10 : FwF TX1 13 10 tyX1 RX1 := ⟨tyX1_ok, nmX1, rfl, rfl⟩
theorem fF_1_11 : FwF TX1 13 11 tyX1 RX1 := ⟨tyX1_ok, nmX1, rfl, rfl⟩
theorem fF_1_12 : FwF TX1 13 12 tyX1 RX1 := ⟨tyX1_ok, nmX1, rfl, rfl⟩
theorem wn_inst_2 : Cond.instantiable RX2 19 ∈ gt := gt_i 119 (by decide +kernel)
theorem wn_init_2 : Cond.initialized RX2 ∈ gt := gt_i 94 (by decide +kernel)
theorem wn_def_2 : ∀ E : Ev, ∀ j, j < 19 → defaultValue (tyX2 j) = vp_V (fvs E (fun _ => 0) (fun _ => none) 2) j := fun E j hj => by
  match j, hj with
  | 0, _ => rfl
  | 1, _ => rfl
  | 2, _ => rfl
  | 3, _ => rfl
  | 4, _ => rfl
  | 5, _ => rfl
  | 6, _ => rfl
  | 7, _ => rfl
  | 8, _ => rfl
  | 9, _ => rfl
  | 10, _ => rfl
  | 11, _ => rfl
  | 12, _ => rfl
  | 13, _ => rfl
  | 14, _ => rfl
  | 15, _ => rfl
  | 16, _ => rfl
  | 17, _ => rfl
  | 18, _ => rfl
  | k + 19, h => exact absurd h (by omega)
theorem fF_2_0 : FwF TX2 19 0 tyX2 RX2 := ⟨tyX2_ok, nmX2, rfl, rfl⟩
theorem fF_2_1 : FwF TX2 19 1 tyX2 RX2 := ⟨tyX2_ok, nmX2, rfl, rfl⟩
theorem fF_2_2 : FwF TX2 19 2 tyX2 RX2 := ⟨tyX2_ok, nmX2, rfl, rfl⟩
theorem fF_2_3 : FwF TX2 19 3 tyX2 RX2 := ⟨tyX2_ok, nmX2, rfl, rfl⟩
theorem fF_2_4 : FwF TX2 19 4 tyX2 RX2 := ⟨tyX2_ok, nmX2, rfl, rfl⟩
theorem fF_2_5 : FwF TX2 19 5 tyX2 RX2 := ⟨tyX2_ok, nmX2, rfl, rfl⟩
theorem fF_2_6 : FwF TX2 19 6 tyX2 RX2 := ⟨tyX2_ok, nmX2, rfl, rfl⟩
theorem fF_2_7 : FwF TX2 19 7 tyX2 RX2 := ⟨tyX2_ok, nmX2, rfl, rfl⟩
theorem fF_2_8 : FwF TX2 19 8 tyX2 RX2 := ⟨tyX2_ok, nmX2, rfl, rfl⟩
theorem wn_inst_3 : Cond.instantiable RX3 5 ∈ gt := gt_i 333 (by decide +kernel)
theorem wn_init_3 : Cond.initialized RX3 ∈ gt := gt_i 99 (by decide +kernel)
theorem wn_def_3 : ∀ E : Ev, ∀ j, j < 5 → defaultValue (tyX3 j) = vp_V (fvs E (fun _ => 0) (fun _ => none) 3) j := fun E j hj => by
  match j, hj with
  | 0, _ => rfl
  | 1, _ => rfl
  | 2, _ => rfl
  | 3, _ => rfl
  | 4, _ => rfl
  | k + 5, h => exact absurd h (by omega)
theorem fF_3_0 : FwF TX3 5 0 tyX3 RX3 := ⟨tyX3_ok, nmX3, rfl, rfl⟩
theorem fF_3_1 : FwF TX3 5 1 tyX3 RX3 := ⟨tyX3_ok, nmX3, rfl, rfl⟩
theorem wn_inst_4 : Cond.instantiable RX4 2 ∈ gt := gt_i 226 (by decide +kernel)
theorem wn_init_4 : Cond.initialized RX4 ∈ gt := gt_i 96 (by decide +kernel)
theorem wn_def_4 : ∀ E : Ev, ∀ j, j < 2 → defaultValue (tyX4 j) = vp_V (fvs E (fun _ => 0) (fun _ => none) 4) j := fun E j hj => by
  match j, hj with
  | 0, _ => rfl
  | 1, _ => rfl
  | k + 2, h => exact absurd h (by omega)
theorem fF_4_0 : FwF TX4 2 0 tyX4 RX4 := ⟨tyX4_ok, nmX4, rfl, rfl⟩
theorem wn_inst_6 : Cond.instantiable RX6 2 ∈ gt := gt_i 358 (by decide +kernel)
theorem wn_init_6 : Cond.initialized RX6 ∈ gt := gt_i 100 (by decide +kernel)
theorem wn_def_6 : ∀ E : Ev, ∀ j, j < 2 → defaultValue (tyX6 j) = vp_V (fvs E (fun _ => 0) (fun _ => none) 5) j := fun E j hj => by
  match j, hj with
  | 0, _ => rfl
  | 1, _ => rfl
  | k + 2, h => exact absurd h (by omega)
theorem fF_5_0 : FwF TX6 2 0 tyX6 RX6 := ⟨tyX6_ok, nmX6, rfl, rfl⟩
theorem wn_inst_8 : Cond.instantiable RX8 13 ∈ gt := gt_i 373 (by decide +kernel)
theorem wn_init_8 : Cond.initialized RX8 ∈ gt := gt_i 101 (by decide +kernel)
theorem wn_def_8 : ∀ E : Ev, ∀ j, j < 13 → defaultValue (tyX8 j) = vp_V (fvs E (fun _ => 0) (fun _ => none) 6) j := fun E j hj => by
  match j, hj with
  | 0, _ => rfl
  | 1, _ => rfl
  | 2, _ => rfl
  | 3, _ => rfl
  | 4, _ => rfl
  | 5, _ => rfl
  | 6, _ => rfl
  | 7, _ => rfl
  | 8, _ => rfl
  | 9, _ => rfl
  | 10, _ => rfl
  | 11, _ => rfl
  | 12, _ => rfl
  | k + 13, h => exact absurd h (by omega)
theorem fF_6_0 : FwF TX8 13 0 tyX8 RX8 := ⟨tyX8_ok, nmX8, rfl, rfl⟩
theorem fF_6_1 : FwF TX8 13 1 tyX8 RX8 := ⟨tyX8_ok, nmX8, rfl, rfl⟩
theorem fF_6_2 : FwF TX8 13 2 tyX8 RX8 := ⟨tyX8_ok, nmX8, rfl, rfl⟩
theorem fF_6_3 : FwF TX8 13 3 tyX8 RX8 := ⟨tyX8_ok, nmX8, rfl, rfl⟩
theorem fF_6_4 : FwF TX8 13 4 tyX8 RX8 := ⟨tyX8_ok, nmX8, rfl, rfl⟩
theorem fF_6_6 : FwF TX8 13 6 tyX8 RX8 := ⟨tyX8_ok, nmX8, rfl, rfl⟩
theorem fF_6_7 : FwF TX8 13 7 tyX8 RX8 := ⟨tyX8_ok, nmX8, rfl, rfl⟩
theorem fF_6_8 : FwF TX8 13 8 tyX8 RX8 := ⟨tyX8_ok, nmX8, rfl, rfl⟩
theorem fF_6_9 : FwF TX8 13 9 tyX8 RX8 := ⟨tyX8_ok, nmX8, rfl, rfl⟩
theorem wn_inst_9 : Cond.instantiable RX9 8 ∈ gt := gt_i 111 (by decide +kernel)
theorem wn_init_9 : Cond.initialized RX9 ∈ gt := gt_i 93 (by decide +kernel)
theorem wn_def_9 : ∀ E : Ev, ∀ j, j < 8 → defaultValue (tyX9 j) = vp_V (fvs E (fun _ => 0) (fun _ => none) 7) j := fun E j hj => by
  match j, hj with
  | 0, _ => rfl
  | 1, _ => rfl
  | 2, _ => rfl
  | 3, _ => rfl
  | 4, _ => rfl
  | 5, _ => rfl
  | 6, _ => rfl
  | 7, _ => rfl
  | k + 8, h => exact absurd h (by omega)
theorem fF_7_0 : FwF TX9 8 0 tyX9 RX9 := ⟨tyX9_ok, nmX9, rfl, rfl⟩
theorem fF_7_2 : FwF TX9 8 2 tyX9 RX9 := ⟨tyX9_ok, nmX9, rfl, rfl⟩
theorem fF_7_3 : FwF TX9 8 3 tyX9 RX9 := ⟨tyX9_ok, nmX9, rfl, rfl⟩
theorem fF_7_4 : FwF TX9 8 4 tyX9 RX9 := ⟨tyX9_ok, nmX9, rfl, rfl⟩
theorem fF_7_5 : FwF TX9 8 5 tyX9 RX9 := ⟨tyX9_ok, nmX9, rfl, rfl⟩
theorem fF_7_6 : FwF TX9 8 6 tyX9 RX9 := ⟨tyX9_ok, nmX9, rfl, rfl⟩
theorem fF_7_7 : FwF TX9 8 7 tyX9 RX9 := ⟨tyX9_ok, nmX9, rfl, rfl⟩
theorem wn_inst_10 : Cond.instantiable RX10 24 ∈ gt := gt_i 1099 (by decide +kernel)
theorem wn_init_10 : Cond.initialized RX10 ∈ gt := gt_i 102 (by decide +kernel)
theorem wn_def_10 : ∀ E : Ev, ∀ j, j < 24 → defaultValue (tyX10 j) = vp_V (fvs E (fun _ => 0) (fun _ => none) 8) j := fun E j hj => by
  match j, hj with
  | 0, _ => rfl
  | 1, _ => rfl
  | 2, _ => rfl
  | 3, _ => rfl
  | 4, _ => rfl
  | 5, _ => rfl
  | 6, _ => rfl
  | 7, _ => rfl
  | 8, _ => rfl
  | 9, _ => rfl
  | 10, _ => rfl
  | 11, _ => rfl
  | 12, _ => rfl
  | 13, _ => rfl
  | 14, _ => rfl
  | 15, _ => rfl
  | 16, _ => rfl
  | 17, _ => rfl
  | 18, _ => rfl
  | 19, _ => rfl
  | 20, _ => rfl
  | 21, _ => rfl
  | 22, _ => rfl
  | 23, _ => rfl
  | k + 24, h => exact absurd h (by omega)
theorem fF_8_1 : FwF TX10 24 1 tyX10 RX10 := ⟨tyX10_ok, nmX10, rfl, rfl⟩
theorem fF_8_2 : FwF TX10 24 2 tyX10 RX10 := ⟨tyX10_ok, nmX10, rfl, rfl⟩
theorem fF_8_3 : FwF TX10 24 3 tyX10 RX10 := ⟨tyX10_ok, nmX10, rfl, rfl⟩
theorem fF_8_5 : FwF TX10 24 5 tyX10 RX10 := ⟨tyX10_ok, nmX10, rfl, rfl⟩
theorem fF_8_14 : FwF TX10 24 14 tyX10 RX10 := ⟨tyX10_ok, nmX10, rfl, rfl⟩
theorem fF_8_15 : FwF TX10 24 15 tyX10 RX10 := ⟨tyX10_ok, nmX10, rfl, rfl⟩
theorem fF_8_16 : FwF TX10 24 16 tyX10 RX10 := ⟨tyX10_ok, nmX10, rfl, rfl⟩
theorem fF_8_17 : FwF TX10 24 17 tyX10 RX10 := ⟨tyX10_ok, nmX10, rfl, rfl⟩
theorem fF_8_19 : FwF TX10 24 19 tyX10 RX10 := ⟨tyX10_ok, nmX10, rfl, rfl⟩
theorem fF_8_20 : FwF TX10 24 20 tyX10 RX10 := ⟨tyX10_ok, nmX10, rfl, rfl⟩
theorem fF_8_21 : FwF TX10 24 21 tyX10 RX10 := ⟨tyX10_ok, nmX10, rfl, rfl⟩
theorem fF_8_22 : FwF TX10 24 22 tyX10 RX10 := ⟨tyX10_ok, nmX10, rfl, rfl⟩
theorem wn_cl_RX9_17 : Cond.classLink RX9 17 RX2 ∈ gt := gt_i 118 (by decide +kernel)
theorem wn_cl_RX9_27 : Cond.classLink RX9 27 RX0 ∈ gt := gt_i 312 (by decide +kernel)
theorem wn_cl_RX9_34 : Cond.classLink RX9 34 RX3 ∈ gt := gt_i 332 (by decide +kernel)
theorem wn_cl_RX9_41 : Cond.classLink RX9 41 RX6 ∈ gt := gt_i 357 (by decide +kernel)
theorem wn_cl_RX9_48 : Cond.classLink RX9 48 RX8 ∈ gt := gt_i 372 (by decide +kernel)
theorem wn_cl_RX0_9 : Cond.classLink RX0 9 RX2 ∈ gt := gt_i 318 (by decide +kernel)
theorem wn_cl_RX2_9 : Cond.classLink RX2 9 RX1 ∈ gt := gt_i 124 (by decide +kernel)
theorem wn_cl_RX2_31 : Cond.classLink RX2 31 RX4 ∈ gt := gt_i 225 (by decide +kernel)
theorem wn_cl_RX3_9 : Cond.classLink RX3 9 RX1 ∈ gt := gt_i 338 (by decide +kernel)
theorem wn_cl_RL_7 : Cond.classLink RL 7 RX9 ∈ gt := gt_i 110 (by decide +kernel)
theorem wn_cl_RL_10 : Cond.classLink RL 10 RX10 ∈ gt := gt_i 1098 (by decide +kernel)
theorem wn_ol_RX9_3 : Cond.methodLink RX9 3 objectInit ∈ gt := gt_i 115 (by decide +kernel)
theorem wn_ol_RX0_3 : Cond.methodLink RX0 3 objectInit ∈ gt := gt_i 317 (by decide +kernel)
theorem wn_ol_RX1_3 : Cond.methodLink RX1 3 objectInit ∈ gt := gt_i 129 (by decide +kernel)
theorem wn_ol_RX2_3 : Cond.methodLink RX2 3 objectInit ∈ gt := gt_i 123 (by decide +kernel)
theorem wn_ol_RX3_3 : Cond.methodLink RX3 3 objectInit ∈ gt := gt_i 337 (by decide +kernel)
theorem wn_ol_RX4_3 : Cond.methodLink RX4 3 objectInit ∈ gt := gt_i 230 (by decide +kernel)
theorem wn_ol_RX6_3 : Cond.methodLink RX6 3 objectInit ∈ gt := gt_i 362 (by decide +kernel)
theorem wn_ol_RX8_3 : Cond.methodLink RX8 3 objectInit ∈ gt := gt_i 377 (by decide +kernel)
theorem wn_ol_RX10_1 : Cond.methodLink RX10 1 objectInit ∈ gt := gt_i 1103 (by decide +kernel)
theorem cal_X1_init : Cal yX1_init cX1_init 1 none 0 := ⟨gt_i 128 (by decide +kernel), gt_i 95 (by decide +kernel), by decide +kernel, by decide +kernel, by decide +kernel⟩
theorem wn_im_X1_init : Cond.instanceMethod yX1_init ∈ gt := gt_i 127 (by decide +kernel)
theorem cal_X4_init : Cal yX4_init cX4_init 2 none 1 := ⟨gt_i 229 (by decide +kernel), gt_i 96 (by decide +kernel), by decide +kernel, by decide +kernel, by decide +kernel⟩
theorem wn_im_X4_init : Cond.instanceMethod yX4_init ∈ gt := gt_i 228 (by decide +kernel)
theorem cal_X2_init : Cal yX2_init cX2_init 1 none 0 := ⟨gt_i 122 (by decide +kernel), gt_i 94 (by decide +kernel), by decide +kernel, by decide +kernel, by decide +kernel⟩
theorem wn_im_X2_init : Cond.instanceMethod yX2_init ∈ gt := gt_i 121 (by decide +kernel)
theorem cal_X0_init : Cal yX0_init cX0_init 2 none 0 := ⟨gt_i 316 (by decide +kernel), gt_i 98 (by decide +kernel), by decide +kernel, by decide +kernel, by decide +kernel⟩
theorem wn_im_X0_init : Cond.instanceMethod yX0_init ∈ gt := gt_i 315 (by decide +kernel)
theorem cal_X3_init : Cal yX3_init cX3_init 1 none 0 := ⟨gt_i 336 (by decide +kernel), gt_i 99 (by decide +kernel), by decide +kernel, by decide +kernel, by decide +kernel⟩
theorem wn_im_X3_init : Cond.instanceMethod yX3_init ∈ gt := gt_i 335 (by decide +kernel)
theorem cal_X6_init : Cal yX6_init cX6_init 1 none 0 := ⟨gt_i 361 (by decide +kernel), gt_i 100 (by decide +kernel), by decide +kernel, by decide +kernel, by decide +kernel⟩
theorem wn_im_X6_init : Cond.instanceMethod yX6_init ∈ gt := gt_i 360 (by decide +kernel)
theorem cal_X8_init : Cal yX8_init cX8_init 1 none 0 := ⟨gt_i 376 (by decide +kernel), gt_i 101 (by decide +kernel), by decide +kernel, by decide +kernel, by decide +kernel⟩
theorem wn_im_X8_init : Cond.instanceMethod yX8_init ∈ gt := gt_i 375 (by decide +kernel)
theorem cal_X9_init : Cal yX9_init cX9_init 1 none 0 := ⟨gt_i 114 (by decide +kernel), gt_i 93 (by decide +kernel), by decide +kernel, by decide +kernel, by decide +kernel⟩
theorem wn_im_X9_init : Cond.instanceMethod yX9_init ∈ gt := gt_i 113 (by decide +kernel)
theorem cal_X10_init : Cal yX10_init cX10_init 1 none 0 := ⟨gt_i 1102 (by decide +kernel), gt_i 102 (by decide +kernel), by decide +kernel, by decide +kernel, by decide +kernel⟩
theorem wn_im_X10_init : Cond.instanceMethod yX10_init ∈ gt := gt_i 1101 (by decide +kernel)
theorem wn_lk_RX9_29 : Cond.methodLink RX9 29 yX0_init ∈ gt := gt_i 314 (by decide +kernel)
theorem wn_lk_RX2_33 : Cond.methodLink RX2 33 yX4_init ∈ gt := gt_i 227 (by decide +kernel)
theorem wn_lk_RL_9 : Cond.methodLink RL 9 yX9_init ∈ gt := gt_i 112 (by decide +kernel)
theorem wn_lk_RL_12 : Cond.methodLink RL 12 yX10_init ∈ gt := gt_i 1100 (by decide +kernel)
theorem wn_lk_RX9_19 : Cond.methodLinkNest RX9 19 yX2_init "SparesHouse" ∈ lw_tbl := List.mem_of_getElem? (i := 120) (by decide +kernel)
theorem wn_lk_RX9_36 : Cond.methodLinkNest RX9 36 yX3_init "SparesHouse" ∈ lw_tbl := List.mem_of_getElem? (i := 334) (by decide +kernel)
theorem wn_lk_RX9_43 : Cond.methodLinkNest RX9 43 yX6_init "SparesHouse" ∈ lw_tbl := List.mem_of_getElem? (i := 359) (by decide +kernel)
theorem wn_lk_RX9_50 : Cond.methodLinkNest RX9 50 yX8_init "SparesHouse" ∈ lw_tbl := List.mem_of_getElem? (i := 374) (by decide +kernel)
theorem wn_lk_RX0_24 : Cond.methodLinkNest RX0 24 yX2_init "SparesHouse" ∈ lw_tbl := List.mem_of_getElem? (i := 320) (by decide +kernel)
theorem wn_lk_RX2_11 : Cond.methodLinkNest RX2 11 yX1_init "SparesHouse" ∈ lw_tbl := List.mem_of_getElem? (i := 126) (by decide +kernel)
theorem wn_lk_RX3_11 : Cond.methodLinkNest RX3 11 yX1_init "SparesHouse" ∈ lw_tbl := List.mem_of_getElem? (i := 339) (by decide +kernel)
theorem play_48 : isPlay 48 := by unfold isPlay; decide +kernel
theorem play_70 : isPlay 70 := by unfold isPlay; decide +kernel
theorem play_92 : isPlay 92 := by unfold isPlay; decide +kernel
theorem play_114 : isPlay 114 := by unfold isPlay; decide +kernel
theorem play_136 : isPlay 136 := by unfold isPlay; decide +kernel
theorem play_158 : isPlay 158 := by unfold isPlay; decide +kernel
theorem play_180 : isPlay 180 := by unfold isPlay; decide +kernel
theorem play_202 : isPlay 202 := by unfold isPlay; decide +kernel
theorem play_224 : isPlay 224 := by unfold isPlay; decide +kernel
theorem play_246 : isPlay 246 := by unfold isPlay; decide +kernel
theorem play_268 : isPlay 268 := by unfold isPlay; decide +kernel
theorem play_290 : isPlay 290 := by unfold isPlay; decide +kernel
theorem sh_323 : sh 323 = .inr (2, 0) := by decide +kernel
theorem x_cs {E : Ev} {l : Launch} {rm : Room} {y : MethodName} {cc : ByteArray} {nL : Nat} {ret : Option FieldType} {Xt : Array Value → State → Prop} {Zf : List Frame → Array Value → State → State → Prop} {pc : Nat} {ls : List (Nat × Value)} {st : List Value} {n : Nat} {I : MI} {L : ML} {R : MR} {cl sl : Nat} (n' cl' sl' : Nat) (h0 : n = n') (h1 : cl = cl') (h2 : sl = sl') (h : X E l rm y cc nL ret Xt Zf pc ls st n' I L R cl' sl') : X E l rm y cc nL ret Xt Zf pc ls st n I L R cl sl := by
  subst h0; subst h1; subst h2; exact h
abbrev rm_X1_init : Room := { frames := 1, cells := 8, slots := 68, locals := 20 }
def wp_X1_init (p0 : Nat) (I : MI) (L : ML) (R : MR) (Q : MI → ML → MR → Prop) : Prop :=
    (∀ I1, I1 = u2 I p0 0 0 → (∀ I2, I2 = u2 I1 p0 1 0 → (∀ I3, I3 = u2 I2 p0 2 1 → (∀ I4, I4 = u2 I3 p0 3 0 → (∀ I5, I5 = u2 I4 p0 4 0 → (∀ I6 L7 R8, I6 = ur I5 (p0 + 1) (fun _ => 0) → L7 = ur L (p0 + 1) (fun _ => 0) → R8 = ur R (p0 + 1) (fun _ => none) → (∀ R9, R9 = u2 R8 p0 5 (some (p0 + 1)) → (∀ I10 L11 R12, I10 = ur I6 (p0 + 2) (fun _ => 0) → L11 = ur L7 (p0 + 2) (fun _ => 0) → R12 = ur R9 (p0 + 2) (fun _ => none) → (∀ R13, R13 = u2 R12 p0 6 (some (p0 + 2)) → (∀ I14 L15 R16, I14 = ur I10 (p0 + 3) (fun _ => 0) → L15 = ur L11 (p0 + 3) (fun _ => 0) → R16 = ur R13 (p0 + 3) (fun _ => none) → (∀ R17, R17 = u2 R16 p0 7 (some (p0 + 3)) → (∀ I18 L19 R20, I18 = ur I14 (p0 + 4) (fun _ => 0) → L19 = ur L15 (p0 + 4) (fun _ => 0) → R20 = ur R17 (p0 + 4) (fun _ => none) → (∀ R21, R21 = u2 R20 p0 8 (some (p0 + 4)) → (∀ I22 L23 R24, I22 = ur I18 (p0 + 5) (fun _ => 0) → L23 = ur L19 (p0 + 5) (fun _ => 0) → R24 = ur R21 (p0 + 5) (fun _ => none) → (∀ R25, R25 = u2 R24 p0 9 (some (p0 + 5)) → (∀ I26 L27 R28, I26 = ur I22 (p0 + 6) (fun _ => 0) → L27 = ur L23 (p0 + 6) (fun _ => 0) → R28 = ur R25 (p0 + 6) (fun _ => none) → (∀ R29, R29 = u2 R28 p0 10 (some (p0 + 6)) → (∀ I30 L31 R32, I30 = ur I26 (p0 + 7) (fun _ => 0) → L31 = ur L27 (p0 + 7) (fun _ => 0) → R32 = ur R29 (p0 + 7) (fun _ => none) → (∀ R33, R33 = u2 R32 p0 11 (some (p0 + 7)) → (∀ I34 L35 R36, I34 = ur I30 (p0 + 8) (fun _ => 0) → L35 = ur L31 (p0 + 8) (fun _ => 0) → R36 = ur R33 (p0 + 8) (fun _ => none) → (∀ R37, R37 = u2 R36 p0 12 (some (p0 + 8)) → Q I34 L35 R37)))))))))))))))))))))
set_option maxRecDepth 20000 in
theorem mt_X1_init {E : Ev} {l : Launch} {p0 : Nat} (hp0 : isPlan p0) {I : MI} {L : ML} {R : MR} {Q : MI → ML → MR → Prop} (h : wp_X1_init p0 I L R Q) : MX E l rm_X1_init yX1_init cX1_init 1 none [.ref p0] (p0 + 1) I L R (fun v n' I' L' R' => v = none ∧ n' = p0 + 9 ∧ Q I' L' R') := by
  refine MX_of (ls := [(0, .ref p0)]) (by decide) (Nat.le_of_ble_eq_true rfl) rfl ?_
  unfold wp_X1_init at h
  refine x_aload_n dX1_init_0 rfl ?_
  refine x_objInit dX1_init_1 wn_ol_RX1_3 wn_oi wn_oc ⟨Nat.le_of_ble_eq_true rfl, Nat.le_of_ble_eq_true rfl⟩ ?_
  refine x_aload_n dX1_init_4 rfl ?_
  refine x_iconst (v := 0) dX1_init_5 ki_0 ?_
  refine x_puti dX1_init_6 fk_RX1_9 fw_1_0 (vp_nar_int _) rfl (Nat.lt_add_of_pos_right (Nat.le_of_ble_eq_true rfl)) (Pn_s0 hp0) (fun I1 e1 => ?_)
  have h := h I1 e1
  refine x_aload_n dX1_init_9 rfl ?_
  refine x_iconst (v := 0) dX1_init_10 ki_0 ?_
  refine x_puti dX1_init_11 fk_RX1_15 fw_1_1 (vp_nar_int _) rfl (Nat.lt_add_of_pos_right (Nat.le_of_ble_eq_true rfl)) (Pn_s0 hp0) (fun I2 e1 => ?_)
  have h := h I2 e1
  refine x_aload_n dX1_init_14 rfl ?_
  refine x_iconst (v := 1) dX1_init_15 ki_1 ?_
  refine x_puti dX1_init_16 fk_RX1_18 fw_1_2 (vp_nar_int _) rfl (Nat.lt_add_of_pos_right (Nat.le_of_ble_eq_true rfl)) (Pn_s0 hp0) (fun I3 e1 => ?_)
  have h := h I3 e1
  refine x_aload_n dX1_init_19 rfl ?_
  refine x_iconst (v := 0) dX1_init_20 ki_0 ?_
  refine x_puti dX1_init_21 fk_RX1_21 fw_1_3 (vp_nar_int _) rfl (Nat.lt_add_of_pos_right (Nat.le_of_ble_eq_true rfl)) (Pn_s0 hp0) (fun I4 e1 => ?_)
  have h := h I4 e1
  refine x_aload_n dX1_init_24 rfl ?_
  refine x_iconst (v := 0) dX1_init_25 ki_0 ?_
  refine x_puti dX1_init_26 fk_RX1_24 fw_1_4 (vp_nar_int _) rfl (Nat.lt_add_of_pos_right (Nat.le_of_ble_eq_true rfl)) (Pn_s0 hp0) (fun I5 e1 => ?_)
  have h := h I5 e1
  refine x_aload_n dX1_init_29 rfl ?_
  refine x_iconst (v := 4) dX1_init_30 ki_4 ?_
  refine x_newi (N := 4) dX1_init_31 wn_int (Pn_s1 hp0) (Pn_k hp0 (n := 1000) (by decide) 1 rfl) (by decide) (by decide) (Nat.le_of_ble_eq_true rfl) (Nat.le_of_ble_eq_true rfl) (Nat.le_of_ble_eq_true rfl) (fun I6 L7 R8 e1 e2 e3 => ?_)
  have h := h I6 L7 R8 e1 e2 e3
  refine x_cs (p0 + 2) 1 4 rfl rfl rfl ?_
  refine x_putF dX1_init_33 fk_RX1_27 fF_1_5 rfl (fun _ => rfl) (fun _ => rfl) (Nat.lt_add_of_pos_right (Nat.le_of_ble_eq_true rfl)) (Pn_s0 hp0) (fun R9 e1 => ?_)
  have h := h R9 e1
  refine x_aload_n dX1_init_36 rfl ?_
  refine x_iconst (v := 4) dX1_init_37 ki_4 ?_
  refine x_newi (N := 4) dX1_init_38 wn_int (Pn_s2 hp0) (Pn_k hp0 (n := 1000) (by decide) 2 rfl) (by decide) (by decide) (Nat.le_of_ble_eq_true rfl) (Nat.le_of_ble_eq_true rfl) (Nat.le_of_ble_eq_true rfl) (fun I10 L11 R12 e1 e2 e3 => ?_)
  have h := h I10 L11 R12 e1 e2 e3
  refine x_cs (p0 + 3) 2 8 rfl rfl rfl ?_
  refine x_putF dX1_init_40 fk_RX1_31 fF_1_6 rfl (fun _ => rfl) (fun _ => rfl) (Nat.lt_add_of_pos_right (Nat.le_of_ble_eq_true rfl)) (Pn_s0 hp0) (fun R13 e1 => ?_)
  have h := h R13 e1
  refine x_aload_n dX1_init_43 rfl ?_
  refine x_iconst (v := 4) dX1_init_44 ki_4 ?_
  refine x_newi (N := 4) dX1_init_45 wn_int (Pn_s3 hp0) (Pn_k hp0 (n := 1000) (by decide) 3 rfl) (by decide) (by decide) (Nat.le_of_ble_eq_true rfl) (Nat.le_of_ble_eq_true rfl) (Nat.le_of_ble_eq_true rfl) (fun I14 L15 R16 e1 e2 e3 => ?_)
  have h := h I14 L15 R16 e1 e2 e3
  refine x_cs (p0 + 4) 3 12 rfl rfl rfl ?_
  refine x_putF dX1_init_47 fk_RX1_34 fF_1_7 rfl (fun _ => rfl) (fun _ => rfl) (Nat.lt_add_of_pos_right (Nat.le_of_ble_eq_true rfl)) (Pn_s0 hp0) (fun R17 e1 => ?_)
  have h := h R17 e1
  refine x_aload_n dX1_init_50 rfl ?_
  refine x_iconst (v := 4) dX1_init_51 ki_4 ?_
  refine x_newi (N := 4) dX1_init_52 wn_int (Pn_s4 hp0) (Pn_k hp0 (n := 1000) (by decide) 4 rfl) (by decide) (by decide) (Nat.le_of_ble_eq_true rfl) (Nat.le_of_ble_eq_true rfl) (Nat.le_of_ble_eq_true rfl) (fun I18 L19 R20 e1 e2 e3 => ?_)
  have h := h I18 L19 R20 e1 e2 e3
  refine x_cs (p0 + 5) 4 16 rfl rfl rfl ?_
  refine x_putF dX1_init_54 fk_RX1_37 fF_1_8 rfl (fun _ => rfl) (fun _ => rfl) (Nat.lt_add_of_pos_right (Nat.le_of_ble_eq_true rfl)) (Pn_s0 hp0) (fun R21 e1 => ?_)
  have h := h R21 e1
  refine x_aload_n dX1_init_57 rfl ?_
  refine x_iconst (v := 4) dX1_init_58 ki_4 ?_
  refine x_newi (N := 4) dX1_init_59 wn_int (Pn_s5 hp0) (Pn_k hp0 (n := 1000) (by decide) 5 rfl) (by decide) (by decide) (Nat.le_of_ble_eq_true rfl) (Nat.le_of_ble_eq_true rfl) (Nat.le_of_ble_eq_true rfl) (fun I22 L23 R24 e1 e2 e3 => ?_)
  have h := h I22 L23 R24 e1 e2 e3
  refine x_cs (p0 + 6) 5 20 rfl rfl rfl ?_
  refine x_putF dX1_init_61 fk_RX1_40 fF_1_9 rfl (fun _ => rfl) (fun _ => rfl) (Nat.lt_add_of_pos_right (Nat.le_of_ble_eq_true rfl)) (Pn_s0 hp0) (fun R25 e1 => ?_)
  have h := h R25 e1
  refine x_aload_n dX1_init_64 rfl ?_
  refine x_bipush (v := 16) dX1_init_65 kb_16 ?_
  refine x_newi (N := 16) dX1_init_67 wn_int (Pn_s6 hp0) (Pn_k hp0 (n := 1000) (by decide) 6 rfl) (by decide) (by decide) (Nat.le_of_ble_eq_true rfl) (Nat.le_of_ble_eq_true rfl) (Nat.le_of_ble_eq_true rfl) (fun I26 L27 R28 e1 e2 e3 => ?_)
  have h := h I26 L27 R28 e1 e2 e3
  refine x_cs (p0 + 7) 6 36 rfl rfl rfl ?_
  refine x_putF dX1_init_69 fk_RX1_43 fF_1_10 rfl (fun _ => rfl) (fun _ => rfl) (Nat.lt_add_of_pos_right (Nat.le_of_ble_eq_true rfl)) (Pn_s0 hp0) (fun R29 e1 => ?_)
  have h := h R29 e1
  refine x_aload_n dX1_init_72 rfl ?_
  refine x_bipush (v := 16) dX1_init_73 kb_16 ?_
  refine x_newi (N := 16) dX1_init_75 wn_int (Pn_s7 hp0) (Pn_k hp0 (n := 1000) (by decide) 7 rfl) (by decide) (by decide) (Nat.le_of_ble_eq_true rfl) (Nat.le_of_ble_eq_true rfl) (Nat.le_of_ble_eq_true rfl) (fun I30 L31 R32 e1 e2 e3 => ?_)
  have h := h I30 L31 R32 e1 e2 e3
  refine x_cs (p0 + 8) 7 52 rfl rfl rfl ?_
  refine x_putF dX1_init_77 fk_RX1_46 fF_1_11 rfl (fun _ => rfl) (fun _ => rfl) (Nat.lt_add_of_pos_right (Nat.le_of_ble_eq_true rfl)) (Pn_s0 hp0) (fun R33 e1 => ?_)
  have h := h R33 e1
  refine x_aload_n dX1_init_80 rfl ?_
  refine x_bipush (v := 16) dX1_init_81 kb_16 ?_
  refine x_newi (N := 16) dX1_init_83 wn_int (Pn_s8 hp0) (Pn_k hp0 (n := 1000) (by decide) 8 rfl) (by decide) (by decide) (Nat.le_of_ble_eq_true rfl) (Nat.le_of_ble_eq_true rfl) (Nat.le_of_ble_eq_true rfl) (fun I34 L35 R36 e1 e2 e3 => ?_)
  have h := h I34 L35 R36 e1 e2 e3
  refine x_cs (p0 + 9) 8 68 rfl rfl rfl ?_
  refine x_putF dX1_init_85 fk_RX1_49 fF_1_12 rfl (fun _ => rfl) (fun _ => rfl) (Nat.lt_add_of_pos_right (Nat.le_of_ble_eq_true rfl)) (Pn_s0 hp0) (fun R37 e1 => ?_)
  have h := h R37 e1
  exact x_return dX1_init_88 ⟨rfl, rfl, h⟩
abbrev rm_X4_init (N0 : Nat) : Room := { frames := 1, cells := 1, slots := N0, locals := 21 }
def wp_X4_init (r0 N0 : Nat) (I : MI) (L : ML) (R : MR) (v1 : Int32) (Q : MI → ML → MR → Prop) : Prop :=
    (∀ I1, I1 = u2 I r0 1 0 → (¬ (if v1 < 0 then 0 else v1) < 0 ∧ (((if v1 < 0 then 0 else v1)).toNatClampNeg = N0 ∧ (N0 * 8 ≤ 536870912 ∧ (∀ I2 L3 R4, I2 = ur I1 (r0 + 1) (fun _ => 0) → L3 = ur L (r0 + 1) (fun _ => 0) → R4 = ur R (r0 + 1) (fun _ => none) → (∀ R8, R8 = u2 R4 r0 0 (some (r0 + 1)) → Q I2 L3 R8))))))
set_option maxRecDepth 20000 in
theorem mt_X4_init {E : Ev} {l : Launch} {r0 N0 : Nat} (hr0 : isRow r0 N0) {I : MI} {L : ML} {R : MR} {v1 : Int32} {Q : MI → ML → MR → Prop} (h : wp_X4_init r0 N0 I L R v1 Q) : MX E l (rm_X4_init N0) yX4_init cX4_init 2 none [.ref r0, .int v1] (r0 + 1) I L R (fun v n' I' L' R' => v = none ∧ n' = r0 + 2 ∧ Q I' L' R') := by
  refine MX_of (ls := [(0, .ref r0), (1, .int v1)]) (by decide) (Nat.le_of_ble_eq_true rfl) rfl ?_
  unfold wp_X4_init at h
  refine x_aload_n dX4_init_0 rfl ?_
  refine x_objInit dX4_init_1 wn_ol_RX4_3 wn_oi wn_oc ⟨Nat.le_of_ble_eq_true rfl, Nat.le_of_ble_eq_true rfl⟩ ?_
  refine x_aload_n dX4_init_4 rfl ?_
  refine x_iconst (v := 0) dX4_init_5 ki_0 ?_
  refine x_puti dX4_init_6 fk_RX4_9 fw_4_1 (vp_nar_int _) rfl (Nat.lt_add_of_pos_right (Nat.le_of_ble_eq_true rfl)) (Rw_s0 hr0) (fun I1 e1 => ?_)
  have h := h I1 e1
  refine x_aload_n dX4_init_9 rfl ?_
  refine x_iload_n dX4_init_10 rfl ?_
  refine x_iconst (v := 0) dX4_init_11 ki_0 ?_
  refine x_mmax dX4_init_12 lk_RX4_15 ⟨Nat.le_of_ble_eq_true rfl, Nat.le_of_ble_eq_true rfl, Nat.zero_le _, Nat.zero_le _⟩ ?_
  obtain ⟨b5, b6, b7, h⟩ := h
  refine x_newl (N := N0) dX4_init_15 wn_long (Rw_s1 hr0) (Rw_k hr0 (n := 1000) (by decide) 1 rfl) b5 b6 b7 (Nat.le_of_ble_eq_true rfl) (Nat.le_of_eq (Nat.zero_add _)) (fun I2 L3 R4 e1 e2 e3 => ?_)
  have h := h I2 L3 R4 e1 e2 e3
  refine x_cs (r0 + 2) 1 N0 rfl rfl (Nat.zero_add _) ?_
  refine x_putF dX4_init_17 fk_RX4_21 fF_4_0 rfl (fun _ => rfl) (fun _ => rfl) (Nat.lt_add_of_pos_right (Nat.le_of_ble_eq_true rfl)) (Rw_s0 hr0) (fun R8 e1 => ?_)
  have h := h R8 e1
  exact x_return dX4_init_20 ⟨rfl, rfl, h⟩
abbrev rm_X2_init : Room := { frames := 2, cells := 21, slots := 765, locals := 42 }
def wp_X2_init (o0 : Nat) (I : MI) (L : ML) (R : MR) (Q : MI → ML → MR → Prop) : Prop :=
    (∀ I1 L2 R3, I1 = ur I (o0 + 1) (fun _ => 0) → L2 = ur L (o0 + 1) (fun _ => 0) → R3 = ur R (o0 + 1) (fun _ => none) → (wp_X1_init (o0 + 1) I1 L2 R3 (fun I4 L5 R6 => ((∀ R7, R7 = u2 R6 o0 0 (some (o0 + 1)) → (∀ I8 L9 R10, I8 = ur I4 (o0 + 10) (fun _ => 0) → L9 = ur L5 (o0 + 10) (fun _ => 0) → R10 = ur R7 (o0 + 10) (fun _ => none) → (∀ R11, R11 = u2 R10 o0 1 (some (o0 + 10)) → (∀ I12 L13 R14, I12 = ur I8 (o0 + 11) (fun _ => 0) → L13 = ur L9 (o0 + 11) (fun _ => 0) → R14 = ur R11 (o0 + 11) (fun _ => none) → (∀ R15, R15 = u2 R14 o0 2 (some (o0 + 11)) → (∀ I16 L17 R18, I16 = ur I12 (o0 + 12) (fun _ => 0) → L17 = ur L13 (o0 + 12) (fun _ => 0) → R18 = ur R15 (o0 + 12) (fun _ => none) → (∀ R19, R19 = u2 R18 o0 3 (some (o0 + 12)) → (∀ I20 L21 R22, I20 = ur I16 (o0 + 13) (fun _ => 0) → L21 = ur L17 (o0 + 13) (fun _ => 0) → R22 = ur R19 (o0 + 13) (fun _ => none) → (∀ R23, R23 = u2 R22 o0 4 (some (o0 + 13)) → (∀ I24 L25 R26, I24 = ur I20 (o0 + 14) (fun _ => 0) → L25 = ur L21 (o0 + 14) (fun _ => 0) → R26 = ur R23 (o0 + 14) (fun _ => none) → (wp_X4_init (o0 + 14) 184 I24 L25 R26 184 (fun I27 L28 R29 => ((∀ R30, R30 = u2 R29 o0 5 (some (o0 + 14)) → (∀ I31 L32 R33, I31 = ur I27 (o0 + 16) (fun _ => 0) → L32 = ur L28 (o0 + 16) (fun _ => 0) → R33 = ur R30 (o0 + 16) (fun _ => none) → (wp_X4_init (o0 + 16) 72 I31 L32 R33 72 (fun I34 L35 R36 => ((∀ R37, R37 = u2 R36 o0 6 (some (o0 + 16)) → (∀ I38 L39 R40, I38 = ur I34 (o0 + 18) (fun _ => 0) → L39 = ur L35 (o0 + 18) (fun _ => 0) → R40 = ur R37 (o0 + 18) (fun _ => none) → (wp_X4_init (o0 + 18) 184 I38 L39 R40 184 (fun I41 L42 R43 => ((∀ R44, R44 = u2 R43 o0 7 (some (o0 + 18)) → (∀ I45 L46 R47, I45 = ur I41 (o0 + 20) (fun _ => 0) → L46 = ur L42 (o0 + 20) (fun _ => 0) → R47 = ur R44 (o0 + 20) (fun _ => none) → (wp_X4_init (o0 + 20) 184 I45 L46 R47 184 (fun I48 L49 R50 => ((∀ R51, R51 = u2 R50 o0 8 (some (o0 + 20)) → (∀ I52, I52 = u2 I48 o0 9 0 → (∀ I53, I53 = u2 I52 o0 10 0 → (∀ I54, I54 = u2 I53 o0 11 0 → (∀ I55, I55 = u2 I54 o0 12 0 → (∀ I56, I56 = u2 I55 o0 13 0 → (∀ I57, I57 = u2 I56 o0 14 0 → (∀ I58, I58 = u2 I57 o0 15 0 → (∀ I59, I59 = u2 I58 o0 16 0 → (∀ I60, I60 = u2 I59 o0 17 0 → (∀ I61, I61 = u2 I60 o0 18 0 → Q I61 L49 R51)))))))))))))))))))))))))))))))))))))))))))
set_option maxRecDepth 20000 in
theorem mt_X2_init {E : Ev} {l : Launch} {o0 : Nat} (ho0 : isPlay o0) {I : MI} {L : ML} {R : MR} {Q : MI → ML → MR → Prop} (h : wp_X2_init o0 I L R Q) : MX E l rm_X2_init yX2_init cX2_init 1 none [.ref o0] (o0 + 1) I L R (fun v n' I' L' R' => v = none ∧ n' = o0 + 22 ∧ Q I' L' R') := by
  refine MX_of (ls := [(0, .ref o0)]) (by decide) (Nat.le_of_ble_eq_true rfl) rfl ?_
  unfold wp_X2_init at h
  refine x_aload_n dX2_init_0 rfl ?_
  refine x_objInit dX2_init_1 wn_ol_RX2_3 wn_oi wn_oc ⟨Nat.le_of_ble_eq_true rfl, Nat.le_of_ble_eq_true rfl⟩ ?_
  refine x_aload_n dX2_init_4 rfl ?_
  refine x_new dX2_init_5 wn_cl_RX2_9 wn_inst_1 wn_init_1 fkw_1 rfl tyX1_ok (Pn_s0 (Py_plan ho0)) (Py_k ho0 (n := 1000) (by decide) 1 rfl) (Nat.le_of_ble_eq_true rfl) (Nat.le_of_ble_eq_true rfl) wn_def_1 (fun I1 L2 R3 e1 e2 e3 => ?_)
  have h := h I1 L2 R3 e1 e2 e3
  refine x_cs (o0 + 2) 1 13 rfl rfl rfl ?_
  refine x_dup dX2_init_8 rfl ?_
  refine x_callIN [] (mt_X1_init (Py_plan ho0) h) dX2_init_9 wn_lk_RX2_11 cal_X1_init wn_im_X1_init rfl rfl rfl (Nat.le_of_ble_eq_true rfl) ⟨⟨Nat.le_of_ble_eq_true rfl, Nat.le_of_ble_eq_true rfl⟩, Nat.le_of_ble_eq_true rfl, Nat.le_of_ble_eq_true rfl⟩ (fun v n' I4 L5 R6 hq => ?_)
  obtain ⟨rfl, rfl, h⟩ := hq
  refine x_cs (o0 + 10) 9 81 rfl rfl rfl ?_
  refine x_putF dX2_init_12 fk_RX2_12 fF_2_0 rfl (fun _ => rfl) (fun _ => rfl) (Nat.lt_add_of_pos_right (Nat.le_of_ble_eq_true rfl)) (Py_s0 ho0) (fun R7 e1 => ?_)
  have h := h R7 e1
  refine x_aload_n dX2_init_15 rfl ?_
  refine x_bipush (v := 16) dX2_init_16 kb_16 ?_
  refine x_newi (N := 16) dX2_init_18 wn_int (Py_s10 ho0) (Py_k ho0 (n := 1000) (by decide) 10 rfl) (by decide) (by decide) (Nat.le_of_ble_eq_true rfl) (Nat.le_of_ble_eq_true rfl) (Nat.le_of_ble_eq_true rfl) (fun I8 L9 R10 e1 e2 e3 => ?_)
  have h := h I8 L9 R10 e1 e2 e3
  refine x_cs (o0 + 11) 10 97 rfl rfl rfl ?_
  refine x_putF dX2_init_20 fk_RX2_18 fF_2_1 rfl (fun _ => rfl) (fun _ => rfl) (Nat.lt_add_of_pos_right (Nat.le_of_ble_eq_true rfl)) (Py_s0 ho0) (fun R11 e1 => ?_)
  have h := h R11 e1
  refine x_aload_n dX2_init_23 rfl ?_
  refine x_bipush (v := 16) dX2_init_24 kb_16 ?_
  refine x_newi (N := 16) dX2_init_26 wn_int (Py_s11 ho0) (Py_k ho0 (n := 1000) (by decide) 11 rfl) (by decide) (by decide) (Nat.le_of_ble_eq_true rfl) (Nat.le_of_ble_eq_true rfl) (Nat.le_of_ble_eq_true rfl) (fun I12 L13 R14 e1 e2 e3 => ?_)
  have h := h I12 L13 R14 e1 e2 e3
  refine x_cs (o0 + 12) 11 113 rfl rfl rfl ?_
  refine x_putF dX2_init_28 fk_RX2_22 fF_2_2 rfl (fun _ => rfl) (fun _ => rfl) (Nat.lt_add_of_pos_right (Nat.le_of_ble_eq_true rfl)) (Py_s0 ho0) (fun R15 e1 => ?_)
  have h := h R15 e1
  refine x_aload_n dX2_init_31 rfl ?_
  refine x_bipush (v := 16) dX2_init_32 kb_16 ?_
  refine x_newi (N := 16) dX2_init_34 wn_int (Py_s12 ho0) (Py_k ho0 (n := 1000) (by decide) 12 rfl) (by decide) (by decide) (Nat.le_of_ble_eq_true rfl) (Nat.le_of_ble_eq_true rfl) (Nat.le_of_ble_eq_true rfl) (fun I16 L17 R18 e1 e2 e3 => ?_)
  have h := h I16 L17 R18 e1 e2 e3
  refine x_cs (o0 + 13) 12 129 rfl rfl rfl ?_
  refine x_putF dX2_init_36 fk_RX2_25 fF_2_3 rfl (fun _ => rfl) (fun _ => rfl) (Nat.lt_add_of_pos_right (Nat.le_of_ble_eq_true rfl)) (Py_s0 ho0) (fun R19 e1 => ?_)
  have h := h R19 e1
  refine x_aload_n dX2_init_39 rfl ?_
  refine x_iconst (v := 4) dX2_init_40 ki_4 ?_
  refine x_newi (N := 4) dX2_init_41 wn_int (Py_s13 ho0) (Py_k ho0 (n := 1000) (by decide) 13 rfl) (by decide) (by decide) (Nat.le_of_ble_eq_true rfl) (Nat.le_of_ble_eq_true rfl) (Nat.le_of_ble_eq_true rfl) (fun I20 L21 R22 e1 e2 e3 => ?_)
  have h := h I20 L21 R22 e1 e2 e3
  refine x_cs (o0 + 14) 13 133 rfl rfl rfl ?_
  refine x_putF dX2_init_43 fk_RX2_28 fF_2_4 rfl (fun _ => rfl) (fun _ => rfl) (Nat.lt_add_of_pos_right (Nat.le_of_ble_eq_true rfl)) (Py_s0 ho0) (fun R23 e1 => ?_)
  have h := h R23 e1
  refine x_aload_n dX2_init_46 rfl ?_
  refine x_new dX2_init_47 wn_cl_RX2_31 wn_inst_4 wn_init_4 fkw_4 rfl tyX4_ok (Rw_s0 (Py_ways ho0)) (Py_k ho0 (n := 1000) (by decide) 14 rfl) (Nat.le_of_ble_eq_true rfl) (Nat.le_of_ble_eq_true rfl) wn_def_4 (fun I24 L25 R26 e1 e2 e3 => ?_)
  have h := h I24 L25 R26 e1 e2 e3
  refine x_cs (o0 + 15) 14 135 rfl rfl rfl ?_
  refine x_dup dX2_init_50 rfl ?_
  refine x_sipush (v := 184) dX2_init_51 ks_184 ?_
  refine x_callI [.int 184] (mt_X4_init (Py_ways ho0) h) dX2_init_54 wn_lk_RX2_33 cal_X4_init wn_im_X4_init rfl rfl rfl (Nat.le_of_ble_eq_true rfl) ⟨⟨Nat.le_of_ble_eq_true rfl, Nat.le_of_ble_eq_true rfl⟩, Nat.le_of_ble_eq_true rfl, Nat.le_of_ble_eq_true rfl⟩ (fun v n' I27 L28 R29 hq => ?_)
  obtain ⟨rfl, rfl, h⟩ := hq
  refine x_cs (o0 + 16) 15 319 rfl rfl rfl ?_
  refine x_putF dX2_init_57 fk_RX2_36 fF_2_5 rfl (fun _ => rfl) (fun _ => rfl) (Nat.lt_add_of_pos_right (Nat.le_of_ble_eq_true rfl)) (Py_s0 ho0) (fun R30 e1 => ?_)
  have h := h R30 e1
  refine x_aload_n dX2_init_60 rfl ?_
  refine x_new dX2_init_61 wn_cl_RX2_31 wn_inst_4 wn_init_4 fkw_4 rfl tyX4_ok (Rw_s0 (Py_wants ho0)) (Py_k ho0 (n := 1000) (by decide) 16 rfl) (Nat.le_of_ble_eq_true rfl) (Nat.le_of_ble_eq_true rfl) wn_def_4 (fun I31 L32 R33 e1 e2 e3 => ?_)
  have h := h I31 L32 R33 e1 e2 e3
  refine x_cs (o0 + 17) 16 321 rfl rfl rfl ?_
  refine x_dup dX2_init_64 rfl ?_
  refine x_bipush (v := 72) dX2_init_65 kb_72 ?_
  refine x_callI [.int 72] (mt_X4_init (Py_wants ho0) h) dX2_init_67 wn_lk_RX2_33 cal_X4_init wn_im_X4_init rfl rfl rfl (Nat.le_of_ble_eq_true rfl) ⟨⟨Nat.le_of_ble_eq_true rfl, Nat.le_of_ble_eq_true rfl⟩, Nat.le_of_ble_eq_true rfl, Nat.le_of_ble_eq_true rfl⟩ (fun v n' I34 L35 R36 hq => ?_)
  obtain ⟨rfl, rfl, h⟩ := hq
  refine x_cs (o0 + 18) 17 393 rfl rfl rfl ?_
  refine x_putF dX2_init_70 fk_RX2_40 fF_2_6 rfl (fun _ => rfl) (fun _ => rfl) (Nat.lt_add_of_pos_right (Nat.le_of_ble_eq_true rfl)) (Py_s0 ho0) (fun R37 e1 => ?_)
  have h := h R37 e1
  refine x_aload_n dX2_init_73 rfl ?_
  refine x_new dX2_init_74 wn_cl_RX2_31 wn_inst_4 wn_init_4 fkw_4 rfl tyX4_ok (Rw_s0 (Py_calls ho0)) (Py_k ho0 (n := 1000) (by decide) 18 rfl) (Nat.le_of_ble_eq_true rfl) (Nat.le_of_ble_eq_true rfl) wn_def_4 (fun I38 L39 R40 e1 e2 e3 => ?_)
  have h := h I38 L39 R40 e1 e2 e3
  refine x_cs (o0 + 19) 18 395 rfl rfl rfl ?_
  refine x_dup dX2_init_77 rfl ?_
  refine x_sipush (v := 184) dX2_init_78 ks_184 ?_
  refine x_callI [.int 184] (mt_X4_init (Py_calls ho0) h) dX2_init_81 wn_lk_RX2_33 cal_X4_init wn_im_X4_init rfl rfl rfl (Nat.le_of_ble_eq_true rfl) ⟨⟨Nat.le_of_ble_eq_true rfl, Nat.le_of_ble_eq_true rfl⟩, Nat.le_of_ble_eq_true rfl, Nat.le_of_ble_eq_true rfl⟩ (fun v n' I41 L42 R43 hq => ?_)
  obtain ⟨rfl, rfl, h⟩ := hq
  refine x_cs (o0 + 20) 19 579 rfl rfl rfl ?_
  refine x_putF dX2_init_84 fk_RX2_43 fF_2_7 rfl (fun _ => rfl) (fun _ => rfl) (Nat.lt_add_of_pos_right (Nat.le_of_ble_eq_true rfl)) (Py_s0 ho0) (fun R44 e1 => ?_)
  have h := h R44 e1
  refine x_aload_n dX2_init_87 rfl ?_
  refine x_new dX2_init_88 wn_cl_RX2_31 wn_inst_4 wn_init_4 fkw_4 rfl tyX4_ok (Rw_s0 (Py_waiting ho0)) (Py_k ho0 (n := 1000) (by decide) 20 rfl) (Nat.le_of_ble_eq_true rfl) (Nat.le_of_ble_eq_true rfl) wn_def_4 (fun I45 L46 R47 e1 e2 e3 => ?_)
  have h := h I45 L46 R47 e1 e2 e3
  refine x_cs (o0 + 21) 20 581 rfl rfl rfl ?_
  refine x_dup dX2_init_91 rfl ?_
  refine x_sipush (v := 184) dX2_init_92 ks_184 ?_
  refine x_callI [.int 184] (mt_X4_init (Py_waiting ho0) h) dX2_init_95 wn_lk_RX2_33 cal_X4_init wn_im_X4_init rfl rfl rfl (Nat.le_of_ble_eq_true rfl) ⟨⟨Nat.le_of_ble_eq_true rfl, Nat.le_of_ble_eq_true rfl⟩, Nat.le_of_ble_eq_true rfl, Nat.le_of_ble_eq_true rfl⟩ (fun v n' I48 L49 R50 hq => ?_)
  obtain ⟨rfl, rfl, h⟩ := hq
  refine x_cs (o0 + 22) 21 765 rfl rfl rfl ?_
  refine x_putF dX2_init_98 fk_RX2_46 fF_2_8 rfl (fun _ => rfl) (fun _ => rfl) (Nat.lt_add_of_pos_right (Nat.le_of_ble_eq_true rfl)) (Py_s0 ho0) (fun R51 e1 => ?_)
  have h := h R51 e1
  refine x_aload_n dX2_init_101 rfl ?_
  refine x_iconst (v := 0) dX2_init_102 ki_0 ?_
  refine x_puti dX2_init_103 fk_RX2_49 fw_2_9 (vp_nar_int _) rfl (Nat.lt_add_of_pos_right (Nat.le_of_ble_eq_true rfl)) (Py_s0 ho0) (fun I52 e1 => ?_)
  have h := h I52 e1
  refine x_aload_n dX2_init_106 rfl ?_
  refine x_iconst (v := 0) dX2_init_107 ki_0 ?_
  refine x_puti dX2_init_108 fk_RX2_53 fw_2_10 (vp_nar_int _) rfl (Nat.lt_add_of_pos_right (Nat.le_of_ble_eq_true rfl)) (Py_s0 ho0) (fun I53 e1 => ?_)
  have h := h I53 e1
  refine x_aload_n dX2_init_111 rfl ?_
  refine x_iconst (v := 0) dX2_init_112 ki_0 ?_
  refine x_puti dX2_init_113 fk_RX2_56 fw_2_11 (vp_nar_int _) rfl (Nat.lt_add_of_pos_right (Nat.le_of_ble_eq_true rfl)) (Py_s0 ho0) (fun I54 e1 => ?_)
  have h := h I54 e1
  refine x_aload_n dX2_init_116 rfl ?_
  refine x_iconst (v := 0) dX2_init_117 ki_0 ?_
  refine x_puti dX2_init_118 fk_RX2_59 fw_2_12 (vp_nar_int _) rfl (Nat.lt_add_of_pos_right (Nat.le_of_ble_eq_true rfl)) (Py_s0 ho0) (fun I55 e1 => ?_)
  have h := h I55 e1
  refine x_aload_n dX2_init_121 rfl ?_
  refine x_iconst (v := 0) dX2_init_122 ki_0 ?_
  refine x_puti dX2_init_123 fk_RX2_62 fw_2_13 (vp_nar_int _) rfl (Nat.lt_add_of_pos_right (Nat.le_of_ble_eq_true rfl)) (Py_s0 ho0) (fun I56 e1 => ?_)
  have h := h I56 e1
  refine x_aload_n dX2_init_126 rfl ?_
  refine x_iconst (v := 0) dX2_init_127 ki_0 ?_
  refine x_puti dX2_init_128 fk_RX2_65 fw_2_14 (vp_nar_int _) rfl (Nat.lt_add_of_pos_right (Nat.le_of_ble_eq_true rfl)) (Py_s0 ho0) (fun I57 e1 => ?_)
  have h := h I57 e1
  refine x_aload_n dX2_init_131 rfl ?_
  refine x_iconst (v := 0) dX2_init_132 ki_0 ?_
  refine x_puti dX2_init_133 fk_RX2_68 fw_2_15 (vp_nar_int _) rfl (Nat.lt_add_of_pos_right (Nat.le_of_ble_eq_true rfl)) (Py_s0 ho0) (fun I58 e1 => ?_)
  have h := h I58 e1
  refine x_aload_n dX2_init_136 rfl ?_
  refine x_iconst (v := 0) dX2_init_137 ki_0 ?_
  refine x_puti dX2_init_138 fk_RX2_71 fw_2_16 (vp_nar_int _) rfl (Nat.lt_add_of_pos_right (Nat.le_of_ble_eq_true rfl)) (Py_s0 ho0) (fun I59 e1 => ?_)
  have h := h I59 e1
  refine x_aload_n dX2_init_141 rfl ?_
  refine x_iconst (v := 0) dX2_init_142 ki_0 ?_
  refine x_puti dX2_init_143 fk_RX2_74 fw_2_17 (vp_nar_int _) rfl (Nat.lt_add_of_pos_right (Nat.le_of_ble_eq_true rfl)) (Py_s0 ho0) (fun I60 e1 => ?_)
  have h := h I60 e1
  refine x_aload_n dX2_init_146 rfl ?_
  refine x_iconst (v := 0) dX2_init_147 ki_0 ?_
  refine x_puti dX2_init_148 fk_RX2_77 fw_2_18 (vp_nar_int _) rfl (Nat.lt_add_of_pos_right (Nat.le_of_ble_eq_true rfl)) (Py_s0 ho0) (fun I61 e1 => ?_)
  have h := h I61 e1
  exact x_return dX2_init_151 ⟨rfl, rfl, h⟩
abbrev rm_X0_init : Room := { frames := 3, cells := 265, slots := 9420, locals := 62 }
def wp_X0_init (I : MI) (L : ML) (R : MR) (Q : MI → ML → MR → Prop) : Prop :=
    (∀ I1 L2 R3, I1 = ur I 47 (fun _ => 0) → L2 = ur L 47 (fun _ => 0) → R3 = ur R 47 (fun _ => none) → (∀ R4, R4 = u2 R3 46 0 (some 47) → (∀ I5, I5 = u2 I1 46 1 0 → (∀ I6, I6 = u2 I5 46 2 0 → (R4 46 0 = some 47 ∧ (∀ I8 L9 R10, I8 = ur I6 48 (fun _ => 0) → L9 = ur L2 48 (fun _ => 0) → R10 = ur R4 48 (fun _ => none) → (wp_X2_init 48 I8 L9 R10 (fun I11 L12 R13 => ((∀ R14, R14 = u2 R13 47 (ix 0) (some 48) → (R14 46 0 = some 47 ∧ (∀ I16 L17 R18, I16 = ur I11 70 (fun _ => 0) → L17 = ur L12 70 (fun _ => 0) → R18 = ur R14 70 (fun _ => none) → (wp_X2_init 70 I16 L17 R18 (fun I19 L20 R21 => ((∀ R22, R22 = u2 R21 47 (ix 1) (some 70) → (R22 46 0 = some 47 ∧ (∀ I24 L25 R26, I24 = ur I19 92 (fun _ => 0) → L25 = ur L20 92 (fun _ => 0) → R26 = ur R22 92 (fun _ => none) → (wp_X2_init 92 I24 L25 R26 (fun I27 L28 R29 => ((∀ R30, R30 = u2 R29 47 (ix 2) (some 92) → (R30 46 0 = some 47 ∧ (∀ I32 L33 R34, I32 = ur I27 114 (fun _ => 0) → L33 = ur L28 114 (fun _ => 0) → R34 = ur R30 114 (fun _ => none) → (wp_X2_init 114 I32 L33 R34 (fun I35 L36 R37 => ((∀ R38, R38 = u2 R37 47 (ix 3) (some 114) → (R38 46 0 = some 47 ∧ (∀ I40 L41 R42, I40 = ur I35 136 (fun _ => 0) → L41 = ur L36 136 (fun _ => 0) → R42 = ur R38 136 (fun _ => none) → (wp_X2_init 136 I40 L41 R42 (fun I43 L44 R45 => ((∀ R46, R46 = u2 R45 47 (ix 4) (some 136) → (R46 46 0 = some 47 ∧ (∀ I48 L49 R50, I48 = ur I43 158 (fun _ => 0) → L49 = ur L44 158 (fun _ => 0) → R50 = ur R46 158 (fun _ => none) → (wp_X2_init 158 I48 L49 R50 (fun I51 L52 R53 => ((∀ R54, R54 = u2 R53 47 (ix 5) (some 158) → (R54 46 0 = some 47 ∧ (∀ I56 L57 R58, I56 = ur I51 180 (fun _ => 0) → L57 = ur L52 180 (fun _ => 0) → R58 = ur R54 180 (fun _ => none) → (wp_X2_init 180 I56 L57 R58 (fun I59 L60 R61 => ((∀ R62, R62 = u2 R61 47 (ix 6) (some 180) → (R62 46 0 = some 47 ∧ (∀ I64 L65 R66, I64 = ur I59 202 (fun _ => 0) → L65 = ur L60 202 (fun _ => 0) → R66 = ur R62 202 (fun _ => none) → (wp_X2_init 202 I64 L65 R66 (fun I67 L68 R69 => ((∀ R70, R70 = u2 R69 47 (ix 7) (some 202) → (R70 46 0 = some 47 ∧ (∀ I72 L73 R74, I72 = ur I67 224 (fun _ => 0) → L73 = ur L68 224 (fun _ => 0) → R74 = ur R70 224 (fun _ => none) → (wp_X2_init 224 I72 L73 R74 (fun I75 L76 R77 => ((∀ R78, R78 = u2 R77 47 (ix 8) (some 224) → (R78 46 0 = some 47 ∧ (∀ I80 L81 R82, I80 = ur I75 246 (fun _ => 0) → L81 = ur L76 246 (fun _ => 0) → R82 = ur R78 246 (fun _ => none) → (wp_X2_init 246 I80 L81 R82 (fun I83 L84 R85 => ((∀ R86, R86 = u2 R85 47 (ix 9) (some 246) → (R86 46 0 = some 47 ∧ (∀ I88 L89 R90, I88 = ur I83 268 (fun _ => 0) → L89 = ur L84 268 (fun _ => 0) → R90 = ur R86 268 (fun _ => none) → (wp_X2_init 268 I88 L89 R90 (fun I91 L92 R93 => ((∀ R94, R94 = u2 R93 47 (ix 10) (some 268) → (R94 46 0 = some 47 ∧ (∀ I96 L97 R98, I96 = ur I91 290 (fun _ => 0) → L97 = ur L92 290 (fun _ => 0) → R98 = ur R94 290 (fun _ => none) → (wp_X2_init 290 I96 L97 R98 (fun I99 L100 R101 => ((∀ R102, R102 = u2 R101 47 (ix 11) (some 290) → Q I99 L100 R102))))))))))))))))))))))))))))))))))))))))))))))))))))))))))))))))))))))))))))
set_option maxRecDepth 20000 in
theorem mt_X0_init {E : Ev} {l : Launch} {I : MI} {L : ML} {R : MR} {Q : MI → ML → MR → Prop} (h : wp_X0_init I L R Q) : MX E l rm_X0_init yX0_init cX0_init 2 none [.ref 46] 47 I L R (fun v n' I' L' R' => v = none ∧ n' = 312 ∧ Q I' L' R') := by
  refine MX_of (ls := [(0, .ref 46)]) (by decide) (Nat.le_of_ble_eq_true rfl) rfl ?_
  unfold wp_X0_init at h
  refine x_aload_n dX0_init_0 rfl ?_
  refine x_objInit dX0_init_1 wn_ol_RX0_3 wn_oi wn_oc ⟨Nat.le_of_ble_eq_true rfl, Nat.le_of_ble_eq_true rfl⟩ ?_
  refine x_aload_n dX0_init_4 rfl ?_
  refine x_bipush (v := 12) dX0_init_5 kb_12 ?_
  refine x_anew (N := 12) dX0_init_7 wn_cl_RX0_9 sh_47 (by decide) (by decide) (by decide) (Nat.le_of_ble_eq_true rfl) (Nat.le_of_ble_eq_true rfl) (Nat.le_of_ble_eq_true rfl) (fun I1 L2 R3 e1 e2 e3 => ?_)
  have h := h I1 L2 R3 e1 e2 e3
  refine x_cs 48 1 12 rfl rfl rfl ?_
  refine x_putF dX0_init_10 fk_RX0_11 fF_0_0 rfl (fun _ => rfl) (fun _ => rfl) (Nat.le_of_ble_eq_true rfl) sh_46 (fun R4 e1 => ?_)
  have h := h R4 e1
  refine x_aload_n dX0_init_13 rfl ?_
  refine x_iconst (v := 0) dX0_init_14 ki_0 ?_
  refine x_puti dX0_init_15 fk_RX0_17 fw_0_1 (vp_nar_int _) rfl (Nat.le_of_ble_eq_true rfl) sh_46 (fun I5 e1 => ?_)
  have h := h I5 e1
  refine x_aload_n dX0_init_18 rfl ?_
  refine x_iconst (v := 0) dX0_init_19 ki_0 ?_
  refine x_puti dX0_init_20 fk_RX0_21 fw_0_2 (vp_nar_int _) rfl (Nat.le_of_ble_eq_true rfl) sh_46 (fun I6 e1 => ?_)
  have h := h I6 e1
  refine x_iconst (v := 0) dX0_init_23 ki_0 ?_
  refine x_istore_n (ls' := [(1, .int 0), (0, .ref 46)]) dX0_init_24 (Nat.le_of_ble_eq_true rfl) rfl ?_
  refine x_iload_n dX0_init_25 rfl ?_
  refine x_bipush (v := 12) dX0_init_26 kb_12 ?_
  refine x_icmp_ge dX0_init_28 (tgt := 50) rfl ⟨fun c => absurd c (by decide), fun _ => ?_⟩
  refine x_aload_n dX0_init_31 rfl ?_
  obtain ⟨b7, h⟩ := h
  refine x_getr (j := 47) dX0_init_32 fk_RX0_11 (Nat.le_of_ble_eq_true rfl) sh_46 b7 ?_
  refine x_iload_n dX0_init_35 rfl ?_
  refine x_new dX0_init_36 wn_cl_RX0_9 wn_inst_2 wn_init_2 fkw_2 rfl tyX2_ok (Py_s0 play_48) (by decide) (Nat.le_of_ble_eq_true rfl) (Nat.le_of_ble_eq_true rfl) wn_def_2 (fun I8 L9 R10 e1 e2 e3 => ?_)
  have h := h I8 L9 R10 e1 e2 e3
  refine x_cs 49 2 31 rfl rfl rfl ?_
  refine x_dup dX0_init_39 rfl ?_
  refine x_callIN [] (mt_X2_init play_48 h) dX0_init_40 wn_lk_RX0_24 cal_X2_init wn_im_X2_init rfl rfl rfl (Nat.le_of_ble_eq_true rfl) ⟨⟨Nat.le_of_ble_eq_true rfl, Nat.le_of_ble_eq_true rfl⟩, Nat.le_of_ble_eq_true rfl, Nat.le_of_ble_eq_true rfl⟩ (fun v n' I11 L12 R13 hq => ?_)
  obtain ⟨rfl, rfl, h⟩ := hq
  refine x_cs 70 23 796 rfl rfl rfl ?_
  refine x_aastore dX0_init_43 (Nat.le_of_ble_eq_true rfl) sh_47 (by unfold vp_in; decide) (Nat.le_of_ble_eq_true rfl) (Py_s0 play_48) (fun R14 e1 => ?_)
  have h := h R14 e1
  refine x_iinc (v := 1) (ls' := [(1, .int 1), (0, .ref 46)]) dX0_init_44 rfl (by decide) (Nat.le_of_ble_eq_true rfl) rfl ?_
  refine x_goto dX0_init_47 (tgt := 25) rfl ?_
  refine x_iload_n dX0_init_25 rfl ?_
  refine x_bipush (v := 12) dX0_init_26 kb_12 ?_
  refine x_icmp_ge dX0_init_28 (tgt := 50) rfl ⟨fun c => absurd c (by decide), fun _ => ?_⟩
  refine x_aload_n dX0_init_31 rfl ?_
  obtain ⟨b15, h⟩ := h
  refine x_getr (j := 47) dX0_init_32 fk_RX0_11 (Nat.le_of_ble_eq_true rfl) sh_46 b15 ?_
  refine x_iload_n dX0_init_35 rfl ?_
  refine x_new dX0_init_36 wn_cl_RX0_9 wn_inst_2 wn_init_2 fkw_2 rfl tyX2_ok (Py_s0 play_70) (by decide) (Nat.le_of_ble_eq_true rfl) (Nat.le_of_ble_eq_true rfl) wn_def_2 (fun I16 L17 R18 e1 e2 e3 => ?_)
  have h := h I16 L17 R18 e1 e2 e3
  refine x_cs 71 24 815 rfl rfl rfl ?_
  refine x_dup dX0_init_39 rfl ?_
  refine x_callIN [] (mt_X2_init play_70 h) dX0_init_40 wn_lk_RX0_24 cal_X2_init wn_im_X2_init rfl rfl rfl (Nat.le_of_ble_eq_true rfl) ⟨⟨Nat.le_of_ble_eq_true rfl, Nat.le_of_ble_eq_true rfl⟩, Nat.le_of_ble_eq_true rfl, Nat.le_of_ble_eq_true rfl⟩ (fun v n' I19 L20 R21 hq => ?_)
  obtain ⟨rfl, rfl, h⟩ := hq
  refine x_cs 92 45 1580 rfl rfl rfl ?_
  refine x_aastore dX0_init_43 (Nat.le_of_ble_eq_true rfl) sh_47 (by unfold vp_in; decide) (Nat.le_of_ble_eq_true rfl) (Py_s0 play_70) (fun R22 e1 => ?_)
  have h := h R22 e1
  refine x_iinc (v := 2) (ls' := [(1, .int 2), (0, .ref 46)]) dX0_init_44 rfl (by decide) (Nat.le_of_ble_eq_true rfl) rfl ?_
  refine x_goto dX0_init_47 (tgt := 25) rfl ?_
  refine x_iload_n dX0_init_25 rfl ?_
  refine x_bipush (v := 12) dX0_init_26 kb_12 ?_
  refine x_icmp_ge dX0_init_28 (tgt := 50) rfl ⟨fun c => absurd c (by decide), fun _ => ?_⟩
  refine x_aload_n dX0_init_31 rfl ?_
  obtain ⟨b23, h⟩ := h
  refine x_getr (j := 47) dX0_init_32 fk_RX0_11 (Nat.le_of_ble_eq_true rfl) sh_46 b23 ?_
  refine x_iload_n dX0_init_35 rfl ?_
  refine x_new dX0_init_36 wn_cl_RX0_9 wn_inst_2 wn_init_2 fkw_2 rfl tyX2_ok (Py_s0 play_92) (by decide) (Nat.le_of_ble_eq_true rfl) (Nat.le_of_ble_eq_true rfl) wn_def_2 (fun I24 L25 R26 e1 e2 e3 => ?_)
  have h := h I24 L25 R26 e1 e2 e3
  refine x_cs 93 46 1599 rfl rfl rfl ?_
  refine x_dup dX0_init_39 rfl ?_
  refine x_callIN [] (mt_X2_init play_92 h) dX0_init_40 wn_lk_RX0_24 cal_X2_init wn_im_X2_init rfl rfl rfl (Nat.le_of_ble_eq_true rfl) ⟨⟨Nat.le_of_ble_eq_true rfl, Nat.le_of_ble_eq_true rfl⟩, Nat.le_of_ble_eq_true rfl, Nat.le_of_ble_eq_true rfl⟩ (fun v n' I27 L28 R29 hq => ?_)
  obtain ⟨rfl, rfl, h⟩ := hq
  refine x_cs 114 67 2364 rfl rfl rfl ?_
  refine x_aastore dX0_init_43 (Nat.le_of_ble_eq_true rfl) sh_47 (by unfold vp_in; decide) (Nat.le_of_ble_eq_true rfl) (Py_s0 play_92) (fun R30 e1 => ?_)
  have h := h R30 e1
  refine x_iinc (v := 3) (ls' := [(1, .int 3), (0, .ref 46)]) dX0_init_44 rfl (by decide) (Nat.le_of_ble_eq_true rfl) rfl ?_
  refine x_goto dX0_init_47 (tgt := 25) rfl ?_
  refine x_iload_n dX0_init_25 rfl ?_
  refine x_bipush (v := 12) dX0_init_26 kb_12 ?_
  refine x_icmp_ge dX0_init_28 (tgt := 50) rfl ⟨fun c => absurd c (by decide), fun _ => ?_⟩
  refine x_aload_n dX0_init_31 rfl ?_
  obtain ⟨b31, h⟩ := h
  refine x_getr (j := 47) dX0_init_32 fk_RX0_11 (Nat.le_of_ble_eq_true rfl) sh_46 b31 ?_
  refine x_iload_n dX0_init_35 rfl ?_
  refine x_new dX0_init_36 wn_cl_RX0_9 wn_inst_2 wn_init_2 fkw_2 rfl tyX2_ok (Py_s0 play_114) (by decide) (Nat.le_of_ble_eq_true rfl) (Nat.le_of_ble_eq_true rfl) wn_def_2 (fun I32 L33 R34 e1 e2 e3 => ?_)
  have h := h I32 L33 R34 e1 e2 e3
  refine x_cs 115 68 2383 rfl rfl rfl ?_
  refine x_dup dX0_init_39 rfl ?_
  refine x_callIN [] (mt_X2_init play_114 h) dX0_init_40 wn_lk_RX0_24 cal_X2_init wn_im_X2_init rfl rfl rfl (Nat.le_of_ble_eq_true rfl) ⟨⟨Nat.le_of_ble_eq_true rfl, Nat.le_of_ble_eq_true rfl⟩, Nat.le_of_ble_eq_true rfl, Nat.le_of_ble_eq_true rfl⟩ (fun v n' I35 L36 R37 hq => ?_)
  obtain ⟨rfl, rfl, h⟩ := hq
  refine x_cs 136 89 3148 rfl rfl rfl ?_
  refine x_aastore dX0_init_43 (Nat.le_of_ble_eq_true rfl) sh_47 (by unfold vp_in; decide) (Nat.le_of_ble_eq_true rfl) (Py_s0 play_114) (fun R38 e1 => ?_)
  have h := h R38 e1
  refine x_iinc (v := 4) (ls' := [(1, .int 4), (0, .ref 46)]) dX0_init_44 rfl (by decide) (Nat.le_of_ble_eq_true rfl) rfl ?_
  refine x_goto dX0_init_47 (tgt := 25) rfl ?_
  refine x_iload_n dX0_init_25 rfl ?_
  refine x_bipush (v := 12) dX0_init_26 kb_12 ?_
  refine x_icmp_ge dX0_init_28 (tgt := 50) rfl ⟨fun c => absurd c (by decide), fun _ => ?_⟩
  refine x_aload_n dX0_init_31 rfl ?_
  obtain ⟨b39, h⟩ := h
  refine x_getr (j := 47) dX0_init_32 fk_RX0_11 (Nat.le_of_ble_eq_true rfl) sh_46 b39 ?_
  refine x_iload_n dX0_init_35 rfl ?_
  refine x_new dX0_init_36 wn_cl_RX0_9 wn_inst_2 wn_init_2 fkw_2 rfl tyX2_ok (Py_s0 play_136) (by decide) (Nat.le_of_ble_eq_true rfl) (Nat.le_of_ble_eq_true rfl) wn_def_2 (fun I40 L41 R42 e1 e2 e3 => ?_)
  have h := h I40 L41 R42 e1 e2 e3
  refine x_cs 137 90 3167 rfl rfl rfl ?_
  refine x_dup dX0_init_39 rfl ?_
  refine x_callIN [] (mt_X2_init play_136 h) dX0_init_40 wn_lk_RX0_24 cal_X2_init wn_im_X2_init rfl rfl rfl (Nat.le_of_ble_eq_true rfl) ⟨⟨Nat.le_of_ble_eq_true rfl, Nat.le_of_ble_eq_true rfl⟩, Nat.le_of_ble_eq_true rfl, Nat.le_of_ble_eq_true rfl⟩ (fun v n' I43 L44 R45 hq => ?_)
  obtain ⟨rfl, rfl, h⟩ := hq
  refine x_cs 158 111 3932 rfl rfl rfl ?_
  refine x_aastore dX0_init_43 (Nat.le_of_ble_eq_true rfl) sh_47 (by unfold vp_in; decide) (Nat.le_of_ble_eq_true rfl) (Py_s0 play_136) (fun R46 e1 => ?_)
  have h := h R46 e1
  refine x_iinc (v := 5) (ls' := [(1, .int 5), (0, .ref 46)]) dX0_init_44 rfl (by decide) (Nat.le_of_ble_eq_true rfl) rfl ?_
  refine x_goto dX0_init_47 (tgt := 25) rfl ?_
  refine x_iload_n dX0_init_25 rfl ?_
  refine x_bipush (v := 12) dX0_init_26 kb_12 ?_
  refine x_icmp_ge dX0_init_28 (tgt := 50) rfl ⟨fun c => absurd c (by decide), fun _ => ?_⟩
  refine x_aload_n dX0_init_31 rfl ?_
  obtain ⟨b47, h⟩ := h
  refine x_getr (j := 47) dX0_init_32 fk_RX0_11 (Nat.le_of_ble_eq_true rfl) sh_46 b47 ?_
  refine x_iload_n dX0_init_35 rfl ?_
  refine x_new dX0_init_36 wn_cl_RX0_9 wn_inst_2 wn_init_2 fkw_2 rfl tyX2_ok (Py_s0 play_158) (by decide) (Nat.le_of_ble_eq_true rfl) (Nat.le_of_ble_eq_true rfl) wn_def_2 (fun I48 L49 R50 e1 e2 e3 => ?_)
  have h := h I48 L49 R50 e1 e2 e3
  refine x_cs 159 112 3951 rfl rfl rfl ?_
  refine x_dup dX0_init_39 rfl ?_
  refine x_callIN [] (mt_X2_init play_158 h) dX0_init_40 wn_lk_RX0_24 cal_X2_init wn_im_X2_init rfl rfl rfl (Nat.le_of_ble_eq_true rfl) ⟨⟨Nat.le_of_ble_eq_true rfl, Nat.le_of_ble_eq_true rfl⟩, Nat.le_of_ble_eq_true rfl, Nat.le_of_ble_eq_true rfl⟩ (fun v n' I51 L52 R53 hq => ?_)
  obtain ⟨rfl, rfl, h⟩ := hq
  refine x_cs 180 133 4716 rfl rfl rfl ?_
  refine x_aastore dX0_init_43 (Nat.le_of_ble_eq_true rfl) sh_47 (by unfold vp_in; decide) (Nat.le_of_ble_eq_true rfl) (Py_s0 play_158) (fun R54 e1 => ?_)
  have h := h R54 e1
  refine x_iinc (v := 6) (ls' := [(1, .int 6), (0, .ref 46)]) dX0_init_44 rfl (by decide) (Nat.le_of_ble_eq_true rfl) rfl ?_
  refine x_goto dX0_init_47 (tgt := 25) rfl ?_
  refine x_iload_n dX0_init_25 rfl ?_
  refine x_bipush (v := 12) dX0_init_26 kb_12 ?_
  refine x_icmp_ge dX0_init_28 (tgt := 50) rfl ⟨fun c => absurd c (by decide), fun _ => ?_⟩
  refine x_aload_n dX0_init_31 rfl ?_
  obtain ⟨b55, h⟩ := h
  refine x_getr (j := 47) dX0_init_32 fk_RX0_11 (Nat.le_of_ble_eq_true rfl) sh_46 b55 ?_
  refine x_iload_n dX0_init_35 rfl ?_
  refine x_new dX0_init_36 wn_cl_RX0_9 wn_inst_2 wn_init_2 fkw_2 rfl tyX2_ok (Py_s0 play_180) (by decide) (Nat.le_of_ble_eq_true rfl) (Nat.le_of_ble_eq_true rfl) wn_def_2 (fun I56 L57 R58 e1 e2 e3 => ?_)
  have h := h I56 L57 R58 e1 e2 e3
  refine x_cs 181 134 4735 rfl rfl rfl ?_
  refine x_dup dX0_init_39 rfl ?_
  refine x_callIN [] (mt_X2_init play_180 h) dX0_init_40 wn_lk_RX0_24 cal_X2_init wn_im_X2_init rfl rfl rfl (Nat.le_of_ble_eq_true rfl) ⟨⟨Nat.le_of_ble_eq_true rfl, Nat.le_of_ble_eq_true rfl⟩, Nat.le_of_ble_eq_true rfl, Nat.le_of_ble_eq_true rfl⟩ (fun v n' I59 L60 R61 hq => ?_)
  obtain ⟨rfl, rfl, h⟩ := hq
  refine x_cs 202 155 5500 rfl rfl rfl ?_
  refine x_aastore dX0_init_43 (Nat.le_of_ble_eq_true rfl) sh_47 (by unfold vp_in; decide) (Nat.le_of_ble_eq_true rfl) (Py_s0 play_180) (fun R62 e1 => ?_)
  have h := h R62 e1
  refine x_iinc (v := 7) (ls' := [(1, .int 7), (0, .ref 46)]) dX0_init_44 rfl (by decide) (Nat.le_of_ble_eq_true rfl) rfl ?_
  refine x_goto dX0_init_47 (tgt := 25) rfl ?_
  refine x_iload_n dX0_init_25 rfl ?_
  refine x_bipush (v := 12) dX0_init_26 kb_12 ?_
  refine x_icmp_ge dX0_init_28 (tgt := 50) rfl ⟨fun c => absurd c (by decide), fun _ => ?_⟩
  refine x_aload_n dX0_init_31 rfl ?_
  obtain ⟨b63, h⟩ := h
  refine x_getr (j := 47) dX0_init_32 fk_RX0_11 (Nat.le_of_ble_eq_true rfl) sh_46 b63 ?_
  refine x_iload_n dX0_init_35 rfl ?_
  refine x_new dX0_init_36 wn_cl_RX0_9 wn_inst_2 wn_init_2 fkw_2 rfl tyX2_ok (Py_s0 play_202) (by decide) (Nat.le_of_ble_eq_true rfl) (Nat.le_of_ble_eq_true rfl) wn_def_2 (fun I64 L65 R66 e1 e2 e3 => ?_)
  have h := h I64 L65 R66 e1 e2 e3
  refine x_cs 203 156 5519 rfl rfl rfl ?_
  refine x_dup dX0_init_39 rfl ?_
  refine x_callIN [] (mt_X2_init play_202 h) dX0_init_40 wn_lk_RX0_24 cal_X2_init wn_im_X2_init rfl rfl rfl (Nat.le_of_ble_eq_true rfl) ⟨⟨Nat.le_of_ble_eq_true rfl, Nat.le_of_ble_eq_true rfl⟩, Nat.le_of_ble_eq_true rfl, Nat.le_of_ble_eq_true rfl⟩ (fun v n' I67 L68 R69 hq => ?_)
  obtain ⟨rfl, rfl, h⟩ := hq
  refine x_cs 224 177 6284 rfl rfl rfl ?_
  refine x_aastore dX0_init_43 (Nat.le_of_ble_eq_true rfl) sh_47 (by unfold vp_in; decide) (Nat.le_of_ble_eq_true rfl) (Py_s0 play_202) (fun R70 e1 => ?_)
  have h := h R70 e1
  refine x_iinc (v := 8) (ls' := [(1, .int 8), (0, .ref 46)]) dX0_init_44 rfl (by decide) (Nat.le_of_ble_eq_true rfl) rfl ?_
  refine x_goto dX0_init_47 (tgt := 25) rfl ?_
  refine x_iload_n dX0_init_25 rfl ?_
  refine x_bipush (v := 12) dX0_init_26 kb_12 ?_
  refine x_icmp_ge dX0_init_28 (tgt := 50) rfl ⟨fun c => absurd c (by decide), fun _ => ?_⟩
  refine x_aload_n dX0_init_31 rfl ?_
  obtain ⟨b71, h⟩ := h
  refine x_getr (j := 47) dX0_init_32 fk_RX0_11 (Nat.le_of_ble_eq_true rfl) sh_46 b71 ?_
  refine x_iload_n dX0_init_35 rfl ?_
  refine x_new dX0_init_36 wn_cl_RX0_9 wn_inst_2 wn_init_2 fkw_2 rfl tyX2_ok (Py_s0 play_224) (by decide) (Nat.le_of_ble_eq_true rfl) (Nat.le_of_ble_eq_true rfl) wn_def_2 (fun I72 L73 R74 e1 e2 e3 => ?_)
  have h := h I72 L73 R74 e1 e2 e3
  refine x_cs 225 178 6303 rfl rfl rfl ?_
  refine x_dup dX0_init_39 rfl ?_
  refine x_callIN [] (mt_X2_init play_224 h) dX0_init_40 wn_lk_RX0_24 cal_X2_init wn_im_X2_init rfl rfl rfl (Nat.le_of_ble_eq_true rfl) ⟨⟨Nat.le_of_ble_eq_true rfl, Nat.le_of_ble_eq_true rfl⟩, Nat.le_of_ble_eq_true rfl, Nat.le_of_ble_eq_true rfl⟩ (fun v n' I75 L76 R77 hq => ?_)
  obtain ⟨rfl, rfl, h⟩ := hq
  refine x_cs 246 199 7068 rfl rfl rfl ?_
  refine x_aastore dX0_init_43 (Nat.le_of_ble_eq_true rfl) sh_47 (by unfold vp_in; decide) (Nat.le_of_ble_eq_true rfl) (Py_s0 play_224) (fun R78 e1 => ?_)
  have h := h R78 e1
  refine x_iinc (v := 9) (ls' := [(1, .int 9), (0, .ref 46)]) dX0_init_44 rfl (by decide) (Nat.le_of_ble_eq_true rfl) rfl ?_
  refine x_goto dX0_init_47 (tgt := 25) rfl ?_
  refine x_iload_n dX0_init_25 rfl ?_
  refine x_bipush (v := 12) dX0_init_26 kb_12 ?_
  refine x_icmp_ge dX0_init_28 (tgt := 50) rfl ⟨fun c => absurd c (by decide), fun _ => ?_⟩
  refine x_aload_n dX0_init_31 rfl ?_
  obtain ⟨b79, h⟩ := h
  refine x_getr (j := 47) dX0_init_32 fk_RX0_11 (Nat.le_of_ble_eq_true rfl) sh_46 b79 ?_
  refine x_iload_n dX0_init_35 rfl ?_
  refine x_new dX0_init_36 wn_cl_RX0_9 wn_inst_2 wn_init_2 fkw_2 rfl tyX2_ok (Py_s0 play_246) (by decide) (Nat.le_of_ble_eq_true rfl) (Nat.le_of_ble_eq_true rfl) wn_def_2 (fun I80 L81 R82 e1 e2 e3 => ?_)
  have h := h I80 L81 R82 e1 e2 e3
  refine x_cs 247 200 7087 rfl rfl rfl ?_
  refine x_dup dX0_init_39 rfl ?_
  refine x_callIN [] (mt_X2_init play_246 h) dX0_init_40 wn_lk_RX0_24 cal_X2_init wn_im_X2_init rfl rfl rfl (Nat.le_of_ble_eq_true rfl) ⟨⟨Nat.le_of_ble_eq_true rfl, Nat.le_of_ble_eq_true rfl⟩, Nat.le_of_ble_eq_true rfl, Nat.le_of_ble_eq_true rfl⟩ (fun v n' I83 L84 R85 hq => ?_)
  obtain ⟨rfl, rfl, h⟩ := hq
  refine x_cs 268 221 7852 rfl rfl rfl ?_
  refine x_aastore dX0_init_43 (Nat.le_of_ble_eq_true rfl) sh_47 (by unfold vp_in; decide) (Nat.le_of_ble_eq_true rfl) (Py_s0 play_246) (fun R86 e1 => ?_)
  have h := h R86 e1
  refine x_iinc (v := 10) (ls' := [(1, .int 10), (0, .ref 46)]) dX0_init_44 rfl (by decide) (Nat.le_of_ble_eq_true rfl) rfl ?_
  refine x_goto dX0_init_47 (tgt := 25) rfl ?_
  refine x_iload_n dX0_init_25 rfl ?_
  refine x_bipush (v := 12) dX0_init_26 kb_12 ?_
  refine x_icmp_ge dX0_init_28 (tgt := 50) rfl ⟨fun c => absurd c (by decide), fun _ => ?_⟩
  refine x_aload_n dX0_init_31 rfl ?_
  obtain ⟨b87, h⟩ := h
  refine x_getr (j := 47) dX0_init_32 fk_RX0_11 (Nat.le_of_ble_eq_true rfl) sh_46 b87 ?_
  refine x_iload_n dX0_init_35 rfl ?_
  refine x_new dX0_init_36 wn_cl_RX0_9 wn_inst_2 wn_init_2 fkw_2 rfl tyX2_ok (Py_s0 play_268) (by decide) (Nat.le_of_ble_eq_true rfl) (Nat.le_of_ble_eq_true rfl) wn_def_2 (fun I88 L89 R90 e1 e2 e3 => ?_)
  have h := h I88 L89 R90 e1 e2 e3
  refine x_cs 269 222 7871 rfl rfl rfl ?_
  refine x_dup dX0_init_39 rfl ?_
  refine x_callIN [] (mt_X2_init play_268 h) dX0_init_40 wn_lk_RX0_24 cal_X2_init wn_im_X2_init rfl rfl rfl (Nat.le_of_ble_eq_true rfl) ⟨⟨Nat.le_of_ble_eq_true rfl, Nat.le_of_ble_eq_true rfl⟩, Nat.le_of_ble_eq_true rfl, Nat.le_of_ble_eq_true rfl⟩ (fun v n' I91 L92 R93 hq => ?_)
  obtain ⟨rfl, rfl, h⟩ := hq
  refine x_cs 290 243 8636 rfl rfl rfl ?_
  refine x_aastore dX0_init_43 (Nat.le_of_ble_eq_true rfl) sh_47 (by unfold vp_in; decide) (Nat.le_of_ble_eq_true rfl) (Py_s0 play_268) (fun R94 e1 => ?_)
  have h := h R94 e1
  refine x_iinc (v := 11) (ls' := [(1, .int 11), (0, .ref 46)]) dX0_init_44 rfl (by decide) (Nat.le_of_ble_eq_true rfl) rfl ?_
  refine x_goto dX0_init_47 (tgt := 25) rfl ?_
  refine x_iload_n dX0_init_25 rfl ?_
  refine x_bipush (v := 12) dX0_init_26 kb_12 ?_
  refine x_icmp_ge dX0_init_28 (tgt := 50) rfl ⟨fun c => absurd c (by decide), fun _ => ?_⟩
  refine x_aload_n dX0_init_31 rfl ?_
  obtain ⟨b95, h⟩ := h
  refine x_getr (j := 47) dX0_init_32 fk_RX0_11 (Nat.le_of_ble_eq_true rfl) sh_46 b95 ?_
  refine x_iload_n dX0_init_35 rfl ?_
  refine x_new dX0_init_36 wn_cl_RX0_9 wn_inst_2 wn_init_2 fkw_2 rfl tyX2_ok (Py_s0 play_290) (by decide) (Nat.le_of_ble_eq_true rfl) (Nat.le_of_ble_eq_true rfl) wn_def_2 (fun I96 L97 R98 e1 e2 e3 => ?_)
  have h := h I96 L97 R98 e1 e2 e3
  refine x_cs 291 244 8655 rfl rfl rfl ?_
  refine x_dup dX0_init_39 rfl ?_
  refine x_callIN [] (mt_X2_init play_290 h) dX0_init_40 wn_lk_RX0_24 cal_X2_init wn_im_X2_init rfl rfl rfl (Nat.le_of_ble_eq_true rfl) ⟨⟨Nat.le_of_ble_eq_true rfl, Nat.le_of_ble_eq_true rfl⟩, Nat.le_of_ble_eq_true rfl, Nat.le_of_ble_eq_true rfl⟩ (fun v n' I99 L100 R101 hq => ?_)
  obtain ⟨rfl, rfl, h⟩ := hq
  refine x_cs 312 265 9420 rfl rfl rfl ?_
  refine x_aastore dX0_init_43 (Nat.le_of_ble_eq_true rfl) sh_47 (by unfold vp_in; decide) (Nat.le_of_ble_eq_true rfl) (Py_s0 play_290) (fun R102 e1 => ?_)
  have h := h R102 e1
  refine x_iinc (v := 12) (ls' := [(1, .int 12), (0, .ref 46)]) dX0_init_44 rfl (by decide) (Nat.le_of_ble_eq_true rfl) rfl ?_
  refine x_goto dX0_init_47 (tgt := 25) rfl ?_
  refine x_iload_n dX0_init_25 rfl ?_
  refine x_bipush (v := 12) dX0_init_26 kb_12 ?_
  refine x_icmp_ge dX0_init_28 (tgt := 50) rfl ⟨fun _ => ?_, fun c => absurd (by decide) c⟩
  exact x_return dX0_init_50 ⟨rfl, rfl, h⟩
abbrev rm_X3_init : Room := { frames := 2, cells := 11, slots := 86, locals := 40 }
def wp_X3_init (I : MI) (L : ML) (R : MR) (Q : MI → ML → MR → Prop) : Prop :=
    (∀ I1 L2 R3, I1 = ur I 313 (fun _ => 0) → L2 = ur L 313 (fun _ => 0) → R3 = ur R 313 (fun _ => none) → (wp_X1_init 313 I1 L2 R3 (fun I4 L5 R6 => ((∀ R7, R7 = u2 R6 312 0 (some 313) → (∀ I8 L9 R10, I8 = ur I4 322 (fun _ => 0) → L9 = ur L5 322 (fun _ => 0) → R10 = ur R7 322 (fun _ => none) → (∀ R11, R11 = u2 R10 312 1 (some 322) → (∀ I12 L13 R14, I12 = ur I8 323 (fun _ => 0) → L13 = ur L9 323 (fun _ => 0) → R14 = ur R11 323 (fun _ => none) → (∀ R15, R15 = u2 R14 312 2 (some 323) → (∀ I16, I16 = u2 I12 312 3 0 → (∀ I17, I17 = u2 I16 312 4 0 → Q I17 L13 R15)))))))))))
set_option maxRecDepth 20000 in
theorem mt_X3_init {E : Ev} {l : Launch} {I : MI} {L : ML} {R : MR} {Q : MI → ML → MR → Prop} (h : wp_X3_init I L R Q) : MX E l rm_X3_init yX3_init cX3_init 1 none [.ref 312] 313 I L R (fun v n' I' L' R' => v = none ∧ n' = 324 ∧ Q I' L' R') := by
  refine MX_of (ls := [(0, .ref 312)]) (by decide) (Nat.le_of_ble_eq_true rfl) rfl ?_
  unfold wp_X3_init at h
  refine x_aload_n dX3_init_0 rfl ?_
  refine x_objInit dX3_init_1 wn_ol_RX3_3 wn_oi wn_oc ⟨Nat.le_of_ble_eq_true rfl, Nat.le_of_ble_eq_true rfl⟩ ?_
  refine x_aload_n dX3_init_4 rfl ?_
  refine x_new dX3_init_5 wn_cl_RX3_9 wn_inst_1 wn_init_1 fkw_1 rfl tyX1_ok sh_313 (by decide) (Nat.le_of_ble_eq_true rfl) (Nat.le_of_ble_eq_true rfl) wn_def_1 (fun I1 L2 R3 e1 e2 e3 => ?_)
  have h := h I1 L2 R3 e1 e2 e3
  refine x_cs 314 1 13 rfl rfl rfl ?_
  refine x_dup dX3_init_8 rfl ?_
  refine x_callIN [] (mt_X1_init plan_313 h) dX3_init_9 wn_lk_RX3_11 cal_X1_init wn_im_X1_init rfl rfl rfl (Nat.le_of_ble_eq_true rfl) ⟨⟨Nat.le_of_ble_eq_true rfl, Nat.le_of_ble_eq_true rfl⟩, Nat.le_of_ble_eq_true rfl, Nat.le_of_ble_eq_true rfl⟩ (fun v n' I4 L5 R6 hq => ?_)
  obtain ⟨rfl, rfl, h⟩ := hq
  refine x_cs 322 9 81 rfl rfl rfl ?_
  refine x_putF dX3_init_12 fk_RX3_12 fF_3_0 rfl (fun _ => rfl) (fun _ => rfl) (Nat.le_of_ble_eq_true rfl) sh_312 (fun R7 e1 => ?_)
  have h := h R7 e1
  refine x_aload_n dX3_init_15 rfl ?_
  refine x_iconst (v := 5) dX3_init_16 ki_5 ?_
  refine x_newi (N := 5) dX3_init_17 wn_int sh_322 (by decide) (by decide) (by decide) (Nat.le_of_ble_eq_true rfl) (Nat.le_of_ble_eq_true rfl) (Nat.le_of_ble_eq_true rfl) (fun I8 L9 R10 e1 e2 e3 => ?_)
  have h := h I8 L9 R10 e1 e2 e3
  refine x_cs 323 10 86 rfl rfl rfl ?_
  refine x_putF dX3_init_19 fk_RX3_20 fF_3_1 rfl (fun _ => rfl) (fun _ => rfl) (Nat.le_of_ble_eq_true rfl) sh_312 (fun R11 e1 => ?_)
  have h := h R11 e1
  refine x_aload_n dX3_init_22 rfl ?_
  refine x_iconst (v := 0) dX3_init_23 ki_0 ?_
  refine x_newb (N := 0) dX3_init_24 wn_byte sh_323 (by decide) (by decide) (by decide) (Nat.le_of_ble_eq_true rfl) (Nat.le_of_ble_eq_true rfl) (Nat.le_of_ble_eq_true rfl) (fun I12 L13 R14 e1 e2 e3 => ?_)
  have h := h I12 L13 R14 e1 e2 e3
  refine x_cs 324 11 86 rfl rfl rfl ?_
  refine x_putr dX3_init_26 fk_RX3_24 fw_3_2 rfl rfl (Nat.le_of_ble_eq_true rfl) sh_312 ?_
  generalize eR : u2 R14 312 2 (some 323) = R15
  have h := h R15 eR.symm
  refine x_aload_n dX3_init_29 rfl ?_
  refine x_iconst (v := 0) dX3_init_30 ki_0 ?_
  refine x_puti dX3_init_31 fk_RX3_28 fw_3_3 (vp_nar_int _) rfl (Nat.le_of_ble_eq_true rfl) sh_312 (fun I16 e1 => ?_)
  have h := h I16 e1
  refine x_aload_n dX3_init_34 rfl ?_
  refine x_iconst (v := 0) dX3_init_35 ki_0 ?_
  refine x_puti dX3_init_36 fk_RX3_32 fw_3_4 (vp_nar_int _) rfl (Nat.le_of_ble_eq_true rfl) sh_312 (fun I17 e1 => ?_)
  have h := h I17 e1
  exact x_return dX3_init_39 ⟨rfl, rfl, h⟩
abbrev rm_X6_init : Room := { frames := 1, cells := 1, slots := 256, locals := 20 }
def wp_X6_init (I : MI) (L : ML) (R : MR) (Q : MI → ML → MR → Prop) : Prop :=
    (∀ I1 L2 R3, I1 = ur I 325 (fun _ => 0) → L2 = ur L 325 (fun _ => 0) → R3 = ur R 325 (fun _ => none) → (∀ R4, R4 = u2 R3 324 0 (some 325) → (∀ I5, I5 = u2 I1 324 1 0 → Q I5 L2 R4)))
set_option maxRecDepth 20000 in
theorem mt_X6_init {E : Ev} {l : Launch} {I : MI} {L : ML} {R : MR} {Q : MI → ML → MR → Prop} (h : wp_X6_init I L R Q) : MX E l rm_X6_init yX6_init cX6_init 1 none [.ref 324] 325 I L R (fun v n' I' L' R' => v = none ∧ n' = 326 ∧ Q I' L' R') := by
  refine MX_of (ls := [(0, .ref 324)]) (by decide) (Nat.le_of_ble_eq_true rfl) rfl ?_
  unfold wp_X6_init at h
  refine x_aload_n dX6_init_0 rfl ?_
  refine x_objInit dX6_init_1 wn_ol_RX6_3 wn_oi wn_oc ⟨Nat.le_of_ble_eq_true rfl, Nat.le_of_ble_eq_true rfl⟩ ?_
  refine x_aload_n dX6_init_4 rfl ?_
  refine x_sipush (v := 256) dX6_init_5 ks_256 ?_
  refine x_newb (N := 256) dX6_init_8 wn_byte sh_325 (by decide) (by decide) (by decide) (Nat.le_of_ble_eq_true rfl) (Nat.le_of_ble_eq_true rfl) (Nat.le_of_ble_eq_true rfl) (fun I1 L2 R3 e1 e2 e3 => ?_)
  have h := h I1 L2 R3 e1 e2 e3
  refine x_cs 326 1 256 rfl rfl rfl ?_
  refine x_putF dX6_init_10 fk_RX6_9 fF_5_0 rfl (fun _ => rfl) (fun _ => rfl) (Nat.le_of_ble_eq_true rfl) sh_324 (fun R4 e1 => ?_)
  have h := h R4 e1
  refine x_aload_n dX6_init_13 rfl ?_
  refine x_iconst (v := 0) dX6_init_14 ki_0 ?_
  refine x_puti dX6_init_15 fk_RX6_15 fw_5_1 (vp_nar_int _) rfl (Nat.le_of_ble_eq_true rfl) sh_324 (fun I5 e1 => ?_)
  have h := h I5 e1
  exact x_return dX6_init_18 ⟨rfl, rfl, h⟩
abbrev rm_X8_init : Room := { frames := 1, cells := 9, slots := 3436, locals := 20 }
def wp_X8_init (I : MI) (L : ML) (R : MR) (Q : MI → ML → MR → Prop) : Prop :=
    (∀ I1 L2 R3, I1 = ur I 327 (fun _ => 0) → L2 = ur L 327 (fun _ => 0) → R3 = ur R 327 (fun _ => none) → (∀ R4, R4 = u2 R3 326 0 (some 327) → (∀ I5 L6 R7, I5 = ur I1 328 (fun _ => 0) → L6 = ur L2 328 (fun _ => 0) → R7 = ur R4 328 (fun _ => none) → (∀ R8, R8 = u2 R7 326 1 (some 328) → (∀ I9 L10 R11, I9 = ur I5 329 (fun _ => 0) → L10 = ur L6 329 (fun _ => 0) → R11 = ur R8 329 (fun _ => none) → (∀ R12, R12 = u2 R11 326 2 (some 329) → (∀ I13 L14 R15, I13 = ur I9 330 (fun _ => 0) → L14 = ur L10 330 (fun _ => 0) → R15 = ur R12 330 (fun _ => none) → (∀ R16, R16 = u2 R15 326 3 (some 330) → (∀ I17 L18 R19, I17 = ur I13 331 (fun _ => 0) → L18 = ur L14 331 (fun _ => 0) → R19 = ur R16 331 (fun _ => none) → (∀ R20, R20 = u2 R19 326 4 (some 331) → (∀ I21, I21 = u2 I17 326 5 0 → (∀ I22 L23 R24, I22 = ur I21 332 (fun _ => 0) → L23 = ur L18 332 (fun _ => 0) → R24 = ur R20 332 (fun _ => none) → (∀ R25, R25 = u2 R24 326 6 (some 332) → (∀ I26 L27 R28, I26 = ur I22 333 (fun _ => 0) → L27 = ur L23 333 (fun _ => 0) → R28 = ur R25 333 (fun _ => none) → (∀ R29, R29 = u2 R28 326 7 (some 333) → (∀ I30 L31 R32, I30 = ur I26 334 (fun _ => 0) → L31 = ur L27 334 (fun _ => 0) → R32 = ur R29 334 (fun _ => none) → (∀ R33, R33 = u2 R32 326 8 (some 334) → (∀ I34 L35 R36, I34 = ur I30 335 (fun _ => 0) → L35 = ur L31 335 (fun _ => 0) → R36 = ur R33 335 (fun _ => none) → (∀ R37, R37 = u2 R36 326 9 (some 335) → (∀ I38, I38 = u2 I34 326 10 0 → (∀ I39, I39 = u2 I38 326 11 0 → (∀ I40, I40 = u2 I39 326 12 0 → Q I40 L35 R37))))))))))))))))))))))
set_option maxRecDepth 20000 in
theorem mt_X8_init {E : Ev} {l : Launch} {I : MI} {L : ML} {R : MR} {Q : MI → ML → MR → Prop} (h : wp_X8_init I L R Q) : MX E l rm_X8_init yX8_init cX8_init 1 none [.ref 326] 327 I L R (fun v n' I' L' R' => v = none ∧ n' = 336 ∧ Q I' L' R') := by
  refine MX_of (ls := [(0, .ref 326)]) (by decide) (Nat.le_of_ble_eq_true rfl) rfl ?_
  unfold wp_X8_init at h
  refine x_aload_n dX8_init_0 rfl ?_
  refine x_objInit dX8_init_1 wn_ol_RX8_3 wn_oi wn_oc ⟨Nat.le_of_ble_eq_true rfl, Nat.le_of_ble_eq_true rfl⟩ ?_
  refine x_aload_n dX8_init_4 rfl ?_
  refine x_sipush (v := 144) dX8_init_5 ks_144 ?_
  refine x_newl (N := 144) dX8_init_8 wn_long sh_327 (by decide) (by decide) (by decide) (Nat.le_of_ble_eq_true rfl) (Nat.le_of_ble_eq_true rfl) (Nat.le_of_ble_eq_true rfl) (fun I1 L2 R3 e1 e2 e3 => ?_)
  have h := h I1 L2 R3 e1 e2 e3
  refine x_cs 328 1 144 rfl rfl rfl ?_
  refine x_putF dX8_init_10 fk_RX8_11 fF_6_0 rfl (fun _ => rfl) (fun _ => rfl) (Nat.le_of_ble_eq_true rfl) sh_326 (fun R4 e1 => ?_)
  have h := h R4 e1
  refine x_aload_n dX8_init_13 rfl ?_
  refine x_sipush (v := 160) dX8_init_14 ks_160 ?_
  refine x_newl (N := 160) dX8_init_17 wn_long sh_328 (by decide) (by decide) (by decide) (Nat.le_of_ble_eq_true rfl) (Nat.le_of_ble_eq_true rfl) (Nat.le_of_ble_eq_true rfl) (fun I5 L6 R7 e1 e2 e3 => ?_)
  have h := h I5 L6 R7 e1 e2 e3
  refine x_cs 329 2 304 rfl rfl rfl ?_
  refine x_putF dX8_init_19 fk_RX8_15 fF_6_1 rfl (fun _ => rfl) (fun _ => rfl) (Nat.le_of_ble_eq_true rfl) sh_326 (fun R8 e1 => ?_)
  have h := h R8 e1
  refine x_aload_n dX8_init_22 rfl ?_
  refine x_bipush (v := 72) dX8_init_23 kb_72 ?_
  refine x_newi (N := 72) dX8_init_25 wn_int sh_329 (by decide) (by decide) (by decide) (Nat.le_of_ble_eq_true rfl) (Nat.le_of_ble_eq_true rfl) (Nat.le_of_ble_eq_true rfl) (fun I9 L10 R11 e1 e2 e3 => ?_)
  have h := h I9 L10 R11 e1 e2 e3
  refine x_cs 330 3 376 rfl rfl rfl ?_
  refine x_putF dX8_init_27 fk_RX8_18 fF_6_2 rfl (fun _ => rfl) (fun _ => rfl) (Nat.le_of_ble_eq_true rfl) sh_326 (fun R12 e1 => ?_)
  have h := h R12 e1
  refine x_aload_n dX8_init_30 rfl ?_
  refine x_bipush (v := 72) dX8_init_31 kb_72 ?_
  refine x_newi (N := 72) dX8_init_33 wn_int sh_330 (by decide) (by decide) (by decide) (Nat.le_of_ble_eq_true rfl) (Nat.le_of_ble_eq_true rfl) (Nat.le_of_ble_eq_true rfl) (fun I13 L14 R15 e1 e2 e3 => ?_)
  have h := h I13 L14 R15 e1 e2 e3
  refine x_cs 331 4 448 rfl rfl rfl ?_
  refine x_putF dX8_init_35 fk_RX8_22 fF_6_3 rfl (fun _ => rfl) (fun _ => rfl) (Nat.le_of_ble_eq_true rfl) sh_326 (fun R16 e1 => ?_)
  have h := h R16 e1
  refine x_aload_n dX8_init_38 rfl ?_
  refine x_bipush (v := 72) dX8_init_39 kb_72 ?_
  refine x_newi (N := 72) dX8_init_41 wn_int sh_331 (by decide) (by decide) (by decide) (Nat.le_of_ble_eq_true rfl) (Nat.le_of_ble_eq_true rfl) (Nat.le_of_ble_eq_true rfl) (fun I17 L18 R19 e1 e2 e3 => ?_)
  have h := h I17 L18 R19 e1 e2 e3
  refine x_cs 332 5 520 rfl rfl rfl ?_
  refine x_putF dX8_init_43 fk_RX8_25 fF_6_4 rfl (fun _ => rfl) (fun _ => rfl) (Nat.le_of_ble_eq_true rfl) sh_326 (fun R20 e1 => ?_)
  have h := h R20 e1
  refine x_aload_n dX8_init_46 rfl ?_
  refine x_iconst (v := 0) dX8_init_47 ki_0 ?_
  refine x_puti dX8_init_48 fk_RX8_28 fw_6_5 (vp_nar_int _) rfl (Nat.le_of_ble_eq_true rfl) sh_326 (fun I21 e1 => ?_)
  have h := h I21 e1
  refine x_aload_n dX8_init_51 rfl ?_
  refine x_bipush (v := 16) dX8_init_52 kb_16 ?_
  refine x_newi (N := 16) dX8_init_54 wn_int sh_332 (by decide) (by decide) (by decide) (Nat.le_of_ble_eq_true rfl) (Nat.le_of_ble_eq_true rfl) (Nat.le_of_ble_eq_true rfl) (fun I22 L23 R24 e1 e2 e3 => ?_)
  have h := h I22 L23 R24 e1 e2 e3
  refine x_cs 333 6 536 rfl rfl rfl ?_
  refine x_putF dX8_init_56 fk_RX8_32 fF_6_6 rfl (fun _ => rfl) (fun _ => rfl) (Nat.le_of_ble_eq_true rfl) sh_326 (fun R25 e1 => ?_)
  have h := h R25 e1
  refine x_aload_n dX8_init_59 rfl ?_
  refine x_sipush (v := 1000) dX8_init_60 ks_1000 ?_
  refine x_newl (N := 1000) dX8_init_63 wn_long sh_333 (by decide) (by decide) (by decide) (Nat.le_of_ble_eq_true rfl) (Nat.le_of_ble_eq_true rfl) (Nat.le_of_ble_eq_true rfl) (fun I26 L27 R28 e1 e2 e3 => ?_)
  have h := h I26 L27 R28 e1 e2 e3
  refine x_cs 334 7 1536 rfl rfl rfl ?_
  refine x_putF dX8_init_65 fk_RX8_35 fF_6_7 rfl (fun _ => rfl) (fun _ => rfl) (Nat.le_of_ble_eq_true rfl) sh_326 (fun R29 e1 => ?_)
  have h := h R29 e1
  refine x_aload_n dX8_init_68 rfl ?_
  refine x_sipush (v := 1000) dX8_init_69 ks_1000 ?_
  refine x_newi (N := 1000) dX8_init_72 wn_int sh_334 (by decide) (by decide) (by decide) (Nat.le_of_ble_eq_true rfl) (Nat.le_of_ble_eq_true rfl) (Nat.le_of_ble_eq_true rfl) (fun I30 L31 R32 e1 e2 e3 => ?_)
  have h := h I30 L31 R32 e1 e2 e3
  refine x_cs 335 8 2536 rfl rfl rfl ?_
  refine x_putF dX8_init_74 fk_RX8_38 fF_6_8 rfl (fun _ => rfl) (fun _ => rfl) (Nat.le_of_ble_eq_true rfl) sh_326 (fun R33 e1 => ?_)
  have h := h R33 e1
  refine x_aload_n dX8_init_77 rfl ?_
  refine x_sipush (v := 900) dX8_init_78 ks_900 ?_
  refine x_newi (N := 900) dX8_init_81 wn_int sh_335 (by decide) (by decide) (by decide) (Nat.le_of_ble_eq_true rfl) (Nat.le_of_ble_eq_true rfl) (Nat.le_of_ble_eq_true rfl) (fun I34 L35 R36 e1 e2 e3 => ?_)
  have h := h I34 L35 R36 e1 e2 e3
  refine x_cs 336 9 3436 rfl rfl rfl ?_
  refine x_putF dX8_init_83 fk_RX8_41 fF_6_9 rfl (fun _ => rfl) (fun _ => rfl) (Nat.le_of_ble_eq_true rfl) sh_326 (fun R37 e1 => ?_)
  have h := h R37 e1
  refine x_aload_n dX8_init_86 rfl ?_
  refine x_iconst (v := 0) dX8_init_87 ki_0 ?_
  refine x_puti dX8_init_88 fk_RX8_44 fw_6_10 rfl rfl (Nat.le_of_ble_eq_true rfl) sh_326 (fun I38 e1 => ?_)
  have h := h I38 e1
  refine x_aload_n dX8_init_91 rfl ?_
  refine x_iconst (v := 0) dX8_init_92 ki_0 ?_
  refine x_puti dX8_init_93 fk_RX8_48 fw_6_11 rfl rfl (Nat.le_of_ble_eq_true rfl) sh_326 (fun I39 e1 => ?_)
  have h := h I39 e1
  refine x_aload_n dX8_init_96 rfl ?_
  refine x_iconst (v := 0) dX8_init_97 ki_0 ?_
  refine x_puti dX8_init_98 fk_RX8_51 fw_6_12 rfl rfl (Nat.le_of_ble_eq_true rfl) sh_326 (fun I40 e1 => ?_)
  have h := h I40 e1
  exact x_return dX8_init_101 ⟨rfl, rfl, h⟩
abbrev rm_X9_init : Room := { frames := 4, cells := 335, slots := 15189, locals := 83 }
def wp_X9_init (I : MI) (L : ML) (R : MR) (Q : MI → ML → MR → Prop) : Prop :=
    (∀ I1 L2 R3, I1 = ur I 1 (fun _ => 0) → L2 = ur L 1 (fun _ => 0) → R3 = ur R 1 (fun _ => none) → (∀ R4, R4 = u2 R3 0 0 (some 1) → (∀ I5, I5 = u2 I1 0 1 0 → (∀ I6 L7 R8, I6 = ur I5 2 (fun _ => 0) → L7 = ur L2 2 (fun _ => 0) → R8 = ur R4 2 (fun _ => none) → (wp_X2_init 2 I6 L7 R8 (fun I9 L10 R11 => ((∀ R12, R12 = u2 R11 0 2 (some 2) → (∀ I13 L14 R15, I13 = ur I9 24 (fun _ => 0) → L14 = ur L10 24 (fun _ => 0) → R15 = ur R12 24 (fun _ => none) → (wp_X2_init 24 I13 L14 R15 (fun I16 L17 R18 => ((∀ R19, R19 = u2 R18 0 3 (some 24) → (∀ I20 L21 R22, I20 = ur I16 46 (fun _ => 0) → L21 = ur L17 46 (fun _ => 0) → R22 = ur R19 46 (fun _ => none) → (wp_X0_init I20 L21 R22 (fun I23 L24 R25 => ((∀ R26, R26 = u2 R25 0 4 (some 46) → (∀ I27 L28 R29, I27 = ur I23 312 (fun _ => 0) → L28 = ur L24 312 (fun _ => 0) → R29 = ur R26 312 (fun _ => none) → (wp_X3_init I27 L28 R29 (fun I30 L31 R32 => ((∀ R33, R33 = u2 R32 0 5 (some 312) → (∀ I34 L35 R36, I34 = ur I30 324 (fun _ => 0) → L35 = ur L31 324 (fun _ => 0) → R36 = ur R33 324 (fun _ => none) → (wp_X6_init I34 L35 R36 (fun I37 L38 R39 => ((∀ R40, R40 = u2 R39 0 6 (some 324) → (∀ I41 L42 R43, I41 = ur I37 326 (fun _ => 0) → L42 = ur L38 326 (fun _ => 0) → R43 = ur R40 326 (fun _ => none) → (wp_X8_init I41 L42 R43 (fun I44 L45 R46 => ((∀ R47, R47 = u2 R46 0 7 (some 326) → (R47 0 2 = some 2 ∧ (GRx R47 ∧ (wp_X2_beginAnew 2 I44 (fun I50 => (Q I50 L45 R47))))))))))))))))))))))))))))))))))))))
set_option maxRecDepth 20000 in
theorem mt_X9_init {E : Ev} {l : Launch} {I : MI} {L : ML} {R : MR} {Q : MI → ML → MR → Prop} (h : wp_X9_init I L R Q) : MX E l rm_X9_init yX9_init cX9_init 1 none [.ref 0] 1 I L R (fun v n' I' L' R' => v = none ∧ n' = 336 ∧ Q I' L' R') := by
  refine MX_of (ls := [(0, .ref 0)]) (by decide) (Nat.le_of_ble_eq_true rfl) rfl ?_
  unfold wp_X9_init at h
  refine x_aload_n dX9_init_0 rfl ?_
  refine x_objInit dX9_init_1 wn_ol_RX9_3 wn_oi wn_oc ⟨Nat.le_of_ble_eq_true rfl, Nat.le_of_ble_eq_true rfl⟩ ?_
  refine x_aload_n dX9_init_4 rfl ?_
  refine x_sipush (v := 400) dX9_init_5 ks_400 ?_
  refine x_newb (N := 400) dX9_init_8 wn_byte sh_1 (by decide) (by decide) (by decide) (Nat.le_of_ble_eq_true rfl) (Nat.le_of_ble_eq_true rfl) (Nat.le_of_ble_eq_true rfl) (fun I1 L2 R3 e1 e2 e3 => ?_)
  have h := h I1 L2 R3 e1 e2 e3
  refine x_cs 2 1 400 rfl rfl rfl ?_
  refine x_putF dX9_init_10 fk_RX9_9 fF_7_0 rfl (fun _ => rfl) (fun _ => rfl) (Nat.le_of_ble_eq_true rfl) sh_0 (fun R4 e1 => ?_)
  have h := h R4 e1
  refine x_aload_n dX9_init_13 rfl ?_
  refine x_iconst (v := 0) dX9_init_14 ki_0 ?_
  refine x_puti dX9_init_15 fk_RX9_13 fw_7_1 (vp_nar_int _) rfl (Nat.le_of_ble_eq_true rfl) sh_0 (fun I5 e1 => ?_)
  have h := h I5 e1
  refine x_aload_n dX9_init_18 rfl ?_
  refine x_new dX9_init_19 wn_cl_RX9_17 wn_inst_2 wn_init_2 fkw_2 rfl tyX2_ok (Py_s0 play_2) (by decide) (Nat.le_of_ble_eq_true rfl) (Nat.le_of_ble_eq_true rfl) wn_def_2 (fun I6 L7 R8 e1 e2 e3 => ?_)
  have h := h I6 L7 R8 e1 e2 e3
  refine x_cs 3 2 419 rfl rfl rfl ?_
  refine x_dup dX9_init_22 rfl ?_
  refine x_callIN [] (mt_X2_init play_2 h) dX9_init_23 wn_lk_RX9_19 cal_X2_init wn_im_X2_init rfl rfl rfl (Nat.le_of_ble_eq_true rfl) ⟨⟨Nat.le_of_ble_eq_true rfl, Nat.le_of_ble_eq_true rfl⟩, Nat.le_of_ble_eq_true rfl, Nat.le_of_ble_eq_true rfl⟩ (fun v n' I9 L10 R11 hq => ?_)
  obtain ⟨rfl, rfl, h⟩ := hq
  refine x_cs 24 23 1184 rfl rfl rfl ?_
  refine x_putF dX9_init_26 fk_RX9_20 fF_7_2 rfl (fun _ => rfl) (fun _ => rfl) (Nat.le_of_ble_eq_true rfl) sh_0 (fun R12 e1 => ?_)
  have h := h R12 e1
  refine x_aload_n dX9_init_29 rfl ?_
  refine x_new dX9_init_30 wn_cl_RX9_17 wn_inst_2 wn_init_2 fkw_2 rfl tyX2_ok (Py_s0 play_24) (by decide) (Nat.le_of_ble_eq_true rfl) (Nat.le_of_ble_eq_true rfl) wn_def_2 (fun I13 L14 R15 e1 e2 e3 => ?_)
  have h := h I13 L14 R15 e1 e2 e3
  refine x_cs 25 24 1203 rfl rfl rfl ?_
  refine x_dup dX9_init_33 rfl ?_
  refine x_callIN [] (mt_X2_init play_24 h) dX9_init_34 wn_lk_RX9_19 cal_X2_init wn_im_X2_init rfl rfl rfl (Nat.le_of_ble_eq_true rfl) ⟨⟨Nat.le_of_ble_eq_true rfl, Nat.le_of_ble_eq_true rfl⟩, Nat.le_of_ble_eq_true rfl, Nat.le_of_ble_eq_true rfl⟩ (fun v n' I16 L17 R18 hq => ?_)
  obtain ⟨rfl, rfl, h⟩ := hq
  refine x_cs 46 45 1968 rfl rfl rfl ?_
  refine x_putF dX9_init_37 fk_RX9_24 fF_7_3 rfl (fun _ => rfl) (fun _ => rfl) (Nat.le_of_ble_eq_true rfl) sh_0 (fun R19 e1 => ?_)
  have h := h R19 e1
  refine x_aload_n dX9_init_40 rfl ?_
  refine x_new dX9_init_41 wn_cl_RX9_27 wn_inst_0 wn_init_0 fkw_0 rfl tyX0_ok sh_46 (by decide) (Nat.le_of_ble_eq_true rfl) (Nat.le_of_ble_eq_true rfl) wn_def_0 (fun I20 L21 R22 e1 e2 e3 => ?_)
  have h := h I20 L21 R22 e1 e2 e3
  refine x_cs 47 46 1971 rfl rfl rfl ?_
  refine x_dup dX9_init_44 rfl ?_
  refine x_callI [] (mt_X0_init h) dX9_init_45 wn_lk_RX9_29 cal_X0_init wn_im_X0_init rfl rfl rfl (Nat.le_of_ble_eq_true rfl) ⟨⟨Nat.le_of_ble_eq_true rfl, Nat.le_of_ble_eq_true rfl⟩, Nat.le_of_ble_eq_true rfl, Nat.le_of_ble_eq_true rfl⟩ (fun v n' I23 L24 R25 hq => ?_)
  obtain ⟨rfl, rfl, h⟩ := hq
  refine x_cs 312 311 11391 rfl rfl rfl ?_
  refine x_putF dX9_init_48 fk_RX9_30 fF_7_4 rfl (fun _ => rfl) (fun _ => rfl) (Nat.le_of_ble_eq_true rfl) sh_0 (fun R26 e1 => ?_)
  have h := h R26 e1
  refine x_aload_n dX9_init_51 rfl ?_
  refine x_new dX9_init_52 wn_cl_RX9_34 wn_inst_3 wn_init_3 fkw_3 rfl tyX3_ok sh_312 (by decide) (Nat.le_of_ble_eq_true rfl) (Nat.le_of_ble_eq_true rfl) wn_def_3 (fun I27 L28 R29 e1 e2 e3 => ?_)
  have h := h I27 L28 R29 e1 e2 e3
  refine x_cs 313 312 11396 rfl rfl rfl ?_
  refine x_dup dX9_init_55 rfl ?_
  refine x_callIN [] (mt_X3_init h) dX9_init_56 wn_lk_RX9_36 cal_X3_init wn_im_X3_init rfl rfl rfl (Nat.le_of_ble_eq_true rfl) ⟨⟨Nat.le_of_ble_eq_true rfl, Nat.le_of_ble_eq_true rfl⟩, Nat.le_of_ble_eq_true rfl, Nat.le_of_ble_eq_true rfl⟩ (fun v n' I30 L31 R32 hq => ?_)
  obtain ⟨rfl, rfl, h⟩ := hq
  refine x_cs 324 323 11482 rfl rfl rfl ?_
  refine x_putF dX9_init_59 fk_RX9_37 fF_7_5 rfl (fun _ => rfl) (fun _ => rfl) (Nat.le_of_ble_eq_true rfl) sh_0 (fun R33 e1 => ?_)
  have h := h R33 e1
  refine x_aload_n dX9_init_62 rfl ?_
  refine x_new dX9_init_63 wn_cl_RX9_41 wn_inst_6 wn_init_6 fkw_5 rfl tyX6_ok sh_324 (by decide) (Nat.le_of_ble_eq_true rfl) (Nat.le_of_ble_eq_true rfl) wn_def_6 (fun I34 L35 R36 e1 e2 e3 => ?_)
  have h := h I34 L35 R36 e1 e2 e3
  refine x_cs 325 324 11484 rfl rfl rfl ?_
  refine x_dup dX9_init_66 rfl ?_
  refine x_callIN [] (mt_X6_init h) dX9_init_67 wn_lk_RX9_43 cal_X6_init wn_im_X6_init rfl rfl rfl (Nat.le_of_ble_eq_true rfl) ⟨⟨Nat.le_of_ble_eq_true rfl, Nat.le_of_ble_eq_true rfl⟩, Nat.le_of_ble_eq_true rfl, Nat.le_of_ble_eq_true rfl⟩ (fun v n' I37 L38 R39 hq => ?_)
  obtain ⟨rfl, rfl, h⟩ := hq
  refine x_cs 326 325 11740 rfl rfl rfl ?_
  refine x_putF dX9_init_70 fk_RX9_44 fF_7_6 rfl (fun _ => rfl) (fun _ => rfl) (Nat.le_of_ble_eq_true rfl) sh_0 (fun R40 e1 => ?_)
  have h := h R40 e1
  refine x_aload_n dX9_init_73 rfl ?_
  refine x_new dX9_init_74 wn_cl_RX9_48 wn_inst_8 wn_init_8 fkw_6 rfl tyX8_ok sh_326 (by decide) (Nat.le_of_ble_eq_true rfl) (Nat.le_of_ble_eq_true rfl) wn_def_8 (fun I41 L42 R43 e1 e2 e3 => ?_)
  have h := h I41 L42 R43 e1 e2 e3
  refine x_cs 327 326 11753 rfl rfl rfl ?_
  refine x_dup dX9_init_77 rfl ?_
  refine x_callIN [] (mt_X8_init h) dX9_init_78 wn_lk_RX9_50 cal_X8_init wn_im_X8_init rfl rfl rfl (Nat.le_of_ble_eq_true rfl) ⟨⟨Nat.le_of_ble_eq_true rfl, Nat.le_of_ble_eq_true rfl⟩, Nat.le_of_ble_eq_true rfl, Nat.le_of_ble_eq_true rfl⟩ (fun v n' I44 L45 R46 hq => ?_)
  obtain ⟨rfl, rfl, h⟩ := hq
  refine x_cs 336 335 15189 rfl rfl rfl ?_
  refine x_putF dX9_init_81 fk_RX9_51 fF_7_7 rfl (fun _ => rfl) (fun _ => rfl) (Nat.le_of_ble_eq_true rfl) sh_0 (fun R47 e1 => ?_)
  have h := h R47 e1
  refine x_aload_n dX9_init_84 rfl ?_
  obtain ⟨b48, h⟩ := h
  refine x_getr (j := 2) dX9_init_85 fk_RX9_20 (Nat.le_of_ble_eq_true rfl) sh_0 b48 ?_
  obtain ⟨b49, h⟩ := h
  refine x_cVv10 [] (mt_X2_beginAnew (Nat.le_of_ble_eq_true rfl) b49 play_2 h) dX9_init_88 lk_RX9_55 (Nat.le_of_ble_eq_true rfl) (Py_s0 play_2) rfl rfl (Nat.le_of_ble_eq_true rfl) (Rf_of rfl) (fun I50 h => ?_)
  exact x_return dX9_init_91 ⟨rfl, rfl, h⟩
abbrev rm_X10_init : Room := { frames := 1, cells := 12, slots := 35147, locals := 20 }
def wp_X10_init (I : MI) (L : ML) (R : MR) (Q : MI → ML → MR → Prop) : Prop :=
    (∀ I1 L2 R3, I1 = ur I 337 (fun _ => 0) → L2 = ur L 337 (fun _ => 0) → R3 = ur R 337 (fun _ => none) → (∀ R4, R4 = u2 R3 336 1 (some 337) → (∀ I5 L6 R7, I5 = ur I1 338 (fun _ => 0) → L6 = ur L2 338 (fun _ => 0) → R7 = ur R4 338 (fun _ => none) → (∀ R8, R8 = u2 R7 336 2 (some 338) → (∀ I9 L10 R11, I9 = ur I5 339 (fun _ => 0) → L10 = ur L6 339 (fun _ => 0) → R11 = ur R8 339 (fun _ => none) → (∀ R12, R12 = u2 R11 336 3 (some 339) → (∀ I13 L14 R15, I13 = ur I9 340 (fun _ => 0) → L14 = ur L10 340 (fun _ => 0) → R15 = ur R12 340 (fun _ => none) → (∀ R16, R16 = u2 R15 336 5 (some 340) → (∀ I17 L18 R19, I17 = ur I13 341 (fun _ => 0) → L18 = ur L14 341 (fun _ => 0) → R19 = ur R16 341 (fun _ => none) → (∀ R20, R20 = u2 R19 336 14 (some 341) → (∀ I21 L22 R23, I21 = ur I17 342 (fun _ => 0) → L22 = ur L18 342 (fun _ => 0) → R23 = ur R20 342 (fun _ => none) → (∀ R24, R24 = u2 R23 336 15 (some 342) → (∀ I25 L26 R27, I25 = ur I21 343 (fun _ => 0) → L26 = ur L22 343 (fun _ => 0) → R27 = ur R24 343 (fun _ => none) → (∀ R28, R28 = u2 R27 336 16 (some 343) → (∀ I29 L30 R31, I29 = ur I25 344 (fun _ => 0) → L30 = ur L26 344 (fun _ => 0) → R31 = ur R28 344 (fun _ => none) → (∀ R32, R32 = u2 R31 336 17 (some 344) → (∀ I33 L34 R35, I33 = ur I29 345 (fun _ => 0) → L34 = ur L30 345 (fun _ => 0) → R35 = ur R32 345 (fun _ => none) → (∀ R36, R36 = u2 R35 336 19 (some 345) → (∀ I37 L38 R39, I37 = ur I33 346 (fun _ => 0) → L38 = ur L34 346 (fun _ => 0) → R39 = ur R36 346 (fun _ => none) → (∀ R40, R40 = u2 R39 336 20 (some 346) → (∀ I41 L42 R43, I41 = ur I37 347 (fun _ => 0) → L42 = ur L38 347 (fun _ => 0) → R43 = ur R40 347 (fun _ => none) → (∀ R44, R44 = u2 R43 336 21 (some 347) → (∀ I45 L46 R47, I45 = ur I41 348 (fun _ => 0) → L46 = ur L42 348 (fun _ => 0) → R47 = ur R44 348 (fun _ => none) → (∀ R48, R48 = u2 R47 336 22 (some 348) → (R48 336 1 = some 337 ∧ (∀ I50, I50 = u2 I45 337 (ix 2) 1 → Q I50 L46 R48))))))))))))))))))))))))))
set_option maxRecDepth 20000 in
theorem mt_X10_init {E : Ev} {l : Launch} {I : MI} {L : ML} {R : MR} {Q : MI → ML → MR → Prop} (h : wp_X10_init I L R Q) : MX E l rm_X10_init yX10_init cX10_init 1 none [.ref 336] 337 I L R (fun v n' I' L' R' => v = none ∧ n' = 349 ∧ Q I' L' R') := by
  refine MX_of (ls := [(0, .ref 336)]) (by decide) (Nat.le_of_ble_eq_true rfl) rfl ?_
  unfold wp_X10_init at h
  refine x_aload_n dX10_init_0 rfl ?_
  refine x_objInit dX10_init_1 wn_ol_RX10_1 wn_oi wn_oc ⟨Nat.le_of_ble_eq_true rfl, Nat.le_of_ble_eq_true rfl⟩ ?_
  refine x_aload_n dX10_init_4 rfl ?_
  refine x_sipush (v := 2212) dX10_init_5 ks_2212 ?_
  refine x_newi (N := 2212) dX10_init_8 wn_int sh_337 (by decide) (by decide) (by decide) (Nat.le_of_ble_eq_true rfl) (Nat.le_of_ble_eq_true rfl) (Nat.le_of_ble_eq_true rfl) (fun I1 L2 R3 e1 e2 e3 => ?_)
  have h := h I1 L2 R3 e1 e2 e3
  refine x_cs 338 1 2212 rfl rfl rfl ?_
  refine x_putF dX10_init_10 fk_RX10_7 fF_8_1 rfl (fun _ => rfl) (fun _ => rfl) (Nat.le_of_ble_eq_true rfl) sh_336 (fun R4 e1 => ?_)
  have h := h R4 e1
  refine x_aload_n dX10_init_13 rfl ?_
  refine x_sipush (v := 2212) dX10_init_14 ks_2212 ?_
  refine x_newi (N := 2212) dX10_init_17 wn_int sh_338 (by decide) (by decide) (by decide) (Nat.le_of_ble_eq_true rfl) (Nat.le_of_ble_eq_true rfl) (Nat.le_of_ble_eq_true rfl) (fun I5 L6 R7 e1 e2 e3 => ?_)
  have h := h I5 L6 R7 e1 e2 e3
  refine x_cs 339 2 4424 rfl rfl rfl ?_
  refine x_putF dX10_init_19 fk_RX10_13 fF_8_2 rfl (fun _ => rfl) (fun _ => rfl) (Nat.le_of_ble_eq_true rfl) sh_336 (fun R8 e1 => ?_)
  have h := h R8 e1
  refine x_aload_n dX10_init_22 rfl ?_
  refine x_sipush (v := 26544) dX10_init_23 ks_26544 ?_
  refine x_newi (N := 26544) dX10_init_26 wn_int sh_339 (by decide) (by decide) (by decide) (Nat.le_of_ble_eq_true rfl) (Nat.le_of_ble_eq_true rfl) (Nat.le_of_ble_eq_true rfl) (fun I9 L10 R11 e1 e2 e3 => ?_)
  have h := h I9 L10 R11 e1 e2 e3
  refine x_cs 340 3 30968 rfl rfl rfl ?_
  refine x_putF dX10_init_28 fk_RX10_16 fF_8_3 rfl (fun _ => rfl) (fun _ => rfl) (Nat.le_of_ble_eq_true rfl) sh_336 (fun R12 e1 => ?_)
  have h := h R12 e1
  refine x_aload_n dX10_init_31 rfl ?_
  refine x_sipush (v := 400) dX10_init_32 ks_400 ?_
  refine x_newi (N := 400) dX10_init_35 wn_int sh_340 (by decide) (by decide) (by decide) (Nat.le_of_ble_eq_true rfl) (Nat.le_of_ble_eq_true rfl) (Nat.le_of_ble_eq_true rfl) (fun I13 L14 R15 e1 e2 e3 => ?_)
  have h := h I13 L14 R15 e1 e2 e3
  refine x_cs 341 4 31368 rfl rfl rfl ?_
  refine x_putF dX10_init_37 fk_RX10_19 fF_8_5 rfl (fun _ => rfl) (fun _ => rfl) (Nat.le_of_ble_eq_true rfl) sh_336 (fun R16 e1 => ?_)
  have h := h R16 e1
  refine x_aload_n dX10_init_40 rfl ?_
  refine x_bipush (v := 90) dX10_init_41 kb_90 ?_
  refine x_newi (N := 90) dX10_init_43 wn_int sh_341 (by decide) (by decide) (by decide) (Nat.le_of_ble_eq_true rfl) (Nat.le_of_ble_eq_true rfl) (Nat.le_of_ble_eq_true rfl) (fun I17 L18 R19 e1 e2 e3 => ?_)
  have h := h I17 L18 R19 e1 e2 e3
  refine x_cs 342 5 31458 rfl rfl rfl ?_
  refine x_putF dX10_init_45 fk_RX10_22 fF_8_14 rfl (fun _ => rfl) (fun _ => rfl) (Nat.le_of_ble_eq_true rfl) sh_336 (fun R20 e1 => ?_)
  have h := h R20 e1
  refine x_aload_n dX10_init_48 rfl ?_
  refine x_bipush (v := 90) dX10_init_49 kb_90 ?_
  refine x_newi (N := 90) dX10_init_51 wn_int sh_342 (by decide) (by decide) (by decide) (Nat.le_of_ble_eq_true rfl) (Nat.le_of_ble_eq_true rfl) (Nat.le_of_ble_eq_true rfl) (fun I21 L22 R23 e1 e2 e3 => ?_)
  have h := h I21 L22 R23 e1 e2 e3
  refine x_cs 343 6 31548 rfl rfl rfl ?_
  refine x_putF dX10_init_53 fk_RX10_25 fF_8_15 rfl (fun _ => rfl) (fun _ => rfl) (Nat.le_of_ble_eq_true rfl) sh_336 (fun R24 e1 => ?_)
  have h := h R24 e1
  refine x_aload_n dX10_init_56 rfl ?_
  refine x_bipush (v := 90) dX10_init_57 kb_90 ?_
  refine x_newi (N := 90) dX10_init_59 wn_int sh_343 (by decide) (by decide) (by decide) (Nat.le_of_ble_eq_true rfl) (Nat.le_of_ble_eq_true rfl) (Nat.le_of_ble_eq_true rfl) (fun I25 L26 R27 e1 e2 e3 => ?_)
  have h := h I25 L26 R27 e1 e2 e3
  refine x_cs 344 7 31638 rfl rfl rfl ?_
  refine x_putF dX10_init_61 fk_RX10_28 fF_8_16 rfl (fun _ => rfl) (fun _ => rfl) (Nat.le_of_ble_eq_true rfl) sh_336 (fun R28 e1 => ?_)
  have h := h R28 e1
  refine x_aload_n dX10_init_64 rfl ?_
  refine x_bipush (v := 9) dX10_init_65 kb_9 ?_
  refine x_newi (N := 9) dX10_init_67 wn_int sh_344 (by decide) (by decide) (by decide) (Nat.le_of_ble_eq_true rfl) (Nat.le_of_ble_eq_true rfl) (Nat.le_of_ble_eq_true rfl) (fun I29 L30 R31 e1 e2 e3 => ?_)
  have h := h I29 L30 R31 e1 e2 e3
  refine x_cs 345 8 31647 rfl rfl rfl ?_
  refine x_putF dX10_init_69 fk_RX10_31 fF_8_17 rfl (fun _ => rfl) (fun _ => rfl) (Nat.le_of_ble_eq_true rfl) sh_336 (fun R32 e1 => ?_)
  have h := h R32 e1
  refine x_aload_n dX10_init_72 rfl ?_
  refine x_sipush (v := 1000) dX10_init_73 ks_1000 ?_
  refine x_newl (N := 1000) dX10_init_76 wn_long sh_345 (by decide) (by decide) (by decide) (Nat.le_of_ble_eq_true rfl) (Nat.le_of_ble_eq_true rfl) (Nat.le_of_ble_eq_true rfl) (fun I33 L34 R35 e1 e2 e3 => ?_)
  have h := h I33 L34 R35 e1 e2 e3
  refine x_cs 346 9 32647 rfl rfl rfl ?_
  refine x_putF dX10_init_78 fk_RX10_34 fF_8_19 rfl (fun _ => rfl) (fun _ => rfl) (Nat.le_of_ble_eq_true rfl) sh_336 (fun R36 e1 => ?_)
  have h := h R36 e1
  refine x_aload_n dX10_init_81 rfl ?_
  refine x_sipush (v := 1000) dX10_init_82 ks_1000 ?_
  refine x_newi (N := 1000) dX10_init_85 wn_int sh_346 (by decide) (by decide) (by decide) (Nat.le_of_ble_eq_true rfl) (Nat.le_of_ble_eq_true rfl) (Nat.le_of_ble_eq_true rfl) (fun I37 L38 R39 e1 e2 e3 => ?_)
  have h := h I37 L38 R39 e1 e2 e3
  refine x_cs 347 10 33647 rfl rfl rfl ?_
  refine x_putF dX10_init_87 fk_RX10_38 fF_8_20 rfl (fun _ => rfl) (fun _ => rfl) (Nat.le_of_ble_eq_true rfl) sh_336 (fun R40 e1 => ?_)
  have h := h R40 e1
  refine x_aload_n dX10_init_90 rfl ?_
  refine x_sipush (v := 1000) dX10_init_91 ks_1000 ?_
  refine x_newi (N := 1000) dX10_init_94 wn_int sh_347 (by decide) (by decide) (by decide) (Nat.le_of_ble_eq_true rfl) (Nat.le_of_ble_eq_true rfl) (Nat.le_of_ble_eq_true rfl) (fun I41 L42 R43 e1 e2 e3 => ?_)
  have h := h I41 L42 R43 e1 e2 e3
  refine x_cs 348 11 34647 rfl rfl rfl ?_
  refine x_putF dX10_init_96 fk_RX10_41 fF_8_21 rfl (fun _ => rfl) (fun _ => rfl) (Nat.le_of_ble_eq_true rfl) sh_336 (fun R44 e1 => ?_)
  have h := h R44 e1
  refine x_aload_n dX10_init_99 rfl ?_
  refine x_sipush (v := 500) dX10_init_100 ks_500 ?_
  refine x_newi (N := 500) dX10_init_103 wn_int sh_348 (by decide) (by decide) (by decide) (Nat.le_of_ble_eq_true rfl) (Nat.le_of_ble_eq_true rfl) (Nat.le_of_ble_eq_true rfl) (fun I45 L46 R47 e1 e2 e3 => ?_)
  have h := h I45 L46 R47 e1 e2 e3
  refine x_cs 349 12 35147 rfl rfl rfl ?_
  refine x_putF dX10_init_105 fk_RX10_44 fF_8_22 rfl (fun _ => rfl) (fun _ => rfl) (Nat.le_of_ble_eq_true rfl) sh_336 (fun R48 e1 => ?_)
  have h := h R48 e1
  refine x_aload_n dX10_init_108 rfl ?_
  obtain ⟨b49, h⟩ := h
  refine x_getr (j := 337) dX10_init_109 fk_RX10_7 (Nat.le_of_ble_eq_true rfl) sh_336 b49 ?_
  refine x_iconst (v := 2) dX10_init_112 ki_2 ?_
  refine x_iconst (v := 1) dX10_init_113 ki_1 ?_
  refine x_iastore dX10_init_114 (Nat.le_of_ble_eq_true rfl) sh_337 (vp_in_nI (n := 2) (by decide) (by decide)) (fun I50 e1 => ?_)
  have h := h I50 e1
  exact x_return dX10_init_115 ⟨rfl, rfl, h⟩
