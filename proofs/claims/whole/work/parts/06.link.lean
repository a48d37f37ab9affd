/-! shapes, tables of links, what they rest on; by program -/
/-- the world of the class (true) and of the reference (false) -/
def pg_sh (b : Bool) : List pg_Ce := bif b then [(3, 0, [7, 9, 13, 16, 18, 21, 23]), (3, 1, [5, 6, 0]), (1, 5184, []), (0, 5184, []), (3, 2, [8, 0, 0, 0]), (0, 48, []), (3, 3, [7, 10, 11, 12]), (0, 144, []), (0, 10, []), (0, 10, []), (3, 4, [7, 9, 14, 15, 0, 0, 0, 0, 0, 1]), (0, 12, []), (0, 12, []), (3, 5, [7, 13, 17, 0, 1]), (0, 144, []), (3, 6, [7, 13, 4, 19, 20, 0, 0, 0, 0, 0, 0, 1]), (0, 7, []), (0, 7, []), (3, 7, [7, 13, 4, 22, 0, 0, 1]), (0, 11, []), (3, 8, [7, 9, 4, 24, 0]), (0, 6, [])] else [(3, 9, [0, 0, 4, 0, 5, 6, 0, 1, 1, 7, 8, 9, 10, 0, 11, 2, 2, 12, 13, 14, 15, 16, 17, 2, 2, 18, 19, 20, 21, 22]), (0, 144, []), (0, 18, []), (0, 1728, []), (0, 5184, []), (0, 5184, []), (0, 5184, []), (0, 5184, []), (0, 5184, []), (0, 12, []), (0, 12, []), (0, 12, []), (0, 12, []), (0, 10, []), (2, 1728, []), (0, 5184, []), (0, 1728, []), (1, 1728, []), (0, 1728, []), (0, 144, [])]
def pg_tyOf (c : Nat) : FieldType := match c with
  | 0 => .int
  | 1 => .boolean
  | _ => .long
def pg_shk (c : pg_Ce) : Bool := match c with
  | (3, ci, fs) => match pgCl[ci]? with
    | some (_, T, N) => Nat.beq fs.length N && (List.range N).all (fun k => match fs[k]? with
      | some c => Nat.ble 3 c || (decide (parseFieldDescriptor (T k).2.2.1 = some (pg_tyOf c)) && !(T k).2.2.2)
      | none => false)
    | none => false
  | (k, n, _) => Nat.blt k 3 && Nat.blt n 2147483648
theorem pg_sh_ck : ∀ b, (pg_sh b).all pg_shk = true := by decide +kernel
def pg_FT (o : Nat) : List (Nat × Nat × Nat) := match o with
  | 0 => [(106, 2, 1), (78, 2, 2), (94, 3, 1), (177, 3, 3), (168, 4, 4), (171, 4, 5), (174, 4, 6), (245, 4, 7), (239, 4, 8), (235, 4, 9), (241, 5, 4), (202, 6, 3), (205, 6, 4), (208, 6, 7), (211, 6, 8), (214, 6, 9), (242, 6, 11), (243, 7, 6), (113, 8, 4), (13, 0, 0), (24, 0, 1), (33, 0, 2), (42, 0, 3), (51, 0, 4), (58, 0, 5), (67, 0, 6)]
  | 1 => [(9, 1, 0), (15, 1, 1), (19, 1, 2)]
  | 2 => [(9, 2, 0), (15, 2, 1), (19, 2, 2), (22, 2, 3)]
  | 3 => [(31, 2, 2), (21, 3, 0), (9, 3, 1), (15, 3, 2), (18, 3, 3)]
  | 4 => [(66, 2, 2), (127, 2, 3), (84, 3, 1), (97, 3, 2), (38, 4, 0), (42, 4, 1), (9, 4, 2), (15, 4, 3), (18, 4, 4), (22, 4, 5), (25, 4, 6), (28, 4, 7), (31, 4, 8), (34, 4, 9)]
  | 5 => [(77, 2, 2), (57, 4, 2), (67, 4, 3), (80, 4, 4), (83, 4, 5), (74, 4, 6), (23, 5, 0), (27, 5, 1), (9, 5, 2), (15, 5, 3), (19, 5, 4)]
  | 6 => [(99, 1, 2), (132, 2, 3), (116, 4, 2), (126, 4, 3), (59, 4, 4), (148, 4, 5), (62, 4, 6), (154, 4, 7), (41, 6, 0), (45, 6, 1), (49, 6, 2), (9, 6, 3), (15, 6, 4), (18, 6, 5), (22, 6, 6), (25, 6, 7), (28, 6, 8), (31, 6, 9), (34, 6, 10), (37, 6, 11)]
  | 7 => [(65, 1, 2), (74, 2, 2), (26, 7, 0), (30, 7, 1), (34, 7, 2), (9, 7, 3), (15, 7, 4), (19, 7, 5), (22, 7, 6)]
  | 8 => [(55, 1, 2), (46, 3, 1), (19, 8, 0), (23, 8, 1), (27, 8, 2), (9, 8, 3), (15, 8, 4)]
  | 9 => [(80, 9, 0), (7, 9, 1), (13, 9, 2), (96, 9, 3), (17, 9, 4), (20, 9, 5), (160, 9, 6), (73, 9, 7), (87, 9, 8), (23, 9, 9), (26, 9, 10), (29, 9, 11), (32, 9, 12), (206, 9, 13), (35, 9, 14), (116, 9, 15), (120, 9, 16), (38, 9, 17), (41, 9, 18), (44, 9, 19), (47, 9, 20), (50, 9, 21), (53, 9, 22), (212, 9, 23), (215, 9, 24), (57, 9, 25), (60, 9, 26), (63, 9, 27), (67, 9, 28), (70, 9, 29)]
  | _ => []
def pg_CT (o : Nat) : List (Nat × Int) := match o with
  | 9 => [(94, 12), (102, 9), (152, 2), (173, 11), (197, 6), (232, 4), (241, 3), (270, 10)]
  | _ => []
def pg_ST (o : Nat) : List (Nat × Nat) := match o with
  | 2 => [(58, 1000), (61, 1001)]
  | _ => []
def pg_MT (o : Nat) : List (Nat × Bool × Nat × pg_M) := match o with
  | 0 => [(71, false, 2, pm_M_choose), (75, false, 0, pm_C_clear), (82, false, 0, pm_N_clear), (83, false, 0, pm_P_forget), (86, true, 1, pm_P_isColour), (90, false, 2, pm_M_point), (98, false, 2, pm_C_put), (102, false, 1, pm_M_wrap), (109, false, 0, pm_C_present), (116, false, 0, pm_G_mostTurns), (119, false, 0, pm_O_total), (122, false, 1, pm_P_countMoves), (165, false, 0, pm_S_study), (244, false, 0, pm_S_total), (248, false, 0, pm_S_shifts), (251, false, 0, pm_S_allChanges), (125, false, 1, pm_M_isLinear), (128, false, 5, pm_M_target), (132, false, 1, pm_M_columnOf), (135, false, 1, pm_M_rowOf), (138, true, 1, pm_P_isPartOfMove), (141, false, 3, pm_M_code), (145, false, 2, pm_M_product), (148, false, 2, pm_M_part), (151, false, 1, pm_M_inverse), (154, false, 3, pm_C_changes), (158, false, 0, pm_C_isSameImage), (162, false, 1, pm_S_numbered), (180, false, 0, pm_S_colourWays), (183, false, 1, pm_O_leastOf), (186, false, 1, pm_O_sizeOf), (189, false, 1, pm_M_wrapSixths), (192, false, 2, pm_S_turnsAt), (195, false, 2, pm_S_mirrorsAt), (198, true, 1, pm_P_isOrder), (201, false, 0, pm_G_study), (217, false, 0, pm_G_name), (220, false, 4, pm_C_stripTurnsOver), (224, false, 5, pm_C_keepsStrip), (228, false, 0, pm_H_total), (229, false, 1, pm_N_add), (232, false, 0, pm_N_paintAlike)]
  | 2 => [(25, false, 4, pm_M_setColumn), (35, false, 1, pm_M_wrap), (29, true, 2, pm_J_floorMod), (39, false, 3, pm_M_linearX), (43, false, 3, pm_M_linearY), (55, false, 1, pm_M_axis), (46, false, 2, pm_M_part), (49, false, 2, pm_M_linearProduct), (52, false, 3, pm_M_code)]
  | 3 => [(25, false, 0, pm_M_points), (35, false, 5, pm_M_target), (39, false, 5, pm_C_keepsStrip), (43, false, 2, pm_M_point)]
  | 4 => [(46, false, 0, pm_S_leastStepAlong), (69, false, 3, pm_C_keeps), (50, false, 0, pm_S_findSecondStep), (53, false, 0, pm_C_rarestPoint), (58, false, 0, pm_M_linears), (62, false, 2, pm_S_findOne), (73, false, 1, pm_M_columnOf), (77, false, 1, pm_M_rowOf), (80, false, 5, pm_M_target), (130, false, 3, pm_S_fixes), (121, false, 3, pm_M_linearX), (124, false, 3, pm_M_linearY), (114, false, 3, pm_S_contains), (90, false, 0, pm_S_shifts), (87, false, 0, pm_M_points), (93, false, 2, pm_S_changesOf), (100, false, 3, pm_C_changes), (102, false, 0, pm_S_study), (105, false, 0, pm_S_total), (111, false, 2, pm_S_numberedOf), (117, false, 3, pm_M_code), (108, false, 0, pm_S_allChanges)]
  | 5 => [(31, false, 0, pm_O_study), (40, false, 0, pm_S_study), (34, false, 0, pm_M_points), (43, false, 1, pm_O_markClass), (47, false, 1, pm_M_columnOf), (51, false, 1, pm_M_rowOf), (54, false, 0, pm_M_linears), (60, false, 3, pm_M_linearX), (64, false, 3, pm_M_linearY), (70, false, 3, pm_O_markShifted), (86, false, 2, pm_M_point)]
  | 6 => [(53, false, 0, pm_G_study), (56, false, 0, pm_S_study), (65, false, 0, pm_R_clear), (70, false, 2, pm_G_lookAt), (80, false, 2, pm_S_turnsAt), (84, true, 2, pm_J_max), (89, false, 2, pm_S_mirrorsAt), (92, false, 1, pm_R_add), (96, false, 0, pm_G_followEdge), (102, false, 1, pm_R_at), (106, false, 0, pm_M_linears), (112, false, 3, pm_G_followBy), (119, false, 3, pm_M_linearX), (123, false, 3, pm_M_linearY), (129, false, 2, pm_G_reach), (145, true, 2, pm_J_floorDiv), (151, true, 2, pm_J_floorMod), (135, false, 3, pm_S_fixes), (139, false, 1, pm_M_axisX), (142, false, 1, pm_M_axisY), (74, false, 0, pm_G_placesToClasses), (77, false, 0, pm_G_countTheRest), (156, false, 0, pm_G_nameWithoutMirrors)]
  | 7 => [(38, false, 0, pm_S_study), (43, false, 0, pm_R_clear), (48, false, 1, pm_R_add), (52, false, 0, pm_M_linears), (58, false, 1, pm_H_takeSquaresOf), (77, false, 3, pm_S_contains), (81, false, 3, pm_M_code), (85, false, 2, pm_M_product), (88, false, 1, pm_H_take), (91, false, 1, pm_R_has), (94, false, 1, pm_R_at), (62, false, 0, pm_S_total), (68, true, 2, pm_J_max)]
  | 8 => [(31, false, 0, pm_R_clear), (36, false, 0, pm_M_points), (42, false, 1, pm_R_add), (51, false, 1, pm_N_paintFrom), (56, false, 1, pm_R_at), (59, false, 2, pm_N_goalOf), (67, false, 2, pm_M_part), (70, false, 1, pm_M_columnOf), (73, false, 1, pm_M_rowOf), (76, false, 5, pm_M_target), (63, false, 2, pm_C_put)]
  | 9 => [(77, false, 0, pm_T_findLinear), (108, false, 0, pm_T_round), (112, false, 3, pm_T_turn), (90, true, 3, pm_T_isIn), (99, false, 0, pm_T_changed), (104, false, 2, pm_T_at), (83, true, 2, pm_T_mod), (126, false, 1, pm_T_isK), (130, false, 5, pm_T_pointBy), (123, false, 3, pm_T_map), (148, false, 3, pm_T_moveOf), (154, false, 2, pm_T_product), (134, false, 1, pm_T_kOf), (138, false, 1, pm_T_uOf), (141, false, 1, pm_T_vOf), (144, false, 2, pm_T_linear), (157, false, 2, pm_T_tell), (163, false, 3, pm_T_isSymmetry), (167, false, 3, pm_T_isChange), (170, false, 0, pm_T_findSymmetries), (185, false, 0, pm_T_baseA), (175, false, 2, pm_T_isShift), (188, false, 0, pm_T_baseB), (182, false, 0, pm_T_baseC), (179, false, 1, pm_T_hasRow), (191, false, 2, pm_T_leastOf), (209, false, 0, pm_T_findPlaces), (194, false, 0, pm_T_side), (203, false, 3, pm_T_isFixed), (199, false, 3, pm_T_placeBy), (228, false, 2, pm_T_countClasses), (225, false, 0, pm_T_countEdges), (218, false, 1, pm_T_findAxis), (222, false, 1, pm_T_partOf), (234, false, 0, pm_T_hasOdd), (238, false, 0, pm_T_left), (246, false, 0, pm_T_hasMirrors), (249, false, 0, pm_T_mostTurns), (252, false, 2, pm_T_hasPlace), (256, false, 0, pm_T_mirrorWays), (243, false, 3, pm_T_isOn), (259, false, 0, pm_T_hasGlides), (266, false, 4, pm_T_hasStrip), (262, false, 5, pm_T_isStrip), (272, false, 1, pm_T_hasColour), (275, false, 1, pm_T_countMoves)]
  | 11 => [(13, false, 2, pm_P_begin), (18, false, 3, pm_P_paint), (23, false, 2, pm_P_colour), (27, false, 4, pm_P_paints), (32, false, 1, pm_P_count), (37, false, 6, pm_P_goes), (42, false, 7, pm_P_both), (47, false, 4, pm_P_back), (51, false, 3, pm_P_is), (55, false, 2, pm_P_symmetry), (59, false, 1, pm_P_base), (63, false, 4, pm_P_change), (67, false, 0, pm_P_ways), (72, false, 2, pm_P_least), (76, false, 2, pm_P_orbit), (80, false, 3, pm_P_place), (84, false, 2, pm_P_feature), (88, false, 0, pm_P_kind), (92, false, 2, pm_P_strip), (96, false, 0, pm_P_halves), (100, false, 3, pm_P_generate), (104, false, 0, pm_P_spread), (17, false, 2, pm_T_begin), (22, false, 3, pm_T_paint), (26, false, 2, pm_T_colour), (31, false, 4, pm_T_paints), (41, false, 6, pm_T_goes), (46, false, 7, pm_T_both), (50, false, 4, pm_T_back), (54, false, 3, pm_T_is), (58, false, 2, pm_T_symmetry), (66, false, 4, pm_T_change), (71, false, 0, pm_T_ways), (62, false, 1, pm_T_base), (75, false, 2, pm_T_least), (79, false, 2, pm_T_orbit), (83, false, 3, pm_T_place), (87, false, 2, pm_T_feature), (91, false, 0, pm_T_kind), (95, false, 2, pm_T_strip), (99, false, 0, pm_T_halves), (103, false, 3, pm_T_generate), (107, false, 0, pm_T_spread), (36, false, 1, pm_T_count)]
  | _ => []
/-- what is known of a method: static or not, its parameters -/
def pg_MF (st : Bool) (n : Nat) (M : pg_M) : Prop := (bif st then Cond.static M.1 ∈ pg_tb else (Cond.instanceMethod M.1 ∈ pg_tb ∧ Cond.selects M.1.cls M.1 M.1 ∈ pg_tb)) ∧ Cond.initialized M.1.cls ∈ pg_tb ∧ Cond.code M.1 M.2.1 M.2.2.1 M.2.2.2.1 ∈ pg_tb ∧ (M.1.cls ≠ "java/lang/invoke/MethodHandle" ∧ M.1.cls ≠ "java/lang/invoke/VarHandle" ∧ (parseMethodDescriptor M.1.desc).map (fun d => d.parameters.length) = some n) ∧ M.1.cls = pgR M.2.2.2.2.1 ∧ plainFor M.1 = true ∧ pg_ck M = true
set_option maxRecDepth 100000 in
theorem pm_M_choose_f : pg_MF false 2 pm_M_choose := ⟨⟨pg_tb_in 339 rfl rfl, pg_tb_in 340 rfl rfl⟩, pg_tb_in 71 rfl rfl, pg_tb_in 341 rfl rfl, ⟨by decide +kernel, by decide +kernel, by decide +kernel⟩, rfl, by decide +kernel, pm_M_choose_ck⟩
set_option maxRecDepth 100000 in
theorem pm_M_setColumn_f : pg_MF false 4 pm_M_setColumn := ⟨⟨pg_tb_in 344 rfl rfl, pg_tb_in 0 rfl rfl⟩, pg_tb_in 71 rfl rfl, pg_tb_in 345 rfl rfl, ⟨by decide +kernel, by decide +kernel, by decide +kernel⟩, rfl, by decide +kernel, pm_M_setColumn_ck⟩
set_option maxRecDepth 100000 in
theorem pm_C_clear_f : pg_MF false 0 pm_C_clear := ⟨⟨pg_tb_in 347 rfl rfl, pg_tb_in 348 rfl rfl⟩, pg_tb_in 72 rfl rfl, pg_tb_in 349 rfl rfl, ⟨by decide +kernel, by decide +kernel, by decide +kernel⟩, rfl, by decide +kernel, pm_C_clear_ck⟩
set_option maxRecDepth 100000 in
theorem pm_M_points_f : pg_MF false 0 pm_M_points := ⟨⟨pg_tb_in 351 rfl rfl, pg_tb_in 352 rfl rfl⟩, pg_tb_in 71 rfl rfl, pg_tb_in 353 rfl rfl, ⟨by decide +kernel, by decide +kernel, by decide +kernel⟩, rfl, by decide +kernel, pm_M_points_ck⟩
set_option maxRecDepth 100000 in
theorem pm_P_begin_f : pg_MF false 2 pm_P_begin := ⟨⟨pg_tb_in 377 rfl rfl, pg_tb_in 378 rfl rfl⟩, pg_tb_in 69 rfl rfl, pg_tb_in 379 rfl rfl, ⟨by decide +kernel, by decide +kernel, by decide +kernel⟩, rfl, by decide +kernel, pm_P_begin_ck⟩
set_option maxRecDepth 100000 in
theorem pm_N_clear_f : pg_MF false 0 pm_N_clear := ⟨⟨pg_tb_in 381 rfl rfl, pg_tb_in 382 rfl rfl⟩, pg_tb_in 77 rfl rfl, pg_tb_in 383 rfl rfl, ⟨by decide +kernel, by decide +kernel, by decide +kernel⟩, rfl, by decide +kernel, pm_N_clear_ck⟩
set_option maxRecDepth 100000 in
theorem pm_P_forget_f : pg_MF false 0 pm_P_forget := ⟨⟨pg_tb_in 386 rfl rfl, pg_tb_in 1 rfl rfl⟩, pg_tb_in 69 rfl rfl, pg_tb_in 387 rfl rfl, ⟨by decide +kernel, by decide +kernel, by decide +kernel⟩, rfl, by decide +kernel, pm_P_forget_ck⟩
set_option maxRecDepth 100000 in
theorem pm_P_paint_f : pg_MF false 3 pm_P_paint := ⟨⟨pg_tb_in 389 rfl rfl, pg_tb_in 390 rfl rfl⟩, pg_tb_in 69 rfl rfl, pg_tb_in 391 rfl rfl, ⟨by decide +kernel, by decide +kernel, by decide +kernel⟩, rfl, by decide +kernel, pm_P_paint_ck⟩
set_option maxRecDepth 100000 in
theorem pm_P_isColour_f : pg_MF true 1 pm_P_isColour := ⟨pg_tb_in 393 rfl rfl, pg_tb_in 69 rfl rfl, pg_tb_in 394 rfl rfl, ⟨by decide +kernel, by decide +kernel, by decide +kernel⟩, rfl, by decide +kernel, pm_P_isColour_ck⟩
set_option maxRecDepth 100000 in
theorem pm_M_point_f : pg_MF false 2 pm_M_point := ⟨⟨pg_tb_in 396 rfl rfl, pg_tb_in 397 rfl rfl⟩, pg_tb_in 71 rfl rfl, pg_tb_in 398 rfl rfl, ⟨by decide +kernel, by decide +kernel, by decide +kernel⟩, rfl, by decide +kernel, pm_M_point_ck⟩
set_option maxRecDepth 100000 in
theorem pm_M_wrap_f : pg_MF false 1 pm_M_wrap := ⟨⟨pg_tb_in 400 rfl rfl, pg_tb_in 401 rfl rfl⟩, pg_tb_in 71 rfl rfl, pg_tb_in 402 rfl rfl, ⟨by decide +kernel, by decide +kernel, by decide +kernel⟩, rfl, by decide +kernel, pm_M_wrap_ck⟩
set_option maxRecDepth 100000 in
theorem pm_J_floorMod_f : pg_MF true 2 pm_J_floorMod := ⟨pg_tb_in 404 rfl rfl, pg_tb_in 79 rfl rfl, pg_tb_in 405 rfl rfl, ⟨by decide +kernel, by decide +kernel, by decide +kernel⟩, rfl, by decide +kernel, pm_J_floorMod_ck⟩
set_option maxRecDepth 100000 in
theorem pm_C_put_f : pg_MF false 2 pm_C_put := ⟨⟨pg_tb_in 407 rfl rfl, pg_tb_in 408 rfl rfl⟩, pg_tb_in 72 rfl rfl, pg_tb_in 409 rfl rfl, ⟨by decide +kernel, by decide +kernel, by decide +kernel⟩, rfl, by decide +kernel, pm_C_put_ck⟩
set_option maxRecDepth 100000 in
theorem pm_P_colour_f : pg_MF false 2 pm_P_colour := ⟨⟨pg_tb_in 411 rfl rfl, pg_tb_in 412 rfl rfl⟩, pg_tb_in 69 rfl rfl, pg_tb_in 413 rfl rfl, ⟨by decide +kernel, by decide +kernel, by decide +kernel⟩, rfl, by decide +kernel, pm_P_colour_ck⟩
set_option maxRecDepth 100000 in
theorem pm_P_paints_f : pg_MF false 4 pm_P_paints := ⟨⟨pg_tb_in 415 rfl rfl, pg_tb_in 416 rfl rfl⟩, pg_tb_in 69 rfl rfl, pg_tb_in 417 rfl rfl, ⟨by decide +kernel, by decide +kernel, by decide +kernel⟩, rfl, by decide +kernel, pm_P_paints_ck⟩
set_option maxRecDepth 100000 in
theorem pm_P_count_f : pg_MF false 1 pm_P_count := ⟨⟨pg_tb_in 420 rfl rfl, pg_tb_in 421 rfl rfl⟩, pg_tb_in 69 rfl rfl, pg_tb_in 422 rfl rfl, ⟨by decide +kernel, by decide +kernel, by decide +kernel⟩, rfl, by decide +kernel, pm_P_count_ck⟩
set_option maxRecDepth 100000 in
theorem pm_C_present_f : pg_MF false 0 pm_C_present := ⟨⟨pg_tb_in 424 rfl rfl, pg_tb_in 425 rfl rfl⟩, pg_tb_in 72 rfl rfl, pg_tb_in 426 rfl rfl, ⟨by decide +kernel, by decide +kernel, by decide +kernel⟩, rfl, by decide +kernel, pm_C_present_ck⟩
set_option maxRecDepth 100000 in
theorem pm_G_mostTurns_f : pg_MF false 0 pm_G_mostTurns := ⟨⟨pg_tb_in 428 rfl rfl, pg_tb_in 429 rfl rfl⟩, pg_tb_in 75 rfl rfl, pg_tb_in 430 rfl rfl, ⟨by decide +kernel, by decide +kernel, by decide +kernel⟩, rfl, by decide +kernel, pm_G_mostTurns_ck⟩
set_option maxRecDepth 100000 in
theorem pm_G_study_f : pg_MF false 0 pm_G_study := ⟨⟨pg_tb_in 432 rfl rfl, pg_tb_in 433 rfl rfl⟩, pg_tb_in 75 rfl rfl, pg_tb_in 434 rfl rfl, ⟨by decide +kernel, by decide +kernel, by decide +kernel⟩, rfl, by decide +kernel, pm_G_study_ck⟩
set_option maxRecDepth 100000 in
theorem pm_S_study_f : pg_MF false 0 pm_S_study := ⟨⟨pg_tb_in 436 rfl rfl, pg_tb_in 437 rfl rfl⟩, pg_tb_in 73 rfl rfl, pg_tb_in 438 rfl rfl, ⟨by decide +kernel, by decide +kernel, by decide +kernel⟩, rfl, by decide +kernel, pm_S_study_ck⟩
set_option maxRecDepth 100000 in
theorem pm_S_leastStepAlong_f : pg_MF false 0 pm_S_leastStepAlong := ⟨⟨pg_tb_in 441 rfl rfl, pg_tb_in 2 rfl rfl⟩, pg_tb_in 73 rfl rfl, pg_tb_in 442 rfl rfl, ⟨by decide +kernel, by decide +kernel, by decide +kernel⟩, rfl, by decide +kernel, pm_S_leastStepAlong_ck⟩
set_option maxRecDepth 100000 in
theorem pm_C_keeps_f : pg_MF false 3 pm_C_keeps := ⟨⟨pg_tb_in 444 rfl rfl, pg_tb_in 445 rfl rfl⟩, pg_tb_in 72 rfl rfl, pg_tb_in 446 rfl rfl, ⟨by decide +kernel, by decide +kernel, by decide +kernel⟩, rfl, by decide +kernel, pm_C_keeps_ck⟩
set_option maxRecDepth 100000 in
theorem pm_M_target_f : pg_MF false 5 pm_M_target := ⟨⟨pg_tb_in 448 rfl rfl, pg_tb_in 449 rfl rfl⟩, pg_tb_in 71 rfl rfl, pg_tb_in 450 rfl rfl, ⟨by decide +kernel, by decide +kernel, by decide +kernel⟩, rfl, by decide +kernel, pm_M_target_ck⟩
set_option maxRecDepth 100000 in
theorem pm_M_linearX_f : pg_MF false 3 pm_M_linearX := ⟨⟨pg_tb_in 452 rfl rfl, pg_tb_in 453 rfl rfl⟩, pg_tb_in 71 rfl rfl, pg_tb_in 454 rfl rfl, ⟨by decide +kernel, by decide +kernel, by decide +kernel⟩, rfl, by decide +kernel, pm_M_linearX_ck⟩
set_option maxRecDepth 100000 in
theorem pm_M_linearY_f : pg_MF false 3 pm_M_linearY := ⟨⟨pg_tb_in 456 rfl rfl, pg_tb_in 457 rfl rfl⟩, pg_tb_in 71 rfl rfl, pg_tb_in 458 rfl rfl, ⟨by decide +kernel, by decide +kernel, by decide +kernel⟩, rfl, by decide +kernel, pm_M_linearY_ck⟩
set_option maxRecDepth 100000 in
theorem pm_S_findSecondStep_f : pg_MF false 0 pm_S_findSecondStep := ⟨⟨pg_tb_in 461 rfl rfl, pg_tb_in 3 rfl rfl⟩, pg_tb_in 73 rfl rfl, pg_tb_in 462 rfl rfl, ⟨by decide +kernel, by decide +kernel, by decide +kernel⟩, rfl, by decide +kernel, pm_S_findSecondStep_ck⟩
set_option maxRecDepth 100000 in
theorem pm_C_rarestPoint_f : pg_MF false 0 pm_C_rarestPoint := ⟨⟨pg_tb_in 464 rfl rfl, pg_tb_in 465 rfl rfl⟩, pg_tb_in 72 rfl rfl, pg_tb_in 466 rfl rfl, ⟨by decide +kernel, by decide +kernel, by decide +kernel⟩, rfl, by decide +kernel, pm_C_rarestPoint_ck⟩
set_option maxRecDepth 100000 in
theorem pm_M_linears_f : pg_MF false 0 pm_M_linears := ⟨⟨pg_tb_in 468 rfl rfl, pg_tb_in 469 rfl rfl⟩, pg_tb_in 71 rfl rfl, pg_tb_in 470 rfl rfl, ⟨by decide +kernel, by decide +kernel, by decide +kernel⟩, rfl, by decide +kernel, pm_M_linears_ck⟩
set_option maxRecDepth 100000 in
theorem pm_S_findOne_f : pg_MF false 2 pm_S_findOne := ⟨⟨pg_tb_in 473 rfl rfl, pg_tb_in 4 rfl rfl⟩, pg_tb_in 73 rfl rfl, pg_tb_in 474 rfl rfl, ⟨by decide +kernel, by decide +kernel, by decide +kernel⟩, rfl, by decide +kernel, pm_S_findOne_ck⟩
set_option maxRecDepth 100000 in
theorem pm_M_columnOf_f : pg_MF false 1 pm_M_columnOf := ⟨⟨pg_tb_in 476 rfl rfl, pg_tb_in 477 rfl rfl⟩, pg_tb_in 71 rfl rfl, pg_tb_in 478 rfl rfl, ⟨by decide +kernel, by decide +kernel, by decide +kernel⟩, rfl, by decide +kernel, pm_M_columnOf_ck⟩
set_option maxRecDepth 100000 in
theorem pm_M_rowOf_f : pg_MF false 1 pm_M_rowOf := ⟨⟨pg_tb_in 480 rfl rfl, pg_tb_in 481 rfl rfl⟩, pg_tb_in 71 rfl rfl, pg_tb_in 482 rfl rfl, ⟨by decide +kernel, by decide +kernel, by decide +kernel⟩, rfl, by decide +kernel, pm_M_rowOf_ck⟩
set_option maxRecDepth 100000 in
theorem pm_R_clear_f : pg_MF false 0 pm_R_clear := ⟨⟨pg_tb_in 485 rfl rfl, pg_tb_in 486 rfl rfl⟩, pg_tb_in 70 rfl rfl, pg_tb_in 487 rfl rfl, ⟨by decide +kernel, by decide +kernel, by decide +kernel⟩, rfl, by decide +kernel, pm_R_clear_ck⟩
set_option maxRecDepth 100000 in
theorem pm_G_lookAt_f : pg_MF false 2 pm_G_lookAt := ⟨⟨pg_tb_in 490 rfl rfl, pg_tb_in 5 rfl rfl⟩, pg_tb_in 75 rfl rfl, pg_tb_in 491 rfl rfl, ⟨by decide +kernel, by decide +kernel, by decide +kernel⟩, rfl, by decide +kernel, pm_G_lookAt_ck⟩
set_option maxRecDepth 100000 in
theorem pm_S_turnsAt_f : pg_MF false 2 pm_S_turnsAt := ⟨⟨pg_tb_in 493 rfl rfl, pg_tb_in 494 rfl rfl⟩, pg_tb_in 73 rfl rfl, pg_tb_in 495 rfl rfl, ⟨by decide +kernel, by decide +kernel, by decide +kernel⟩, rfl, by decide +kernel, pm_S_turnsAt_ck⟩
set_option maxRecDepth 100000 in
theorem pm_S_fixes_f : pg_MF false 3 pm_S_fixes := ⟨⟨pg_tb_in 497 rfl rfl, pg_tb_in 498 rfl rfl⟩, pg_tb_in 73 rfl rfl, pg_tb_in 499 rfl rfl, ⟨by decide +kernel, by decide +kernel, by decide +kernel⟩, rfl, by decide +kernel, pm_S_fixes_ck⟩
set_option maxRecDepth 100000 in
theorem pm_S_contains_f : pg_MF false 3 pm_S_contains := ⟨⟨pg_tb_in 503 rfl rfl, pg_tb_in 504 rfl rfl⟩, pg_tb_in 73 rfl rfl, pg_tb_in 505 rfl rfl, ⟨by decide +kernel, by decide +kernel, by decide +kernel⟩, rfl, by decide +kernel, pm_S_contains_ck⟩
set_option maxRecDepth 100000 in
theorem pm_J_max_f : pg_MF true 2 pm_J_max := ⟨pg_tb_in 507 rfl rfl, pg_tb_in 79 rfl rfl, pg_tb_in 508 rfl rfl, ⟨by decide +kernel, by decide +kernel, by decide +kernel⟩, rfl, by decide +kernel, pm_J_max_ck⟩
set_option maxRecDepth 100000 in
theorem pm_S_mirrorsAt_f : pg_MF false 2 pm_S_mirrorsAt := ⟨⟨pg_tb_in 510 rfl rfl, pg_tb_in 511 rfl rfl⟩, pg_tb_in 73 rfl rfl, pg_tb_in 512 rfl rfl, ⟨by decide +kernel, by decide +kernel, by decide +kernel⟩, rfl, by decide +kernel, pm_S_mirrorsAt_ck⟩
set_option maxRecDepth 100000 in
theorem pm_R_add_f : pg_MF false 1 pm_R_add := ⟨⟨pg_tb_in 514 rfl rfl, pg_tb_in 515 rfl rfl⟩, pg_tb_in 70 rfl rfl, pg_tb_in 516 rfl rfl, ⟨by decide +kernel, by decide +kernel, by decide +kernel⟩, rfl, by decide +kernel, pm_R_add_ck⟩
set_option maxRecDepth 100000 in
theorem pm_G_followEdge_f : pg_MF false 0 pm_G_followEdge := ⟨⟨pg_tb_in 519 rfl rfl, pg_tb_in 6 rfl rfl⟩, pg_tb_in 75 rfl rfl, pg_tb_in 520 rfl rfl, ⟨by decide +kernel, by decide +kernel, by decide +kernel⟩, rfl, by decide +kernel, pm_G_followEdge_ck⟩
set_option maxRecDepth 100000 in
theorem pm_R_at_f : pg_MF false 1 pm_R_at := ⟨⟨pg_tb_in 522 rfl rfl, pg_tb_in 523 rfl rfl⟩, pg_tb_in 70 rfl rfl, pg_tb_in 524 rfl rfl, ⟨by decide +kernel, by decide +kernel, by decide +kernel⟩, rfl, by decide +kernel, pm_R_at_ck⟩
set_option maxRecDepth 100000 in
theorem pm_G_followBy_f : pg_MF false 3 pm_G_followBy := ⟨⟨pg_tb_in 528 rfl rfl, pg_tb_in 7 rfl rfl⟩, pg_tb_in 75 rfl rfl, pg_tb_in 529 rfl rfl, ⟨by decide +kernel, by decide +kernel, by decide +kernel⟩, rfl, by decide +kernel, pm_G_followBy_ck⟩
set_option maxRecDepth 100000 in
theorem pm_G_reach_f : pg_MF false 2 pm_G_reach := ⟨⟨pg_tb_in 534 rfl rfl, pg_tb_in 8 rfl rfl⟩, pg_tb_in 75 rfl rfl, pg_tb_in 535 rfl rfl, ⟨by decide +kernel, by decide +kernel, by decide +kernel⟩, rfl, by decide +kernel, pm_G_reach_ck⟩
set_option maxRecDepth 100000 in
theorem pm_J_floorDiv_f : pg_MF true 2 pm_J_floorDiv := ⟨pg_tb_in 537 rfl rfl, pg_tb_in 79 rfl rfl, pg_tb_in 538 rfl rfl, ⟨by decide +kernel, by decide +kernel, by decide +kernel⟩, rfl, by decide +kernel, pm_J_floorDiv_ck⟩
set_option maxRecDepth 100000 in
theorem pm_M_axisX_f : pg_MF false 1 pm_M_axisX := ⟨⟨pg_tb_in 542 rfl rfl, pg_tb_in 543 rfl rfl⟩, pg_tb_in 71 rfl rfl, pg_tb_in 544 rfl rfl, ⟨by decide +kernel, by decide +kernel, by decide +kernel⟩, rfl, by decide +kernel, pm_M_axisX_ck⟩
set_option maxRecDepth 100000 in
theorem pm_M_axis_f : pg_MF false 1 pm_M_axis := ⟨⟨pg_tb_in 547 rfl rfl, pg_tb_in 9 rfl rfl⟩, pg_tb_in 71 rfl rfl, pg_tb_in 548 rfl rfl, ⟨by decide +kernel, by decide +kernel, by decide +kernel⟩, rfl, by decide +kernel, pm_M_axis_ck⟩
set_option maxRecDepth 100000 in
theorem pm_M_axisY_f : pg_MF false 1 pm_M_axisY := ⟨⟨pg_tb_in 554 rfl rfl, pg_tb_in 555 rfl rfl⟩, pg_tb_in 71 rfl rfl, pg_tb_in 556 rfl rfl, ⟨by decide +kernel, by decide +kernel, by decide +kernel⟩, rfl, by decide +kernel, pm_M_axisY_ck⟩
set_option maxRecDepth 100000 in
theorem pm_G_placesToClasses_f : pg_MF false 0 pm_G_placesToClasses := ⟨⟨pg_tb_in 559 rfl rfl, pg_tb_in 10 rfl rfl⟩, pg_tb_in 75 rfl rfl, pg_tb_in 560 rfl rfl, ⟨by decide +kernel, by decide +kernel, by decide +kernel⟩, rfl, by decide +kernel, pm_G_placesToClasses_ck⟩
set_option maxRecDepth 100000 in
theorem pm_G_countTheRest_f : pg_MF false 0 pm_G_countTheRest := ⟨⟨pg_tb_in 563 rfl rfl, pg_tb_in 11 rfl rfl⟩, pg_tb_in 75 rfl rfl, pg_tb_in 564 rfl rfl, ⟨by decide +kernel, by decide +kernel, by decide +kernel⟩, rfl, by decide +kernel, pm_G_countTheRest_ck⟩
set_option maxRecDepth 100000 in
theorem pm_O_total_f : pg_MF false 0 pm_O_total := ⟨⟨pg_tb_in 566 rfl rfl, pg_tb_in 567 rfl rfl⟩, pg_tb_in 74 rfl rfl, pg_tb_in 568 rfl rfl, ⟨by decide +kernel, by decide +kernel, by decide +kernel⟩, rfl, by decide +kernel, pm_O_total_ck⟩
set_option maxRecDepth 100000 in
theorem pm_O_study_f : pg_MF false 0 pm_O_study := ⟨⟨pg_tb_in 571 rfl rfl, pg_tb_in 12 rfl rfl⟩, pg_tb_in 74 rfl rfl, pg_tb_in 572 rfl rfl, ⟨by decide +kernel, by decide +kernel, by decide +kernel⟩, rfl, by decide +kernel, pm_O_study_ck⟩
set_option maxRecDepth 100000 in
theorem pm_O_markClass_f : pg_MF false 1 pm_O_markClass := ⟨⟨pg_tb_in 577 rfl rfl, pg_tb_in 13 rfl rfl⟩, pg_tb_in 74 rfl rfl, pg_tb_in 578 rfl rfl, ⟨by decide +kernel, by decide +kernel, by decide +kernel⟩, rfl, by decide +kernel, pm_O_markClass_ck⟩
set_option maxRecDepth 100000 in
theorem pm_O_markShifted_f : pg_MF false 3 pm_O_markShifted := ⟨⟨pg_tb_in 586 rfl rfl, pg_tb_in 14 rfl rfl⟩, pg_tb_in 74 rfl rfl, pg_tb_in 587 rfl rfl, ⟨by decide +kernel, by decide +kernel, by decide +kernel⟩, rfl, by decide +kernel, pm_O_markShifted_ck⟩
set_option maxRecDepth 100000 in
theorem pm_P_countMoves_f : pg_MF false 1 pm_P_countMoves := ⟨⟨pg_tb_in 591 rfl rfl, pg_tb_in 15 rfl rfl⟩, pg_tb_in 69 rfl rfl, pg_tb_in 592 rfl rfl, ⟨by decide +kernel, by decide +kernel, by decide +kernel⟩, rfl, by decide +kernel, pm_P_countMoves_ck⟩
set_option maxRecDepth 100000 in
theorem pm_S_total_f : pg_MF false 0 pm_S_total := ⟨⟨pg_tb_in 595 rfl rfl, pg_tb_in 596 rfl rfl⟩, pg_tb_in 73 rfl rfl, pg_tb_in 597 rfl rfl, ⟨by decide +kernel, by decide +kernel, by decide +kernel⟩, rfl, by decide +kernel, pm_S_total_ck⟩
set_option maxRecDepth 100000 in
theorem pm_S_shifts_f : pg_MF false 0 pm_S_shifts := ⟨⟨pg_tb_in 599 rfl rfl, pg_tb_in 600 rfl rfl⟩, pg_tb_in 73 rfl rfl, pg_tb_in 601 rfl rfl, ⟨by decide +kernel, by decide +kernel, by decide +kernel⟩, rfl, by decide +kernel, pm_S_shifts_ck⟩
set_option maxRecDepth 100000 in
theorem pm_S_allChanges_f : pg_MF false 0 pm_S_allChanges := ⟨⟨pg_tb_in 605 rfl rfl, pg_tb_in 606 rfl rfl⟩, pg_tb_in 73 rfl rfl, pg_tb_in 607 rfl rfl, ⟨by decide +kernel, by decide +kernel, by decide +kernel⟩, rfl, by decide +kernel, pm_S_allChanges_ck⟩
set_option maxRecDepth 100000 in
theorem pm_S_changesOf_f : pg_MF false 2 pm_S_changesOf := ⟨⟨pg_tb_in 610 rfl rfl, pg_tb_in 16 rfl rfl⟩, pg_tb_in 73 rfl rfl, pg_tb_in 611 rfl rfl, ⟨by decide +kernel, by decide +kernel, by decide +kernel⟩, rfl, by decide +kernel, pm_S_changesOf_ck⟩
set_option maxRecDepth 100000 in
theorem pm_C_changes_f : pg_MF false 3 pm_C_changes := ⟨⟨pg_tb_in 613 rfl rfl, pg_tb_in 614 rfl rfl⟩, pg_tb_in 72 rfl rfl, pg_tb_in 615 rfl rfl, ⟨by decide +kernel, by decide +kernel, by decide +kernel⟩, rfl, by decide +kernel, pm_C_changes_ck⟩
set_option maxRecDepth 100000 in
theorem pm_P_goes_f : pg_MF false 6 pm_P_goes := ⟨⟨pg_tb_in 617 rfl rfl, pg_tb_in 618 rfl rfl⟩, pg_tb_in 69 rfl rfl, pg_tb_in 619 rfl rfl, ⟨by decide +kernel, by decide +kernel, by decide +kernel⟩, rfl, by decide +kernel, pm_P_goes_ck⟩
set_option maxRecDepth 100000 in
theorem pm_M_isLinear_f : pg_MF false 1 pm_M_isLinear := ⟨⟨pg_tb_in 621 rfl rfl, pg_tb_in 622 rfl rfl⟩, pg_tb_in 71 rfl rfl, pg_tb_in 623 rfl rfl, ⟨by decide +kernel, by decide +kernel, by decide +kernel⟩, rfl, by decide +kernel, pm_M_isLinear_ck⟩
set_option maxRecDepth 100000 in
theorem pm_P_both_f : pg_MF false 7 pm_P_both := ⟨⟨pg_tb_in 628 rfl rfl, pg_tb_in 629 rfl rfl⟩, pg_tb_in 69 rfl rfl, pg_tb_in 630 rfl rfl, ⟨by decide +kernel, by decide +kernel, by decide +kernel⟩, rfl, by decide +kernel, pm_P_both_ck⟩
set_option maxRecDepth 100000 in
theorem pm_P_isPartOfMove_f : pg_MF true 1 pm_P_isPartOfMove := ⟨pg_tb_in 632 rfl rfl, pg_tb_in 69 rfl rfl, pg_tb_in 633 rfl rfl, ⟨by decide +kernel, by decide +kernel, by decide +kernel⟩, rfl, by decide +kernel, pm_P_isPartOfMove_ck⟩
set_option maxRecDepth 100000 in
theorem pm_M_code_f : pg_MF false 3 pm_M_code := ⟨⟨pg_tb_in 635 rfl rfl, pg_tb_in 636 rfl rfl⟩, pg_tb_in 71 rfl rfl, pg_tb_in 637 rfl rfl, ⟨by decide +kernel, by decide +kernel, by decide +kernel⟩, rfl, by decide +kernel, pm_M_code_ck⟩
set_option maxRecDepth 100000 in
theorem pm_M_product_f : pg_MF false 2 pm_M_product := ⟨⟨pg_tb_in 639 rfl rfl, pg_tb_in 640 rfl rfl⟩, pg_tb_in 71 rfl rfl, pg_tb_in 641 rfl rfl, ⟨by decide +kernel, by decide +kernel, by decide +kernel⟩, rfl, by decide +kernel, pm_M_product_ck⟩
set_option maxRecDepth 100000 in
theorem pm_M_part_f : pg_MF false 2 pm_M_part := ⟨⟨pg_tb_in 643 rfl rfl, pg_tb_in 644 rfl rfl⟩, pg_tb_in 71 rfl rfl, pg_tb_in 645 rfl rfl, ⟨by decide +kernel, by decide +kernel, by decide +kernel⟩, rfl, by decide +kernel, pm_M_part_ck⟩
set_option maxRecDepth 100000 in
theorem pm_M_linearProduct_f : pg_MF false 2 pm_M_linearProduct := ⟨⟨pg_tb_in 648 rfl rfl, pg_tb_in 17 rfl rfl⟩, pg_tb_in 71 rfl rfl, pg_tb_in 649 rfl rfl, ⟨by decide +kernel, by decide +kernel, by decide +kernel⟩, rfl, by decide +kernel, pm_M_linearProduct_ck⟩
set_option maxRecDepth 100000 in
theorem pm_P_back_f : pg_MF false 4 pm_P_back := ⟨⟨pg_tb_in 653 rfl rfl, pg_tb_in 654 rfl rfl⟩, pg_tb_in 69 rfl rfl, pg_tb_in 655 rfl rfl, ⟨by decide +kernel, by decide +kernel, by decide +kernel⟩, rfl, by decide +kernel, pm_P_back_ck⟩
set_option maxRecDepth 100000 in
theorem pm_M_inverse_f : pg_MF false 1 pm_M_inverse := ⟨⟨pg_tb_in 657 rfl rfl, pg_tb_in 658 rfl rfl⟩, pg_tb_in 71 rfl rfl, pg_tb_in 659 rfl rfl, ⟨by decide +kernel, by decide +kernel, by decide +kernel⟩, rfl, by decide +kernel, pm_M_inverse_ck⟩
set_option maxRecDepth 100000 in
theorem pm_P_is_f : pg_MF false 3 pm_P_is := ⟨⟨pg_tb_in 661 rfl rfl, pg_tb_in 662 rfl rfl⟩, pg_tb_in 69 rfl rfl, pg_tb_in 663 rfl rfl, ⟨by decide +kernel, by decide +kernel, by decide +kernel⟩, rfl, by decide +kernel, pm_P_is_ck⟩
set_option maxRecDepth 100000 in
theorem pm_C_isSameImage_f : pg_MF false 0 pm_C_isSameImage := ⟨⟨pg_tb_in 666 rfl rfl, pg_tb_in 667 rfl rfl⟩, pg_tb_in 72 rfl rfl, pg_tb_in 668 rfl rfl, ⟨by decide +kernel, by decide +kernel, by decide +kernel⟩, rfl, by decide +kernel, pm_C_isSameImage_ck⟩
set_option maxRecDepth 100000 in
theorem pm_P_symmetry_f : pg_MF false 2 pm_P_symmetry := ⟨⟨pg_tb_in 670 rfl rfl, pg_tb_in 671 rfl rfl⟩, pg_tb_in 69 rfl rfl, pg_tb_in 672 rfl rfl, ⟨by decide +kernel, by decide +kernel, by decide +kernel⟩, rfl, by decide +kernel, pm_P_symmetry_ck⟩
set_option maxRecDepth 100000 in
theorem pm_S_numbered_f : pg_MF false 1 pm_S_numbered := ⟨⟨pg_tb_in 674 rfl rfl, pg_tb_in 675 rfl rfl⟩, pg_tb_in 73 rfl rfl, pg_tb_in 676 rfl rfl, ⟨by decide +kernel, by decide +kernel, by decide +kernel⟩, rfl, by decide +kernel, pm_S_numbered_ck⟩
set_option maxRecDepth 100000 in
theorem pm_S_numberedOf_f : pg_MF false 2 pm_S_numberedOf := ⟨⟨pg_tb_in 681 rfl rfl, pg_tb_in 18 rfl rfl⟩, pg_tb_in 73 rfl rfl, pg_tb_in 682 rfl rfl, ⟨by decide +kernel, by decide +kernel, by decide +kernel⟩, rfl, by decide +kernel, pm_S_numberedOf_ck⟩
set_option maxRecDepth 100000 in
theorem pm_P_base_f : pg_MF false 1 pm_P_base := ⟨⟨pg_tb_in 685 rfl rfl, pg_tb_in 686 rfl rfl⟩, pg_tb_in 69 rfl rfl, pg_tb_in 687 rfl rfl, ⟨by decide +kernel, by decide +kernel, by decide +kernel⟩, rfl, by decide +kernel, pm_P_base_ck⟩
set_option maxRecDepth 100000 in
theorem pm_P_change_f : pg_MF false 4 pm_P_change := ⟨⟨pg_tb_in 689 rfl rfl, pg_tb_in 690 rfl rfl⟩, pg_tb_in 69 rfl rfl, pg_tb_in 691 rfl rfl, ⟨by decide +kernel, by decide +kernel, by decide +kernel⟩, rfl, by decide +kernel, pm_P_change_ck⟩
set_option maxRecDepth 100000 in
theorem pm_P_ways_f : pg_MF false 0 pm_P_ways := ⟨⟨pg_tb_in 693 rfl rfl, pg_tb_in 694 rfl rfl⟩, pg_tb_in 69 rfl rfl, pg_tb_in 695 rfl rfl, ⟨by decide +kernel, by decide +kernel, by decide +kernel⟩, rfl, by decide +kernel, pm_P_ways_ck⟩
set_option maxRecDepth 100000 in
theorem pm_S_colourWays_f : pg_MF false 0 pm_S_colourWays := ⟨⟨pg_tb_in 697 rfl rfl, pg_tb_in 698 rfl rfl⟩, pg_tb_in 73 rfl rfl, pg_tb_in 699 rfl rfl, ⟨by decide +kernel, by decide +kernel, by decide +kernel⟩, rfl, by decide +kernel, pm_S_colourWays_ck⟩
set_option maxRecDepth 100000 in
theorem pm_P_least_f : pg_MF false 2 pm_P_least := ⟨⟨pg_tb_in 702 rfl rfl, pg_tb_in 703 rfl rfl⟩, pg_tb_in 69 rfl rfl, pg_tb_in 704 rfl rfl, ⟨by decide +kernel, by decide +kernel, by decide +kernel⟩, rfl, by decide +kernel, pm_P_least_ck⟩
set_option maxRecDepth 100000 in
theorem pm_O_leastOf_f : pg_MF false 1 pm_O_leastOf := ⟨⟨pg_tb_in 706 rfl rfl, pg_tb_in 707 rfl rfl⟩, pg_tb_in 74 rfl rfl, pg_tb_in 708 rfl rfl, ⟨by decide +kernel, by decide +kernel, by decide +kernel⟩, rfl, by decide +kernel, pm_O_leastOf_ck⟩
set_option maxRecDepth 100000 in
theorem pm_P_orbit_f : pg_MF false 2 pm_P_orbit := ⟨⟨pg_tb_in 710 rfl rfl, pg_tb_in 711 rfl rfl⟩, pg_tb_in 69 rfl rfl, pg_tb_in 712 rfl rfl, ⟨by decide +kernel, by decide +kernel, by decide +kernel⟩, rfl, by decide +kernel, pm_P_orbit_ck⟩
set_option maxRecDepth 100000 in
theorem pm_O_sizeOf_f : pg_MF false 1 pm_O_sizeOf := ⟨⟨pg_tb_in 714 rfl rfl, pg_tb_in 715 rfl rfl⟩, pg_tb_in 74 rfl rfl, pg_tb_in 716 rfl rfl, ⟨by decide +kernel, by decide +kernel, by decide +kernel⟩, rfl, by decide +kernel, pm_O_sizeOf_ck⟩
set_option maxRecDepth 100000 in
theorem pm_P_place_f : pg_MF false 3 pm_P_place := ⟨⟨pg_tb_in 718 rfl rfl, pg_tb_in 719 rfl rfl⟩, pg_tb_in 69 rfl rfl, pg_tb_in 720 rfl rfl, ⟨by decide +kernel, by decide +kernel, by decide +kernel⟩, rfl, by decide +kernel, pm_P_place_ck⟩
set_option maxRecDepth 100000 in
theorem pm_M_wrapSixths_f : pg_MF false 1 pm_M_wrapSixths := ⟨⟨pg_tb_in 722 rfl rfl, pg_tb_in 723 rfl rfl⟩, pg_tb_in 71 rfl rfl, pg_tb_in 724 rfl rfl, ⟨by decide +kernel, by decide +kernel, by decide +kernel⟩, rfl, by decide +kernel, pm_M_wrapSixths_ck⟩
set_option maxRecDepth 100000 in
theorem pm_P_feature_f : pg_MF false 2 pm_P_feature := ⟨⟨pg_tb_in 728 rfl rfl, pg_tb_in 729 rfl rfl⟩, pg_tb_in 69 rfl rfl, pg_tb_in 730 rfl rfl, ⟨by decide +kernel, by decide +kernel, by decide +kernel⟩, rfl, by decide +kernel, pm_P_feature_ck⟩
set_option maxRecDepth 100000 in
theorem pm_P_isOrder_f : pg_MF true 1 pm_P_isOrder := ⟨pg_tb_in 732 rfl rfl, pg_tb_in 69 rfl rfl, pg_tb_in 733 rfl rfl, ⟨by decide +kernel, by decide +kernel, by decide +kernel⟩, rfl, by decide +kernel, pm_P_isOrder_ck⟩
set_option maxRecDepth 100000 in
theorem pm_P_kind_f : pg_MF false 0 pm_P_kind := ⟨⟨pg_tb_in 736 rfl rfl, pg_tb_in 737 rfl rfl⟩, pg_tb_in 69 rfl rfl, pg_tb_in 738 rfl rfl, ⟨by decide +kernel, by decide +kernel, by decide +kernel⟩, rfl, by decide +kernel, pm_P_kind_ck⟩
set_option maxRecDepth 100000 in
theorem pm_G_name_f : pg_MF false 0 pm_G_name := ⟨⟨pg_tb_in 740 rfl rfl, pg_tb_in 741 rfl rfl⟩, pg_tb_in 75 rfl rfl, pg_tb_in 742 rfl rfl, ⟨by decide +kernel, by decide +kernel, by decide +kernel⟩, rfl, by decide +kernel, pm_G_name_ck⟩
set_option maxRecDepth 100000 in
theorem pm_G_nameWithoutMirrors_f : pg_MF false 0 pm_G_nameWithoutMirrors := ⟨⟨pg_tb_in 745 rfl rfl, pg_tb_in 19 rfl rfl⟩, pg_tb_in 75 rfl rfl, pg_tb_in 746 rfl rfl, ⟨by decide +kernel, by decide +kernel, by decide +kernel⟩, rfl, by decide +kernel, pm_G_nameWithoutMirrors_ck⟩
set_option maxRecDepth 100000 in
theorem pm_P_strip_f : pg_MF false 2 pm_P_strip := ⟨⟨pg_tb_in 748 rfl rfl, pg_tb_in 749 rfl rfl⟩, pg_tb_in 69 rfl rfl, pg_tb_in 750 rfl rfl, ⟨by decide +kernel, by decide +kernel, by decide +kernel⟩, rfl, by decide +kernel, pm_P_strip_ck⟩
set_option maxRecDepth 100000 in
theorem pm_C_stripTurnsOver_f : pg_MF false 4 pm_C_stripTurnsOver := ⟨⟨pg_tb_in 752 rfl rfl, pg_tb_in 753 rfl rfl⟩, pg_tb_in 72 rfl rfl, pg_tb_in 754 rfl rfl, ⟨by decide +kernel, by decide +kernel, by decide +kernel⟩, rfl, by decide +kernel, pm_C_stripTurnsOver_ck⟩
set_option maxRecDepth 100000 in
theorem pm_C_keepsStrip_f : pg_MF false 5 pm_C_keepsStrip := ⟨⟨pg_tb_in 756 rfl rfl, pg_tb_in 757 rfl rfl⟩, pg_tb_in 72 rfl rfl, pg_tb_in 758 rfl rfl, ⟨by decide +kernel, by decide +kernel, by decide +kernel⟩, rfl, by decide +kernel, pm_C_keepsStrip_ck⟩
set_option maxRecDepth 100000 in
theorem pm_P_halves_f : pg_MF false 0 pm_P_halves := ⟨⟨pg_tb_in 762 rfl rfl, pg_tb_in 763 rfl rfl⟩, pg_tb_in 69 rfl rfl, pg_tb_in 764 rfl rfl, ⟨by decide +kernel, by decide +kernel, by decide +kernel⟩, rfl, by decide +kernel, pm_P_halves_ck⟩
set_option maxRecDepth 100000 in
theorem pm_H_total_f : pg_MF false 0 pm_H_total := ⟨⟨pg_tb_in 766 rfl rfl, pg_tb_in 767 rfl rfl⟩, pg_tb_in 76 rfl rfl, pg_tb_in 768 rfl rfl, ⟨by decide +kernel, by decide +kernel, by decide +kernel⟩, rfl, by decide +kernel, pm_H_total_ck⟩
set_option maxRecDepth 100000 in
theorem pm_H_takeSquaresOf_f : pg_MF false 1 pm_H_takeSquaresOf := ⟨⟨pg_tb_in 775 rfl rfl, pg_tb_in 20 rfl rfl⟩, pg_tb_in 76 rfl rfl, pg_tb_in 776 rfl rfl, ⟨by decide +kernel, by decide +kernel, by decide +kernel⟩, rfl, by decide +kernel, pm_H_takeSquaresOf_ck⟩
set_option maxRecDepth 100000 in
theorem pm_H_take_f : pg_MF false 1 pm_H_take := ⟨⟨pg_tb_in 782 rfl rfl, pg_tb_in 21 rfl rfl⟩, pg_tb_in 76 rfl rfl, pg_tb_in 783 rfl rfl, ⟨by decide +kernel, by decide +kernel, by decide +kernel⟩, rfl, by decide +kernel, pm_H_take_ck⟩
set_option maxRecDepth 100000 in
theorem pm_R_has_f : pg_MF false 1 pm_R_has := ⟨⟨pg_tb_in 785 rfl rfl, pg_tb_in 786 rfl rfl⟩, pg_tb_in 70 rfl rfl, pg_tb_in 787 rfl rfl, ⟨by decide +kernel, by decide +kernel, by decide +kernel⟩, rfl, by decide +kernel, pm_R_has_ck⟩
set_option maxRecDepth 100000 in
theorem pm_P_generate_f : pg_MF false 3 pm_P_generate := ⟨⟨pg_tb_in 792 rfl rfl, pg_tb_in 793 rfl rfl⟩, pg_tb_in 69 rfl rfl, pg_tb_in 794 rfl rfl, ⟨by decide +kernel, by decide +kernel, by decide +kernel⟩, rfl, by decide +kernel, pm_P_generate_ck⟩
set_option maxRecDepth 100000 in
theorem pm_N_add_f : pg_MF false 1 pm_N_add := ⟨⟨pg_tb_in 796 rfl rfl, pg_tb_in 797 rfl rfl⟩, pg_tb_in 77 rfl rfl, pg_tb_in 798 rfl rfl, ⟨by decide +kernel, by decide +kernel, by decide +kernel⟩, rfl, by decide +kernel, pm_N_add_ck⟩
set_option maxRecDepth 100000 in
theorem pm_P_spread_f : pg_MF false 0 pm_P_spread := ⟨⟨pg_tb_in 800 rfl rfl, pg_tb_in 801 rfl rfl⟩, pg_tb_in 69 rfl rfl, pg_tb_in 802 rfl rfl, ⟨by decide +kernel, by decide +kernel, by decide +kernel⟩, rfl, by decide +kernel, pm_P_spread_ck⟩
set_option maxRecDepth 100000 in
theorem pm_N_paintAlike_f : pg_MF false 0 pm_N_paintAlike := ⟨⟨pg_tb_in 804 rfl rfl, pg_tb_in 805 rfl rfl⟩, pg_tb_in 77 rfl rfl, pg_tb_in 806 rfl rfl, ⟨by decide +kernel, by decide +kernel, by decide +kernel⟩, rfl, by decide +kernel, pm_N_paintAlike_ck⟩
set_option maxRecDepth 100000 in
theorem pm_N_paintFrom_f : pg_MF false 1 pm_N_paintFrom := ⟨⟨pg_tb_in 812 rfl rfl, pg_tb_in 22 rfl rfl⟩, pg_tb_in 77 rfl rfl, pg_tb_in 813 rfl rfl, ⟨by decide +kernel, by decide +kernel, by decide +kernel⟩, rfl, by decide +kernel, pm_N_paintFrom_ck⟩
set_option maxRecDepth 100000 in
theorem pm_N_goalOf_f : pg_MF false 2 pm_N_goalOf := ⟨⟨pg_tb_in 817 rfl rfl, pg_tb_in 23 rfl rfl⟩, pg_tb_in 77 rfl rfl, pg_tb_in 818 rfl rfl, ⟨by decide +kernel, by decide +kernel, by decide +kernel⟩, rfl, by decide +kernel, pm_N_goalOf_ck⟩
set_option maxRecDepth 100000 in
theorem pm_T_findLinear_f : pg_MF false 0 pm_T_findLinear := ⟨⟨pg_tb_in 832 rfl rfl, pg_tb_in 24 rfl rfl⟩, pg_tb_in 78 rfl rfl, pg_tb_in 833 rfl rfl, ⟨by decide +kernel, by decide +kernel, by decide +kernel⟩, rfl, by decide +kernel, pm_T_findLinear_ck⟩
set_option maxRecDepth 100000 in
theorem pm_T_round_f : pg_MF false 0 pm_T_round := ⟨⟨pg_tb_in 836 rfl rfl, pg_tb_in 25 rfl rfl⟩, pg_tb_in 78 rfl rfl, pg_tb_in 837 rfl rfl, ⟨by decide +kernel, by decide +kernel, by decide +kernel⟩, rfl, by decide +kernel, pm_T_round_ck⟩
set_option maxRecDepth 100000 in
theorem pm_T_turn_f : pg_MF false 3 pm_T_turn := ⟨⟨pg_tb_in 840 rfl rfl, pg_tb_in 26 rfl rfl⟩, pg_tb_in 78 rfl rfl, pg_tb_in 841 rfl rfl, ⟨by decide +kernel, by decide +kernel, by decide +kernel⟩, rfl, by decide +kernel, pm_T_turn_ck⟩
set_option maxRecDepth 100000 in
theorem pm_T_begin_f : pg_MF false 2 pm_T_begin := ⟨⟨pg_tb_in 935 rfl rfl, pg_tb_in 936 rfl rfl⟩, pg_tb_in 78 rfl rfl, pg_tb_in 937 rfl rfl, ⟨by decide +kernel, by decide +kernel, by decide +kernel⟩, rfl, by decide +kernel, pm_T_begin_ck⟩
set_option maxRecDepth 100000 in
theorem pm_T_isIn_f : pg_MF true 3 pm_T_isIn := ⟨pg_tb_in 939 rfl rfl, pg_tb_in 78 rfl rfl, pg_tb_in 940 rfl rfl, ⟨by decide +kernel, by decide +kernel, by decide +kernel⟩, rfl, by decide +kernel, pm_T_isIn_ck⟩
set_option maxRecDepth 100000 in
theorem pm_T_changed_f : pg_MF false 0 pm_T_changed := ⟨⟨pg_tb_in 944 rfl rfl, pg_tb_in 27 rfl rfl⟩, pg_tb_in 78 rfl rfl, pg_tb_in 945 rfl rfl, ⟨by decide +kernel, by decide +kernel, by decide +kernel⟩, rfl, by decide +kernel, pm_T_changed_ck⟩
set_option maxRecDepth 100000 in
theorem pm_T_paint_f : pg_MF false 3 pm_T_paint := ⟨⟨pg_tb_in 947 rfl rfl, pg_tb_in 948 rfl rfl⟩, pg_tb_in 78 rfl rfl, pg_tb_in 949 rfl rfl, ⟨by decide +kernel, by decide +kernel, by decide +kernel⟩, rfl, by decide +kernel, pm_T_paint_ck⟩
set_option maxRecDepth 100000 in
theorem pm_T_at_f : pg_MF false 2 pm_T_at := ⟨⟨pg_tb_in 953 rfl rfl, pg_tb_in 28 rfl rfl⟩, pg_tb_in 78 rfl rfl, pg_tb_in 954 rfl rfl, ⟨by decide +kernel, by decide +kernel, by decide +kernel⟩, rfl, by decide +kernel, pm_T_at_ck⟩
set_option maxRecDepth 100000 in
theorem pm_T_mod_f : pg_MF true 2 pm_T_mod := ⟨pg_tb_in 956 rfl rfl, pg_tb_in 78 rfl rfl, pg_tb_in 957 rfl rfl, ⟨by decide +kernel, by decide +kernel, by decide +kernel⟩, rfl, by decide +kernel, pm_T_mod_ck⟩
set_option maxRecDepth 100000 in
theorem pm_T_colour_f : pg_MF false 2 pm_T_colour := ⟨⟨pg_tb_in 959 rfl rfl, pg_tb_in 960 rfl rfl⟩, pg_tb_in 78 rfl rfl, pg_tb_in 961 rfl rfl, ⟨by decide +kernel, by decide +kernel, by decide +kernel⟩, rfl, by decide +kernel, pm_T_colour_ck⟩
set_option maxRecDepth 100000 in
theorem pm_T_paints_f : pg_MF false 4 pm_T_paints := ⟨⟨pg_tb_in 963 rfl rfl, pg_tb_in 964 rfl rfl⟩, pg_tb_in 78 rfl rfl, pg_tb_in 965 rfl rfl, ⟨by decide +kernel, by decide +kernel, by decide +kernel⟩, rfl, by decide +kernel, pm_T_paints_ck⟩
set_option maxRecDepth 100000 in
theorem pm_T_goes_f : pg_MF false 6 pm_T_goes := ⟨⟨pg_tb_in 967 rfl rfl, pg_tb_in 968 rfl rfl⟩, pg_tb_in 78 rfl rfl, pg_tb_in 969 rfl rfl, ⟨by decide +kernel, by decide +kernel, by decide +kernel⟩, rfl, by decide +kernel, pm_T_goes_ck⟩
set_option maxRecDepth 100000 in
theorem pm_T_isK_f : pg_MF false 1 pm_T_isK := ⟨⟨pg_tb_in 972 rfl rfl, pg_tb_in 29 rfl rfl⟩, pg_tb_in 78 rfl rfl, pg_tb_in 973 rfl rfl, ⟨by decide +kernel, by decide +kernel, by decide +kernel⟩, rfl, by decide +kernel, pm_T_isK_ck⟩
set_option maxRecDepth 100000 in
theorem pm_T_pointBy_f : pg_MF false 5 pm_T_pointBy := ⟨⟨pg_tb_in 976 rfl rfl, pg_tb_in 30 rfl rfl⟩, pg_tb_in 78 rfl rfl, pg_tb_in 977 rfl rfl, ⟨by decide +kernel, by decide +kernel, by decide +kernel⟩, rfl, by decide +kernel, pm_T_pointBy_ck⟩
set_option maxRecDepth 100000 in
theorem pm_T_map_f : pg_MF false 3 pm_T_map := ⟨⟨pg_tb_in 980 rfl rfl, pg_tb_in 31 rfl rfl⟩, pg_tb_in 78 rfl rfl, pg_tb_in 981 rfl rfl, ⟨by decide +kernel, by decide +kernel, by decide +kernel⟩, rfl, by decide +kernel, pm_T_map_ck⟩
set_option maxRecDepth 100000 in
theorem pm_T_both_f : pg_MF false 7 pm_T_both := ⟨⟨pg_tb_in 983 rfl rfl, pg_tb_in 984 rfl rfl⟩, pg_tb_in 78 rfl rfl, pg_tb_in 985 rfl rfl, ⟨by decide +kernel, by decide +kernel, by decide +kernel⟩, rfl, by decide +kernel, pm_T_both_ck⟩
set_option maxRecDepth 100000 in
theorem pm_T_moveOf_f : pg_MF false 3 pm_T_moveOf := ⟨⟨pg_tb_in 989 rfl rfl, pg_tb_in 32 rfl rfl⟩, pg_tb_in 78 rfl rfl, pg_tb_in 990 rfl rfl, ⟨by decide +kernel, by decide +kernel, by decide +kernel⟩, rfl, by decide +kernel, pm_T_moveOf_ck⟩
set_option maxRecDepth 100000 in
theorem pm_T_product_f : pg_MF false 2 pm_T_product := ⟨⟨pg_tb_in 993 rfl rfl, pg_tb_in 33 rfl rfl⟩, pg_tb_in 78 rfl rfl, pg_tb_in 994 rfl rfl, ⟨by decide +kernel, by decide +kernel, by decide +kernel⟩, rfl, by decide +kernel, pm_T_product_ck⟩
set_option maxRecDepth 100000 in
theorem pm_T_kOf_f : pg_MF false 1 pm_T_kOf := ⟨⟨pg_tb_in 997 rfl rfl, pg_tb_in 34 rfl rfl⟩, pg_tb_in 78 rfl rfl, pg_tb_in 998 rfl rfl, ⟨by decide +kernel, by decide +kernel, by decide +kernel⟩, rfl, by decide +kernel, pm_T_kOf_ck⟩
set_option maxRecDepth 100000 in
theorem pm_T_uOf_f : pg_MF false 1 pm_T_uOf := ⟨⟨pg_tb_in 1001 rfl rfl, pg_tb_in 35 rfl rfl⟩, pg_tb_in 78 rfl rfl, pg_tb_in 1002 rfl rfl, ⟨by decide +kernel, by decide +kernel, by decide +kernel⟩, rfl, by decide +kernel, pm_T_uOf_ck⟩
set_option maxRecDepth 100000 in
theorem pm_T_vOf_f : pg_MF false 1 pm_T_vOf := ⟨⟨pg_tb_in 1005 rfl rfl, pg_tb_in 36 rfl rfl⟩, pg_tb_in 78 rfl rfl, pg_tb_in 1006 rfl rfl, ⟨by decide +kernel, by decide +kernel, by decide +kernel⟩, rfl, by decide +kernel, pm_T_vOf_ck⟩
set_option maxRecDepth 100000 in
theorem pm_T_linear_f : pg_MF false 2 pm_T_linear := ⟨⟨pg_tb_in 1009 rfl rfl, pg_tb_in 37 rfl rfl⟩, pg_tb_in 78 rfl rfl, pg_tb_in 1010 rfl rfl, ⟨by decide +kernel, by decide +kernel, by decide +kernel⟩, rfl, by decide +kernel, pm_T_linear_ck⟩
set_option maxRecDepth 100000 in
theorem pm_T_tell_f : pg_MF false 2 pm_T_tell := ⟨⟨pg_tb_in 1013 rfl rfl, pg_tb_in 38 rfl rfl⟩, pg_tb_in 78 rfl rfl, pg_tb_in 1014 rfl rfl, ⟨by decide +kernel, by decide +kernel, by decide +kernel⟩, rfl, by decide +kernel, pm_T_tell_ck⟩
set_option maxRecDepth 100000 in
theorem pm_T_back_f : pg_MF false 4 pm_T_back := ⟨⟨pg_tb_in 1016 rfl rfl, pg_tb_in 1017 rfl rfl⟩, pg_tb_in 78 rfl rfl, pg_tb_in 1018 rfl rfl, ⟨by decide +kernel, by decide +kernel, by decide +kernel⟩, rfl, by decide +kernel, pm_T_back_ck⟩
set_option maxRecDepth 100000 in
theorem pm_T_is_f : pg_MF false 3 pm_T_is := ⟨⟨pg_tb_in 1020 rfl rfl, pg_tb_in 1021 rfl rfl⟩, pg_tb_in 78 rfl rfl, pg_tb_in 1022 rfl rfl, ⟨by decide +kernel, by decide +kernel, by decide +kernel⟩, rfl, by decide +kernel, pm_T_is_ck⟩
set_option maxRecDepth 100000 in
theorem pm_T_isSymmetry_f : pg_MF false 3 pm_T_isSymmetry := ⟨⟨pg_tb_in 1025 rfl rfl, pg_tb_in 39 rfl rfl⟩, pg_tb_in 78 rfl rfl, pg_tb_in 1026 rfl rfl, ⟨by decide +kernel, by decide +kernel, by decide +kernel⟩, rfl, by decide +kernel, pm_T_isSymmetry_ck⟩
set_option maxRecDepth 100000 in
theorem pm_T_isChange_f : pg_MF false 3 pm_T_isChange := ⟨⟨pg_tb_in 1029 rfl rfl, pg_tb_in 40 rfl rfl⟩, pg_tb_in 78 rfl rfl, pg_tb_in 1030 rfl rfl, ⟨by decide +kernel, by decide +kernel, by decide +kernel⟩, rfl, by decide +kernel, pm_T_isChange_ck⟩
set_option maxRecDepth 100000 in
theorem pm_T_symmetry_f : pg_MF false 2 pm_T_symmetry := ⟨⟨pg_tb_in 1032 rfl rfl, pg_tb_in 1033 rfl rfl⟩, pg_tb_in 78 rfl rfl, pg_tb_in 1034 rfl rfl, ⟨by decide +kernel, by decide +kernel, by decide +kernel⟩, rfl, by decide +kernel, pm_T_symmetry_ck⟩
set_option maxRecDepth 100000 in
theorem pm_T_findSymmetries_f : pg_MF false 0 pm_T_findSymmetries := ⟨⟨pg_tb_in 1037 rfl rfl, pg_tb_in 41 rfl rfl⟩, pg_tb_in 78 rfl rfl, pg_tb_in 1038 rfl rfl, ⟨by decide +kernel, by decide +kernel, by decide +kernel⟩, rfl, by decide +kernel, pm_T_findSymmetries_ck⟩
set_option maxRecDepth 100000 in
theorem pm_T_change_f : pg_MF false 4 pm_T_change := ⟨⟨pg_tb_in 1040 rfl rfl, pg_tb_in 1041 rfl rfl⟩, pg_tb_in 78 rfl rfl, pg_tb_in 1042 rfl rfl, ⟨by decide +kernel, by decide +kernel, by decide +kernel⟩, rfl, by decide +kernel, pm_T_change_ck⟩
set_option maxRecDepth 100000 in
theorem pm_T_ways_f : pg_MF false 0 pm_T_ways := ⟨⟨pg_tb_in 1044 rfl rfl, pg_tb_in 1045 rfl rfl⟩, pg_tb_in 78 rfl rfl, pg_tb_in 1046 rfl rfl, ⟨by decide +kernel, by decide +kernel, by decide +kernel⟩, rfl, by decide +kernel, pm_T_ways_ck⟩
set_option maxRecDepth 100000 in
theorem pm_T_base_f : pg_MF false 1 pm_T_base := ⟨⟨pg_tb_in 1049 rfl rfl, pg_tb_in 1050 rfl rfl⟩, pg_tb_in 78 rfl rfl, pg_tb_in 1051 rfl rfl, ⟨by decide +kernel, by decide +kernel, by decide +kernel⟩, rfl, by decide +kernel, pm_T_base_ck⟩
set_option maxRecDepth 100000 in
theorem pm_T_baseA_f : pg_MF false 0 pm_T_baseA := ⟨⟨pg_tb_in 1054 rfl rfl, pg_tb_in 42 rfl rfl⟩, pg_tb_in 78 rfl rfl, pg_tb_in 1055 rfl rfl, ⟨by decide +kernel, by decide +kernel, by decide +kernel⟩, rfl, by decide +kernel, pm_T_baseA_ck⟩
set_option maxRecDepth 100000 in
theorem pm_T_isShift_f : pg_MF false 2 pm_T_isShift := ⟨⟨pg_tb_in 1058 rfl rfl, pg_tb_in 43 rfl rfl⟩, pg_tb_in 78 rfl rfl, pg_tb_in 1059 rfl rfl, ⟨by decide +kernel, by decide +kernel, by decide +kernel⟩, rfl, by decide +kernel, pm_T_isShift_ck⟩
set_option maxRecDepth 100000 in
theorem pm_T_baseB_f : pg_MF false 0 pm_T_baseB := ⟨⟨pg_tb_in 1062 rfl rfl, pg_tb_in 44 rfl rfl⟩, pg_tb_in 78 rfl rfl, pg_tb_in 1063 rfl rfl, ⟨by decide +kernel, by decide +kernel, by decide +kernel⟩, rfl, by decide +kernel, pm_T_baseB_ck⟩
set_option maxRecDepth 100000 in
theorem pm_T_baseC_f : pg_MF false 0 pm_T_baseC := ⟨⟨pg_tb_in 1066 rfl rfl, pg_tb_in 45 rfl rfl⟩, pg_tb_in 78 rfl rfl, pg_tb_in 1067 rfl rfl, ⟨by decide +kernel, by decide +kernel, by decide +kernel⟩, rfl, by decide +kernel, pm_T_baseC_ck⟩
set_option maxRecDepth 100000 in
theorem pm_T_hasRow_f : pg_MF false 1 pm_T_hasRow := ⟨⟨pg_tb_in 1070 rfl rfl, pg_tb_in 46 rfl rfl⟩, pg_tb_in 78 rfl rfl, pg_tb_in 1071 rfl rfl, ⟨by decide +kernel, by decide +kernel, by decide +kernel⟩, rfl, by decide +kernel, pm_T_hasRow_ck⟩
set_option maxRecDepth 100000 in
theorem pm_T_least_f : pg_MF false 2 pm_T_least := ⟨⟨pg_tb_in 1073 rfl rfl, pg_tb_in 1074 rfl rfl⟩, pg_tb_in 78 rfl rfl, pg_tb_in 1075 rfl rfl, ⟨by decide +kernel, by decide +kernel, by decide +kernel⟩, rfl, by decide +kernel, pm_T_least_ck⟩
set_option maxRecDepth 100000 in
theorem pm_T_leastOf_f : pg_MF false 2 pm_T_leastOf := ⟨⟨pg_tb_in 1078 rfl rfl, pg_tb_in 47 rfl rfl⟩, pg_tb_in 78 rfl rfl, pg_tb_in 1079 rfl rfl, ⟨by decide +kernel, by decide +kernel, by decide +kernel⟩, rfl, by decide +kernel, pm_T_leastOf_ck⟩
set_option maxRecDepth 100000 in
theorem pm_T_orbit_f : pg_MF false 2 pm_T_orbit := ⟨⟨pg_tb_in 1081 rfl rfl, pg_tb_in 1082 rfl rfl⟩, pg_tb_in 78 rfl rfl, pg_tb_in 1083 rfl rfl, ⟨by decide +kernel, by decide +kernel, by decide +kernel⟩, rfl, by decide +kernel, pm_T_orbit_ck⟩
set_option maxRecDepth 100000 in
theorem pm_T_place_f : pg_MF false 3 pm_T_place := ⟨⟨pg_tb_in 1085 rfl rfl, pg_tb_in 1086 rfl rfl⟩, pg_tb_in 78 rfl rfl, pg_tb_in 1087 rfl rfl, ⟨by decide +kernel, by decide +kernel, by decide +kernel⟩, rfl, by decide +kernel, pm_T_place_ck⟩
set_option maxRecDepth 100000 in
theorem pm_T_findPlaces_f : pg_MF false 0 pm_T_findPlaces := ⟨⟨pg_tb_in 1090 rfl rfl, pg_tb_in 48 rfl rfl⟩, pg_tb_in 78 rfl rfl, pg_tb_in 1091 rfl rfl, ⟨by decide +kernel, by decide +kernel, by decide +kernel⟩, rfl, by decide +kernel, pm_T_findPlaces_ck⟩
set_option maxRecDepth 100000 in
theorem pm_T_side_f : pg_MF false 0 pm_T_side := ⟨⟨pg_tb_in 1094 rfl rfl, pg_tb_in 49 rfl rfl⟩, pg_tb_in 78 rfl rfl, pg_tb_in 1095 rfl rfl, ⟨by decide +kernel, by decide +kernel, by decide +kernel⟩, rfl, by decide +kernel, pm_T_side_ck⟩
set_option maxRecDepth 100000 in
theorem pm_T_isFixed_f : pg_MF false 3 pm_T_isFixed := ⟨⟨pg_tb_in 1098 rfl rfl, pg_tb_in 50 rfl rfl⟩, pg_tb_in 78 rfl rfl, pg_tb_in 1099 rfl rfl, ⟨by decide +kernel, by decide +kernel, by decide +kernel⟩, rfl, by decide +kernel, pm_T_isFixed_ck⟩
set_option maxRecDepth 100000 in
theorem pm_T_placeBy_f : pg_MF false 3 pm_T_placeBy := ⟨⟨pg_tb_in 1102 rfl rfl, pg_tb_in 51 rfl rfl⟩, pg_tb_in 78 rfl rfl, pg_tb_in 1103 rfl rfl, ⟨by decide +kernel, by decide +kernel, by decide +kernel⟩, rfl, by decide +kernel, pm_T_placeBy_ck⟩
set_option maxRecDepth 100000 in
theorem pm_T_feature_f : pg_MF false 2 pm_T_feature := ⟨⟨pg_tb_in 1106 rfl rfl, pg_tb_in 1107 rfl rfl⟩, pg_tb_in 78 rfl rfl, pg_tb_in 1108 rfl rfl, ⟨by decide +kernel, by decide +kernel, by decide +kernel⟩, rfl, by decide +kernel, pm_T_feature_ck⟩
set_option maxRecDepth 100000 in
theorem pm_T_countClasses_f : pg_MF false 2 pm_T_countClasses := ⟨⟨pg_tb_in 1112 rfl rfl, pg_tb_in 52 rfl rfl⟩, pg_tb_in 78 rfl rfl, pg_tb_in 1113 rfl rfl, ⟨by decide +kernel, by decide +kernel, by decide +kernel⟩, rfl, by decide +kernel, pm_T_countClasses_ck⟩
set_option maxRecDepth 100000 in
theorem pm_T_countEdges_f : pg_MF false 0 pm_T_countEdges := ⟨⟨pg_tb_in 1116 rfl rfl, pg_tb_in 53 rfl rfl⟩, pg_tb_in 78 rfl rfl, pg_tb_in 1117 rfl rfl, ⟨by decide +kernel, by decide +kernel, by decide +kernel⟩, rfl, by decide +kernel, pm_T_countEdges_ck⟩
set_option maxRecDepth 100000 in
theorem pm_T_findAxis_f : pg_MF false 1 pm_T_findAxis := ⟨⟨pg_tb_in 1120 rfl rfl, pg_tb_in 54 rfl rfl⟩, pg_tb_in 78 rfl rfl, pg_tb_in 1121 rfl rfl, ⟨by decide +kernel, by decide +kernel, by decide +kernel⟩, rfl, by decide +kernel, pm_T_findAxis_ck⟩
set_option maxRecDepth 100000 in
theorem pm_T_partOf_f : pg_MF false 1 pm_T_partOf := ⟨⟨pg_tb_in 1124 rfl rfl, pg_tb_in 55 rfl rfl⟩, pg_tb_in 78 rfl rfl, pg_tb_in 1125 rfl rfl, ⟨by decide +kernel, by decide +kernel, by decide +kernel⟩, rfl, by decide +kernel, pm_T_partOf_ck⟩
set_option maxRecDepth 100000 in
theorem pm_T_hasOdd_f : pg_MF false 0 pm_T_hasOdd := ⟨⟨pg_tb_in 1128 rfl rfl, pg_tb_in 56 rfl rfl⟩, pg_tb_in 78 rfl rfl, pg_tb_in 1129 rfl rfl, ⟨by decide +kernel, by decide +kernel, by decide +kernel⟩, rfl, by decide +kernel, pm_T_hasOdd_ck⟩
set_option maxRecDepth 100000 in
theorem pm_T_left_f : pg_MF false 0 pm_T_left := ⟨⟨pg_tb_in 1132 rfl rfl, pg_tb_in 57 rfl rfl⟩, pg_tb_in 78 rfl rfl, pg_tb_in 1133 rfl rfl, ⟨by decide +kernel, by decide +kernel, by decide +kernel⟩, rfl, by decide +kernel, pm_T_left_ck⟩
set_option maxRecDepth 100000 in
theorem pm_T_kind_f : pg_MF false 0 pm_T_kind := ⟨⟨pg_tb_in 1135 rfl rfl, pg_tb_in 1136 rfl rfl⟩, pg_tb_in 78 rfl rfl, pg_tb_in 1137 rfl rfl, ⟨by decide +kernel, by decide +kernel, by decide +kernel⟩, rfl, by decide +kernel, pm_T_kind_ck⟩
set_option maxRecDepth 100000 in
theorem pm_T_hasMirrors_f : pg_MF false 0 pm_T_hasMirrors := ⟨⟨pg_tb_in 1140 rfl rfl, pg_tb_in 58 rfl rfl⟩, pg_tb_in 78 rfl rfl, pg_tb_in 1141 rfl rfl, ⟨by decide +kernel, by decide +kernel, by decide +kernel⟩, rfl, by decide +kernel, pm_T_hasMirrors_ck⟩
set_option maxRecDepth 100000 in
theorem pm_T_mostTurns_f : pg_MF false 0 pm_T_mostTurns := ⟨⟨pg_tb_in 1144 rfl rfl, pg_tb_in 59 rfl rfl⟩, pg_tb_in 78 rfl rfl, pg_tb_in 1145 rfl rfl, ⟨by decide +kernel, by decide +kernel, by decide +kernel⟩, rfl, by decide +kernel, pm_T_mostTurns_ck⟩
set_option maxRecDepth 100000 in
theorem pm_T_hasPlace_f : pg_MF false 2 pm_T_hasPlace := ⟨⟨pg_tb_in 1148 rfl rfl, pg_tb_in 60 rfl rfl⟩, pg_tb_in 78 rfl rfl, pg_tb_in 1149 rfl rfl, ⟨by decide +kernel, by decide +kernel, by decide +kernel⟩, rfl, by decide +kernel, pm_T_hasPlace_ck⟩
set_option maxRecDepth 100000 in
theorem pm_T_mirrorWays_f : pg_MF false 0 pm_T_mirrorWays := ⟨⟨pg_tb_in 1152 rfl rfl, pg_tb_in 61 rfl rfl⟩, pg_tb_in 78 rfl rfl, pg_tb_in 1153 rfl rfl, ⟨by decide +kernel, by decide +kernel, by decide +kernel⟩, rfl, by decide +kernel, pm_T_mirrorWays_ck⟩
set_option maxRecDepth 100000 in
theorem pm_T_isOn_f : pg_MF false 3 pm_T_isOn := ⟨⟨pg_tb_in 1156 rfl rfl, pg_tb_in 62 rfl rfl⟩, pg_tb_in 78 rfl rfl, pg_tb_in 1157 rfl rfl, ⟨by decide +kernel, by decide +kernel, by decide +kernel⟩, rfl, by decide +kernel, pm_T_isOn_ck⟩
set_option maxRecDepth 100000 in
theorem pm_T_hasGlides_f : pg_MF false 0 pm_T_hasGlides := ⟨⟨pg_tb_in 1160 rfl rfl, pg_tb_in 63 rfl rfl⟩, pg_tb_in 78 rfl rfl, pg_tb_in 1161 rfl rfl, ⟨by decide +kernel, by decide +kernel, by decide +kernel⟩, rfl, by decide +kernel, pm_T_hasGlides_ck⟩
set_option maxRecDepth 100000 in
theorem pm_T_strip_f : pg_MF false 2 pm_T_strip := ⟨⟨pg_tb_in 1164 rfl rfl, pg_tb_in 1165 rfl rfl⟩, pg_tb_in 78 rfl rfl, pg_tb_in 1166 rfl rfl, ⟨by decide +kernel, by decide +kernel, by decide +kernel⟩, rfl, by decide +kernel, pm_T_strip_ck⟩
set_option maxRecDepth 100000 in
theorem pm_T_hasStrip_f : pg_MF false 4 pm_T_hasStrip := ⟨⟨pg_tb_in 1169 rfl rfl, pg_tb_in 64 rfl rfl⟩, pg_tb_in 78 rfl rfl, pg_tb_in 1170 rfl rfl, ⟨by decide +kernel, by decide +kernel, by decide +kernel⟩, rfl, by decide +kernel, pm_T_hasStrip_ck⟩
set_option maxRecDepth 100000 in
theorem pm_T_isStrip_f : pg_MF false 5 pm_T_isStrip := ⟨⟨pg_tb_in 1173 rfl rfl, pg_tb_in 65 rfl rfl⟩, pg_tb_in 78 rfl rfl, pg_tb_in 1174 rfl rfl, ⟨by decide +kernel, by decide +kernel, by decide +kernel⟩, rfl, by decide +kernel, pm_T_isStrip_ck⟩
set_option maxRecDepth 100000 in
theorem pm_T_halves_f : pg_MF false 0 pm_T_halves := ⟨⟨pg_tb_in 1176 rfl rfl, pg_tb_in 1177 rfl rfl⟩, pg_tb_in 78 rfl rfl, pg_tb_in 1178 rfl rfl, ⟨by decide +kernel, by decide +kernel, by decide +kernel⟩, rfl, by decide +kernel, pm_T_halves_ck⟩
set_option maxRecDepth 100000 in
theorem pm_T_generate_f : pg_MF false 3 pm_T_generate := ⟨⟨pg_tb_in 1180 rfl rfl, pg_tb_in 1181 rfl rfl⟩, pg_tb_in 78 rfl rfl, pg_tb_in 1182 rfl rfl, ⟨by decide +kernel, by decide +kernel, by decide +kernel⟩, rfl, by decide +kernel, pm_T_generate_ck⟩
set_option maxRecDepth 100000 in
theorem pm_T_spread_f : pg_MF false 0 pm_T_spread := ⟨⟨pg_tb_in 1184 rfl rfl, pg_tb_in 1185 rfl rfl⟩, pg_tb_in 78 rfl rfl, pg_tb_in 1186 rfl rfl, ⟨by decide +kernel, by decide +kernel, by decide +kernel⟩, rfl, by decide +kernel, pm_T_spread_ck⟩
set_option maxRecDepth 100000 in
theorem pm_T_count_f : pg_MF false 1 pm_T_count := ⟨⟨pg_tb_in 1188 rfl rfl, pg_tb_in 1189 rfl rfl⟩, pg_tb_in 78 rfl rfl, pg_tb_in 1190 rfl rfl, ⟨by decide +kernel, by decide +kernel, by decide +kernel⟩, rfl, by decide +kernel, pm_T_count_ck⟩
set_option maxRecDepth 100000 in
theorem pm_T_hasColour_f : pg_MF false 1 pm_T_hasColour := ⟨⟨pg_tb_in 1194 rfl rfl, pg_tb_in 66 rfl rfl⟩, pg_tb_in 78 rfl rfl, pg_tb_in 1195 rfl rfl, ⟨by decide +kernel, by decide +kernel, by decide +kernel⟩, rfl, by decide +kernel, pm_T_hasColour_ck⟩
set_option maxRecDepth 100000 in
theorem pm_T_countMoves_f : pg_MF false 1 pm_T_countMoves := ⟨⟨pg_tb_in 1198 rfl rfl, pg_tb_in 67 rfl rfl⟩, pg_tb_in 78 rfl rfl, pg_tb_in 1199 rfl rfl, ⟨by decide +kernel, by decide +kernel, by decide +kernel⟩, rfl, by decide +kernel, pm_T_countMoves_ck⟩
def pg_LOk (o : Nat) (e : Nat × Bool × Nat × pg_M) : Prop := Cond.methodLink (pgR o) e.1 e.2.2.2.1 ∈ pg_tb ∧ pg_MF e.2.1 e.2.2.1 e.2.2.2
set_option maxRecDepth 100000 in
theorem pg_MTok0 : ∀ e ∈ pg_MT 0, pg_LOk 0 e := List.forall_mem_cons.mpr ⟨⟨pg_tb_in 338 rfl rfl, pm_M_choose_f⟩, List.forall_mem_cons.mpr ⟨⟨pg_tb_in 346 rfl rfl, pm_C_clear_f⟩, List.forall_mem_cons.mpr ⟨⟨pg_tb_in 380 rfl rfl, pm_N_clear_f⟩, List.forall_mem_cons.mpr ⟨⟨pg_tb_in 384 rfl rfl, pm_P_forget_f⟩, List.forall_mem_cons.mpr ⟨⟨pg_tb_in 392 rfl rfl, pm_P_isColour_f⟩, List.forall_mem_cons.mpr ⟨⟨pg_tb_in 395 rfl rfl, pm_M_point_f⟩, List.forall_mem_cons.mpr ⟨⟨pg_tb_in 406 rfl rfl, pm_C_put_f⟩, List.forall_mem_cons.mpr ⟨⟨pg_tb_in 418 rfl rfl, pm_M_wrap_f⟩, List.forall_mem_cons.mpr ⟨⟨pg_tb_in 423 rfl rfl, pm_C_present_f⟩, List.forall_mem_cons.mpr ⟨⟨pg_tb_in 427 rfl rfl, pm_G_mostTurns_f⟩, List.forall_mem_cons.mpr ⟨⟨pg_tb_in 565 rfl rfl, pm_O_total_f⟩, List.forall_mem_cons.mpr ⟨⟨pg_tb_in 589 rfl rfl, pm_P_countMoves_f⟩, List.forall_mem_cons.mpr ⟨⟨pg_tb_in 593 rfl rfl, pm_S_study_f⟩, List.forall_mem_cons.mpr ⟨⟨pg_tb_in 594 rfl rfl, pm_S_total_f⟩, List.forall_mem_cons.mpr ⟨⟨pg_tb_in 603 rfl rfl, pm_S_shifts_f⟩, List.forall_mem_cons.mpr ⟨⟨pg_tb_in 604 rfl rfl, pm_S_allChanges_f⟩, List.forall_mem_cons.mpr ⟨⟨pg_tb_in 620 rfl rfl, pm_M_isLinear_f⟩, List.forall_mem_cons.mpr ⟨⟨pg_tb_in 624 rfl rfl, pm_M_target_f⟩, List.forall_mem_cons.mpr ⟨⟨pg_tb_in 625 rfl rfl, pm_M_columnOf_f⟩, List.forall_mem_cons.mpr ⟨⟨pg_tb_in 626 rfl rfl, pm_M_rowOf_f⟩, List.forall_mem_cons.mpr ⟨⟨pg_tb_in 631 rfl rfl, pm_P_isPartOfMove_f⟩, List.forall_mem_cons.mpr ⟨⟨pg_tb_in 634 rfl rfl, pm_M_code_f⟩, List.forall_mem_cons.mpr ⟨⟨pg_tb_in 638 rfl rfl, pm_M_product_f⟩, List.forall_mem_cons.mpr ⟨⟨pg_tb_in 651 rfl rfl, pm_M_part_f⟩, List.forall_mem_cons.mpr ⟨⟨pg_tb_in 656 rfl rfl, pm_M_inverse_f⟩, List.forall_mem_cons.mpr ⟨⟨pg_tb_in 664 rfl rfl, pm_C_changes_f⟩, List.forall_mem_cons.mpr ⟨⟨pg_tb_in 665 rfl rfl, pm_C_isSameImage_f⟩, List.forall_mem_cons.mpr ⟨⟨pg_tb_in 673 rfl rfl, pm_S_numbered_f⟩, List.forall_mem_cons.mpr ⟨⟨pg_tb_in 696 rfl rfl, pm_S_colourWays_f⟩, List.forall_mem_cons.mpr ⟨⟨pg_tb_in 705 rfl rfl, pm_O_leastOf_f⟩, List.forall_mem_cons.mpr ⟨⟨pg_tb_in 713 rfl rfl, pm_O_sizeOf_f⟩, List.forall_mem_cons.mpr ⟨⟨pg_tb_in 721 rfl rfl, pm_M_wrapSixths_f⟩, List.forall_mem_cons.mpr ⟨⟨pg_tb_in 725 rfl rfl, pm_S_turnsAt_f⟩, List.forall_mem_cons.mpr ⟨⟨pg_tb_in 726 rfl rfl, pm_S_mirrorsAt_f⟩, List.forall_mem_cons.mpr ⟨⟨pg_tb_in 731 rfl rfl, pm_P_isOrder_f⟩, List.forall_mem_cons.mpr ⟨⟨pg_tb_in 734 rfl rfl, pm_G_study_f⟩, List.forall_mem_cons.mpr ⟨⟨pg_tb_in 739 rfl rfl, pm_G_name_f⟩, List.forall_mem_cons.mpr ⟨⟨pg_tb_in 751 rfl rfl, pm_C_stripTurnsOver_f⟩, List.forall_mem_cons.mpr ⟨⟨pg_tb_in 760 rfl rfl, pm_C_keepsStrip_f⟩, List.forall_mem_cons.mpr ⟨⟨pg_tb_in 765 rfl rfl, pm_H_total_f⟩, List.forall_mem_cons.mpr ⟨⟨pg_tb_in 795 rfl rfl, pm_N_add_f⟩, List.forall_mem_cons.mpr ⟨⟨pg_tb_in 803 rfl rfl, pm_N_paintAlike_f⟩, fun _ h => absurd h List.not_mem_nil⟩⟩⟩⟩⟩⟩⟩⟩⟩⟩⟩⟩⟩⟩⟩⟩⟩⟩⟩⟩⟩⟩⟩⟩⟩⟩⟩⟩⟩⟩⟩⟩⟩⟩⟩⟩⟩⟩⟩⟩⟩⟩
set_option maxRecDepth 100000 in
theorem pg_MTok1 : ∀ e ∈ pg_MT 1, pg_LOk 1 e := fun _ h => absurd h List.not_mem_nil
set_option maxRecDepth 100000 in
theorem pg_MTok2 : ∀ e ∈ pg_MT 2, pg_LOk 2 e := List.forall_mem_cons.mpr ⟨⟨pg_tb_in 342 rfl rfl, pm_M_setColumn_f⟩, List.forall_mem_cons.mpr ⟨⟨pg_tb_in 399 rfl rfl, pm_M_wrap_f⟩, List.forall_mem_cons.mpr ⟨⟨pg_tb_in 403 rfl rfl, pm_J_floorMod_f⟩, List.forall_mem_cons.mpr ⟨⟨pg_tb_in 451 rfl rfl, pm_M_linearX_f⟩, List.forall_mem_cons.mpr ⟨⟨pg_tb_in 455 rfl rfl, pm_M_linearY_f⟩, List.forall_mem_cons.mpr ⟨⟨pg_tb_in 545 rfl rfl, pm_M_axis_f⟩, List.forall_mem_cons.mpr ⟨⟨pg_tb_in 642 rfl rfl, pm_M_part_f⟩, List.forall_mem_cons.mpr ⟨⟨pg_tb_in 646 rfl rfl, pm_M_linearProduct_f⟩, List.forall_mem_cons.mpr ⟨⟨pg_tb_in 650 rfl rfl, pm_M_code_f⟩, fun _ h => absurd h List.not_mem_nil⟩⟩⟩⟩⟩⟩⟩⟩⟩
set_option maxRecDepth 100000 in
theorem pg_MTok3 : ∀ e ∈ pg_MT 3, pg_LOk 3 e := List.forall_mem_cons.mpr ⟨⟨pg_tb_in 350 rfl rfl, pm_M_points_f⟩, List.forall_mem_cons.mpr ⟨⟨pg_tb_in 447 rfl rfl, pm_M_target_f⟩, List.forall_mem_cons.mpr ⟨⟨pg_tb_in 755 rfl rfl, pm_C_keepsStrip_f⟩, List.forall_mem_cons.mpr ⟨⟨pg_tb_in 759 rfl rfl, pm_M_point_f⟩, fun _ h => absurd h List.not_mem_nil⟩⟩⟩⟩
set_option maxRecDepth 100000 in
theorem pg_MTok4 : ∀ e ∈ pg_MT 4, pg_LOk 4 e := List.forall_mem_cons.mpr ⟨⟨pg_tb_in 439 rfl rfl, pm_S_leastStepAlong_f⟩, List.forall_mem_cons.mpr ⟨⟨pg_tb_in 443 rfl rfl, pm_C_keeps_f⟩, List.forall_mem_cons.mpr ⟨⟨pg_tb_in 459 rfl rfl, pm_S_findSecondStep_f⟩, List.forall_mem_cons.mpr ⟨⟨pg_tb_in 463 rfl rfl, pm_C_rarestPoint_f⟩, List.forall_mem_cons.mpr ⟨⟨pg_tb_in 467 rfl rfl, pm_M_linears_f⟩, List.forall_mem_cons.mpr ⟨⟨pg_tb_in 471 rfl rfl, pm_S_findOne_f⟩, List.forall_mem_cons.mpr ⟨⟨pg_tb_in 475 rfl rfl, pm_M_columnOf_f⟩, List.forall_mem_cons.mpr ⟨⟨pg_tb_in 479 rfl rfl, pm_M_rowOf_f⟩, List.forall_mem_cons.mpr ⟨⟨pg_tb_in 483 rfl rfl, pm_M_target_f⟩, List.forall_mem_cons.mpr ⟨⟨pg_tb_in 496 rfl rfl, pm_S_fixes_f⟩, List.forall_mem_cons.mpr ⟨⟨pg_tb_in 500 rfl rfl, pm_M_linearX_f⟩, List.forall_mem_cons.mpr ⟨⟨pg_tb_in 501 rfl rfl, pm_M_linearY_f⟩, List.forall_mem_cons.mpr ⟨⟨pg_tb_in 502 rfl rfl, pm_S_contains_f⟩, List.forall_mem_cons.mpr ⟨⟨pg_tb_in 598 rfl rfl, pm_S_shifts_f⟩, List.forall_mem_cons.mpr ⟨⟨pg_tb_in 602 rfl rfl, pm_M_points_f⟩, List.forall_mem_cons.mpr ⟨⟨pg_tb_in 608 rfl rfl, pm_S_changesOf_f⟩, List.forall_mem_cons.mpr ⟨⟨pg_tb_in 612 rfl rfl, pm_C_changes_f⟩, List.forall_mem_cons.mpr ⟨⟨pg_tb_in 677 rfl rfl, pm_S_study_f⟩, List.forall_mem_cons.mpr ⟨⟨pg_tb_in 678 rfl rfl, pm_S_total_f⟩, List.forall_mem_cons.mpr ⟨⟨pg_tb_in 679 rfl rfl, pm_S_numberedOf_f⟩, List.forall_mem_cons.mpr ⟨⟨pg_tb_in 683 rfl rfl, pm_M_code_f⟩, List.forall_mem_cons.mpr ⟨⟨pg_tb_in 700 rfl rfl, pm_S_allChanges_f⟩, fun _ h => absurd h List.not_mem_nil⟩⟩⟩⟩⟩⟩⟩⟩⟩⟩⟩⟩⟩⟩⟩⟩⟩⟩⟩⟩⟩⟩
set_option maxRecDepth 100000 in
theorem pg_MTok5 : ∀ e ∈ pg_MT 5, pg_LOk 5 e := List.forall_mem_cons.mpr ⟨⟨pg_tb_in 569 rfl rfl, pm_O_study_f⟩, List.forall_mem_cons.mpr ⟨⟨pg_tb_in 573 rfl rfl, pm_S_study_f⟩, List.forall_mem_cons.mpr ⟨⟨pg_tb_in 574 rfl rfl, pm_M_points_f⟩, List.forall_mem_cons.mpr ⟨⟨pg_tb_in 575 rfl rfl, pm_O_markClass_f⟩, List.forall_mem_cons.mpr ⟨⟨pg_tb_in 579 rfl rfl, pm_M_columnOf_f⟩, List.forall_mem_cons.mpr ⟨⟨pg_tb_in 580 rfl rfl, pm_M_rowOf_f⟩, List.forall_mem_cons.mpr ⟨⟨pg_tb_in 581 rfl rfl, pm_M_linears_f⟩, List.forall_mem_cons.mpr ⟨⟨pg_tb_in 582 rfl rfl, pm_M_linearX_f⟩, List.forall_mem_cons.mpr ⟨⟨pg_tb_in 583 rfl rfl, pm_M_linearY_f⟩, List.forall_mem_cons.mpr ⟨⟨pg_tb_in 584 rfl rfl, pm_O_markShifted_f⟩, List.forall_mem_cons.mpr ⟨⟨pg_tb_in 588 rfl rfl, pm_M_point_f⟩, fun _ h => absurd h List.not_mem_nil⟩⟩⟩⟩⟩⟩⟩⟩⟩⟩⟩
set_option maxRecDepth 100000 in
theorem pg_MTok6 : ∀ e ∈ pg_MT 6, pg_LOk 6 e := List.forall_mem_cons.mpr ⟨⟨pg_tb_in 431 rfl rfl, pm_G_study_f⟩, List.forall_mem_cons.mpr ⟨⟨pg_tb_in 435 rfl rfl, pm_S_study_f⟩, List.forall_mem_cons.mpr ⟨⟨pg_tb_in 484 rfl rfl, pm_R_clear_f⟩, List.forall_mem_cons.mpr ⟨⟨pg_tb_in 488 rfl rfl, pm_G_lookAt_f⟩, List.forall_mem_cons.mpr ⟨⟨pg_tb_in 492 rfl rfl, pm_S_turnsAt_f⟩, List.forall_mem_cons.mpr ⟨⟨pg_tb_in 506 rfl rfl, pm_J_max_f⟩, List.forall_mem_cons.mpr ⟨⟨pg_tb_in 509 rfl rfl, pm_S_mirrorsAt_f⟩, List.forall_mem_cons.mpr ⟨⟨pg_tb_in 513 rfl rfl, pm_R_add_f⟩, List.forall_mem_cons.mpr ⟨⟨pg_tb_in 517 rfl rfl, pm_G_followEdge_f⟩, List.forall_mem_cons.mpr ⟨⟨pg_tb_in 521 rfl rfl, pm_R_at_f⟩, List.forall_mem_cons.mpr ⟨⟨pg_tb_in 525 rfl rfl, pm_M_linears_f⟩, List.forall_mem_cons.mpr ⟨⟨pg_tb_in 526 rfl rfl, pm_G_followBy_f⟩, List.forall_mem_cons.mpr ⟨⟨pg_tb_in 530 rfl rfl, pm_M_linearX_f⟩, List.forall_mem_cons.mpr ⟨⟨pg_tb_in 531 rfl rfl, pm_M_linearY_f⟩, List.forall_mem_cons.mpr ⟨⟨pg_tb_in 532 rfl rfl, pm_G_reach_f⟩, List.forall_mem_cons.mpr ⟨⟨pg_tb_in 536 rfl rfl, pm_J_floorDiv_f⟩, List.forall_mem_cons.mpr ⟨⟨pg_tb_in 539 rfl rfl, pm_J_floorMod_f⟩, List.forall_mem_cons.mpr ⟨⟨pg_tb_in 540 rfl rfl, pm_S_fixes_f⟩, List.forall_mem_cons.mpr ⟨⟨pg_tb_in 541 rfl rfl, pm_M_axisX_f⟩, List.forall_mem_cons.mpr ⟨⟨pg_tb_in 553 rfl rfl, pm_M_axisY_f⟩, List.forall_mem_cons.mpr ⟨⟨pg_tb_in 557 rfl rfl, pm_G_placesToClasses_f⟩, List.forall_mem_cons.mpr ⟨⟨pg_tb_in 561 rfl rfl, pm_G_countTheRest_f⟩, List.forall_mem_cons.mpr ⟨⟨pg_tb_in 743 rfl rfl, pm_G_nameWithoutMirrors_f⟩, fun _ h => absurd h List.not_mem_nil⟩⟩⟩⟩⟩⟩⟩⟩⟩⟩⟩⟩⟩⟩⟩⟩⟩⟩⟩⟩⟩⟩⟩
set_option maxRecDepth 100000 in
theorem pg_MTok7 : ∀ e ∈ pg_MT 7, pg_LOk 7 e := List.forall_mem_cons.mpr ⟨⟨pg_tb_in 769 rfl rfl, pm_S_study_f⟩, List.forall_mem_cons.mpr ⟨⟨pg_tb_in 770 rfl rfl, pm_R_clear_f⟩, List.forall_mem_cons.mpr ⟨⟨pg_tb_in 771 rfl rfl, pm_R_add_f⟩, List.forall_mem_cons.mpr ⟨⟨pg_tb_in 772 rfl rfl, pm_M_linears_f⟩, List.forall_mem_cons.mpr ⟨⟨pg_tb_in 773 rfl rfl, pm_H_takeSquaresOf_f⟩, List.forall_mem_cons.mpr ⟨⟨pg_tb_in 777 rfl rfl, pm_S_contains_f⟩, List.forall_mem_cons.mpr ⟨⟨pg_tb_in 778 rfl rfl, pm_M_code_f⟩, List.forall_mem_cons.mpr ⟨⟨pg_tb_in 779 rfl rfl, pm_M_product_f⟩, List.forall_mem_cons.mpr ⟨⟨pg_tb_in 780 rfl rfl, pm_H_take_f⟩, List.forall_mem_cons.mpr ⟨⟨pg_tb_in 784 rfl rfl, pm_R_has_f⟩, List.forall_mem_cons.mpr ⟨⟨pg_tb_in 788 rfl rfl, pm_R_at_f⟩, List.forall_mem_cons.mpr ⟨⟨pg_tb_in 789 rfl rfl, pm_S_total_f⟩, List.forall_mem_cons.mpr ⟨⟨pg_tb_in 790 rfl rfl, pm_J_max_f⟩, fun _ h => absurd h List.not_mem_nil⟩⟩⟩⟩⟩⟩⟩⟩⟩⟩⟩⟩⟩
set_option maxRecDepth 100000 in
theorem pg_MTok8 : ∀ e ∈ pg_MT 8, pg_LOk 8 e := List.forall_mem_cons.mpr ⟨⟨pg_tb_in 807 rfl rfl, pm_R_clear_f⟩, List.forall_mem_cons.mpr ⟨⟨pg_tb_in 808 rfl rfl, pm_M_points_f⟩, List.forall_mem_cons.mpr ⟨⟨pg_tb_in 809 rfl rfl, pm_R_add_f⟩, List.forall_mem_cons.mpr ⟨⟨pg_tb_in 810 rfl rfl, pm_N_paintFrom_f⟩, List.forall_mem_cons.mpr ⟨⟨pg_tb_in 814 rfl rfl, pm_R_at_f⟩, List.forall_mem_cons.mpr ⟨⟨pg_tb_in 815 rfl rfl, pm_N_goalOf_f⟩, List.forall_mem_cons.mpr ⟨⟨pg_tb_in 819 rfl rfl, pm_M_part_f⟩, List.forall_mem_cons.mpr ⟨⟨pg_tb_in 820 rfl rfl, pm_M_columnOf_f⟩, List.forall_mem_cons.mpr ⟨⟨pg_tb_in 821 rfl rfl, pm_M_rowOf_f⟩, List.forall_mem_cons.mpr ⟨⟨pg_tb_in 822 rfl rfl, pm_M_target_f⟩, List.forall_mem_cons.mpr ⟨⟨pg_tb_in 823 rfl rfl, pm_C_put_f⟩, fun _ h => absurd h List.not_mem_nil⟩⟩⟩⟩⟩⟩⟩⟩⟩⟩⟩
set_option maxRecDepth 100000 in
theorem pg_MTok9 : ∀ e ∈ pg_MT 9, pg_LOk 9 e := List.forall_mem_cons.mpr ⟨⟨pg_tb_in 830 rfl rfl, pm_T_findLinear_f⟩, List.forall_mem_cons.mpr ⟨⟨pg_tb_in 834 rfl rfl, pm_T_round_f⟩, List.forall_mem_cons.mpr ⟨⟨pg_tb_in 838 rfl rfl, pm_T_turn_f⟩, List.forall_mem_cons.mpr ⟨⟨pg_tb_in 938 rfl rfl, pm_T_isIn_f⟩, List.forall_mem_cons.mpr ⟨⟨pg_tb_in 942 rfl rfl, pm_T_changed_f⟩, List.forall_mem_cons.mpr ⟨⟨pg_tb_in 951 rfl rfl, pm_T_at_f⟩, List.forall_mem_cons.mpr ⟨⟨pg_tb_in 955 rfl rfl, pm_T_mod_f⟩, List.forall_mem_cons.mpr ⟨⟨pg_tb_in 970 rfl rfl, pm_T_isK_f⟩, List.forall_mem_cons.mpr ⟨⟨pg_tb_in 974 rfl rfl, pm_T_pointBy_f⟩, List.forall_mem_cons.mpr ⟨⟨pg_tb_in 978 rfl rfl, pm_T_map_f⟩, List.forall_mem_cons.mpr ⟨⟨pg_tb_in 987 rfl rfl, pm_T_moveOf_f⟩, List.forall_mem_cons.mpr ⟨⟨pg_tb_in 991 rfl rfl, pm_T_product_f⟩, List.forall_mem_cons.mpr ⟨⟨pg_tb_in 995 rfl rfl, pm_T_kOf_f⟩, List.forall_mem_cons.mpr ⟨⟨pg_tb_in 999 rfl rfl, pm_T_uOf_f⟩, List.forall_mem_cons.mpr ⟨⟨pg_tb_in 1003 rfl rfl, pm_T_vOf_f⟩, List.forall_mem_cons.mpr ⟨⟨pg_tb_in 1007 rfl rfl, pm_T_linear_f⟩, List.forall_mem_cons.mpr ⟨⟨pg_tb_in 1011 rfl rfl, pm_T_tell_f⟩, List.forall_mem_cons.mpr ⟨⟨pg_tb_in 1023 rfl rfl, pm_T_isSymmetry_f⟩, List.forall_mem_cons.mpr ⟨⟨pg_tb_in 1027 rfl rfl, pm_T_isChange_f⟩, List.forall_mem_cons.mpr ⟨⟨pg_tb_in 1035 rfl rfl, pm_T_findSymmetries_f⟩, List.forall_mem_cons.mpr ⟨⟨pg_tb_in 1052 rfl rfl, pm_T_baseA_f⟩, List.forall_mem_cons.mpr ⟨⟨pg_tb_in 1056 rfl rfl, pm_T_isShift_f⟩, List.forall_mem_cons.mpr ⟨⟨pg_tb_in 1060 rfl rfl, pm_T_baseB_f⟩, List.forall_mem_cons.mpr ⟨⟨pg_tb_in 1064 rfl rfl, pm_T_baseC_f⟩, List.forall_mem_cons.mpr ⟨⟨pg_tb_in 1068 rfl rfl, pm_T_hasRow_f⟩, List.forall_mem_cons.mpr ⟨⟨pg_tb_in 1076 rfl rfl, pm_T_leastOf_f⟩, List.forall_mem_cons.mpr ⟨⟨pg_tb_in 1088 rfl rfl, pm_T_findPlaces_f⟩, List.forall_mem_cons.mpr ⟨⟨pg_tb_in 1092 rfl rfl, pm_T_side_f⟩, List.forall_mem_cons.mpr ⟨⟨pg_tb_in 1096 rfl rfl, pm_T_isFixed_f⟩, List.forall_mem_cons.mpr ⟨⟨pg_tb_in 1100 rfl rfl, pm_T_placeBy_f⟩, List.forall_mem_cons.mpr ⟨⟨pg_tb_in 1110 rfl rfl, pm_T_countClasses_f⟩, List.forall_mem_cons.mpr ⟨⟨pg_tb_in 1114 rfl rfl, pm_T_countEdges_f⟩, List.forall_mem_cons.mpr ⟨⟨pg_tb_in 1118 rfl rfl, pm_T_findAxis_f⟩, List.forall_mem_cons.mpr ⟨⟨pg_tb_in 1122 rfl rfl, pm_T_partOf_f⟩, List.forall_mem_cons.mpr ⟨⟨pg_tb_in 1126 rfl rfl, pm_T_hasOdd_f⟩, List.forall_mem_cons.mpr ⟨⟨pg_tb_in 1130 rfl rfl, pm_T_left_f⟩, List.forall_mem_cons.mpr ⟨⟨pg_tb_in 1138 rfl rfl, pm_T_hasMirrors_f⟩, List.forall_mem_cons.mpr ⟨⟨pg_tb_in 1142 rfl rfl, pm_T_mostTurns_f⟩, List.forall_mem_cons.mpr ⟨⟨pg_tb_in 1146 rfl rfl, pm_T_hasPlace_f⟩, List.forall_mem_cons.mpr ⟨⟨pg_tb_in 1150 rfl rfl, pm_T_mirrorWays_f⟩, List.forall_mem_cons.mpr ⟨⟨pg_tb_in 1154 rfl rfl, pm_T_isOn_f⟩, List.forall_mem_cons.mpr ⟨⟨pg_tb_in 1158 rfl rfl, pm_T_hasGlides_f⟩, List.forall_mem_cons.mpr ⟨⟨pg_tb_in 1167 rfl rfl, pm_T_hasStrip_f⟩, List.forall_mem_cons.mpr ⟨⟨pg_tb_in 1171 rfl rfl, pm_T_isStrip_f⟩, List.forall_mem_cons.mpr ⟨⟨pg_tb_in 1192 rfl rfl, pm_T_hasColour_f⟩, List.forall_mem_cons.mpr ⟨⟨pg_tb_in 1196 rfl rfl, pm_T_countMoves_f⟩, fun _ h => absurd h List.not_mem_nil⟩⟩⟩⟩⟩⟩⟩⟩⟩⟩⟩⟩⟩⟩⟩⟩⟩⟩⟩⟩⟩⟩⟩⟩⟩⟩⟩⟩⟩⟩⟩⟩⟩⟩⟩⟩⟩⟩⟩⟩⟩⟩⟩⟩⟩⟩
set_option maxRecDepth 100000 in
theorem pg_MTok10 : ∀ e ∈ pg_MT 10, pg_LOk 10 e := fun _ h => absurd h List.not_mem_nil
set_option maxRecDepth 100000 in
theorem pg_MTok11 : ∀ e ∈ pg_MT 11, pg_LOk 11 e := List.forall_mem_cons.mpr ⟨⟨pg_tb_in 376 rfl rfl, pm_P_begin_f⟩, List.forall_mem_cons.mpr ⟨⟨pg_tb_in 388 rfl rfl, pm_P_paint_f⟩, List.forall_mem_cons.mpr ⟨⟨pg_tb_in 410 rfl rfl, pm_P_colour_f⟩, List.forall_mem_cons.mpr ⟨⟨pg_tb_in 414 rfl rfl, pm_P_paints_f⟩, List.forall_mem_cons.mpr ⟨⟨pg_tb_in 419 rfl rfl, pm_P_count_f⟩, List.forall_mem_cons.mpr ⟨⟨pg_tb_in 616 rfl rfl, pm_P_goes_f⟩, List.forall_mem_cons.mpr ⟨⟨pg_tb_in 627 rfl rfl, pm_P_both_f⟩, List.forall_mem_cons.mpr ⟨⟨pg_tb_in 652 rfl rfl, pm_P_back_f⟩, List.forall_mem_cons.mpr ⟨⟨pg_tb_in 660 rfl rfl, pm_P_is_f⟩, List.forall_mem_cons.mpr ⟨⟨pg_tb_in 669 rfl rfl, pm_P_symmetry_f⟩, List.forall_mem_cons.mpr ⟨⟨pg_tb_in 684 rfl rfl, pm_P_base_f⟩, List.forall_mem_cons.mpr ⟨⟨pg_tb_in 688 rfl rfl, pm_P_change_f⟩, List.forall_mem_cons.mpr ⟨⟨pg_tb_in 692 rfl rfl, pm_P_ways_f⟩, List.forall_mem_cons.mpr ⟨⟨pg_tb_in 701 rfl rfl, pm_P_least_f⟩, List.forall_mem_cons.mpr ⟨⟨pg_tb_in 709 rfl rfl, pm_P_orbit_f⟩, List.forall_mem_cons.mpr ⟨⟨pg_tb_in 717 rfl rfl, pm_P_place_f⟩, List.forall_mem_cons.mpr ⟨⟨pg_tb_in 727 rfl rfl, pm_P_feature_f⟩, List.forall_mem_cons.mpr ⟨⟨pg_tb_in 735 rfl rfl, pm_P_kind_f⟩, List.forall_mem_cons.mpr ⟨⟨pg_tb_in 747 rfl rfl, pm_P_strip_f⟩, List.forall_mem_cons.mpr ⟨⟨pg_tb_in 761 rfl rfl, pm_P_halves_f⟩, List.forall_mem_cons.mpr ⟨⟨pg_tb_in 791 rfl rfl, pm_P_generate_f⟩, List.forall_mem_cons.mpr ⟨⟨pg_tb_in 799 rfl rfl, pm_P_spread_f⟩, List.forall_mem_cons.mpr ⟨⟨pg_tb_in 934 rfl rfl, pm_T_begin_f⟩, List.forall_mem_cons.mpr ⟨⟨pg_tb_in 946 rfl rfl, pm_T_paint_f⟩, List.forall_mem_cons.mpr ⟨⟨pg_tb_in 958 rfl rfl, pm_T_colour_f⟩, List.forall_mem_cons.mpr ⟨⟨pg_tb_in 962 rfl rfl, pm_T_paints_f⟩, List.forall_mem_cons.mpr ⟨⟨pg_tb_in 966 rfl rfl, pm_T_goes_f⟩, List.forall_mem_cons.mpr ⟨⟨pg_tb_in 982 rfl rfl, pm_T_both_f⟩, List.forall_mem_cons.mpr ⟨⟨pg_tb_in 1015 rfl rfl, pm_T_back_f⟩, List.forall_mem_cons.mpr ⟨⟨pg_tb_in 1019 rfl rfl, pm_T_is_f⟩, List.forall_mem_cons.mpr ⟨⟨pg_tb_in 1031 rfl rfl, pm_T_symmetry_f⟩, List.forall_mem_cons.mpr ⟨⟨pg_tb_in 1039 rfl rfl, pm_T_change_f⟩, List.forall_mem_cons.mpr ⟨⟨pg_tb_in 1043 rfl rfl, pm_T_ways_f⟩, List.forall_mem_cons.mpr ⟨⟨pg_tb_in 1048 rfl rfl, pm_T_base_f⟩, List.forall_mem_cons.mpr ⟨⟨pg_tb_in 1072 rfl rfl, pm_T_least_f⟩, List.forall_mem_cons.mpr ⟨⟨pg_tb_in 1080 rfl rfl, pm_T_orbit_f⟩, List.forall_mem_cons.mpr ⟨⟨pg_tb_in 1084 rfl rfl, pm_T_place_f⟩, List.forall_mem_cons.mpr ⟨⟨pg_tb_in 1105 rfl rfl, pm_T_feature_f⟩, List.forall_mem_cons.mpr ⟨⟨pg_tb_in 1134 rfl rfl, pm_T_kind_f⟩, List.forall_mem_cons.mpr ⟨⟨pg_tb_in 1163 rfl rfl, pm_T_strip_f⟩, List.forall_mem_cons.mpr ⟨⟨pg_tb_in 1175 rfl rfl, pm_T_halves_f⟩, List.forall_mem_cons.mpr ⟨⟨pg_tb_in 1179 rfl rfl, pm_T_generate_f⟩, List.forall_mem_cons.mpr ⟨⟨pg_tb_in 1183 rfl rfl, pm_T_spread_f⟩, List.forall_mem_cons.mpr ⟨⟨pg_tb_in 1187 rfl rfl, pm_T_count_f⟩, fun _ h => absurd h List.not_mem_nil⟩⟩⟩⟩⟩⟩⟩⟩⟩⟩⟩⟩⟩⟩⟩⟩⟩⟩⟩⟩⟩⟩⟩⟩⟩⟩⟩⟩⟩⟩⟩⟩⟩⟩⟩⟩⟩⟩⟩⟩⟩⟩⟩⟩
theorem pg_MTok (o : Nat) : ∀ e ∈ pg_MT o, pg_LOk o e := by
  match o with
  | 0 => exact pg_MTok0
  | 1 => exact pg_MTok1
  | 2 => exact pg_MTok2
  | 3 => exact pg_MTok3
  | 4 => exact pg_MTok4
  | 5 => exact pg_MTok5
  | 6 => exact pg_MTok6
  | 7 => exact pg_MTok7
  | 8 => exact pg_MTok8
  | 9 => exact pg_MTok9
  | 10 => exact pg_MTok10
  | 11 => exact pg_MTok11
  | (n + 12) => intro e h; exact absurd h List.not_mem_nil
/-- what is known of a field -/
def pg_FOk (o : Nat) (e : Nat × Nat × Nat) : Prop := ∃ (C : String) (T : u_T) (N : Nat) (ty : Nat → FieldType), pgCl[e.2.1]? = some (C, T, N) ∧ (∀ w ∈ u_ws C T N, w ∈ pg_tb) ∧ (∀ k, k < N → parseFieldDescriptor (T k).2.2.1 = some (ty k)) ∧ (∀ a, a < N → ∀ b, b < N → a ≠ b → (T a).2.1 ≠ (T b).2.1) ∧ e.2.2 < N ∧ Cond.fieldLink (pgR o) e.1 C (T e.2.2).2.1 (T e.2.2).2.2.1 ∈ pg_tb ∧ (T e.2.2).1 = C
set_option maxRecDepth 100000 in
theorem pg_FTok0 : ∀ e ∈ pg_FT 0, pg_FOk 0 e := List.forall_mem_cons.mpr ⟨⟨pgR2, pgT2, 4, pgY2, rfl, pgV2, pgY2_ok, pgN2, by decide, pg_tb_in 117 rfl rfl, rfl⟩, List.forall_mem_cons.mpr ⟨⟨pgR2, pgT2, 4, pgY2, rfl, pgV2, pgY2_ok, pgN2, by decide, pg_tb_in 119 rfl rfl, rfl⟩, List.forall_mem_cons.mpr ⟨⟨pgR3, pgT3, 4, pgY3, rfl, pgV3, pgY3_ok, pgN3, by decide, pg_tb_in 144 rfl rfl, rfl⟩, List.forall_mem_cons.mpr ⟨⟨pgR3, pgT3, 4, pgY3, rfl, pgV3, pgY3_ok, pgN3, by decide, pg_tb_in 150 rfl rfl, rfl⟩, List.forall_mem_cons.mpr ⟨⟨pgR4, pgT4, 10, pgY4, rfl, pgV4, pgY4_ok, pgN4, by decide, pg_tb_in 177 rfl rfl, rfl⟩, List.forall_mem_cons.mpr ⟨⟨pgR4, pgT4, 10, pgY4, rfl, pgV4, pgY4_ok, pgN4, by decide, pg_tb_in 181 rfl rfl, rfl⟩, List.forall_mem_cons.mpr ⟨⟨pgR4, pgT4, 10, pgY4, rfl, pgV4, pgY4_ok, pgN4, by decide, pg_tb_in 185 rfl rfl, rfl⟩, List.forall_mem_cons.mpr ⟨⟨pgR4, pgT4, 10, pgY4, rfl, pgV4, pgY4_ok, pgN4, by decide, pg_tb_in 188 rfl rfl, rfl⟩, List.forall_mem_cons.mpr ⟨⟨pgR4, pgT4, 10, pgY4, rfl, pgV4, pgY4_ok, pgN4, by decide, pg_tb_in 190 rfl rfl, rfl⟩, List.forall_mem_cons.mpr ⟨⟨pgR4, pgT4, 10, pgY4, rfl, pgV4, pgY4_ok, pgN4, by decide, pg_tb_in 192 rfl rfl, rfl⟩, List.forall_mem_cons.mpr ⟨⟨pgR5, pgT5, 5, pgY5, rfl, pgV5, pgY5_ok, pgN5, by decide, pg_tb_in 225 rfl rfl, rfl⟩, List.forall_mem_cons.mpr ⟨⟨pgR6, pgT6, 12, pgY6, rfl, pgV6, pgY6_ok, pgN6, by decide, pg_tb_in 247 rfl rfl, rfl⟩, List.forall_mem_cons.mpr ⟨⟨pgR6, pgT6, 12, pgY6, rfl, pgV6, pgY6_ok, pgN6, by decide, pg_tb_in 249 rfl rfl, rfl⟩, List.forall_mem_cons.mpr ⟨⟨pgR6, pgT6, 12, pgY6, rfl, pgV6, pgY6_ok, pgN6, by decide, pg_tb_in 253 rfl rfl, rfl⟩, List.forall_mem_cons.mpr ⟨⟨pgR6, pgT6, 12, pgY6, rfl, pgV6, pgY6_ok, pgN6, by decide, pg_tb_in 255 rfl rfl, rfl⟩, List.forall_mem_cons.mpr ⟨⟨pgR6, pgT6, 12, pgY6, rfl, pgV6, pgY6_ok, pgN6, by decide, pg_tb_in 257 rfl rfl, rfl⟩, List.forall_mem_cons.mpr ⟨⟨pgR6, pgT6, 12, pgY6, rfl, pgV6, pgY6_ok, pgN6, by decide, pg_tb_in 260 rfl rfl, rfl⟩, List.forall_mem_cons.mpr ⟨⟨pgR7, pgT7, 7, pgY7, rfl, pgV7, pgY7_ok, pgN7, by decide, pg_tb_in 299 rfl rfl, rfl⟩, List.forall_mem_cons.mpr ⟨⟨pgR8, pgT8, 5, pgY8, rfl, pgV8, pgY8_ok, pgN8, by decide, pg_tb_in 326 rfl rfl, rfl⟩, List.forall_mem_cons.mpr ⟨⟨pgR0, pgT0, 7, pgY0, rfl, pgV0, pgY0_ok, pgN0, by decide, pg_tb_in 354 rfl rfl, rfl⟩, List.forall_mem_cons.mpr ⟨⟨pgR0, pgT0, 7, pgY0, rfl, pgV0, pgY0_ok, pgN0, by decide, pg_tb_in 355 rfl rfl, rfl⟩, List.forall_mem_cons.mpr ⟨⟨pgR0, pgT0, 7, pgY0, rfl, pgV0, pgY0_ok, pgN0, by decide, pg_tb_in 356 rfl rfl, rfl⟩, List.forall_mem_cons.mpr ⟨⟨pgR0, pgT0, 7, pgY0, rfl, pgV0, pgY0_ok, pgN0, by decide, pg_tb_in 357 rfl rfl, rfl⟩, List.forall_mem_cons.mpr ⟨⟨pgR0, pgT0, 7, pgY0, rfl, pgV0, pgY0_ok, pgN0, by decide, pg_tb_in 358 rfl rfl, rfl⟩, List.forall_mem_cons.mpr ⟨⟨pgR0, pgT0, 7, pgY0, rfl, pgV0, pgY0_ok, pgN0, by decide, pg_tb_in 359 rfl rfl, rfl⟩, List.forall_mem_cons.mpr ⟨⟨pgR0, pgT0, 7, pgY0, rfl, pgV0, pgY0_ok, pgN0, by decide, pg_tb_in 360 rfl rfl, rfl⟩, fun _ h => absurd h List.not_mem_nil⟩⟩⟩⟩⟩⟩⟩⟩⟩⟩⟩⟩⟩⟩⟩⟩⟩⟩⟩⟩⟩⟩⟩⟩⟩⟩
set_option maxRecDepth 100000 in
theorem pg_FTok1 : ∀ e ∈ pg_FT 1, pg_FOk 1 e := List.forall_mem_cons.mpr ⟨⟨pgR1, pgT1, 3, pgY1, rfl, pgV1, pgY1_ok, pgN1, by decide, pg_tb_in 94 rfl rfl, rfl⟩, List.forall_mem_cons.mpr ⟨⟨pgR1, pgT1, 3, pgY1, rfl, pgV1, pgY1_ok, pgN1, by decide, pg_tb_in 95 rfl rfl, rfl⟩, List.forall_mem_cons.mpr ⟨⟨pgR1, pgT1, 3, pgY1, rfl, pgV1, pgY1_ok, pgN1, by decide, pg_tb_in 96 rfl rfl, rfl⟩, fun _ h => absurd h List.not_mem_nil⟩⟩⟩
set_option maxRecDepth 100000 in
theorem pg_FTok2 : ∀ e ∈ pg_FT 2, pg_FOk 2 e := List.forall_mem_cons.mpr ⟨⟨pgR2, pgT2, 4, pgY2, rfl, pgV2, pgY2_ok, pgN2, by decide, pg_tb_in 115 rfl rfl, rfl⟩, List.forall_mem_cons.mpr ⟨⟨pgR2, pgT2, 4, pgY2, rfl, pgV2, pgY2_ok, pgN2, by decide, pg_tb_in 116 rfl rfl, rfl⟩, List.forall_mem_cons.mpr ⟨⟨pgR2, pgT2, 4, pgY2, rfl, pgV2, pgY2_ok, pgN2, by decide, pg_tb_in 118 rfl rfl, rfl⟩, List.forall_mem_cons.mpr ⟨⟨pgR2, pgT2, 4, pgY2, rfl, pgV2, pgY2_ok, pgN2, by decide, pg_tb_in 124 rfl rfl, rfl⟩, fun _ h => absurd h List.not_mem_nil⟩⟩⟩⟩
set_option maxRecDepth 100000 in
theorem pg_FTok3 : ∀ e ∈ pg_FT 3, pg_FOk 3 e := List.forall_mem_cons.mpr ⟨⟨pgR2, pgT2, 4, pgY2, rfl, pgV2, pgY2_ok, pgN2, by decide, pg_tb_in 122 rfl rfl, rfl⟩, List.forall_mem_cons.mpr ⟨⟨pgR3, pgT3, 4, pgY3, rfl, pgV3, pgY3_ok, pgN3, by decide, pg_tb_in 142 rfl rfl, rfl⟩, List.forall_mem_cons.mpr ⟨⟨pgR3, pgT3, 4, pgY3, rfl, pgV3, pgY3_ok, pgN3, by decide, pg_tb_in 143 rfl rfl, rfl⟩, List.forall_mem_cons.mpr ⟨⟨pgR3, pgT3, 4, pgY3, rfl, pgV3, pgY3_ok, pgN3, by decide, pg_tb_in 147 rfl rfl, rfl⟩, List.forall_mem_cons.mpr ⟨⟨pgR3, pgT3, 4, pgY3, rfl, pgV3, pgY3_ok, pgN3, by decide, pg_tb_in 149 rfl rfl, rfl⟩, fun _ h => absurd h List.not_mem_nil⟩⟩⟩⟩⟩
set_option maxRecDepth 100000 in
theorem pg_FTok4 : ∀ e ∈ pg_FT 4, pg_FOk 4 e := List.forall_mem_cons.mpr ⟨⟨pgR2, pgT2, 4, pgY2, rfl, pgV2, pgY2_ok, pgN2, by decide, pg_tb_in 120 rfl rfl, rfl⟩, List.forall_mem_cons.mpr ⟨⟨pgR2, pgT2, 4, pgY2, rfl, pgV2, pgY2_ok, pgN2, by decide, pg_tb_in 126 rfl rfl, rfl⟩, List.forall_mem_cons.mpr ⟨⟨pgR3, pgT3, 4, pgY3, rfl, pgV3, pgY3_ok, pgN3, by decide, pg_tb_in 146 rfl rfl, rfl⟩, List.forall_mem_cons.mpr ⟨⟨pgR3, pgT3, 4, pgY3, rfl, pgV3, pgY3_ok, pgN3, by decide, pg_tb_in 148 rfl rfl, rfl⟩, List.forall_mem_cons.mpr ⟨⟨pgR4, pgT4, 10, pgY4, rfl, pgV4, pgY4_ok, pgN4, by decide, pg_tb_in 166 rfl rfl, rfl⟩, List.forall_mem_cons.mpr ⟨⟨pgR4, pgT4, 10, pgY4, rfl, pgV4, pgY4_ok, pgN4, by decide, pg_tb_in 167 rfl rfl, rfl⟩, List.forall_mem_cons.mpr ⟨⟨pgR4, pgT4, 10, pgY4, rfl, pgV4, pgY4_ok, pgN4, by decide, pg_tb_in 168 rfl rfl, rfl⟩, List.forall_mem_cons.mpr ⟨⟨pgR4, pgT4, 10, pgY4, rfl, pgV4, pgY4_ok, pgN4, by decide, pg_tb_in 171 rfl rfl, rfl⟩, List.forall_mem_cons.mpr ⟨⟨pgR4, pgT4, 10, pgY4, rfl, pgV4, pgY4_ok, pgN4, by decide, pg_tb_in 174 rfl rfl, rfl⟩, List.forall_mem_cons.mpr ⟨⟨pgR4, pgT4, 10, pgY4, rfl, pgV4, pgY4_ok, pgN4, by decide, pg_tb_in 178 rfl rfl, rfl⟩, List.forall_mem_cons.mpr ⟨⟨pgR4, pgT4, 10, pgY4, rfl, pgV4, pgY4_ok, pgN4, by decide, pg_tb_in 182 rfl rfl, rfl⟩, List.forall_mem_cons.mpr ⟨⟨pgR4, pgT4, 10, pgY4, rfl, pgV4, pgY4_ok, pgN4, by decide, pg_tb_in 186 rfl rfl, rfl⟩, List.forall_mem_cons.mpr ⟨⟨pgR4, pgT4, 10, pgY4, rfl, pgV4, pgY4_ok, pgN4, by decide, pg_tb_in 189 rfl rfl, rfl⟩, List.forall_mem_cons.mpr ⟨⟨pgR4, pgT4, 10, pgY4, rfl, pgV4, pgY4_ok, pgN4, by decide, pg_tb_in 191 rfl rfl, rfl⟩, fun _ h => absurd h List.not_mem_nil⟩⟩⟩⟩⟩⟩⟩⟩⟩⟩⟩⟩⟩⟩
set_option maxRecDepth 100000 in
theorem pg_FTok5 : ∀ e ∈ pg_FT 5, pg_FOk 5 e := List.forall_mem_cons.mpr ⟨⟨pgR2, pgT2, 4, pgY2, rfl, pgV2, pgY2_ok, pgN2, by decide, pg_tb_in 123 rfl rfl, rfl⟩, List.forall_mem_cons.mpr ⟨⟨pgR4, pgT4, 10, pgY4, rfl, pgV4, pgY4_ok, pgN4, by decide, pg_tb_in 170 rfl rfl, rfl⟩, List.forall_mem_cons.mpr ⟨⟨pgR4, pgT4, 10, pgY4, rfl, pgV4, pgY4_ok, pgN4, by decide, pg_tb_in 173 rfl rfl, rfl⟩, List.forall_mem_cons.mpr ⟨⟨pgR4, pgT4, 10, pgY4, rfl, pgV4, pgY4_ok, pgN4, by decide, pg_tb_in 176 rfl rfl, rfl⟩, List.forall_mem_cons.mpr ⟨⟨pgR4, pgT4, 10, pgY4, rfl, pgV4, pgY4_ok, pgN4, by decide, pg_tb_in 180 rfl rfl, rfl⟩, List.forall_mem_cons.mpr ⟨⟨pgR4, pgT4, 10, pgY4, rfl, pgV4, pgY4_ok, pgN4, by decide, pg_tb_in 184 rfl rfl, rfl⟩, List.forall_mem_cons.mpr ⟨⟨pgR5, pgT5, 5, pgY5, rfl, pgV5, pgY5_ok, pgN5, by decide, pg_tb_in 220 rfl rfl, rfl⟩, List.forall_mem_cons.mpr ⟨⟨pgR5, pgT5, 5, pgY5, rfl, pgV5, pgY5_ok, pgN5, by decide, pg_tb_in 221 rfl rfl, rfl⟩, List.forall_mem_cons.mpr ⟨⟨pgR5, pgT5, 5, pgY5, rfl, pgV5, pgY5_ok, pgN5, by decide, pg_tb_in 222 rfl rfl, rfl⟩, List.forall_mem_cons.mpr ⟨⟨pgR5, pgT5, 5, pgY5, rfl, pgV5, pgY5_ok, pgN5, by decide, pg_tb_in 223 rfl rfl, rfl⟩, List.forall_mem_cons.mpr ⟨⟨pgR5, pgT5, 5, pgY5, rfl, pgV5, pgY5_ok, pgN5, by decide, pg_tb_in 224 rfl rfl, rfl⟩, fun _ h => absurd h List.not_mem_nil⟩⟩⟩⟩⟩⟩⟩⟩⟩⟩⟩
set_option maxRecDepth 100000 in
theorem pg_FTok6 : ∀ e ∈ pg_FT 6, pg_FOk 6 e := List.forall_mem_cons.mpr ⟨⟨pgR1, pgT1, 3, pgY1, rfl, pgV1, pgY1_ok, pgN1, by decide, pg_tb_in 98 rfl rfl, rfl⟩, List.forall_mem_cons.mpr ⟨⟨pgR2, pgT2, 4, pgY2, rfl, pgV2, pgY2_ok, pgN2, by decide, pg_tb_in 125 rfl rfl, rfl⟩, List.forall_mem_cons.mpr ⟨⟨pgR4, pgT4, 10, pgY4, rfl, pgV4, pgY4_ok, pgN4, by decide, pg_tb_in 169 rfl rfl, rfl⟩, List.forall_mem_cons.mpr ⟨⟨pgR4, pgT4, 10, pgY4, rfl, pgV4, pgY4_ok, pgN4, by decide, pg_tb_in 172 rfl rfl, rfl⟩, List.forall_mem_cons.mpr ⟨⟨pgR4, pgT4, 10, pgY4, rfl, pgV4, pgY4_ok, pgN4, by decide, pg_tb_in 175 rfl rfl, rfl⟩, List.forall_mem_cons.mpr ⟨⟨pgR4, pgT4, 10, pgY4, rfl, pgV4, pgY4_ok, pgN4, by decide, pg_tb_in 179 rfl rfl, rfl⟩, List.forall_mem_cons.mpr ⟨⟨pgR4, pgT4, 10, pgY4, rfl, pgV4, pgY4_ok, pgN4, by decide, pg_tb_in 183 rfl rfl, rfl⟩, List.forall_mem_cons.mpr ⟨⟨pgR4, pgT4, 10, pgY4, rfl, pgV4, pgY4_ok, pgN4, by decide, pg_tb_in 187 rfl rfl, rfl⟩, List.forall_mem_cons.mpr ⟨⟨pgR6, pgT6, 12, pgY6, rfl, pgV6, pgY6_ok, pgN6, by decide, pg_tb_in 243 rfl rfl, rfl⟩, List.forall_mem_cons.mpr ⟨⟨pgR6, pgT6, 12, pgY6, rfl, pgV6, pgY6_ok, pgN6, by decide, pg_tb_in 244 rfl rfl, rfl⟩, List.forall_mem_cons.mpr ⟨⟨pgR6, pgT6, 12, pgY6, rfl, pgV6, pgY6_ok, pgN6, by decide, pg_tb_in 245 rfl rfl, rfl⟩, List.forall_mem_cons.mpr ⟨⟨pgR6, pgT6, 12, pgY6, rfl, pgV6, pgY6_ok, pgN6, by decide, pg_tb_in 246 rfl rfl, rfl⟩, List.forall_mem_cons.mpr ⟨⟨pgR6, pgT6, 12, pgY6, rfl, pgV6, pgY6_ok, pgN6, by decide, pg_tb_in 248 rfl rfl, rfl⟩, List.forall_mem_cons.mpr ⟨⟨pgR6, pgT6, 12, pgY6, rfl, pgV6, pgY6_ok, pgN6, by decide, pg_tb_in 250 rfl rfl, rfl⟩, List.forall_mem_cons.mpr ⟨⟨pgR6, pgT6, 12, pgY6, rfl, pgV6, pgY6_ok, pgN6, by decide, pg_tb_in 251 rfl rfl, rfl⟩, List.forall_mem_cons.mpr ⟨⟨pgR6, pgT6, 12, pgY6, rfl, pgV6, pgY6_ok, pgN6, by decide, pg_tb_in 252 rfl rfl, rfl⟩, List.forall_mem_cons.mpr ⟨⟨pgR6, pgT6, 12, pgY6, rfl, pgV6, pgY6_ok, pgN6, by decide, pg_tb_in 254 rfl rfl, rfl⟩, List.forall_mem_cons.mpr ⟨⟨pgR6, pgT6, 12, pgY6, rfl, pgV6, pgY6_ok, pgN6, by decide, pg_tb_in 256 rfl rfl, rfl⟩, List.forall_mem_cons.mpr ⟨⟨pgR6, pgT6, 12, pgY6, rfl, pgV6, pgY6_ok, pgN6, by decide, pg_tb_in 258 rfl rfl, rfl⟩, List.forall_mem_cons.mpr ⟨⟨pgR6, pgT6, 12, pgY6, rfl, pgV6, pgY6_ok, pgN6, by decide, pg_tb_in 259 rfl rfl, rfl⟩, fun _ h => absurd h List.not_mem_nil⟩⟩⟩⟩⟩⟩⟩⟩⟩⟩⟩⟩⟩⟩⟩⟩⟩⟩⟩⟩
set_option maxRecDepth 100000 in
theorem pg_FTok7 : ∀ e ∈ pg_FT 7, pg_FOk 7 e := List.forall_mem_cons.mpr ⟨⟨pgR1, pgT1, 3, pgY1, rfl, pgV1, pgY1_ok, pgN1, by decide, pg_tb_in 97 rfl rfl, rfl⟩, List.forall_mem_cons.mpr ⟨⟨pgR2, pgT2, 4, pgY2, rfl, pgV2, pgY2_ok, pgN2, by decide, pg_tb_in 121 rfl rfl, rfl⟩, List.forall_mem_cons.mpr ⟨⟨pgR7, pgT7, 7, pgY7, rfl, pgV7, pgY7_ok, pgN7, by decide, pg_tb_in 292 rfl rfl, rfl⟩, List.forall_mem_cons.mpr ⟨⟨pgR7, pgT7, 7, pgY7, rfl, pgV7, pgY7_ok, pgN7, by decide, pg_tb_in 293 rfl rfl, rfl⟩, List.forall_mem_cons.mpr ⟨⟨pgR7, pgT7, 7, pgY7, rfl, pgV7, pgY7_ok, pgN7, by decide, pg_tb_in 294 rfl rfl, rfl⟩, List.forall_mem_cons.mpr ⟨⟨pgR7, pgT7, 7, pgY7, rfl, pgV7, pgY7_ok, pgN7, by decide, pg_tb_in 295 rfl rfl, rfl⟩, List.forall_mem_cons.mpr ⟨⟨pgR7, pgT7, 7, pgY7, rfl, pgV7, pgY7_ok, pgN7, by decide, pg_tb_in 296 rfl rfl, rfl⟩, List.forall_mem_cons.mpr ⟨⟨pgR7, pgT7, 7, pgY7, rfl, pgV7, pgY7_ok, pgN7, by decide, pg_tb_in 297 rfl rfl, rfl⟩, List.forall_mem_cons.mpr ⟨⟨pgR7, pgT7, 7, pgY7, rfl, pgV7, pgY7_ok, pgN7, by decide, pg_tb_in 298 rfl rfl, rfl⟩, fun _ h => absurd h List.not_mem_nil⟩⟩⟩⟩⟩⟩⟩⟩⟩
set_option maxRecDepth 100000 in
theorem pg_FTok8 : ∀ e ∈ pg_FT 8, pg_FOk 8 e := List.forall_mem_cons.mpr ⟨⟨pgR1, pgT1, 3, pgY1, rfl, pgV1, pgY1_ok, pgN1, by decide, pg_tb_in 99 rfl rfl, rfl⟩, List.forall_mem_cons.mpr ⟨⟨pgR3, pgT3, 4, pgY3, rfl, pgV3, pgY3_ok, pgN3, by decide, pg_tb_in 145 rfl rfl, rfl⟩, List.forall_mem_cons.mpr ⟨⟨pgR8, pgT8, 5, pgY8, rfl, pgV8, pgY8_ok, pgN8, by decide, pg_tb_in 321 rfl rfl, rfl⟩, List.forall_mem_cons.mpr ⟨⟨pgR8, pgT8, 5, pgY8, rfl, pgV8, pgY8_ok, pgN8, by decide, pg_tb_in 322 rfl rfl, rfl⟩, List.forall_mem_cons.mpr ⟨⟨pgR8, pgT8, 5, pgY8, rfl, pgV8, pgY8_ok, pgN8, by decide, pg_tb_in 323 rfl rfl, rfl⟩, List.forall_mem_cons.mpr ⟨⟨pgR8, pgT8, 5, pgY8, rfl, pgV8, pgY8_ok, pgN8, by decide, pg_tb_in 324 rfl rfl, rfl⟩, List.forall_mem_cons.mpr ⟨⟨pgR8, pgT8, 5, pgY8, rfl, pgV8, pgY8_ok, pgN8, by decide, pg_tb_in 325 rfl rfl, rfl⟩, fun _ h => absurd h List.not_mem_nil⟩⟩⟩⟩⟩⟩⟩
set_option maxRecDepth 100000 in
theorem pg_FTok9 : ∀ e ∈ pg_FT 9, pg_FOk 9 e := List.forall_mem_cons.mpr ⟨⟨pgR9, pgT9, 30, pgY9, rfl, pgV9, pgY9_ok, pgN9, by decide, pg_tb_in 842 rfl rfl, rfl⟩, List.forall_mem_cons.mpr ⟨⟨pgR9, pgT9, 30, pgY9, rfl, pgV9, pgY9_ok, pgN9, by decide, pg_tb_in 843 rfl rfl, rfl⟩, List.forall_mem_cons.mpr ⟨⟨pgR9, pgT9, 30, pgY9, rfl, pgV9, pgY9_ok, pgN9, by decide, pg_tb_in 844 rfl rfl, rfl⟩, List.forall_mem_cons.mpr ⟨⟨pgR9, pgT9, 30, pgY9, rfl, pgV9, pgY9_ok, pgN9, by decide, pg_tb_in 845 rfl rfl, rfl⟩, List.forall_mem_cons.mpr ⟨⟨pgR9, pgT9, 30, pgY9, rfl, pgV9, pgY9_ok, pgN9, by decide, pg_tb_in 846 rfl rfl, rfl⟩, List.forall_mem_cons.mpr ⟨⟨pgR9, pgT9, 30, pgY9, rfl, pgV9, pgY9_ok, pgN9, by decide, pg_tb_in 847 rfl rfl, rfl⟩, List.forall_mem_cons.mpr ⟨⟨pgR9, pgT9, 30, pgY9, rfl, pgV9, pgY9_ok, pgN9, by decide, pg_tb_in 848 rfl rfl, rfl⟩, List.forall_mem_cons.mpr ⟨⟨pgR9, pgT9, 30, pgY9, rfl, pgV9, pgY9_ok, pgN9, by decide, pg_tb_in 849 rfl rfl, rfl⟩, List.forall_mem_cons.mpr ⟨⟨pgR9, pgT9, 30, pgY9, rfl, pgV9, pgY9_ok, pgN9, by decide, pg_tb_in 850 rfl rfl, rfl⟩, List.forall_mem_cons.mpr ⟨⟨pgR9, pgT9, 30, pgY9, rfl, pgV9, pgY9_ok, pgN9, by decide, pg_tb_in 851 rfl rfl, rfl⟩, List.forall_mem_cons.mpr ⟨⟨pgR9, pgT9, 30, pgY9, rfl, pgV9, pgY9_ok, pgN9, by decide, pg_tb_in 852 rfl rfl, rfl⟩, List.forall_mem_cons.mpr ⟨⟨pgR9, pgT9, 30, pgY9, rfl, pgV9, pgY9_ok, pgN9, by decide, pg_tb_in 853 rfl rfl, rfl⟩, List.forall_mem_cons.mpr ⟨⟨pgR9, pgT9, 30, pgY9, rfl, pgV9, pgY9_ok, pgN9, by decide, pg_tb_in 854 rfl rfl, rfl⟩, List.forall_mem_cons.mpr ⟨⟨pgR9, pgT9, 30, pgY9, rfl, pgV9, pgY9_ok, pgN9, by decide, pg_tb_in 855 rfl rfl, rfl⟩, List.forall_mem_cons.mpr ⟨⟨pgR9, pgT9, 30, pgY9, rfl, pgV9, pgY9_ok, pgN9, by decide, pg_tb_in 856 rfl rfl, rfl⟩, List.forall_mem_cons.mpr ⟨⟨pgR9, pgT9, 30, pgY9, rfl, pgV9, pgY9_ok, pgN9, by decide, pg_tb_in 857 rfl rfl, rfl⟩, List.forall_mem_cons.mpr ⟨⟨pgR9, pgT9, 30, pgY9, rfl, pgV9, pgY9_ok, pgN9, by decide, pg_tb_in 858 rfl rfl, rfl⟩, List.forall_mem_cons.mpr ⟨⟨pgR9, pgT9, 30, pgY9, rfl, pgV9, pgY9_ok, pgN9, by decide, pg_tb_in 859 rfl rfl, rfl⟩, List.forall_mem_cons.mpr ⟨⟨pgR9, pgT9, 30, pgY9, rfl, pgV9, pgY9_ok, pgN9, by decide, pg_tb_in 860 rfl rfl, rfl⟩, List.forall_mem_cons.mpr ⟨⟨pgR9, pgT9, 30, pgY9, rfl, pgV9, pgY9_ok, pgN9, by decide, pg_tb_in 861 rfl rfl, rfl⟩, List.forall_mem_cons.mpr ⟨⟨pgR9, pgT9, 30, pgY9, rfl, pgV9, pgY9_ok, pgN9, by decide, pg_tb_in 862 rfl rfl, rfl⟩, List.forall_mem_cons.mpr ⟨⟨pgR9, pgT9, 30, pgY9, rfl, pgV9, pgY9_ok, pgN9, by decide, pg_tb_in 863 rfl rfl, rfl⟩, List.forall_mem_cons.mpr ⟨⟨pgR9, pgT9, 30, pgY9, rfl, pgV9, pgY9_ok, pgN9, by decide, pg_tb_in 864 rfl rfl, rfl⟩, List.forall_mem_cons.mpr ⟨⟨pgR9, pgT9, 30, pgY9, rfl, pgV9, pgY9_ok, pgN9, by decide, pg_tb_in 865 rfl rfl, rfl⟩, List.forall_mem_cons.mpr ⟨⟨pgR9, pgT9, 30, pgY9, rfl, pgV9, pgY9_ok, pgN9, by decide, pg_tb_in 866 rfl rfl, rfl⟩, List.forall_mem_cons.mpr ⟨⟨pgR9, pgT9, 30, pgY9, rfl, pgV9, pgY9_ok, pgN9, by decide, pg_tb_in 867 rfl rfl, rfl⟩, List.forall_mem_cons.mpr ⟨⟨pgR9, pgT9, 30, pgY9, rfl, pgV9, pgY9_ok, pgN9, by decide, pg_tb_in 868 rfl rfl, rfl⟩, List.forall_mem_cons.mpr ⟨⟨pgR9, pgT9, 30, pgY9, rfl, pgV9, pgY9_ok, pgN9, by decide, pg_tb_in 869 rfl rfl, rfl⟩, List.forall_mem_cons.mpr ⟨⟨pgR9, pgT9, 30, pgY9, rfl, pgV9, pgY9_ok, pgN9, by decide, pg_tb_in 870 rfl rfl, rfl⟩, List.forall_mem_cons.mpr ⟨⟨pgR9, pgT9, 30, pgY9, rfl, pgV9, pgY9_ok, pgN9, by decide, pg_tb_in 871 rfl rfl, rfl⟩, fun _ h => absurd h List.not_mem_nil⟩⟩⟩⟩⟩⟩⟩⟩⟩⟩⟩⟩⟩⟩⟩⟩⟩⟩⟩⟩⟩⟩⟩⟩⟩⟩⟩⟩⟩⟩
set_option maxRecDepth 100000 in
theorem pg_FTok10 : ∀ e ∈ pg_FT 10, pg_FOk 10 e := fun _ h => absurd h List.not_mem_nil
set_option maxRecDepth 100000 in
theorem pg_FTok11 : ∀ e ∈ pg_FT 11, pg_FOk 11 e := fun _ h => absurd h List.not_mem_nil
theorem pg_FTok (o : Nat) : ∀ e ∈ pg_FT o, pg_FOk o e := by
  match o with
  | 0 => exact pg_FTok0
  | 1 => exact pg_FTok1
  | 2 => exact pg_FTok2
  | 3 => exact pg_FTok3
  | 4 => exact pg_FTok4
  | 5 => exact pg_FTok5
  | 6 => exact pg_FTok6
  | 7 => exact pg_FTok7
  | 8 => exact pg_FTok8
  | 9 => exact pg_FTok9
  | 10 => exact pg_FTok10
  | 11 => exact pg_FTok11
  | (n + 12) => intro e h; exact absurd h List.not_mem_nil
set_option maxRecDepth 100000 in
theorem pg_CTok0 : ∀ e ∈ pg_CT 0, Cond.constantLong (pgR 0) e.1 (pg_J e.2) ∈ pg_tb := fun _ h => absurd h List.not_mem_nil
set_option maxRecDepth 100000 in
theorem pg_CTok1 : ∀ e ∈ pg_CT 1, Cond.constantLong (pgR 1) e.1 (pg_J e.2) ∈ pg_tb := fun _ h => absurd h List.not_mem_nil
set_option maxRecDepth 100000 in
theorem pg_CTok2 : ∀ e ∈ pg_CT 2, Cond.constantLong (pgR 2) e.1 (pg_J e.2) ∈ pg_tb := fun _ h => absurd h List.not_mem_nil
set_option maxRecDepth 100000 in
theorem pg_CTok3 : ∀ e ∈ pg_CT 3, Cond.constantLong (pgR 3) e.1 (pg_J e.2) ∈ pg_tb := fun _ h => absurd h List.not_mem_nil
set_option maxRecDepth 100000 in
theorem pg_CTok4 : ∀ e ∈ pg_CT 4, Cond.constantLong (pgR 4) e.1 (pg_J e.2) ∈ pg_tb := fun _ h => absurd h List.not_mem_nil
set_option maxRecDepth 100000 in
theorem pg_CTok5 : ∀ e ∈ pg_CT 5, Cond.constantLong (pgR 5) e.1 (pg_J e.2) ∈ pg_tb := fun _ h => absurd h List.not_mem_nil
set_option maxRecDepth 100000 in
theorem pg_CTok6 : ∀ e ∈ pg_CT 6, Cond.constantLong (pgR 6) e.1 (pg_J e.2) ∈ pg_tb := fun _ h => absurd h List.not_mem_nil
set_option maxRecDepth 100000 in
theorem pg_CTok7 : ∀ e ∈ pg_CT 7, Cond.constantLong (pgR 7) e.1 (pg_J e.2) ∈ pg_tb := fun _ h => absurd h List.not_mem_nil
set_option maxRecDepth 100000 in
theorem pg_CTok8 : ∀ e ∈ pg_CT 8, Cond.constantLong (pgR 8) e.1 (pg_J e.2) ∈ pg_tb := fun _ h => absurd h List.not_mem_nil
set_option maxRecDepth 100000 in
theorem pg_CTok9 : ∀ e ∈ pg_CT 9, Cond.constantLong (pgR 9) e.1 (pg_J e.2) ∈ pg_tb := List.forall_mem_cons.mpr ⟨pg_tb_in 941 rfl rfl, List.forall_mem_cons.mpr ⟨pg_tb_in 950 rfl rfl, List.forall_mem_cons.mpr ⟨pg_tb_in 986 rfl rfl, List.forall_mem_cons.mpr ⟨pg_tb_in 1047 rfl rfl, List.forall_mem_cons.mpr ⟨pg_tb_in 1104 rfl rfl, List.forall_mem_cons.mpr ⟨pg_tb_in 1109 rfl rfl, List.forall_mem_cons.mpr ⟨pg_tb_in 1162 rfl rfl, List.forall_mem_cons.mpr ⟨pg_tb_in 1191 rfl rfl, fun _ h => absurd h List.not_mem_nil⟩⟩⟩⟩⟩⟩⟩⟩
set_option maxRecDepth 100000 in
theorem pg_CTok10 : ∀ e ∈ pg_CT 10, Cond.constantLong (pgR 10) e.1 (pg_J e.2) ∈ pg_tb := fun _ h => absurd h List.not_mem_nil
set_option maxRecDepth 100000 in
theorem pg_CTok11 : ∀ e ∈ pg_CT 11, Cond.constantLong (pgR 11) e.1 (pg_J e.2) ∈ pg_tb := fun _ h => absurd h List.not_mem_nil
theorem pg_CTok (o : Nat) : ∀ e ∈ pg_CT o, Cond.constantLong (pgR o) e.1 (pg_J e.2) ∈ pg_tb := by
  match o with
  | 0 => exact pg_CTok0
  | 1 => exact pg_CTok1
  | 2 => exact pg_CTok2
  | 3 => exact pg_CTok3
  | 4 => exact pg_CTok4
  | 5 => exact pg_CTok5
  | 6 => exact pg_CTok6
  | 7 => exact pg_CTok7
  | 8 => exact pg_CTok8
  | 9 => exact pg_CTok9
  | 10 => exact pg_CTok10
  | 11 => exact pg_CTok11
  | (n + 12) => intro e h; exact absurd h List.not_mem_nil
