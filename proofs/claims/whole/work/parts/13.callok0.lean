/-! by program: the calls' words and room -/
theorem kX0_init_9 : cnOk mX0_init 11 0 mX8_init "SpeltRoutes" = true := by decide +kernel
theorem kX0_statesOf_6 : cvOk mX0_statesOf 18 3 mX0_shortestBeyond = true := by decide +kernel
theorem kX0_shortestBeyond_5 : cvOk mX0_shortestBeyond 26 1 mX8_reset = true := by decide +kernel
theorem kX0_shortestBeyond_14 : csOk mX0_shortestBeyond 30 2 mX0_pairOf = true := by decide +kernel
theorem kX0_shortestBeyond_17 : cvOk mX0_shortestBeyond 34 1 mX8_numberOf = true := by decide +kernel
theorem kX0_shortestBeyond_51 : cvOk mX0_shortestBeyond 38 4 mX0_tellsApart = true := by decide +kernel
theorem kX0_shortestBeyond_67 : cvOk mX0_shortestBeyond 42 4 mX0_widens = true := by decide +kernel
theorem kX0_tellsApart_29 : cvOk mX0_tellsApart 49 1 mX2_finishes = true := by decide +kernel
theorem kX0_tellsApart_39 : cvOk mX0_tellsApart 49 1 mX2_finishes = true := by decide +kernel
theorem kX0_widens_29 : cvOk mX0_widens 55 1 mX2_behind = true := by decide +kernel
theorem kX0_widens_38 : cvOk mX0_widens 55 1 mX2_behind = true := by decide +kernel
theorem kX0_widens_73 : csOk mX0_widens 30 2 mX0_pairOf = true := by decide +kernel
theorem kX0_widens_84 : cvOk mX0_widens 34 1 mX8_numberOf = true := by decide +kernel
theorem kX1_spell_40 : cvOk mX1_spell 28 4 mX7_put = true := by decide +kernel
theorem kX1_spell_86 : cvOk mX1_spell 28 4 mX7_put = true := by decide +kernel
theorem kX2_wipe_5 : csOk mX2_wipe 29 2 mJ7_fill_53178 = true := by decide +kernel
theorem kX2_wipe_13 : csOk mX2_wipe 29 2 mJ7_fill_53178 = true := by decide +kernel
theorem kX2_after_2 : cvOk mX2_after 41 1 mX2_behind = true := by decide +kernel
theorem kX3_endsFrom_5 : csOk mX3_endsFrom 21 2 mJ7_fill_53178 = true := by decide +kernel
theorem kX3_endsFrom_13 : csOk mX3_endsFrom 21 2 mJ7_fill_53178 = true := by decide +kernel
theorem kX3_endsFrom_52 : cvOk mX3_endsFrom 27 2 mX3_spreads = true := by decide +kernel
theorem kX3_endsFrom_84 : cvOk mX3_endsFrom 31 1 mX2_finishes = true := by decide +kernel
theorem kX3_spreads_33 : cvOk mX3_spreads 37 1 mX2_behind = true := by decide +kernel
theorem kX4_init_9 : cnOk mX4_init 11 0 mX2_init "SpeltRoutes" = true := by decide +kernel
theorem kX4_faultOf_4 : cvOk mX4_faultOf 31 0 mX2_wipe = true := by decide +kernel
theorem kX4_faultOf_18 : cvOk mX4_faultOf 41 0 mX4_beginChoice = true := by decide +kernel
theorem kX4_faultOf_38 : cvOk mX4_faultOf 44 1 mX4_takes = true := by decide +kernel
theorem kX4_faultOf_70 : cvOk mX4_faultOf 48 0 mX4_closeRow = true := by decide +kernel
theorem kX4_takes_71 : cvOk mX4_takes 57 0 mX4_opens = true := by decide +kernel
theorem kX4_takes_76 : cvOk mX4_takes 61 0 mX4_closes = true := by decide +kernel
theorem kX4_takes_81 : cvOk mX4_takes 64 0 mX4_turns = true := by decide +kernel
theorem kX4_takes_87 : cvOk mX4_takes 67 1 mX4_repeats = true := by decide +kernel
theorem kX4_takes_93 : csOk mX4_takes 70 1 mX4_signsOf = true := by decide +kernel
theorem kX4_takes_96 : cvOk mX4_takes 74 1 mX4_takesPlace = true := by decide +kernel
theorem kX4_takesPlace_19 : cvOk mX4_takesPlace 80 0 mX4_closePart = true := by decide +kernel
theorem kX4_takesPlace_27 : cvOk mX4_takesPlace 83 1 mX2_newPlace = true := by decide +kernel
theorem kX4_takesPlace_34 : cvOk mX4_takesPlace 86 2 mX4_openPart = true := by decide +kernel
theorem kX4_opens_12 : cvOk mX4_opens 80 0 mX4_closePart = true := by decide +kernel
theorem kX4_opens_26 : cvOk mX4_opens 41 0 mX4_beginChoice = true := by decide +kernel
theorem kX4_closes_17 : cvOk mX4_closes 48 0 mX4_closeRow = true := by decide +kernel
theorem kX4_closes_48 : cvOk mX4_closes 86 2 mX4_openPart = true := by decide +kernel
theorem kX4_turns_11 : cvOk mX4_turns 48 0 mX4_closeRow = true := by decide +kernel
theorem kX4_turns_15 : cvOk mX4_turns 90 0 mX4_beginRow = true := by decide +kernel
theorem kX4_repeats_28 : cvOk mX4_repeats 99 2 mX2_link = true := by decide +kernel
theorem kX4_beginChoice_21 : cvOk mX4_beginChoice 90 0 mX4_beginRow = true := by decide +kernel
theorem kX4_closePart_26 : cvOk mX4_closePart 99 2 mX2_link = true := by decide +kernel
theorem kX4_closeRow_1 : cvOk mX4_closeRow 80 0 mX4_closePart = true := by decide +kernel
theorem kX5_lengthOf_5 : csOk mX5_lengthOf 21 2 mJ7_fill_53178 = true := by decide +kernel
theorem kX5_lengthOf_84 : cvOk mX5_lengthOf 33 3 mX5_widens = true := by decide +kernel
theorem kX5_widens_106 : cvOk mX5_widens 54 1 mX2_aheadOf = true := by decide +kernel
theorem kX5_trace_6 : cvOk mX5_trace 58 4 mX5_lengthOf = true := by decide +kernel
theorem kX5_trace_44 : cvOk mX5_trace 62 5 mX5_firstStep = true := by decide +kernel
theorem kX5_trace_76 : cvOk mX5_trace 66 2 mX2_after = true := by decide +kernel
theorem kX5_firstStep_3 : cvOk mX5_firstStep 70 1 mX2_behind = true := by decide +kernel
theorem kX6_size_17 : csOk mX6_size 25 1 mJ6_bitCount_0f7a4 = true := by decide +kernel
theorem kX8_reset_5 : csOk mX8_reset 26 2 mJ7_fill_53178 = true := by decide +kernel
theorem kX9_init_9 : cnOk mX9_init 11 0 mX8_init "SpeltRoutes" = true := by decide +kernel
theorem kX9_routesOf_7 : cvOk mX9_routesOf 28 1 mX8_reset = true := by decide +kernel
theorem kX9_routesOf_12 : cvOk mX9_routesOf 32 1 mX9_stateOf = true := by decide +kernel
theorem kX9_routesOf_52 : cvOk mX9_routesOf 36 2 mX9_advances = true := by decide +kernel
theorem kX9_routesOf_71 : cvOk mX9_routesOf 40 2 mX9_total = true := by decide +kernel
theorem kX9_total_29 : cvOk mX9_total 52 1 mX2_finishes = true := by decide +kernel
theorem kX9_advances_37 : cvOk mX9_advances 65 3 mX9_advancesFrom = true := by decide +kernel
theorem kX9_advancesFrom_46 : cvOk mX9_advancesFrom 78 3 mX9_stateBehind = true := by decide +kernel
theorem kX9_stateBehind_38 : cvOk mX9_stateBehind 85 2 mX2_after = true := by decide +kernel
theorem kX9_stateBehind_41 : cvOk mX9_stateBehind 32 1 mX9_stateOf = true := by decide +kernel
theorem kX9_stateOf_14 : cvOk mX9_stateOf 88 1 mX8_numberOf = true := by decide +kernel
theorem kX10_init_9 : cnOk mX10_init 11 0 mX1_init "SpeltRoutes" = true := by decide +kernel
theorem kX10_init_20 : cnOk mX10_init 18 0 mX7_init "SpeltRoutes" = true := by decide +kernel
theorem kX10_init_31 : cnOk mX10_init 18 0 mX7_init "SpeltRoutes" = true := by decide +kernel
theorem kX10_init_42 : cnOk mX10_init 18 0 mX7_init "SpeltRoutes" = true := by decide +kernel
theorem kX10_init_74 : cnOk mX10_init 45 0 mX4_init "SpeltRoutes" = true := by decide +kernel
theorem kX10_init_85 : cnOk mX10_init 52 0 mX3_init "SpeltRoutes" = true := by decide +kernel
theorem kX10_init_96 : cnOk mX10_init 59 0 mX5_init "SpeltRoutes" = true := by decide +kernel
theorem kX10_init_107 : cnOk mX10_init 66 0 mX9_init "SpeltRoutes" = true := by decide +kernel
theorem kX10_init_118 : cnOk mX10_init 73 0 mX0_init "SpeltRoutes" = true := by decide +kernel
theorem kX10_init_129 : cnOk mX10_init 80 0 mX6_init "SpeltRoutes" = true := by decide +kernel
theorem kX10_init_166 : cnOk mX10_init 94 0 mX2_init "SpeltRoutes" = true := by decide +kernel
theorem kX10_init_192 : cvOk mX10_init 95 4 mX7_put = true := by decide +kernel
theorem kX10_edge_1 : csOk mX10_edge 99 1 mX10_isVertex = true := by decide +kernel
theorem kX10_edge_17 : csOk mX10_edge 99 1 mX10_isVertex = true := by decide +kernel
theorem kX10_edge_26 : cvOk mX10_edge 103 1 mX10_refuse = true := by decide +kernel
theorem kX10_edge_37 : cvOk mX10_edge 107 3 mX1_has = true := by decide +kernel
theorem kX10_edge_46 : cvOk mX10_edge 103 1 mX10_refuse = true := by decide +kernel
theorem kX10_edge_65 : cvOk mX10_edge 103 1 mX10_refuse = true := by decide +kernel
theorem kX10_edge_73 : cvOk mX10_edge 114 0 mX6_size = true := by decide +kernel
theorem kX10_edge_85 : cvOk mX10_edge 117 3 mX1_put = true := by decide +kernel
theorem kX10_edge_89 : cvOk mX10_edge 120 0 mX10_graphChanged = true := by decide +kernel
theorem kX10_edge_96 : cvOk mX10_edge 114 0 mX6_size = true := by decide +kernel
theorem kX10_drop_5 : cvOk mX10_drop 126 1 mX1_isEdge = true := by decide +kernel
theorem kX10_drop_14 : cvOk mX10_drop 103 1 mX10_refuse = true := by decide +kernel
theorem kX10_drop_22 : cvOk mX10_drop 114 0 mX6_size = true := by decide +kernel
theorem kX10_drop_31 : cvOk mX10_drop 129 1 mX1_remove = true := by decide +kernel
theorem kX10_drop_35 : cvOk mX10_drop 120 0 mX10_graphChanged = true := by decide +kernel
theorem kX10_drop_43 : cvOk mX10_drop 114 0 mX6_size = true := by decide +kernel
theorem kX10_anew_17 : cvOk mX10_anew 120 0 mX10_graphChanged = true := by decide +kernel
theorem kX10_of_5 : cvOk mX10_of 126 1 mX1_isEdge = true := by decide +kernel
theorem kX10_of_23 : cvOk mX10_of 103 1 mX10_refuse = true := by decide +kernel
theorem kX10_degree_1 : csOk mX10_degree 99 1 mX10_isVertex = true := by decide +kernel
theorem kX10_degree_19 : cvOk mX10_degree 103 1 mX10_refuse = true := by decide +kernel
theorem kX10_type_13 : cvOk mX10_type 103 1 mX10_refuse = true := by decide +kernel
theorem kX10_type_29 : cvOk mX10_type 103 1 mX10_refuse = true := by decide +kernel
theorem kX10_reads_1 : csOk mX10_reads 145 1 mX10_isExpression = true := by decide +kernel
theorem kX10_reads_10 : cvOk mX10_reads 103 1 mX10_refuse = true := by decide +kernel
theorem kX10_reads_26 : cvOk mX10_reads 148 2 mX4_faultOf = true := by decide +kernel
theorem kX10_reads_53 : cvOk mX10_reads 156 1 mX2_become = true := by decide +kernel
theorem kX10_reads_68 : cvOk mX10_reads 163 0 mX10_keepAnswers = true := by decide +kernel
theorem kX10_about_1 : csOk mX10_about 145 1 mX10_isExpression = true := by decide +kernel
theorem kX10_about_19 : cvOk mX10_about 103 1 mX10_refuse = true := by decide +kernel
theorem kX10_about_79 : cvOk mX10_about 173 1 mX2_finishes = true := by decide +kernel
