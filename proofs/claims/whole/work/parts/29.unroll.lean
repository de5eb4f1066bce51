/-! a loop once more -/
theorem u_X7_unspoil_9_2 (K21 : Mem → Option Mem) (n : Nat) : l_X7_unspoil_9_2 K21 (n + 1) = b_X7_unspoil_9_2 K21 (l_X7_unspoil_9_2 K21 n) := rfl
theorem u_X7_tellNothing_9_7 (K29 : Mem → Option Mem) (n : Nat) : l_X7_tellNothing_9_7 K29 (n + 1) = b_X7_tellNothing_9_7 K29 (l_X7_tellNothing_9_7 K29 n) := rfl
theorem u_X6_foldsIn_19 (K44 : Mem → Option (Int32 × Mem)) (K59 : Int32 → Mem → Option (Int32 × Mem)) (n : Nat) : l_X6_foldsIn_19 K44 K59 (n + 1) = b_X6_foldsIn_19 K44 K59 (l_X6_foldsIn_19 K44 K59 n) := rfl
theorem u_X6_commaIn_2 (K18 : Int32 → Mem → Option (Int32 × Mem)) (K26 : Mem → Option (Int32 × Mem)) (n : Nat) : l_X6_commaIn_2 K18 K26 (n + 1) = b_X6_commaIn_2 K18 K26 (l_X6_commaIn_2 K18 K26 n) := rfl
theorem u_X6_figuresIn_19 (K49 : Mem → Option (Int32 × Mem)) (K73 : Int32 → Mem → Option (Int32 × Mem)) (n : Nat) : l_X6_figuresIn_19 K49 K73 (n + 1) = b_X6_figuresIn_19 K49 K73 (l_X6_figuresIn_19 K49 K73 n) := rfl
theorem u_X6_readInto_1_9_8 (K37 : Int32 → Mem → Option (Int32 × Mem)) (K49 : Int32 → Mem → Option (Int32 × Mem)) (n : Nat) : l_X6_readInto_1_9_8 K37 K49 (n + 1) = b_X6_readInto_1_9_8 K37 K49 (l_X6_readInto_1_9_8 K37 K49 n) := rfl
theorem u_X7_copyRow_10_4_2 (K26 : Mem → Option Mem) (n : Nat) : l_X7_copyRow_10_4_2 K26 (n + 1) = b_X7_copyRow_10_4_2 K26 (l_X7_copyRow_10_4_2 K26 n) := rfl
theorem u_X7_copyRow_11_5_2 (K26 : Mem → Option Mem) (n : Nat) : l_X7_copyRow_11_5_2 K26 (n + 1) = b_X7_copyRow_11_5_2 K26 (l_X7_copyRow_11_5_2 K26 n) := rfl
theorem u_X7_copyRow_12_6_2 (K26 : Mem → Option Mem) (n : Nat) : l_X7_copyRow_12_6_2 K26 (n + 1) = b_X7_copyRow_12_6_2 K26 (l_X7_copyRow_12_6_2 K26 n) := rfl
theorem u_X7_copyRow_13_7_2 (K26 : Mem → Option Mem) (n : Nat) : l_X7_copyRow_13_7_2 K26 (n + 1) = b_X7_copyRow_13_7_2 K26 (l_X7_copyRow_13_7_2 K26 n) := rfl
theorem u_X7_copyRow_14_8_2 (K26 : Mem → Option Mem) (n : Nat) : l_X7_copyRow_14_8_2 K26 (n + 1) = b_X7_copyRow_14_8_2 K26 (l_X7_copyRow_14_8_2 K26 n) := rfl
theorem u_X5_foldLeaf_2 (K26 : Nat → Int32 → Mem → Option Mem) (n : Nat) : l_X5_foldLeaf_2 K26 (n + 1) = b_X5_foldLeaf_2 K26 (l_X5_foldLeaf_2 K26 n) := rfl
theorem u_X5_foldBy_7 (K40 : Nat → Int32 → Int32 → Mem → Option Mem) (n : Nat) : l_X5_foldBy_7 K40 (n + 1) = b_X5_foldBy_7 K40 (l_X5_foldBy_7 K40 n) := rfl
theorem u_X5_foldBy_64 (K135 : Mem → Option Mem) (n : Nat) : l_X5_foldBy_64 K135 (n + 1) = b_X5_foldBy_64 K135 (l_X5_foldBy_64 K135 n) := rfl
theorem u_X4_weigh_76_3_2 (K34 : Mem → Option Mem) (n : Nat) : l_X4_weigh_76_3_2 K34 (n + 1) = b_X4_weigh_76_3_2 K34 (l_X4_weigh_76_3_2 K34 n) := rfl
theorem u_X4_weigh_76_3_47 (K87 : Int32 → Mem → Option Mem) (n : Nat) : l_X4_weigh_76_3_47 K87 (n + 1) = b_X4_weigh_76_3_47 K87 (l_X4_weigh_76_3_47 K87 n) := rfl
theorem u_X4_weigh_76_3_41 (K93 : Mem → Option Mem) (n : Nat) : l_X4_weigh_76_3_41 K93 (n + 1) = b_X4_weigh_76_3_41 K93 (l_X4_weigh_76_3_41 K93 n) := rfl
theorem u_X4_unitsFor_8 (K32 : Int32 → Mem → Option (Int32 × Mem)) (n : Nat) : l_X4_unitsFor_8 K32 (n + 1) = b_X4_unitsFor_8 K32 (l_X4_unitsFor_8 K32 n) := rfl
theorem u_X4_mostOf_76_3_13 (K85 : Int32 → Mem → Option (Int32 × Mem)) (n : Nat) : l_X4_mostOf_76_3_13 K85 (n + 1) = b_X4_mostOf_76_3_13 K85 (l_X4_mostOf_76_3_13 K85 n) := rfl
theorem u_X4_choose_76_3_5 (K52 : Mem → Option Mem) (n : Nat) : l_X4_choose_76_3_5 K52 (n + 1) = b_X4_choose_76_3_5 K52 (l_X4_choose_76_3_5 K52 n) := rfl
theorem u_X0_placePages_84_3_2 (K61 : Mem → Option Mem) (n : Nat) : l_X0_placePages_84_3_2 K61 (n + 1) = b_X0_placePages_84_3_2 K61 (l_X0_placePages_84_3_2 K61 n) := rfl
theorem u_X0_arrange_84_3_76_23 (K50 : Int32 → Mem → Option Mem) (n : Nat) : l_X0_arrange_84_3_76_23 K50 (n + 1) = b_X0_arrange_84_3_76_23 K50 (l_X0_arrange_84_3_76_23 K50 n) := rfl
theorem u_X0_arrange_84_3_76_12 (K56 : Mem → Option Mem) (n : Nat) : l_X0_arrange_84_3_76_12 K56 (n + 1) = b_X0_arrange_84_3_76_12 K56 (l_X0_arrange_84_3_76_12 K56 n) := rfl
theorem u_X0_arrange_84_3_76_58 (K78 : Mem → Option Mem) (n : Nat) : l_X0_arrange_84_3_76_58 K78 (n + 1) = b_X0_arrange_84_3_76_58 K78 (l_X0_arrange_84_3_76_58 K78 n) := rfl
theorem u_X8_settle_2 (K46 : Mem → Option Mem) (n : Nat) : l_X8_settle_2 K46 (n + 1) = b_X8_settle_2 K46 (l_X8_settle_2 K46 n) := rfl
theorem u_X7_copyRow_4_v11_2 (K26 : Mem → Option Mem) (n : Nat) : l_X7_copyRow_4_v11_2 K26 (n + 1) = b_X7_copyRow_4_v11_2 K26 (l_X7_copyRow_4_v11_2 K26 n) := rfl
theorem u_X7_copyRow_5_v12_2 (K26 : Mem → Option Mem) (n : Nat) : l_X7_copyRow_5_v12_2 K26 (n + 1) = b_X7_copyRow_5_v12_2 K26 (l_X7_copyRow_5_v12_2 K26 n) := rfl
theorem u_X7_copyRow_6_v13_2 (K26 : Mem → Option Mem) (n : Nat) : l_X7_copyRow_6_v13_2 K26 (n + 1) = b_X7_copyRow_6_v13_2 K26 (l_X7_copyRow_6_v13_2 K26 n) := rfl
theorem u_X7_copyRow_7_v14_2 (K26 : Mem → Option Mem) (n : Nat) : l_X7_copyRow_7_v14_2 K26 (n + 1) = b_X7_copyRow_7_v14_2 K26 (l_X7_copyRow_7_v14_2 K26 n) := rfl
theorem u_X7_copyRow_8_v15_2 (K26 : Mem → Option Mem) (n : Nat) : l_X7_copyRow_8_v15_2 K26 (n + 1) = b_X7_copyRow_8_v15_2 K26 (l_X7_copyRow_8_v15_2 K26 n) := rfl
theorem u_X1_forgetOldest_9 (K35 : Nat → Mem → Option Mem) (n : Nat) : l_X1_forgetOldest_9 K35 (n + 1) = b_X1_forgetOldest_9 K35 (l_X1_forgetOldest_9 K35 n) := rfl
theorem u_X7_unspoil_2 (K21 : Mem → Option Mem) (n : Nat) : l_X7_unspoil_2 K21 (n + 1) = b_X7_unspoil_2 K21 (l_X7_unspoil_2 K21 n) := rfl
theorem u_X7_spoiledSheets_4 (K25 : Int32 → Mem → Option (Int32 × Mem)) (n : Nat) : l_X7_spoiledSheets_4 K25 (n + 1) = b_X7_spoiledSheets_4 K25 (l_X7_spoiledSheets_4 K25 n) := rfl
theorem u_X7_copyRow_v11_4_2 (K26 : Mem → Option Mem) (n : Nat) : l_X7_copyRow_v11_4_2 K26 (n + 1) = b_X7_copyRow_v11_4_2 K26 (l_X7_copyRow_v11_4_2 K26 n) := rfl
theorem u_X7_copyRow_v12_5_2 (K26 : Mem → Option Mem) (n : Nat) : l_X7_copyRow_v12_5_2 K26 (n + 1) = b_X7_copyRow_v12_5_2 K26 (l_X7_copyRow_v12_5_2 K26 n) := rfl
theorem u_X7_copyRow_v13_6_2 (K26 : Mem → Option Mem) (n : Nat) : l_X7_copyRow_v13_6_2 K26 (n + 1) = b_X7_copyRow_v13_6_2 K26 (l_X7_copyRow_v13_6_2 K26 n) := rfl
theorem u_X7_copyRow_v14_7_2 (K26 : Mem → Option Mem) (n : Nat) : l_X7_copyRow_v14_7_2 K26 (n + 1) = b_X7_copyRow_v14_7_2 K26 (l_X7_copyRow_v14_7_2 K26 n) := rfl
theorem u_X7_copyRow_v15_8_2 (K26 : Mem → Option Mem) (n : Nat) : l_X7_copyRow_v15_8_2 K26 (n + 1) = b_X7_copyRow_v15_8_2 K26 (l_X7_copyRow_v15_8_2 K26 n) := rfl
theorem u_X5_cellOf_2 (K33 : Int32 → Mem → Option (Int32 × Mem)) (K41 : Mem → Option (Int32 × Mem)) (n : Nat) : l_X5_cellOf_2 K33 K41 (n + 1) = b_X5_cellOf_2 K33 K41 (l_X5_cellOf_2 K33 K41 n) := rfl
theorem u_X5_overturnedLeaves_4 (K27 : Int32 → Mem → Option (Int32 × Mem)) (n : Nat) : l_X5_overturnedLeaves_4 K27 (n + 1) = b_X5_overturnedLeaves_4 K27 (l_X5_overturnedLeaves_4 K27 n) := rfl
theorem u_X2_firstWith_3 (K52 : Int32 → Mem → Option (Int32 × Mem)) (K61 : Mem → Option (Int32 × Mem)) (n : Nat) : l_X2_firstWith_3 K52 K61 (n + 1) = b_X2_firstWith_3 K52 K61 (l_X2_firstWith_3 K52 K61 n) := rfl
theorem u_X2_isTriedAlike_70_v5_2 (K29 : Mem → Option (Int32 × Mem)) (K37 : Mem → Option (Int32 × Mem)) (n : Nat) : l_X2_isTriedAlike_70_v5_2 K29 K37 (n + 1) = b_X2_isTriedAlike_70_v5_2 K29 K37 (l_X2_isTriedAlike_70_v5_2 K29 K37 n) := rfl
theorem u_X2_alikeTo_70_v5_5 (K41 : Int32 → Mem → Option (Int32 × Mem)) (n : Nat) : l_X2_alikeTo_70_v5_5 K41 (n + 1) = b_X2_alikeTo_70_v5_5 K41 (l_X2_alikeTo_70_v5_5 K41 n) := rfl
theorem u_X2_keepMarks_2 (K38 : Mem → Option Mem) (n : Nat) : l_X2_keepMarks_2 K38 (n + 1) = b_X2_keepMarks_2 K38 (l_X2_keepMarks_2 K38 n) := rfl
theorem u_X2_haveSameMarks_2 (K38 : Mem → Option (Int32 × Mem)) (K46 : Mem → Option (Int32 × Mem)) (n : Nat) : l_X2_haveSameMarks_2 K38 K46 (n + 1) = b_X2_haveSameMarks_2 K38 K46 (l_X2_haveSameMarks_2 K38 K46 n) := rfl
theorem u_X2_isKeptBefore_2 (K16 : Mem → Option (Int32 × Mem)) (K24 : Mem → Option (Int32 × Mem)) (n : Nat) : l_X2_isKeptBefore_2 K16 K24 (n + 1) = b_X2_isKeptBefore_2 K16 K24 (l_X2_isKeptBefore_2 K16 K24 n) := rfl
theorem u_X2_unlikeOnes_4 (K50 : Int32 → Mem → Option (Int32 × Mem)) (n : Nat) : l_X2_unlikeOnes_4 K50 (n + 1) = b_X2_unlikeOnes_4 K50 (l_X2_unlikeOnes_4 K50 n) := rfl
theorem u_X0_blanksOn_84_3_5 (K46 : Int32 → Mem → Option (Int32 × Mem)) (n : Nat) : l_X0_blanksOn_84_3_5 K46 (n + 1) = b_X0_blanksOn_84_3_5 K46 (l_X0_blanksOn_84_3_5 K46 n) := rfl
theorem u_X8_missingRuns_4 (K44 : Int32 → Mem → Option (Int32 × Mem)) (n : Nat) : l_X8_missingRuns_4 K44 (n + 1) = b_X8_missingRuns_4 K44 (l_X8_missingRuns_4 K44 n) := rfl
theorem u_X8_missing_23 (K49 : Int32 → Mem → Option (Int32 × Mem)) (K60 : Int32 → Int32 → Mem → Option (Int32 × Mem)) (n : Nat) : l_X8_missing_23 K49 K60 (n + 1) = b_X8_missing_23 K49 K60 (l_X8_missing_23 K49 K60 n) := rfl
theorem u_X9_figures_5 (K65 : Int32 → Int32 → Int32 → Int32 → Mem → Option (Int32 × Mem)) (n : Nat) : l_X9_figures_5 K65 (n + 1) = b_X9_figures_5 K65 (l_X9_figures_5 K65 n) := rfl
theorem u_X9_schemeItem_9 (K72 : Int32 → Int32 → Mem → Option (Int32 × Mem)) (n : Nat) : l_X9_schemeItem_9 K72 (n + 1) = b_X9_schemeItem_9 K72 (l_X9_schemeItem_9 K72 n) := rfl
theorem u_X9_fault_2 (K41 : Mem → Option (Int32 × Mem)) (n : Nat) : l_X9_fault_2 K41 (n + 1) = b_X9_fault_2 K41 (l_X9_fault_2 K41 n) := rfl
theorem u_X9_fault_61 (K113 : Int32 → Mem → Option (Int32 × Mem)) (K128 : Mem → Option (Int32 × Mem)) (n : Nat) : l_X9_fault_61 K113 K128 (n + 1) = b_X9_fault_61 K113 K128 (l_X9_fault_61 K113 K128 n) := rfl
theorem u_X9_lay_23 (K48 : Mem → Option (Int32 × Mem)) (n : Nat) : l_X9_lay_23 K48 (n + 1) = b_X9_lay_23 K48 (l_X9_lay_23 K48 n) := rfl
theorem u_X9_note_11 (K40 : Mem → Option Mem) (n : Nat) : l_X9_note_11 K40 (n + 1) = b_X9_note_11 K40 (l_X9_note_11 K40 n) := rfl
theorem u_X9_note_52 (K86 : Mem → Option Mem) (n : Nat) : l_X9_note_52 K86 (n + 1) = b_X9_note_52 K86 (l_X9_note_52 K86 n) := rfl
theorem u_X9_wholes_2 (K24 : Mem → Option Mem) (n : Nat) : l_X9_wholes_2 K24 (n + 1) = b_X9_wholes_2 K24 (l_X9_wholes_2 K24 n) := rfl
theorem u_X9_folds_74 (K140 : Int32 → Int32 → Int32 → Mem → Option (Int32 × Mem)) (n : Nat) : l_X9_folds_74 K140 (n + 1) = b_X9_folds_74 K140 (l_X9_folds_74 K140 n) := rfl
theorem u_X9_folds_173 (K221 : Mem → Option (Int32 × Mem)) (n : Nat) : l_X9_folds_173 K221 (n + 1) = b_X9_folds_173 K221 (l_X9_folds_173 K221 n) := rfl
theorem u_X9_findPlan_9 (K42 : Int32 → Int32 → Mem → Option Mem) (n : Nat) : l_X9_findPlan_9 K42 (n + 1) = b_X9_findPlan_9 K42 (l_X9_findPlan_9 K42 n) := rfl
theorem u_X9_findPlan_53 (K150 : Int32 → Int32 → Int32 → Mem → Option Mem) (n : Nat) : l_X9_findPlan_53 K150 (n + 1) = b_X9_findPlan_53 K150 (l_X9_findPlan_53 K150 n) := rfl
theorem u_X9_findPlan_46 (K156 : Int32 → Int32 → Mem → Option Mem) (n : Nat) : l_X9_findPlan_46 K156 (n + 1) = b_X9_findPlan_46 K156 (l_X9_findPlan_46 K156 n) := rfl
theorem u_X9_findPlan_161 (K192 : Int32 → Mem → Option Mem) (n : Nat) : l_X9_findPlan_161 K192 (n + 1) = b_X9_findPlan_161 K192 (l_X9_findPlan_161 K192 n) := rfl
theorem u_X9_findPlan_200 (K220 : Int32 → Int32 → Mem → Option Mem) (n : Nat) : l_X9_findPlan_200 K220 (n + 1) = b_X9_findPlan_200 K220 (l_X9_findPlan_200 K220 n) := rfl
theorem u_X9_findPlan_239 (K295 : Int32 → Int32 → Int32 → Int32 → Mem → Option Mem) (n : Nat) : l_X9_findPlan_239 K295 (n + 1) = b_X9_findPlan_239 K295 (l_X9_findPlan_239 K295 n) := rfl
theorem u_X9_findPlan_223 (K322 : Mem → Option Mem) (n : Nat) : l_X9_findPlan_223 K322 (n + 1) = b_X9_findPlan_223 K322 (l_X9_findPlan_223 K322 n) := rfl
theorem u_X9_spoiledMany_4 (K28 : Int32 → Mem → Option (Int32 × Mem)) (n : Nat) : l_X9_spoiledMany_4 K28 (n + 1) = b_X9_spoiledMany_4 K28 (l_X9_spoiledMany_4 K28 n) := rfl
theorem u_X9_undo_22 (K56 : Mem → Option (Int32 × Mem)) (n : Nat) : l_X9_undo_22 K56 (n + 1) = b_X9_undo_22 K56 (l_X9_undo_22 K56 n) := rfl
theorem u_X9_acrossOf_4 (K54 : Int32 → Mem → Option (Int32 × Mem)) (n : Nat) : l_X9_acrossOf_4 K54 (n + 1) = b_X9_acrossOf_4 K54 (l_X9_acrossOf_4 K54 n) := rfl
theorem u_X9_turns_184 (K254 : Int32 → Int32 → Int32 → Int32 → Int32 → Int32 → Int32 → Mem → Option Mem) (n : Nat) : l_X9_turns_184 K254 (n + 1) = b_X9_turns_184 K254 (l_X9_turns_184 K254 n) := rfl
theorem u_X9_turns_56 (K260 : Int32 → Int32 → Int32 → Int32 → Int32 → Int32 → Mem → Option Mem) (n : Nat) : l_X9_turns_56 K260 (n + 1) = b_X9_turns_56 K260 (l_X9_turns_56 K260 n) := rfl
theorem u_X9_turns_46 (K266 : Int32 → Int32 → Mem → Option Mem) (n : Nat) : l_X9_turns_46 K266 (n + 1) = b_X9_turns_46 K266 (l_X9_turns_46 K266 n) := rfl
theorem u_X9_turns_269 (K296 : Int32 → Int32 → Mem → Option Mem) (n : Nat) : l_X9_turns_269 K296 (n + 1) = b_X9_turns_269 K296 (l_X9_turns_269 K296 n) := rfl
theorem u_X9_foldAll_12 (K78 : Mem → Option Mem) (n : Nat) : l_X9_foldAll_12 K78 (n + 1) = b_X9_foldAll_12 K78 (l_X9_foldAll_12 K78 n) := rfl
theorem u_X9_foldAll_98 (K124 : Int32 → Mem → Option Mem) (n : Nat) : l_X9_foldAll_98 K124 (n + 1) = b_X9_foldAll_98 K124 (l_X9_foldAll_98 K124 n) := rfl
theorem u_X9_foldAll_126 (K153 : Int32 → Mem → Option Mem) (n : Nat) : l_X9_foldAll_126 K153 (n + 1) = b_X9_foldAll_126 K153 (l_X9_foldAll_126 K153 n) := rfl
theorem u_X9_foldAll_213 (K276 : Int32 → Int32 → Int32 → Mem → Option Mem) (n : Nat) : l_X9_foldAll_213 K276 (n + 1) = b_X9_foldAll_213 K276 (l_X9_foldAll_213 K276 n) := rfl
theorem u_X9_foldAll_177 (K282 : Mem → Option Mem) (n : Nat) : l_X9_foldAll_177 K282 (n + 1) = b_X9_foldAll_177 K282 (l_X9_foldAll_177 K282 n) := rfl
theorem u_X9_lays_17 (K52 : Mem → Option Mem) (n : Nat) : l_X9_lays_17 K52 (n + 1) = b_X9_lays_17 K52 (l_X9_lays_17 K52 n) := rfl
theorem u_X9_pageAt_2 (K28 : Int32 → Mem → Option (Int32 × Mem)) (n : Nat) : l_X9_pageAt_2 K28 (n + 1) = b_X9_pageAt_2 K28 (l_X9_pageAt_2 K28 n) := rfl
theorem u_X9_turned_30 (K71 : Int32 → Mem → Option (Int32 × Mem)) (n : Nat) : l_X9_turned_30 K71 (n + 1) = b_X9_turned_30 K71 (l_X9_turned_30 K71 n) := rfl
theorem u_X9_isText_7 (K38 : Int32 → Mem → Option (Int32 × Mem)) (n : Nat) : l_X9_isText_7 K38 (n + 1) = b_X9_isText_7 K38 (l_X9_isText_7 K38 n) := rfl
theorem u_X9_find_66 (K147 : Int32 → Mem → Option (Int32 × Mem)) (K156 : Mem → Option (Int32 × Mem)) (n : Nat) : l_X9_find_66 K147 K156 (n + 1) = b_X9_find_66 K147 K156 (l_X9_find_66 K147 K156 n) := rfl
theorem u_X9_knows_13 (K58 : Mem → Option Mem) (n : Nat) : l_X9_knows_13 K58 (n + 1) = b_X9_knows_13 K58 (l_X9_knows_13 K58 n) := rfl
theorem u_X9_isKnown_22 (K80 : Int32 → Mem → Option (Int32 × Mem)) (n : Nat) : l_X9_isKnown_22 K80 (n + 1) = b_X9_isKnown_22 K80 (l_X9_isKnown_22 K80 n) := rfl
theorem u_X9_alike_30 (K76 : Int32 → Mem → Option (Int32 × Mem)) (n : Nat) : l_X9_alike_30 K76 (n + 1) = b_X9_alike_30 K76 (l_X9_alike_30 K76 n) := rfl
theorem u_X9_unlike_51 (K97 : Int32 → Int32 → Int32 → Int32 → Mem → Option (Int32 × Mem)) (n : Nat) : l_X9_unlike_51 K97 (n + 1) = b_X9_unlike_51 K97 (l_X9_unlike_51 K97 n) := rfl
theorem u_X9_unlike_18 (K116 : Int32 → Mem → Option (Int32 × Mem)) (n : Nat) : l_X9_unlike_18 K116 (n + 1) = b_X9_unlike_18 K116 (l_X9_unlike_18 K116 n) := rfl
theorem u_X9_plan_24 (K56 : Int32 → Int32 → Int32 → Mem → Option (Int32 × Mem)) (n : Nat) : l_X9_plan_24 K56 (n + 1) = b_X9_plan_24 K56 (l_X9_plan_24 K56 n) := rfl
theorem u_X9_schemeOf_4 (K29 : Int32 → Mem → Option (Int32 × Mem)) (n : Nat) : l_X9_schemeOf_4 K29 (n + 1) = b_X9_schemeOf_4 K29 (l_X9_schemeOf_4 K29 n) := rfl
theorem u_X9_halfAhead_4 (K29 : Int32 → Mem → Option (Int32 × Mem)) (n : Nat) : l_X9_halfAhead_4 K29 (n + 1) = b_X9_halfAhead_4 K29 (l_X9_halfAhead_4 K29 n) := rfl
theorem u_X9_seek_10 (K73 : Mem → Option Mem) (n : Nat) : l_X9_seek_10 K73 (n + 1) = b_X9_seek_10 K73 (l_X9_seek_10 K73 n) := rfl
theorem u_X9_sheet_50 (K124 : Int32 → Int32 → Int32 → Int32 → Int32 → Mem → Option (Int32 × Mem)) (n : Nat) : l_X9_sheet_50 K124 (n + 1) = b_X9_sheet_50 K124 (l_X9_sheet_50 K124 n) := rfl
theorem u_X9_missing_15 (K35 : Int32 → Int32 → Mem → Option (Int32 × Mem)) (n : Nat) : l_X9_missing_15 K35 (n + 1) = b_X9_missing_15 K35 (l_X9_missing_15 K35 n) := rfl
theorem u_X9_missing_56 (K115 : Int32 → Int32 → Int32 → Mem → Option (Int32 × Mem)) (n : Nat) : l_X9_missing_56 K115 (n + 1) = b_X9_missing_56 K115 (l_X9_missing_56 K115 n) := rfl
theorem u_X9_missing_37 (K121 : Int32 → Mem → Option (Int32 × Mem)) (n : Nat) : l_X9_missing_37 K121 (n + 1) = b_X9_missing_37 K121 (l_X9_missing_37 K121 n) := rfl
theorem u_X9_missing_129 (K155 : Int32 → Mem → Option (Int32 × Mem)) (K189 : Int32 → Int32 → Int32 → Mem → Option (Int32 × Mem)) (n : Nat) : l_X9_missing_129 K155 K189 (n + 1) = b_X9_missing_129 K155 K189 (l_X9_missing_129 K155 K189 n) := rfl
