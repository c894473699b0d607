section WPC
variable {f : Fn} {pc : Nat} {L st : List Value} {M : Mm} {Q : Option Value → Mm → Prop}
theorem wp_iconst {n : Int} {v : Int32} (hd : decode (fnB f) pc = .ok (.iconst n, 1)) (hv : Int32.ofInt n = v) : wp f pc L st M Q = wp f (pc + 1) L (.int v :: st) M Q := by subst hv; exact wp_in hd rfl rfl
theorem wp_bipush {n : Int} {v : Int32} (hd : decode (fnB f) pc = .ok (.bipush n, 2)) (hv : (Int8.ofInt n).toInt32 = v) : wp f pc L st M Q = wp f (pc + 2) L (.int v :: st) M Q := by subst hv; exact wp_in hd rfl rfl
theorem wp_sipush {n : Int} {v : Int32} (hd : decode (fnB f) pc = .ok (.sipush n, 3)) (hv : (Int16.ofInt n).toInt32 = v) : wp f pc L st M Q = wp f (pc + 3) L (.int v :: st) M Q := by subst hv; exact wp_in hd rfl rfl
theorem wp_lconst {n : Fin 2} {v : Int64} (hd : decode (fnB f) pc = .ok (.lconst n, 1)) (hv : Int64.ofNat (n : Nat) = v) : wp f pc L st M Q = wp f (pc + 1) L (.long v :: st) M Q := by subst hv; exact wp_in hd rfl rfl
theorem wp_ldc {k : Nat} {v : Int32} (hd : decode (fnB f) pc = .ok (.ldc k, 2)) (hk : lk iT (fnC f) k = some v) : wp f pc L st M Q = wp f (pc + 2) L (.int v :: st) M Q := wp_in hd rfl (by simp only [step, hk, nx])
theorem wp_ldc2 {k : Nat} {v : Int64} (hd : decode (fnB f) pc = .ok (.ldc2_w k, 3)) (hk : lk lT (fnC f) k = some v) : wp f pc L st M Q = wp f (pc + 3) L (.long v :: st) M Q := wp_in hd rfl (by simp only [step, hk, nx])
theorem wp_iinc {k : Nat} {n : Int} {v x : Int32} {L' : List Value} (hd : decode (fnB f) pc = .ok (.iinc k n, 3)) (hv : Int32.ofInt n = v) (hx : L[k]? = some (.int x)) (hL : ls1 L k (.int (x + v)) = L') : wp f pc L st M Q = wp f (pc + 3) L' st M Q := by
  subst hv
  subst hL
  exact wp_in hd rfl (by simp only [step, ldI, hx, nx])
theorem clr_i (x : Int32) : clr (.int x) = .int x := rfl
theorem clr_l (x : Int64) : clr (.long x) = jk := rfl
theorem clr_r (x : Nat) : clr (.ref x) = .ref x := rfl
theorem clr_n : clr .null = .null := rfl
theorem clr_j : clr jk = jk := rfl
end WPC
set_option maxRecDepth 100000 in
theorem ml_0_3 : lk mT 0 3 = some (3, F_Completion_begin) := rfl
set_option maxRecDepth 100000 in
theorem nl_0_9 : lk nT 0 9 = some 10 := by decide +kernel
set_option maxRecDepth 100000 in
theorem ml_0_11 : lk mT 0 11 = some (2, F_Word_init) := rfl
set_option maxRecDepth 100000 in
theorem fl_0_14 : lk fT 0 14 = some (0, 3) := by decide +kernel
set_option maxRecDepth 100000 in
theorem fl_0_20 : lk fT 0 20 = some (0, 4) := by decide +kernel
set_option maxRecDepth 100000 in
theorem fl_0_23 : lk fT 0 23 = some (0, 0) := by decide +kernel
set_option maxRecDepth 100000 in
theorem fl_0_27 : lk fT 0 27 = some (0, 1) := by decide +kernel
set_option maxRecDepth 100000 in
theorem fl_0_31 : lk fT 0 31 = some (0, 2) := by decide +kernel
set_option maxRecDepth 100000 in
theorem fl_0_35 : lk fT 0 35 = some (0, 5) := by decide +kernel
set_option maxRecDepth 100000 in
theorem fl_0_39 : lk fT 0 39 = some (0, 6) := by decide +kernel
set_option maxRecDepth 100000 in
theorem fl_0_42 : lk fT 0 42 = some (0, 7) := by decide +kernel
set_option maxRecDepth 100000 in
theorem fl_0_46 : lk fT 0 46 = some (7, 2) := by decide +kernel
set_option maxRecDepth 100000 in
theorem ml_0_51 : lk mT 0 51 = some (1, F_Row_takeFirst) := rfl
set_option maxRecDepth 100000 in
theorem fl_0_55 : lk fT 0 55 = some (4, 0) := by decide +kernel
set_option maxRecDepth 100000 in
theorem ml_0_58 : lk mT 0 58 = some (1, F_Completion_takeForm) := rfl
set_option maxRecDepth 100000 in
theorem fl_0_62 : lk fT 0 62 = some (4, 1) := by decide +kernel
set_option maxRecDepth 100000 in
theorem ml_0_63 : lk mT 0 63 = some (1, F_Word_against) := rfl
set_option maxRecDepth 100000 in
theorem ml_0_67 : lk mT 0 67 = some (1, F_Rules_make) := rfl
set_option maxRecDepth 100000 in
theorem ml_0_73 : lk mT 0 73 = some (1, F_Completion_dropOlder) := rfl
set_option maxRecDepth 100000 in
theorem ml_0_77 : lk mT 0 77 = some (1, F_Completion_renewRights) := rfl
set_option maxRecDepth 100000 in
theorem ml_0_80 : lk mT 0 80 = some (1, F_Completion_pairAll) := rfl
set_option maxRecDepth 100000 in
theorem ml_0_83 : lk mT 0 83 = some (1, F_Reducer_toForm) := rfl
set_option maxRecDepth 100000 in
theorem fl_0_88 : lk fT 0 88 = some (6, 7) := by decide +kernel
set_option maxRecDepth 100000 in
theorem fl_0_89 : lk fT 0 89 = some (9, 0) := by decide +kernel
set_option maxRecDepth 100000 in
theorem fl_0_93 : lk fT 0 93 = some (8, 2) := by decide +kernel
set_option maxRecDepth 100000 in
theorem fl_0_98 : lk fT 0 98 = some (8, 0) := by decide +kernel
set_option maxRecDepth 100000 in
theorem ml_0_101 : lk mT 0 101 = some (1, F_Word_holds) := rfl
set_option maxRecDepth 100000 in
theorem ml_0_105 : lk mT 0 105 = some (1, F_Rules_drop) := rfl
set_option maxRecDepth 100000 in
theorem ml_0_108 : lk mT 0 108 = some (1, F_Row_behind) := rfl
set_option maxRecDepth 100000 in
theorem ml_0_111 : lk mT 0 111 = some (1, F_Word_become) := rfl
set_option maxRecDepth 100000 in
theorem fl_0_115 : lk fT 0 115 = some (8, 1) := by decide +kernel
set_option maxRecDepth 100000 in
theorem ml_0_118 : lk mT 0 118 = some (1, F_Completion_pairOverlaps) := rfl
set_option maxRecDepth 100000 in
theorem ml_0_122 : lk mT 0 122 = some (1, F_Rule_mostShared) := rfl
set_option maxRecDepth 100000 in
theorem ml_0_126 : lk mT 0 126 = some (1, F_Rule_overlaps) := rfl
set_option maxRecDepth 100000 in
theorem ml_0_130 : lk mT 0 130 = some (1, F_Rule_spellOverlap) := rfl
set_option maxRecDepth 100000 in
theorem ml_1_3 : lk mT 1 3 = some (3, F_Completion_begin) := rfl
set_option maxRecDepth 100000 in
theorem fl_1_9 : lk fT 1 9 = some (1, 2) := by decide +kernel
set_option maxRecDepth 100000 in
theorem fl_1_15 : lk fT 1 15 = some (1, 6) := by decide +kernel
set_option maxRecDepth 100000 in
theorem fl_1_19 : lk fT 1 19 = some (1, 7) := by decide +kernel
set_option maxRecDepth 100000 in
theorem fl_1_22 : lk fT 1 22 = some (1, 8) := by decide +kernel
set_option maxRecDepth 100000 in
theorem fl_1_25 : lk fT 1 25 = some (1, 0) := by decide +kernel
set_option maxRecDepth 100000 in
theorem fl_1_29 : lk fT 1 29 = some (1, 1) := by decide +kernel
set_option maxRecDepth 100000 in
theorem fl_1_33 : lk fT 1 33 = some (1, 3) := by decide +kernel
set_option maxRecDepth 100000 in
theorem fl_1_37 : lk fT 1 37 = some (1, 4) := by decide +kernel
set_option maxRecDepth 100000 in
theorem ml_1_41 : lk mT 1 41 = some (1, F_Elements_countRows) := rfl
set_option maxRecDepth 100000 in
theorem ml_1_45 : lk mT 1 45 = some (1, F_Elements_waysOn) := rfl
set_option maxRecDepth 100000 in
theorem ml_1_49 : lk mT 1 49 = some (1, F_Machine_renew) := rfl
set_option maxRecDepth 100000 in
theorem ml_1_55 : lk mT 1 55 = some (1, F_Elements_makeQueue) := rfl
set_option maxRecDepth 100000 in
theorem ml_1_58 : lk mT 1 58 = some (1, F_Elements_countPaths) := rfl
set_option maxRecDepth 100000 in
theorem fl_1_62 : lk fT 1 62 = some (1, 5) := by decide +kernel
set_option maxRecDepth 100000 in
theorem ml_1_66 : lk mT 1 66 = some (1, F_Elements_ofLength) := rfl
set_option maxRecDepth 100000 in
theorem ml_1_70 : lk mT 1 70 = some (1, F_Elements_spellOfLength) := rfl
set_option maxRecDepth 100000 in
theorem ml_1_74 : lk mT 1 74 = some (1, F_Elements_total) := rfl
set_option maxRecDepth 100000 in
theorem fl_1_76 : lk fT 1 76 = some (10, 1) := by decide +kernel
set_option maxRecDepth 100000 in
theorem fl_1_81 : lk fT 1 81 = some (10, 0) := by decide +kernel
set_option maxRecDepth 100000 in
theorem ml_1_85 : lk mT 1 85 = some (1, F_Machine_after) := rfl
set_option maxRecDepth 100000 in
theorem ml_1_89 : lk mT 1 89 = some (1, F_Word_clear) := rfl
set_option maxRecDepth 100000 in
theorem fl_1_92 : lk fT 1 92 = some (3, 6) := by decide +kernel
set_option maxRecDepth 100000 in
theorem ml_1_95 : lk mT 1 95 = some (1, F_Word_add) := rfl
set_option maxRecDepth 100000 in
theorem fl_1_98 : lk fT 1 98 = some (3, 5) := by decide +kernel
set_option maxRecDepth 100000 in
theorem il_1_101 : lk iT 1 101 = some 972081 := rfl
set_option maxRecDepth 100000 in
theorem ml_1_102 : lk mT 1 102 = some (4, F_Completion_begin) := rfl
set_option maxRecDepth 100000 in
theorem ml_1_107 : lk mT 1 107 = some (5, F_Completion_begin) := rfl
set_option maxRecDepth 100000 in
theorem ml_1_110 : lk mT 1 110 = some (1, F_Elements_countRow) := rfl
set_option maxRecDepth 100000 in
theorem ml_1_113 : lk mT 1 113 = some (1, F_Machine_isReducible) := rfl
set_option maxRecDepth 100000 in
theorem ml_1_117 : lk mT 1 117 = some (0, F_Elements_capped) := rfl
set_option maxRecDepth 100000 in
theorem ml_1_121 : lk mT 1 121 = some (1, F_Elements_countIncoming) := rfl
set_option maxRecDepth 100000 in
theorem ll_1_125 : lk lT 1 125 = some (-5) := rfl
set_option maxRecDepth 100000 in
theorem ll_1_127 : lk lT 1 127 = some 1000000000000000 := rfl
set_option maxRecDepth 100000 in
theorem ll_1_129 : lk lT 1 129 = some (-4) := rfl
set_option maxRecDepth 100000 in
theorem ll_1_131 : lk lT 1 131 = some 1000000000000001 := rfl
set_option maxRecDepth 100000 in
theorem ml_2_3 : lk mT 2 3 = some (3, F_Completion_begin) := rfl
set_option maxRecDepth 100000 in
theorem nl_2_9 : lk nT 2 9 = some 10 := by decide +kernel
set_option maxRecDepth 100000 in
theorem ml_2_11 : lk mT 2 11 = some (2, F_Word_init) := rfl
set_option maxRecDepth 100000 in
theorem fl_2_14 : lk fT 2 14 = some (2, 2) := by decide +kernel
set_option maxRecDepth 100000 in
theorem fl_2_20 : lk fT 2 20 = some (2, 3) := by decide +kernel
set_option maxRecDepth 100000 in
theorem fl_2_23 : lk fT 2 23 = some (2, 0) := by decide +kernel
set_option maxRecDepth 100000 in
theorem fl_2_27 : lk fT 2 27 = some (2, 1) := by decide +kernel
set_option maxRecDepth 100000 in
theorem fl_2_31 : lk fT 2 31 = some (2, 4) := by decide +kernel
set_option maxRecDepth 100000 in
theorem fl_2_35 : lk fT 2 35 = some (2, 6) := by decide +kernel
set_option maxRecDepth 100000 in
theorem ml_2_38 : lk mT 2 38 = some (1, F_Finder_tryAll) := rfl
set_option maxRecDepth 100000 in
theorem fl_2_42 : lk fT 2 42 = some (2, 5) := by decide +kernel
set_option maxRecDepth 100000 in
theorem fl_2_46 : lk fT 2 46 = some (9, 1) := by decide +kernel
set_option maxRecDepth 100000 in
theorem ml_2_51 : lk mT 2 51 = some (1, F_Rules_isLive) := rfl
set_option maxRecDepth 100000 in
theorem ml_2_55 : lk mT 2 55 = some (1, F_Finder_tryTwo) := rfl
set_option maxRecDepth 100000 in
theorem fl_2_59 : lk fT 2 59 = some (9, 0) := by decide +kernel
set_option maxRecDepth 100000 in
theorem ml_2_63 : lk mT 2 63 = some (1, F_Rule_mostShared) := rfl
set_option maxRecDepth 100000 in
theorem ml_2_69 : lk mT 2 69 = some (1, F_Rule_overlaps) := rfl
set_option maxRecDepth 100000 in
theorem ml_2_73 : lk mT 2 73 = some (1, F_Rule_spellOverlap) := rfl
set_option maxRecDepth 100000 in
theorem ml_2_77 : lk mT 2 77 = some (1, F_Reducer_toForm) := rfl
set_option maxRecDepth 100000 in
theorem ml_2_83 : lk mT 2 83 = some (1, F_Word_against) := rfl
set_option maxRecDepth 100000 in
theorem fl_2_87 : lk fT 2 87 = some (2, 7) := by decide +kernel
set_option maxRecDepth 100000 in
theorem fl_2_90 : lk fT 2 90 = some (2, 8) := by decide +kernel
set_option maxRecDepth 100000 in
theorem fl_2_93 : lk fT 2 93 = some (2, 9) := by decide +kernel
set_option maxRecDepth 100000 in
theorem ml_3_3 : lk mT 3 3 = some (3, F_Completion_begin) := rfl
set_option maxRecDepth 100000 in
theorem fl_3_9 : lk fT 3 9 = some (3, 0) := by decide +kernel
set_option maxRecDepth 100000 in
theorem fl_3_15 : lk fT 3 15 = some (3, 1) := by decide +kernel
set_option maxRecDepth 100000 in
theorem fl_3_19 : lk fT 3 19 = some (3, 2) := by decide +kernel
set_option maxRecDepth 100000 in
theorem fl_3_22 : lk fT 3 22 = some (3, 3) := by decide +kernel
set_option maxRecDepth 100000 in
theorem fl_3_25 : lk fT 3 25 = some (3, 4) := by decide +kernel
set_option maxRecDepth 100000 in
theorem fl_3_28 : lk fT 3 28 = some (9, 3) := by decide +kernel
set_option maxRecDepth 100000 in
theorem fl_3_34 : lk fT 3 34 = some (9, 2) := by decide +kernel
set_option maxRecDepth 100000 in
theorem fl_3_37 : lk fT 3 37 = some (3, 6) := by decide +kernel
set_option maxRecDepth 100000 in
theorem ml_3_38 : lk mT 3 38 = some (1, F_Rules_lettersOfLefts) := rfl
set_option maxRecDepth 100000 in
theorem ml_3_42 : lk mT 3 42 = some (1, F_Machine_clear) := rfl
set_option maxRecDepth 100000 in
theorem fl_3_46 : lk fT 3 46 = some (9, 1) := by decide +kernel
set_option maxRecDepth 100000 in
theorem fl_3_49 : lk fT 3 49 = some (9, 0) := by decide +kernel
set_option maxRecDepth 100000 in
theorem fl_3_53 : lk fT 3 53 = some (8, 2) := by decide +kernel
set_option maxRecDepth 100000 in
theorem fl_3_58 : lk fT 3 58 = some (8, 0) := by decide +kernel
set_option maxRecDepth 100000 in
theorem ml_3_62 : lk mT 3 62 = some (1, F_Machine_insert) := rfl
set_option maxRecDepth 100000 in
theorem ml_3_66 : lk mT 3 66 = some (1, F_Machine_link) := rfl
set_option maxRecDepth 100000 in
theorem ml_3_69 : lk mT 3 69 = some (1, F_Machine_ruleAt) := rfl
set_option maxRecDepth 100000 in
theorem ml_3_73 : lk mT 3 73 = some (4, F_Completion_begin) := rfl
set_option maxRecDepth 100000 in
theorem ml_3_79 : lk mT 3 79 = some (5, F_Completion_begin) := rfl
set_option maxRecDepth 100000 in
theorem fl_3_82 : lk fT 3 82 = some (3, 5) := by decide +kernel
set_option maxRecDepth 100000 in
theorem fl_3_85 : lk fT 3 85 = some (10, 1) := by decide +kernel
set_option maxRecDepth 100000 in
theorem fl_3_90 : lk fT 3 90 = some (10, 0) := by decide +kernel
set_option maxRecDepth 100000 in
theorem ml_3_94 : lk mT 3 94 = some (1, F_Machine_after) := rfl
set_option maxRecDepth 100000 in
theorem ml_3_97 : lk mT 3 97 = some (0, F_Machine_leastRule) := rfl
set_option maxRecDepth 100000 in
theorem ml_4_3 : lk mT 4 3 = some (3, F_Completion_begin) := rfl
set_option maxRecDepth 100000 in
theorem nl_4_9 : lk nT 4 9 = some 10 := by decide +kernel
set_option maxRecDepth 100000 in
theorem ml_4_11 : lk mT 4 11 = some (2, F_Word_init) := rfl
set_option maxRecDepth 100000 in
theorem fl_4_14 : lk fT 4 14 = some (4, 0) := by decide +kernel
set_option maxRecDepth 100000 in
theorem fl_4_20 : lk fT 4 20 = some (4, 1) := by decide +kernel
set_option maxRecDepth 100000 in
theorem ml_5_3 : lk mT 5 3 = some (3, F_Completion_begin) := rfl
set_option maxRecDepth 100000 in
theorem fl_5_9 : lk fT 5 9 = some (5, 0) := by decide +kernel
set_option maxRecDepth 100000 in
theorem nl_5_15 : lk nT 5 15 = some 10 := by decide +kernel
set_option maxRecDepth 100000 in
theorem ml_5_17 : lk mT 5 17 = some (2, F_Word_init) := rfl
set_option maxRecDepth 100000 in
theorem fl_5_20 : lk fT 5 20 = some (5, 3) := by decide +kernel
set_option maxRecDepth 100000 in
theorem fl_5_24 : lk fT 5 24 = some (5, 4) := by decide +kernel
set_option maxRecDepth 100000 in
theorem ml_5_27 : lk mT 5 27 = some (1, F_Presentation_clear) := rfl
set_option maxRecDepth 100000 in
theorem fl_5_30 : lk fT 5 30 = some (5, 8) := by decide +kernel
set_option maxRecDepth 100000 in
theorem ml_5_34 : lk mT 5 34 = some (0, F_Presentation_isPassedOver) := rfl
set_option maxRecDepth 100000 in
theorem fl_5_38 : lk fT 5 38 = some (5, 9) := by decide +kernel
set_option maxRecDepth 100000 in
theorem fl_5_41 : lk fT 5 41 = some (5, 7) := by decide +kernel
set_option maxRecDepth 100000 in
theorem ml_5_44 : lk mT 5 44 = some (1, F_Presentation_takeLetter) := rfl
set_option maxRecDepth 100000 in
theorem ml_5_48 : lk mT 5 48 = some (1, F_Presentation_takeInWord) := rfl
set_option maxRecDepth 100000 in
theorem fl_5_51 : lk fT 5 51 = some (5, 6) := by decide +kernel
set_option maxRecDepth 100000 in
theorem ml_5_54 : lk mT 5 54 = some (0, F_Presentation_isLetter) := rfl
set_option maxRecDepth 100000 in
theorem ml_5_57 : lk mT 5 57 = some (1, F_Presentation_takeWordLetter) := rfl
set_option maxRecDepth 100000 in
theorem ml_5_61 : lk mT 5 61 = some (1, F_Word_clear) := rfl
set_option maxRecDepth 100000 in
theorem fl_5_62 : lk fT 5 62 = some (5, 5) := by decide +kernel
set_option maxRecDepth 100000 in
theorem ml_5_65 : lk mT 5 65 = some (1, F_Word_append) := rfl
set_option maxRecDepth 100000 in
theorem fl_5_69 : lk fT 5 69 = some (5, 1) := by decide +kernel
set_option maxRecDepth 100000 in
theorem fl_5_72 : lk fT 5 72 = some (5, 2) := by decide +kernel
set_option maxRecDepth 100000 in
theorem ml_5_75 : lk mT 5 75 = some (1, F_Presentation_endWord) := rfl
set_option maxRecDepth 100000 in
theorem ml_5_78 : lk mT 5 78 = some (1, F_Word_add) := rfl
set_option maxRecDepth 100000 in
theorem fl_5_81 : lk fT 5 81 = some (10, 1) := by decide +kernel
set_option maxRecDepth 100000 in
theorem ml_6_3 : lk mT 6 3 = some (3, F_Completion_begin) := rfl
set_option maxRecDepth 100000 in
theorem fl_6_9 : lk fT 6 9 = some (6, 2) := by decide +kernel
set_option maxRecDepth 100000 in
theorem fl_6_15 : lk fT 6 15 = some (6, 3) := by decide +kernel
set_option maxRecDepth 100000 in
theorem fl_6_18 : lk fT 6 18 = some (6, 4) := by decide +kernel
set_option maxRecDepth 100000 in
theorem fl_6_22 : lk fT 6 22 = some (6, 5) := by decide +kernel
set_option maxRecDepth 100000 in
theorem fl_6_25 : lk fT 6 25 = some (6, 6) := by decide +kernel
set_option maxRecDepth 100000 in
theorem fl_6_28 : lk fT 6 28 = some (6, 0) := by decide +kernel
set_option maxRecDepth 100000 in
theorem fl_6_32 : lk fT 6 32 = some (6, 1) := by decide +kernel
set_option maxRecDepth 100000 in
theorem ml_6_36 : lk mT 6 36 = some (1, F_Machine_renew) := rfl
set_option maxRecDepth 100000 in
theorem fl_6_42 : lk fT 6 42 = some (6, 7) := by decide +kernel
set_option maxRecDepth 100000 in
theorem ml_6_46 : lk mT 6 46 = some (1, F_Reducer_putBack) := rfl
set_option maxRecDepth 100000 in
theorem il_6_50 : lk iT 6 50 = some 1000000 := rfl
set_option maxRecDepth 100000 in
theorem ml_6_51 : lk mT 6 51 = some (1, F_Machine_after) := rfl
set_option maxRecDepth 100000 in
theorem ml_6_55 : lk mT 6 55 = some (1, F_Machine_ruleAt) := rfl
set_option maxRecDepth 100000 in
theorem ml_6_59 : lk mT 6 59 = some (1, F_Rules_has) := rfl
set_option maxRecDepth 100000 in
theorem fl_6_65 : lk fT 6 65 = some (9, 0) := by decide +kernel
set_option maxRecDepth 100000 in
theorem fl_6_69 : lk fT 6 69 = some (8, 0) := by decide +kernel
set_option maxRecDepth 100000 in
theorem fl_6_75 : lk fT 6 75 = some (10, 1) := by decide +kernel
set_option maxRecDepth 100000 in
theorem ml_6_80 : lk mT 6 80 = some (4, F_Completion_begin) := rfl
set_option maxRecDepth 100000 in
theorem ml_6_85 : lk mT 6 85 = some (1, F_Reducer_note) := rfl
set_option maxRecDepth 100000 in
theorem fl_6_89 : lk fT 6 89 = some (8, 1) := by decide +kernel
set_option maxRecDepth 100000 in
theorem ml_6_92 : lk mT 6 92 = some (1, F_Reducer_write) := rfl
set_option maxRecDepth 100000 in
theorem fl_6_96 : lk fT 6 96 = some (10, 0) := by decide +kernel
set_option maxRecDepth 100000 in
theorem ml_6_99 : lk mT 6 99 = some (1, F_Word_clear) := rfl
set_option maxRecDepth 100000 in
theorem ml_6_102 : lk mT 6 102 = some (1, F_Word_add) := rfl
set_option maxRecDepth 100000 in
theorem ml_7_3 : lk mT 7 3 = some (3, F_Completion_begin) := rfl
set_option maxRecDepth 100000 in
theorem al_7_9 : lk aT 7 9 = some 12 := by decide +kernel
set_option maxRecDepth 100000 in
theorem fl_7_11 : lk fT 7 11 = some (7, 0) := by decide +kernel
set_option maxRecDepth 100000 in
theorem fl_7_17 : lk fT 7 17 = some (7, 1) := by decide +kernel
set_option maxRecDepth 100000 in
theorem fl_7_21 : lk fT 7 21 = some (7, 2) := by decide +kernel
set_option maxRecDepth 100000 in
theorem nl_7_9 : lk nT 7 9 = some 4 := by decide +kernel
set_option maxRecDepth 100000 in
theorem ml_7_24 : lk mT 7 24 = some (7, F_Pair_init) := rfl
set_option maxRecDepth 100000 in
theorem ml_7_25 : lk mT 7 25 = some (1, F_Row_at) := rfl
set_option maxRecDepth 100000 in
theorem ml_8_3 : lk mT 8 3 = some (3, F_Completion_begin) := rfl
set_option maxRecDepth 100000 in
theorem nl_8_9 : lk nT 8 9 = some 10 := by decide +kernel
set_option maxRecDepth 100000 in
theorem ml_8_11 : lk mT 8 11 = some (2, F_Word_init) := rfl
set_option maxRecDepth 100000 in
theorem fl_8_14 : lk fT 8 14 = some (8, 0) := by decide +kernel
set_option maxRecDepth 100000 in
theorem fl_8_20 : lk fT 8 20 = some (8, 1) := by decide +kernel
set_option maxRecDepth 100000 in
theorem fl_8_23 : lk fT 8 23 = some (10, 1) := by decide +kernel
set_option maxRecDepth 100000 in
theorem ml_8_27 : lk mT 8 27 = some (4, F_Completion_begin) := rfl
set_option maxRecDepth 100000 in
theorem ml_8_33 : lk mT 8 33 = some (1, F_Word_matches) := rfl
set_option maxRecDepth 100000 in
theorem ml_8_37 : lk mT 8 37 = some (1, F_Word_become) := rfl
set_option maxRecDepth 100000 in
theorem ml_8_41 : lk mT 8 41 = some (1, F_Word_append) := rfl
set_option maxRecDepth 100000 in
theorem ml_8_45 : lk mT 8 45 = some (1, F_Word_clear) := rfl
set_option maxRecDepth 100000 in
theorem ml_9_3 : lk mT 9 3 = some (3, F_Completion_begin) := rfl
set_option maxRecDepth 100000 in
theorem al_9_9 : lk aT 9 9 = some 11 := by decide +kernel
set_option maxRecDepth 100000 in
theorem fl_9_11 : lk fT 9 11 = some (9, 0) := by decide +kernel
set_option maxRecDepth 100000 in
theorem fl_9_17 : lk fT 9 17 = some (9, 3) := by decide +kernel
set_option maxRecDepth 100000 in
theorem nl_9_9 : lk nT 9 9 = some 8 := by decide +kernel
set_option maxRecDepth 100000 in
theorem ml_9_21 : lk mT 9 21 = some (7, F_Rule_init) := rfl
set_option maxRecDepth 100000 in
theorem fl_9_22 : lk fT 9 22 = some (9, 1) := by decide +kernel
set_option maxRecDepth 100000 in
theorem fl_9_26 : lk fT 9 26 = some (9, 2) := by decide +kernel
set_option maxRecDepth 100000 in
theorem ml_9_29 : lk mT 9 29 = some (1, F_Rules_has) := rfl
set_option maxRecDepth 100000 in
theorem fl_9_33 : lk fT 9 33 = some (8, 2) := by decide +kernel
set_option maxRecDepth 100000 in
theorem fl_9_36 : lk fT 9 36 = some (8, 0) := by decide +kernel
set_option maxRecDepth 100000 in
theorem fl_9_40 : lk fT 9 40 = some (10, 1) := by decide +kernel
set_option maxRecDepth 100000 in
theorem ml_9_45 : lk mT 9 45 = some (1, F_Word_become) := rfl
set_option maxRecDepth 100000 in
theorem fl_9_49 : lk fT 9 49 = some (8, 1) := by decide +kernel
set_option maxRecDepth 100000 in
theorem ml_10_3 : lk mT 10 3 = some (3, F_Completion_begin) := rfl
set_option maxRecDepth 100000 in
theorem ml_10_9 : lk mT 10 9 = some (5, F_Completion_begin) := rfl
set_option maxRecDepth 100000 in
theorem fl_10_15 : lk fT 10 15 = some (10, 0) := by decide +kernel
set_option maxRecDepth 100000 in
theorem fl_10_21 : lk fT 10 21 = some (10, 1) := by decide +kernel
set_option maxRecDepth 100000 in
theorem ml_10_25 : lk mT 10 25 = some (1, F_Word_matches) := rfl
set_option maxRecDepth 100000 in
theorem ml_11_3 : lk mT 11 3 = some (3, F_Completion_begin) := rfl
set_option maxRecDepth 100000 in
theorem fl_11_9 : lk fT 11 9 = some (11, 0) := by decide +kernel
set_option maxRecDepth 100000 in
theorem fl_11_13 : lk fT 11 13 = some (11, 3) := by decide +kernel
set_option maxRecDepth 100000 in
theorem nl_11_17 : lk nT 11 17 = some 5 := by decide +kernel
set_option maxRecDepth 100000 in
theorem ml_11_19 : lk mT 11 19 = some (7, F_Presentation_init) := rfl
set_option maxRecDepth 100000 in
theorem fl_11_20 : lk fT 11 20 = some (11, 4) := by decide +kernel
set_option maxRecDepth 100000 in
theorem al_11_24 : lk aT 11 24 = some 10 := by decide +kernel
set_option maxRecDepth 100000 in
theorem fl_11_26 : lk fT 11 26 = some (11, 5) := by decide +kernel
set_option maxRecDepth 100000 in
theorem nl_11_30 : lk nT 11 30 = some 9 := by decide +kernel
set_option maxRecDepth 100000 in
theorem ml_11_32 : lk mT 11 32 = some (2, F_Rules_init) := rfl
set_option maxRecDepth 100000 in
theorem fl_11_33 : lk fT 11 33 = some (11, 6) := by decide +kernel
set_option maxRecDepth 100000 in
theorem nl_11_37 : lk nT 11 37 = some 7 := by decide +kernel
set_option maxRecDepth 100000 in
theorem ml_11_39 : lk mT 11 39 = some (7, F_Row_init) := rfl
set_option maxRecDepth 100000 in
theorem fl_11_40 : lk fT 11 40 = some (11, 7) := by decide +kernel
set_option maxRecDepth 100000 in
theorem nl_11_44 : lk nT 11 44 = some 3 := by decide +kernel
set_option maxRecDepth 100000 in
theorem ml_11_46 : lk mT 11 46 = some (7, F_Machine_init) := rfl
set_option maxRecDepth 100000 in
theorem fl_11_47 : lk fT 11 47 = some (11, 8) := by decide +kernel
set_option maxRecDepth 100000 in
theorem nl_11_51 : lk nT 11 51 = some 6 := by decide +kernel
set_option maxRecDepth 100000 in
theorem ml_11_53 : lk mT 11 53 = some (2, F_Reducer_init) := rfl
set_option maxRecDepth 100000 in
theorem fl_11_56 : lk fT 11 56 = some (11, 9) := by decide +kernel
set_option maxRecDepth 100000 in
theorem nl_11_60 : lk nT 11 60 = some 0 := by decide +kernel
set_option maxRecDepth 100000 in
theorem ml_11_62 : lk mT 11 62 = some (2, F_Completion_init) := rfl
set_option maxRecDepth 100000 in
theorem fl_11_65 : lk fT 11 65 = some (11, 10) := by decide +kernel
set_option maxRecDepth 100000 in
theorem nl_11_69 : lk nT 11 69 = some 2 := by decide +kernel
set_option maxRecDepth 100000 in
theorem ml_11_71 : lk mT 11 71 = some (2, F_Finder_init) := rfl
set_option maxRecDepth 100000 in
theorem fl_11_74 : lk fT 11 74 = some (11, 11) := by decide +kernel
set_option maxRecDepth 100000 in
theorem nl_11_78 : lk nT 11 78 = some 1 := by decide +kernel
set_option maxRecDepth 100000 in
theorem ml_11_80 : lk mT 11 80 = some (2, F_Elements_init) := rfl
set_option maxRecDepth 100000 in
theorem fl_11_81 : lk fT 11 81 = some (11, 12) := by decide +kernel
set_option maxRecDepth 100000 in
theorem fl_11_85 : lk fT 11 85 = some (11, 13) := by decide +kernel
set_option maxRecDepth 100000 in
theorem fl_11_88 : lk fT 11 88 = some (11, 14) := by decide +kernel
set_option maxRecDepth 100000 in
theorem nl_11_24 : lk nT 11 24 = some 10 := by decide +kernel
set_option maxRecDepth 100000 in
theorem ml_11_91 : lk mT 11 91 = some (2, F_Word_init) := rfl
set_option maxRecDepth 100000 in
theorem fl_11_94 : lk fT 11 94 = some (11, 16) := by decide +kernel
set_option maxRecDepth 100000 in
theorem fl_11_98 : lk fT 11 98 = some (11, 17) := by decide +kernel
set_option maxRecDepth 100000 in
theorem fl_11_101 : lk fT 11 101 = some (11, 18) := by decide +kernel
set_option maxRecDepth 100000 in
theorem fl_11_104 : lk fT 11 104 = some (11, 19) := by decide +kernel
set_option maxRecDepth 100000 in
theorem fl_11_107 : lk fT 11 107 = some (11, 1) := by decide +kernel
set_option maxRecDepth 100000 in
theorem ml_11_111 : lk mT 11 111 = some (1, F_Presentation_takeSystem) := rfl
set_option maxRecDepth 100000 in
theorem ml_11_115 : lk mT 11 115 = some (1, F_Mr_tellFault) := rfl
set_option maxRecDepth 100000 in
theorem ml_11_119 : lk mT 11 119 = some (1, F_Mr_beginSystem) := rfl
set_option maxRecDepth 100000 in
theorem fl_11_122 : lk fT 11 122 = some (5, 2) := by decide +kernel
set_option maxRecDepth 100000 in
theorem ml_11_125 : lk mT 11 125 = some (0, F_Mr_isSlot) := rfl
set_option maxRecDepth 100000 in
theorem ml_11_129 : lk mT 11 129 = some (1, F_Presentation_takeSlotWord) := rfl
set_option maxRecDepth 100000 in
theorem fl_11_133 : lk fT 11 133 = some (5, 3) := by decide +kernel
set_option maxRecDepth 100000 in
theorem ml_11_136 : lk mT 11 136 = some (1, F_Word_become) := rfl
set_option maxRecDepth 100000 in
theorem fl_11_140 : lk fT 11 140 = some (10, 1) := by decide +kernel
set_option maxRecDepth 100000 in
theorem fl_11_143 : lk fT 11 143 = some (11, 2) := by decide +kernel
set_option maxRecDepth 100000 in
theorem fl_11_146 : lk fT 11 146 = some (5, 8) := by decide +kernel
set_option maxRecDepth 100000 in
theorem fl_11_149 : lk fT 11 149 = some (5, 9) := by decide +kernel
set_option maxRecDepth 100000 in
theorem fl_11_152 : lk fT 11 152 = some (5, 0) := by decide +kernel
set_option maxRecDepth 100000 in
theorem ml_11_155 : lk mT 11 155 = some (6, F_Completion_begin) := rfl
set_option maxRecDepth 100000 in
theorem ml_11_161 : lk mT 11 161 = some (1, F_Word_clear) := rfl
set_option maxRecDepth 100000 in
theorem fl_11_164 : lk fT 11 164 = some (5, 1) := by decide +kernel
set_option maxRecDepth 100000 in
theorem ml_11_167 : lk mT 11 167 = some (1, F_Rules_begin) := rfl
set_option maxRecDepth 100000 in
theorem ml_11_170 : lk mT 11 170 = some (1, F_Row_clear) := rfl
set_option maxRecDepth 100000 in
theorem ml_11_171 : lk mT 11 171 = some (1, F_Row_behind) := rfl
set_option maxRecDepth 100000 in
theorem fl_11_175 : lk fT 11 175 = some (4, 0) := by decide +kernel
set_option maxRecDepth 100000 in
theorem ml_11_178 : lk mT 11 178 = some (1, F_Presentation_copyWord) := rfl
set_option maxRecDepth 100000 in
theorem fl_11_182 : lk fT 11 182 = some (4, 1) := by decide +kernel
set_option maxRecDepth 100000 in
theorem ml_11_183 : lk mT 11 183 = some (1, F_Completion_begin) := rfl
set_option maxRecDepth 100000 in
theorem ml_11_185 : lk mT 11 185 = some (1, F_Finder_begin) := rfl
set_option maxRecDepth 100000 in
theorem ml_11_186 : lk mT 11 186 = some (1, F_Elements_begin) := rfl
set_option maxRecDepth 100000 in
theorem fl_11_187 : lk fT 11 187 = some (11, 15) := by decide +kernel
set_option maxRecDepth 100000 in
theorem ml_11_190 : lk mT 11 190 = some (1, F_Completion_canTreat) := rfl
set_option maxRecDepth 100000 in
theorem ml_11_194 : lk mT 11 194 = some (1, F_Completion_treat) := rfl
set_option maxRecDepth 100000 in
theorem ml_11_197 : lk mT 11 197 = some (1, F_Finder_forgetAnswer) := rfl
set_option maxRecDepth 100000 in
theorem fl_11_200 : lk fT 11 200 = some (0, 7) := by decide +kernel
set_option maxRecDepth 100000 in
theorem ml_11_204 : lk mT 11 204 = some (1, F_Completion_isDone) := rfl
set_option maxRecDepth 100000 in
theorem fl_11_207 : lk fT 11 207 = some (9, 2) := by decide +kernel
set_option maxRecDepth 100000 in
theorem fl_11_208 : lk fT 11 208 = some (9, 1) := by decide +kernel
set_option maxRecDepth 100000 in
theorem ml_11_211 : lk mT 11 211 = some (1, F_Rules_liveOnes) := rfl
set_option maxRecDepth 100000 in
theorem fl_11_214 : lk fT 11 214 = some (7, 2) := by decide +kernel
set_option maxRecDepth 100000 in
theorem fl_11_217 : lk fT 11 217 = some (0, 5) := by decide +kernel
set_option maxRecDepth 100000 in
theorem fl_11_220 : lk fT 11 220 = some (0, 6) := by decide +kernel
set_option maxRecDepth 100000 in
theorem ml_11_223 : lk mT 11 223 = some (1, F_Rules_has) := rfl
set_option maxRecDepth 100000 in
theorem fl_11_226 : lk fT 11 226 = some (9, 0) := by decide +kernel
set_option maxRecDepth 100000 in
theorem fl_11_230 : lk fT 11 230 = some (8, 2) := by decide +kernel
set_option maxRecDepth 100000 in
theorem fl_11_235 : lk fT 11 235 = some (8, 0) := by decide +kernel
set_option maxRecDepth 100000 in
theorem fl_11_238 : lk fT 11 238 = some (8, 1) := by decide +kernel
set_option maxRecDepth 100000 in
theorem ml_11_241 : lk mT 11 241 = some (0, F_Mr_isSide) := rfl
set_option maxRecDepth 100000 in
theorem ml_11_244 : lk mT 11 244 = some (1, F_Word_at) := rfl
set_option maxRecDepth 100000 in
theorem ml_11_248 : lk mT 11 248 = some (1, F_Row_at) := rfl
set_option maxRecDepth 100000 in
theorem ml_11_251 : lk mT 11 251 = some (1, F_Finder_find) := rfl
set_option maxRecDepth 100000 in
theorem fl_11_254 : lk fT 11 254 = some (2, 6) := by decide +kernel
set_option maxRecDepth 100000 in
theorem fl_11_257 : lk fT 11 257 = some (2, 7) := by decide +kernel
set_option maxRecDepth 100000 in
theorem fl_11_260 : lk fT 11 260 = some (2, 8) := by decide +kernel
set_option maxRecDepth 100000 in
theorem fl_11_263 : lk fT 11 263 = some (2, 9) := by decide +kernel
set_option maxRecDepth 100000 in
theorem ml_11_266 : lk mT 11 266 = some (1, F_Word_append) := rfl
set_option maxRecDepth 100000 in
theorem ml_11_270 : lk mT 11 270 = some (1, F_Reducer_toForm) := rfl
set_option maxRecDepth 100000 in
theorem fl_11_274 : lk fT 11 274 = some (6, 7) := by decide +kernel
set_option maxRecDepth 100000 in
theorem ml_11_275 : lk mT 11 275 = some (4, F_Completion_begin) := rfl
set_option maxRecDepth 100000 in
theorem fl_11_281 : lk fT 11 281 = some (6, 5) := by decide +kernel
set_option maxRecDepth 100000 in
theorem fl_11_284 : lk fT 11 284 = some (6, 6) := by decide +kernel
set_option maxRecDepth 100000 in
theorem ml_11_287 : lk mT 11 287 = some (1, F_Word_against) := rfl
set_option maxRecDepth 100000 in
theorem ll_11_291 : lk lT 11 291 = some (-2) := rfl
set_option maxRecDepth 100000 in
theorem ll_11_293 : lk lT 11 293 = some (-3) := rfl
set_option maxRecDepth 100000 in
theorem ml_11_295 : lk mT 11 295 = some (1, F_Elements_ofLength) := rfl
set_option maxRecDepth 100000 in
theorem ll_11_299 : lk lT 11 299 = some 1000000000000000 := rfl
set_option maxRecDepth 100000 in
theorem ll_11_301 : lk lT 11 301 = some (-4) := rfl
set_option maxRecDepth 100000 in
theorem ml_11_303 : lk mT 11 303 = some (1, F_Elements_total) := rfl
set_option maxRecDepth 100000 in
theorem ml_11_307 : lk mT 11 307 = some (1, F_Elements_spell) := rfl
set_option maxRecDepth 100000 in
theorem ml_11_311 : lk mT 11 311 = some (1, F_Mr_formNumber) := rfl
set_option maxRecDepth 100000 in
theorem ml_11_314 : lk mT 11 314 = some (1, F_Mr_multiply) := rfl
set_option maxRecDepth 100000 in
theorem ml_11_318 : lk mT 11 318 = some (1, F_Mr_earlierPower) := rfl
set_option maxRecDepth 100000 in
theorem ml_11_321 : lk mT 11 321 = some (1, F_Mr_lettersCommute) := rfl
set_option maxRecDepth 100000 in
theorem ml_11_325 : lk mT 11 325 = some (1, F_Word_add) := rfl
set_option maxRecDepth 100000 in
theorem ml_11_328 : lk mT 11 328 = some (1, F_Elements_rank) := rfl
set_option maxRecDepth 100000 in
theorem ll_11_332 : lk lT 11 332 = some 2147483647 := rfl
set_option maxRecDepth 100000 in
theorem fl_12_1 : lk fT 12 1 = some (12, 0) := by decide +kernel
set_option maxRecDepth 100000 in
theorem ll_12_7 : lk lT 12 7 = some 8 := rfl
set_option maxRecDepth 100000 in
theorem ml_12_9 : lk mT 12 9 = some (0, F_Md_in) := rfl
set_option maxRecDepth 100000 in
theorem fl_12_13 : lk fT 12 13 = some (12, 2) := by decide +kernel
set_option maxRecDepth 100000 in
theorem fl_12_16 : lk fT 12 16 = some (12, 1) := by decide +kernel
set_option maxRecDepth 100000 in
theorem ll_12_20 : lk lT 12 20 = some 255 := rfl
set_option maxRecDepth 100000 in
theorem fl_12_22 : lk fT 12 22 = some (12, 4) := by decide +kernel
set_option maxRecDepth 100000 in
theorem fl_12_25 : lk fT 12 25 = some (12, 3) := by decide +kernel
set_option maxRecDepth 100000 in
theorem fl_12_28 : lk fT 12 28 = some (12, 5) := by decide +kernel
set_option maxRecDepth 100000 in
theorem fl_12_31 : lk fT 12 31 = some (12, 6) := by decide +kernel
set_option maxRecDepth 100000 in
theorem fl_12_34 : lk fT 12 34 = some (12, 10) := by decide +kernel
set_option maxRecDepth 100000 in
theorem fl_12_37 : lk fT 12 37 = some (12, 8) := by decide +kernel
set_option maxRecDepth 100000 in
theorem ml_12_40 : lk mT 12 40 = some (1, F_Md_here) := rfl
set_option maxRecDepth 100000 in
theorem ml_12_44 : lk mT 12 44 = some (0, F_Md_isLetter) := rfl
set_option maxRecDepth 100000 in
theorem ml_12_48 : lk mT 12 48 = some (1, F_Md_bad) := rfl
set_option maxRecDepth 100000 in
theorem fl_12_52 : lk fT 12 52 = some (12, 14) := by decide +kernel
set_option maxRecDepth 100000 in
theorem fl_12_55 : lk fT 12 55 = some (12, 12) := by decide +kernel
set_option maxRecDepth 100000 in
theorem ml_12_58 : lk mT 12 58 = some (1, F_Md_readWord) := rfl
set_option maxRecDepth 100000 in
theorem fl_12_62 : lk fT 12 62 = some (12, 13) := by decide +kernel
set_option maxRecDepth 100000 in
theorem fl_12_65 : lk fT 12 65 = some (12, 7) := by decide +kernel
set_option maxRecDepth 100000 in
theorem ml_12_68 : lk mT 12 68 = some (1, F_Md_begin) := rfl
set_option maxRecDepth 100000 in
theorem ml_12_72 : lk mT 12 72 = some (1, F_Md_readLetters) := rfl
set_option maxRecDepth 100000 in
theorem ml_12_75 : lk mT 12 75 = some (1, F_Md_readEquations) := rfl
set_option maxRecDepth 100000 in
theorem ml_12_78 : lk mT 12 78 = some (1, F_Md_faulty) := rfl
set_option maxRecDepth 100000 in
theorem fl_12_81 : lk fT 12 81 = some (12, 11) := by decide +kernel
set_option maxRecDepth 100000 in
theorem fl_12_84 : lk fT 12 84 = some (12, 9) := by decide +kernel
set_option maxRecDepth 100000 in
theorem fl_12_87 : lk fT 12 87 = some (12, 21) := by decide +kernel
set_option maxRecDepth 100000 in
theorem fl_12_90 : lk fT 12 90 = some (12, 24) := by decide +kernel
set_option maxRecDepth 100000 in
theorem fl_12_93 : lk fT 12 93 = some (12, 25) := by decide +kernel
set_option maxRecDepth 100000 in
theorem fl_12_96 : lk fT 12 96 = some (12, 26) := by decide +kernel
set_option maxRecDepth 100000 in
theorem fl_12_99 : lk fT 12 99 = some (12, 27) := by decide +kernel
set_option maxRecDepth 100000 in
theorem fl_12_102 : lk fT 12 102 = some (12, 28) := by decide +kernel
set_option maxRecDepth 100000 in
theorem fl_12_106 : lk fT 12 106 = some (12, 52) := by decide +kernel
set_option maxRecDepth 100000 in
theorem fl_12_109 : lk fT 12 109 = some (12, 36) := by decide +kernel
set_option maxRecDepth 100000 in
theorem fl_12_112 : lk fT 12 112 = some (12, 39) := by decide +kernel
set_option maxRecDepth 100000 in
theorem fl_12_115 : lk fT 12 115 = some (12, 43) := by decide +kernel
set_option maxRecDepth 100000 in
theorem fl_12_118 : lk fT 12 118 = some (12, 23) := by decide +kernel
set_option maxRecDepth 100000 in
theorem fl_12_121 : lk fT 12 121 = some (12, 22) := by decide +kernel
set_option maxRecDepth 100000 in
theorem ll_12_124 : lk lT 12 124 = some 7 := rfl
set_option maxRecDepth 100000 in
theorem ml_12_126 : lk mT 12 126 = some (0, F_Md_isSlot) := rfl
set_option maxRecDepth 100000 in
theorem fl_12_129 : lk fT 12 129 = some (12, 15) := by decide +kernel
set_option maxRecDepth 100000 in
theorem fl_12_132 : lk fT 12 132 = some (12, 42) := by decide +kernel
set_option maxRecDepth 100000 in
theorem ml_12_135 : lk mT 12 135 = some (3, F_Completion_begin) := rfl
set_option maxRecDepth 100000 in
theorem fl_12_140 : lk fT 12 140 = some (12, 16) := by decide +kernel
set_option maxRecDepth 100000 in
theorem fl_12_143 : lk fT 12 143 = some (12, 17) := by decide +kernel
set_option maxRecDepth 100000 in
theorem fl_12_146 : lk fT 12 146 = some (12, 18) := by decide +kernel
set_option maxRecDepth 100000 in
theorem fl_12_149 : lk fT 12 149 = some (12, 19) := by decide +kernel
set_option maxRecDepth 100000 in
theorem fl_12_152 : lk fT 12 152 = some (12, 20) := by decide +kernel
set_option maxRecDepth 100000 in
theorem il_12_156 : lk iT 12 156 = some 240000 := rfl
set_option maxRecDepth 100000 in
theorem fl_12_157 : lk fT 12 157 = some (12, 29) := by decide +kernel
set_option maxRecDepth 100000 in
theorem fl_12_160 : lk fT 12 160 = some (12, 30) := by decide +kernel
set_option maxRecDepth 100000 in
theorem fl_12_163 : lk fT 12 163 = some (12, 32) := by decide +kernel
set_option maxRecDepth 100000 in
theorem fl_12_166 : lk fT 12 166 = some (12, 33) := by decide +kernel
set_option maxRecDepth 100000 in
theorem fl_12_169 : lk fT 12 169 = some (12, 34) := by decide +kernel
set_option maxRecDepth 100000 in
theorem fl_12_172 : lk fT 12 172 = some (12, 35) := by decide +kernel
set_option maxRecDepth 100000 in
theorem il_12_175 : lk iT 12 175 = some 96008 := rfl
set_option maxRecDepth 100000 in
theorem fl_12_176 : lk fT 12 176 = some (12, 44) := by decide +kernel
set_option maxRecDepth 100000 in
theorem fl_12_179 : lk fT 12 179 = some (12, 45) := by decide +kernel
set_option maxRecDepth 100000 in
theorem fl_12_182 : lk fT 12 182 = some (12, 46) := by decide +kernel
set_option maxRecDepth 100000 in
theorem fl_12_185 : lk fT 12 185 = some (12, 47) := by decide +kernel
set_option maxRecDepth 100000 in
theorem fl_12_188 : lk fT 12 188 = some (12, 48) := by decide +kernel
set_option maxRecDepth 100000 in
theorem il_12_191 : lk iT 12 191 = some 972081 := rfl
set_option maxRecDepth 100000 in
theorem fl_12_192 : lk fT 12 192 = some (12, 49) := by decide +kernel
set_option maxRecDepth 100000 in
theorem fl_12_196 : lk fT 12 196 = some (12, 50) := by decide +kernel
set_option maxRecDepth 100000 in
theorem fl_12_199 : lk fT 12 199 = some (12, 55) := by decide +kernel
set_option maxRecDepth 100000 in
theorem ml_12_202 : lk mT 12 202 = some (1, F_Md_ends) := rfl
set_option maxRecDepth 100000 in
theorem fl_12_206 : lk fT 12 206 = some (12, 31) := by decide +kernel
set_option maxRecDepth 100000 in
theorem ml_12_209 : lk mT 12 209 = some (1, F_Md_endsAt) := rfl
set_option maxRecDepth 100000 in
theorem ml_12_213 : lk mT 12 213 = some (1, F_Md_shrink) := rfl
set_option maxRecDepth 100000 in
theorem ml_12_216 : lk mT 12 216 = some (1, F_Md_standsIn) := rfl
set_option maxRecDepth 100000 in
theorem ml_12_220 : lk mT 12 220 = some (1, F_Md_waits) := rfl
set_option maxRecDepth 100000 in
theorem ml_12_224 : lk mT 12 224 = some (1, F_Md_form) := rfl
set_option maxRecDepth 100000 in
theorem fl_12_227 : lk fT 12 227 = some (12, 37) := by decide +kernel
set_option maxRecDepth 100000 in
theorem fl_12_230 : lk fT 12 230 = some (12, 38) := by decide +kernel
set_option maxRecDepth 100000 in
theorem ml_12_233 : lk mT 12 233 = some (1, F_Md_overlaps) := rfl
set_option maxRecDepth 100000 in
theorem ml_12_237 : lk mT 12 237 = some (0, F_Md_greater) := rfl
set_option maxRecDepth 100000 in
theorem ml_12_241 : lk mT 12 241 = some (1, F_Md_isMade) := rfl
set_option maxRecDepth 100000 in
theorem ml_12_244 : lk mT 12 244 = some (1, F_Md_dropOlder) := rfl
set_option maxRecDepth 100000 in
theorem ml_12_247 : lk mT 12 247 = some (1, F_Md_shortenOlder) := rfl
set_option maxRecDepth 100000 in
theorem ml_12_250 : lk mT 12 250 = some (1, F_Md_overlapAll) := rfl
set_option maxRecDepth 100000 in
theorem ll_12_253 : lk lT 12 253 = some 500 := rfl
set_option maxRecDepth 100000 in
theorem ml_12_255 : lk mT 12 255 = some (1, F_Md_treat) := rfl
set_option maxRecDepth 100000 in
theorem ml_12_258 : lk mT 12 258 = some (1, F_Md_live) := rfl
set_option maxRecDepth 100000 in
theorem ml_12_261 : lk mT 12 261 = some (1, F_Md_isComplete) := rfl
set_option maxRecDepth 100000 in
theorem ml_12_265 : lk mT 12 265 = some (1, F_Md_isRule) := rfl
set_option maxRecDepth 100000 in
theorem ll_12_268 : lk lT 12 268 = some 2 := rfl
set_option maxRecDepth 100000 in
theorem fl_12_270 : lk fT 12 270 = some (12, 40) := by decide +kernel
set_option maxRecDepth 100000 in
theorem fl_12_273 : lk fT 12 273 = some (12, 41) := by decide +kernel
set_option maxRecDepth 100000 in
theorem ml_12_276 : lk mT 12 276 = some (1, F_Md_takeOne) := rfl
set_option maxRecDepth 100000 in
theorem ml_12_280 : lk mT 12 280 = some (1, F_Md_toSlot) := rfl
set_option maxRecDepth 100000 in
theorem fl_12_283 : lk fT 12 283 = some (12, 51) := by decide +kernel
set_option maxRecDepth 100000 in
theorem ml_12_286 : lk mT 12 286 = some (1, F_Md_node) := rfl
set_option maxRecDepth 100000 in
theorem ll_12_289 : lk lT 12 289 = some 1000000000000000 := rfl
set_option maxRecDepth 100000 in
theorem ll_12_291 : lk lT 12 291 = some 1000000000000001 := rfl
set_option maxRecDepth 100000 in
theorem ml_12_293 : lk mT 12 293 = some (0, F_Md_sum) := rfl
set_option maxRecDepth 100000 in
theorem ll_12_297 : lk lT 12 297 = some (-1) := rfl
set_option maxRecDepth 100000 in
theorem fl_12_299 : lk fT 12 299 = some (12, 53) := by decide +kernel
set_option maxRecDepth 100000 in
theorem fl_12_302 : lk fT 12 302 = some (12, 54) := by decide +kernel
set_option maxRecDepth 100000 in
theorem ml_12_306 : lk mT 12 306 = some (1, F_Md_layTree) := rfl
set_option maxRecDepth 100000 in
theorem ml_12_309 : lk mT 12 309 = some (1, F_Md_countWays) := rfl
set_option maxRecDepth 100000 in
theorem ml_12_312 : lk mT 12 312 = some (1, F_Md_countAll) := rfl
set_option maxRecDepth 100000 in
theorem ll_12_315 : lk lT 12 315 = some 80 := rfl
set_option maxRecDepth 100000 in
theorem ll_12_317 : lk lT 12 317 = some (-2) := rfl
set_option maxRecDepth 100000 in
theorem ll_12_319 : lk lT 12 319 = some (-3) := rfl
set_option maxRecDepth 100000 in
theorem ml_12_321 : lk mT 12 321 = some (1, F_Md_counted) := rfl
set_option maxRecDepth 100000 in
theorem ll_12_324 : lk lT 12 324 = some (-4) := rfl
set_option maxRecDepth 100000 in
theorem ll_12_326 : lk lT 12 326 = some (-5) := rfl
set_option maxRecDepth 100000 in
theorem ml_12_328 : lk mT 12 328 = some (1, F_Md_isElement) := rfl
set_option maxRecDepth 100000 in
theorem ml_12_331 : lk mT 12 331 = some (1, F_Md_layElement) := rfl
set_option maxRecDepth 100000 in
theorem ll_12_335 : lk lT 12 335 = some 2147483647 := rfl
set_option maxRecDepth 100000 in
theorem ml_12_337 : lk mT 12 337 = some (1, F_Md_numberOf) := rfl
set_option maxRecDepth 100000 in
theorem ml_12_341 : lk mT 12 341 = some (1, F_Md_productOf) := rfl
set_option maxRecDepth 100000 in
theorem nl_13_7 : lk nT 13 7 = some 11 := by decide +kernel
set_option maxRecDepth 100000 in
theorem ml_13_9 : lk mT 13 9 = some (2, F_Mr_init) := rfl
set_option maxRecDepth 100000 in
theorem nl_13_10 : lk nT 13 10 = some 12 := by decide +kernel
set_option maxRecDepth 100000 in
theorem ml_13_12 : lk mT 13 12 = some (2, F_Md_init) := rfl
set_option maxRecDepth 100000 in
theorem ll_13_13 : lk lT 13 13 = some 4294967295 := rfl
set_option maxRecDepth 100000 in
theorem ml_13_15 : lk mT 13 15 = some (1, F_Mr_feed) := rfl
set_option maxRecDepth 100000 in
theorem ml_13_19 : lk mT 13 19 = some (1, F_Md_feed) := rfl
set_option maxRecDepth 100000 in
theorem ml_13_20 : lk mT 13 20 = some (1, F_Mr_read) := rfl
set_option maxRecDepth 100000 in
theorem ml_13_24 : lk mT 13 24 = some (1, F_Md_read) := rfl
set_option maxRecDepth 100000 in
theorem ml_13_25 : lk mT 13 25 = some (1, F_Mr_word) := rfl
set_option maxRecDepth 100000 in
theorem ml_13_29 : lk mT 13 29 = some (1, F_Md_word) := rfl
set_option maxRecDepth 100000 in
theorem ml_13_30 : lk mT 13 30 = some (1, F_Mr_fault) := rfl
set_option maxRecDepth 100000 in
theorem ml_13_33 : lk mT 13 33 = some (1, F_Md_fault) := rfl
set_option maxRecDepth 100000 in
theorem ml_13_34 : lk mT 13 34 = some (1, F_Mr_complete) := rfl
set_option maxRecDepth 100000 in
theorem ml_13_37 : lk mT 13 37 = some (1, F_Md_complete) := rfl
set_option maxRecDepth 100000 in
theorem ml_13_38 : lk mT 13 38 = some (1, F_Mr_count) := rfl
set_option maxRecDepth 100000 in
theorem ml_13_41 : lk mT 13 41 = some (1, F_Md_count) := rfl
set_option maxRecDepth 100000 in
theorem ml_13_42 : lk mT 13 42 = some (1, F_Mr_rule) := rfl
set_option maxRecDepth 100000 in
theorem ml_13_46 : lk mT 13 46 = some (1, F_Md_rule) := rfl
set_option maxRecDepth 100000 in
theorem ml_13_47 : lk mT 13 47 = some (1, F_Mr_ruleLetter) := rfl
set_option maxRecDepth 100000 in
theorem ml_13_51 : lk mT 13 51 = some (1, F_Md_ruleLetter) := rfl
set_option maxRecDepth 100000 in
theorem ml_13_52 : lk mT 13 52 = some (1, F_Mr_waiting) := rfl
set_option maxRecDepth 100000 in
theorem ml_13_55 : lk mT 13 55 = some (1, F_Md_waiting) := rfl
set_option maxRecDepth 100000 in
theorem ml_13_56 : lk mT 13 56 = some (1, F_Mr_open) := rfl
set_option maxRecDepth 100000 in
theorem ml_13_59 : lk mT 13 59 = some (1, F_Md_open) := rfl
set_option maxRecDepth 100000 in
theorem ml_13_60 : lk mT 13 60 = some (1, F_Mr_overlap) := rfl
set_option maxRecDepth 100000 in
theorem ml_13_63 : lk mT 13 63 = some (1, F_Md_overlap) := rfl
set_option maxRecDepth 100000 in
theorem ml_13_64 : lk mT 13 64 = some (1, F_Mr_length) := rfl
set_option maxRecDepth 100000 in
theorem ml_13_67 : lk mT 13 67 = some (1, F_Md_length) := rfl
set_option maxRecDepth 100000 in
theorem ml_13_68 : lk mT 13 68 = some (1, F_Mr_letter) := rfl
set_option maxRecDepth 100000 in
theorem ml_13_71 : lk mT 13 71 = some (1, F_Md_letter) := rfl
set_option maxRecDepth 100000 in
theorem ml_13_72 : lk mT 13 72 = some (1, F_Mr_join) := rfl
set_option maxRecDepth 100000 in
theorem ml_13_75 : lk mT 13 75 = some (1, F_Md_join) := rfl
set_option maxRecDepth 100000 in
theorem ml_13_76 : lk mT 13 76 = some (1, F_Mr_reduce) := rfl
set_option maxRecDepth 100000 in
theorem ml_13_79 : lk mT 13 79 = some (1, F_Md_reduce) := rfl
set_option maxRecDepth 100000 in
theorem ml_13_80 : lk mT 13 80 = some (1, F_Mr_step) := rfl
set_option maxRecDepth 100000 in
theorem ml_13_83 : lk mT 13 83 = some (1, F_Md_step) := rfl
set_option maxRecDepth 100000 in
theorem ml_13_84 : lk mT 13 84 = some (1, F_Mr_same) := rfl
set_option maxRecDepth 100000 in
theorem ml_13_87 : lk mT 13 87 = some (1, F_Md_same) := rfl
set_option maxRecDepth 100000 in
theorem ml_13_88 : lk mT 13 88 = some (1, F_Mr_compare) := rfl
set_option maxRecDepth 100000 in
theorem ml_13_91 : lk mT 13 91 = some (1, F_Md_compare) := rfl
set_option maxRecDepth 100000 in
theorem ml_13_92 : lk mT 13 92 = some (1, F_Mr_many) := rfl
set_option maxRecDepth 100000 in
theorem ml_13_96 : lk mT 13 96 = some (1, F_Md_many) := rfl
set_option maxRecDepth 100000 in
theorem ml_13_97 : lk mT 13 97 = some (1, F_Mr_size) := rfl
set_option maxRecDepth 100000 in
theorem ml_13_101 : lk mT 13 101 = some (1, F_Md_size) := rfl
set_option maxRecDepth 100000 in
theorem ml_13_102 : lk mT 13 102 = some (1, F_Mr_element) := rfl
set_option maxRecDepth 100000 in
theorem ml_13_105 : lk mT 13 105 = some (1, F_Md_element) := rfl
set_option maxRecDepth 100000 in
theorem ml_13_106 : lk mT 13 106 = some (1, F_Mr_number) := rfl
set_option maxRecDepth 100000 in
theorem ml_13_109 : lk mT 13 109 = some (1, F_Md_number) := rfl
set_option maxRecDepth 100000 in
theorem ml_13_110 : lk mT 13 110 = some (1, F_Mr_product) := rfl
set_option maxRecDepth 100000 in
theorem ml_13_113 : lk mT 13 113 = some (1, F_Md_product) := rfl
set_option maxRecDepth 100000 in
theorem ml_13_114 : lk mT 13 114 = some (1, F_Mr_power) := rfl
set_option maxRecDepth 100000 in
theorem ml_13_117 : lk mT 13 117 = some (1, F_Md_power) := rfl
set_option maxRecDepth 100000 in
theorem ml_13_118 : lk mT 13 118 = some (1, F_Mr_inverse) := rfl
set_option maxRecDepth 100000 in
theorem ml_13_121 : lk mT 13 121 = some (1, F_Md_inverse) := rfl
set_option maxRecDepth 100000 in
theorem ml_13_122 : lk mT 13 122 = some (1, F_Mr_commutes) := rfl
set_option maxRecDepth 100000 in
theorem ml_13_125 : lk mT 13 125 = some (1, F_Md_commutes) := rfl
