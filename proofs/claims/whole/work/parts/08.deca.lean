theorem dX0_init_0 : decode cX0_init 0 = .ok (.aload_n 0, 1) := by decide +kernel
theorem dX0_init_1 : decode cX0_init 1 = .ok (.invokespecial 1, 3) := by decide +kernel
theorem dX0_init_4 : decode cX0_init 4 = .ok (.aload_n 0, 1) := by decide +kernel
theorem dX0_init_5 : decode cX0_init 5 = .ok (.iload_n 1, 1) := by decide +kernel
theorem dX0_init_6 : decode cX0_init 6 = .ok (.putfield 7, 3) := by decide +kernel
theorem dX0_init_9 : decode cX0_init 9 = .ok (.aload_n 0, 1) := by decide +kernel
theorem dX0_init_10 : decode cX0_init 10 = .ok (.iload_n 2, 1) := by decide +kernel
theorem dX0_init_11 : decode cX0_init 11 = .ok (.putfield 13, 3) := by decide +kernel
theorem dX0_init_14 : decode cX0_init 14 = .ok (.aload_n 0, 1) := by decide +kernel
theorem dX0_init_15 : decode cX0_init 15 = .ok (.iconst 0, 1) := by decide +kernel
theorem dX0_init_16 : decode cX0_init 16 = .ok (.iload_n 3, 1) := by decide +kernel
theorem dX0_init_17 : decode cX0_init 17 = .ok (.invokestatic 16, 3) := by decide +kernel
theorem dX0_init_20 : decode cX0_init 20 = .ok (.anewarray 22, 3) := by decide +kernel
theorem dX0_init_23 : decode cX0_init 23 = .ok (.putfield 24, 3) := by decide +kernel
theorem dX0_init_26 : decode cX0_init 26 = .ok (.return_, 1) := by decide +kernel
theorem dX0_hasPlace_0 : decode cX0_hasPlace 0 = .ok (.iload_n 1, 1) := by decide +kernel
theorem dX0_hasPlace_1 : decode cX0_hasPlace 1 = .ok (.ifCond .lt 16, 3) := by decide +kernel
theorem dX0_hasPlace_4 : decode cX0_hasPlace 4 = .ok (.iload_n 1, 1) := by decide +kernel
theorem dX0_hasPlace_5 : decode cX0_hasPlace 5 = .ok (.aload_n 0, 1) := by decide +kernel
theorem dX0_hasPlace_6 : decode cX0_hasPlace 6 = .ok (.getfield 24, 3) := by decide +kernel
theorem dX0_hasPlace_9 : decode cX0_hasPlace 9 = .ok (.arraylength, 1) := by decide +kernel
theorem dX0_hasPlace_10 : decode cX0_hasPlace 10 = .ok (.if_icmp .ge 7, 3) := by decide +kernel
theorem dX0_hasPlace_13 : decode cX0_hasPlace 13 = .ok (.iconst 1, 1) := by decide +kernel
theorem dX0_hasPlace_14 : decode cX0_hasPlace 14 = .ok (.goto 4, 3) := by decide +kernel
theorem dX0_hasPlace_17 : decode cX0_hasPlace 17 = .ok (.iconst 0, 1) := by decide +kernel
theorem dX0_hasPlace_18 : decode cX0_hasPlace 18 = .ok (.ireturn, 1) := by decide +kernel
theorem dX0_isFree_0 : decode cX0_isFree 0 = .ok (.aload_n 0, 1) := by decide +kernel
theorem dX0_isFree_1 : decode cX0_isFree 1 = .ok (.iload_n 1, 1) := by decide +kernel
theorem dX0_isFree_2 : decode cX0_isFree 2 = .ok (.invokevirtual 28, 3) := by decide +kernel
theorem dX0_isFree_5 : decode cX0_isFree 5 = .ok (.ifCond .eq 16, 3) := by decide +kernel
theorem dX0_isFree_8 : decode cX0_isFree 8 = .ok (.aload_n 0, 1) := by decide +kernel
theorem dX0_isFree_9 : decode cX0_isFree 9 = .ok (.getfield 24, 3) := by decide +kernel
theorem dX0_isFree_12 : decode cX0_isFree 12 = .ok (.iload_n 1, 1) := by decide +kernel
theorem dX0_isFree_13 : decode cX0_isFree 13 = .ok (.aaload, 1) := by decide +kernel
theorem dX0_isFree_14 : decode cX0_isFree 14 = .ok (.ifnonnull 7, 3) := by decide +kernel
theorem dX0_isFree_17 : decode cX0_isFree 17 = .ok (.iconst 1, 1) := by decide +kernel
theorem dX0_isFree_18 : decode cX0_isFree 18 = .ok (.goto 4, 3) := by decide +kernel
theorem dX0_isFree_21 : decode cX0_isFree 21 = .ok (.iconst 0, 1) := by decide +kernel
theorem dX0_isFree_22 : decode cX0_isFree 22 = .ok (.ireturn, 1) := by decide +kernel
theorem dX0_at_0 : decode cX0_at 0 = .ok (.aload_n 0, 1) := by decide +kernel
theorem dX0_at_1 : decode cX0_at 1 = .ok (.iload_n 1, 1) := by decide +kernel
theorem dX0_at_2 : decode cX0_at 2 = .ok (.invokevirtual 28, 3) := by decide +kernel
theorem dX0_at_5 : decode cX0_at 5 = .ok (.ifCond .eq 12, 3) := by decide +kernel
theorem dX0_at_8 : decode cX0_at 8 = .ok (.aload_n 0, 1) := by decide +kernel
theorem dX0_at_9 : decode cX0_at 9 = .ok (.getfield 24, 3) := by decide +kernel
theorem dX0_at_12 : decode cX0_at 12 = .ok (.iload_n 1, 1) := by decide +kernel
theorem dX0_at_13 : decode cX0_at 13 = .ok (.aaload, 1) := by decide +kernel
theorem dX0_at_14 : decode cX0_at 14 = .ok (.goto 4, 3) := by decide +kernel
theorem dX0_at_17 : decode cX0_at 17 = .ok (.aconst_null, 1) := by decide +kernel
theorem dX0_at_18 : decode cX0_at 18 = .ok (.areturn, 1) := by decide +kernel
theorem dX0_set_0 : decode cX0_set 0 = .ok (.aload_n 0, 1) := by decide +kernel
theorem dX0_set_1 : decode cX0_set 1 = .ok (.iload_n 1, 1) := by decide +kernel
theorem dX0_set_2 : decode cX0_set 2 = .ok (.invokevirtual 28, 3) := by decide +kernel
theorem dX0_set_5 : decode cX0_set 5 = .ok (.ifCond .eq 10, 3) := by decide +kernel
theorem dX0_set_8 : decode cX0_set 8 = .ok (.aload_n 0, 1) := by decide +kernel
theorem dX0_set_9 : decode cX0_set 9 = .ok (.getfield 24, 3) := by decide +kernel
theorem dX0_set_12 : decode cX0_set 12 = .ok (.iload_n 1, 1) := by decide +kernel
theorem dX0_set_13 : decode cX0_set 13 = .ok (.aload_n 2, 1) := by decide +kernel
theorem dX0_set_14 : decode cX0_set 14 = .ok (.aastore, 1) := by decide +kernel
theorem dX0_set_15 : decode cX0_set 15 = .ok (.return_, 1) := by decide +kernel
theorem dX1_isKind_0 : decode cX1_isKind 0 = .ok (.iload_n 0, 1) := by decide +kernel
theorem dX1_isKind_1 : decode cX1_isKind 1 = .ok (.ifCond .lt 13, 3) := by decide +kernel
theorem dX1_isKind_4 : decode cX1_isKind 4 = .ok (.iload_n 0, 1) := by decide +kernel
theorem dX1_isKind_5 : decode cX1_isKind 5 = .ok (.bipush 24, 2) := by decide +kernel
theorem dX1_isKind_7 : decode cX1_isKind 7 = .ok (.if_icmp .ge 7, 3) := by decide +kernel
theorem dX1_isKind_10 : decode cX1_isKind 10 = .ok (.iconst 1, 1) := by decide +kernel
theorem dX1_isKind_11 : decode cX1_isKind 11 = .ok (.goto 4, 3) := by decide +kernel
theorem dX1_isKind_14 : decode cX1_isKind 14 = .ok (.iconst 0, 1) := by decide +kernel
theorem dX1_isKind_15 : decode cX1_isKind 15 = .ok (.ireturn, 1) := by decide +kernel
theorem dX1_isTrait_0 : decode cX1_isTrait 0 = .ok (.iload_n 0, 1) := by decide +kernel
theorem dX1_isTrait_1 : decode cX1_isTrait 1 = .ok (.bipush 40, 2) := by decide +kernel
theorem dX1_isTrait_3 : decode cX1_isTrait 3 = .ok (.if_icmp .lt 13, 3) := by decide +kernel
theorem dX1_isTrait_6 : decode cX1_isTrait 6 = .ok (.iload_n 0, 1) := by decide +kernel
theorem dX1_isTrait_7 : decode cX1_isTrait 7 = .ok (.bipush 49, 2) := by decide +kernel
theorem dX1_isTrait_9 : decode cX1_isTrait 9 = .ok (.if_icmp .ge 7, 3) := by decide +kernel
theorem dX1_isTrait_12 : decode cX1_isTrait 12 = .ok (.iconst 1, 1) := by decide +kernel
theorem dX1_isTrait_13 : decode cX1_isTrait 13 = .ok (.goto 4, 3) := by decide +kernel
theorem dX1_isTrait_16 : decode cX1_isTrait 16 = .ok (.iconst 0, 1) := by decide +kernel
theorem dX1_isTrait_17 : decode cX1_isTrait 17 = .ok (.ireturn, 1) := by decide +kernel
theorem dX1_isKindOrTrait_0 : decode cX1_isKindOrTrait 0 = .ok (.iload_n 0, 1) := by decide +kernel
theorem dX1_isKindOrTrait_1 : decode cX1_isKindOrTrait 1 = .ok (.invokestatic 11, 3) := by decide +kernel
theorem dX1_isKindOrTrait_4 : decode cX1_isKindOrTrait 4 = .ok (.ifCond .ne 10, 3) := by decide +kernel
theorem dX1_isKindOrTrait_7 : decode cX1_isKindOrTrait 7 = .ok (.iload_n 0, 1) := by decide +kernel
theorem dX1_isKindOrTrait_8 : decode cX1_isKindOrTrait 8 = .ok (.invokestatic 15, 3) := by decide +kernel
theorem dX1_isKindOrTrait_11 : decode cX1_isKindOrTrait 11 = .ok (.ifCond .eq 7, 3) := by decide +kernel
theorem dX1_isKindOrTrait_14 : decode cX1_isKindOrTrait 14 = .ok (.iconst 1, 1) := by decide +kernel
theorem dX1_isKindOrTrait_15 : decode cX1_isKindOrTrait 15 = .ok (.goto 4, 3) := by decide +kernel
theorem dX1_isKindOrTrait_18 : decode cX1_isKindOrTrait 18 = .ok (.iconst 0, 1) := by decide +kernel
theorem dX1_isKindOrTrait_19 : decode cX1_isKindOrTrait 19 = .ok (.ireturn, 1) := by decide +kernel
theorem dX1_isConcrete_0 : decode cX1_isConcrete 0 = .ok (.iload_n 0, 1) := by decide +kernel
theorem dX1_isConcrete_1 : decode cX1_isConcrete 1 = .ok (.invokestatic 11, 3) := by decide +kernel
theorem dX1_isConcrete_4 : decode cX1_isConcrete 4 = .ok (.ifCond .eq 17, 3) := by decide +kernel
theorem dX1_isConcrete_7 : decode cX1_isConcrete 7 = .ok (.ldc2_w 18, 3) := by decide +kernel
theorem dX1_isConcrete_10 : decode cX1_isConcrete 10 = .ok (.iload_n 0, 1) := by decide +kernel
theorem dX1_isConcrete_11 : decode cX1_isConcrete 11 = .ok (.invokestatic 20, 3) := by decide +kernel
theorem dX1_isConcrete_14 : decode cX1_isConcrete 14 = .ok (.ifCond .ne 7, 3) := by decide +kernel
theorem dX1_isConcrete_17 : decode cX1_isConcrete 17 = .ok (.iconst 1, 1) := by decide +kernel
theorem dX1_isConcrete_18 : decode cX1_isConcrete 18 = .ok (.goto 4, 3) := by decide +kernel
theorem dX1_isConcrete_21 : decode cX1_isConcrete 21 = .ok (.iconst 0, 1) := by decide +kernel
theorem dX1_isConcrete_22 : decode cX1_isConcrete 22 = .ok (.ireturn, 1) := by decide +kernel
theorem dX1_isCase_0 : decode cX1_isCase 0 = .ok (.iload_n 0, 1) := by decide +kernel
theorem dX1_isCase_1 : decode cX1_isCase 1 = .ok (.bipush 100, 2) := by decide +kernel
theorem dX1_isCase_3 : decode cX1_isCase 3 = .ok (.if_icmp .lt 17, 3) := by decide +kernel
theorem dX1_isCase_6 : decode cX1_isCase 6 = .ok (.iload_n 0, 1) := by decide +kernel
theorem dX1_isCase_7 : decode cX1_isCase 7 = .ok (.bipush 100, 2) := by decide +kernel
theorem dX1_isCase_9 : decode cX1_isCase 9 = .ok (.isub, 1) := by decide +kernel
theorem dX1_isCase_10 : decode cX1_isCase 10 = .ok (.invokestatic 24, 3) := by decide +kernel
theorem dX1_isCase_13 : decode cX1_isCase 13 = .ok (.ifCond .eq 7, 3) := by decide +kernel
theorem dX1_isCase_16 : decode cX1_isCase 16 = .ok (.iconst 1, 1) := by decide +kernel
theorem dX1_isCase_17 : decode cX1_isCase 17 = .ok (.goto 4, 3) := by decide +kernel
theorem dX1_isCase_20 : decode cX1_isCase 20 = .ok (.iconst 0, 1) := by decide +kernel
theorem dX1_isCase_21 : decode cX1_isCase 21 = .ok (.ireturn, 1) := by decide +kernel
theorem dX1_has_0 : decode cX1_has 0 = .ok (.lload_n 0, 1) := by decide +kernel
theorem dX1_has_1 : decode cX1_has 1 = .ok (.iload_n 2, 1) := by decide +kernel
theorem dX1_has_2 : decode cX1_has 2 = .ok (.lshr, 1) := by decide +kernel
theorem dX1_has_3 : decode cX1_has 3 = .ok (.lconst 1, 1) := by decide +kernel
theorem dX1_has_4 : decode cX1_has 4 = .ok (.land, 1) := by decide +kernel
theorem dX1_has_5 : decode cX1_has 5 = .ok (.lconst 0, 1) := by decide +kernel
theorem dX1_has_6 : decode cX1_has 6 = .ok (.lcmp, 1) := by decide +kernel
theorem dX1_has_7 : decode cX1_has 7 = .ok (.ifCond .eq 7, 3) := by decide +kernel
theorem dX1_has_10 : decode cX1_has 10 = .ok (.iconst 1, 1) := by decide +kernel
theorem dX1_has_11 : decode cX1_has 11 = .ok (.goto 4, 3) := by decide +kernel
theorem dX1_has_14 : decode cX1_has 14 = .ok (.iconst 0, 1) := by decide +kernel
theorem dX1_has_15 : decode cX1_has 15 = .ok (.ireturn, 1) := by decide +kernel
theorem dX1_parentOf_0 : decode cX1_parentOf 0 = .ok (.iload_n 0, 1) := by decide +kernel
theorem dX1_parentOf_1 : decode cX1_parentOf 1 = .ok (.invokestatic 11, 3) := by decide +kernel
theorem dX1_parentOf_4 : decode cX1_parentOf 4 = .ok (.ifCond .eq 11, 3) := by decide +kernel
theorem dX1_parentOf_7 : decode cX1_parentOf 7 = .ok (.getstatic 27, 3) := by decide +kernel
theorem dX1_parentOf_10 : decode cX1_parentOf 10 = .ok (.iload_n 0, 1) := by decide +kernel
theorem dX1_parentOf_11 : decode cX1_parentOf 11 = .ok (.iaload, 1) := by decide +kernel
theorem dX1_parentOf_12 : decode cX1_parentOf 12 = .ok (.goto 4, 3) := by decide +kernel
theorem dX1_parentOf_15 : decode cX1_parentOf 15 = .ok (.iconst (-1), 1) := by decide +kernel
theorem dX1_parentOf_16 : decode cX1_parentOf 16 = .ok (.ireturn, 1) := by decide +kernel
theorem dX1_namedBy_0 : decode cX1_namedBy 0 = .ok (.iload_n 0, 1) := by decide +kernel
theorem dX1_namedBy_1 : decode cX1_namedBy 1 = .ok (.invokestatic 11, 3) := by decide +kernel
theorem dX1_namedBy_4 : decode cX1_namedBy 4 = .ok (.ifCond .eq 11, 3) := by decide +kernel
theorem dX1_namedBy_7 : decode cX1_namedBy 7 = .ok (.getstatic 31, 3) := by decide +kernel
theorem dX1_namedBy_10 : decode cX1_namedBy 10 = .ok (.iload_n 0, 1) := by decide +kernel
theorem dX1_namedBy_11 : decode cX1_namedBy 11 = .ok (.laload, 1) := by decide +kernel
theorem dX1_namedBy_12 : decode cX1_namedBy 12 = .ok (.goto 4, 3) := by decide +kernel
theorem dX1_namedBy_15 : decode cX1_namedBy 15 = .ok (.lconst 0, 1) := by decide +kernel
theorem dX1_namedBy_16 : decode cX1_namedBy 16 = .ok (.lreturn, 1) := by decide +kernel
theorem dX1_allAbove_0 : decode cX1_allAbove 0 = .ok (.iload_n 0, 1) := by decide +kernel
theorem dX1_allAbove_1 : decode cX1_allAbove 1 = .ok (.invokestatic 15, 3) := by decide +kernel
theorem dX1_allAbove_4 : decode cX1_allAbove 4 = .ok (.ifCond .eq 12, 3) := by decide +kernel
theorem dX1_allAbove_7 : decode cX1_allAbove 7 = .ok (.getstatic 35, 3) := by decide +kernel
theorem dX1_allAbove_10 : decode cX1_allAbove 10 = .ok (.iload_n 0, 1) := by decide +kernel
theorem dX1_allAbove_11 : decode cX1_allAbove 11 = .ok (.bipush 40, 2) := by decide +kernel
theorem dX1_allAbove_13 : decode cX1_allAbove 13 = .ok (.isub, 1) := by decide +kernel
theorem dX1_allAbove_14 : decode cX1_allAbove 14 = .ok (.laload, 1) := by decide +kernel
theorem dX1_allAbove_15 : decode cX1_allAbove 15 = .ok (.lreturn, 1) := by decide +kernel
theorem dX1_allAbove_16 : decode cX1_allAbove 16 = .ok (.lconst 0, 1) := by decide +kernel
theorem dX1_allAbove_17 : decode cX1_allAbove 17 = .ok (.lstore_n 1, 1) := by decide +kernel
theorem dX1_allAbove_18 : decode cX1_allAbove 18 = .ok (.iload_n 0, 1) := by decide +kernel
theorem dX1_allAbove_19 : decode cX1_allAbove 19 = .ok (.istore_n 3, 1) := by decide +kernel
theorem dX1_allAbove_20 : decode cX1_allAbove 20 = .ok (.iconst 0, 1) := by decide +kernel
theorem dX1_allAbove_21 : decode cX1_allAbove 21 = .ok (.istore 4, 2) := by decide +kernel
theorem dX1_allAbove_23 : decode cX1_allAbove 23 = .ok (.iload 4, 2) := by decide +kernel
theorem dX1_allAbove_25 : decode cX1_allAbove 25 = .ok (.bipush 24, 2) := by decide +kernel
theorem dX1_allAbove_27 : decode cX1_allAbove 27 = .ok (.if_icmp .ge 34, 3) := by decide +kernel
theorem dX1_allAbove_30 : decode cX1_allAbove 30 = .ok (.iload_n 3, 1) := by decide +kernel
theorem dX1_allAbove_31 : decode cX1_allAbove 31 = .ok (.invokestatic 11, 3) := by decide +kernel
theorem dX1_allAbove_34 : decode cX1_allAbove 34 = .ok (.ifCond .eq 27, 3) := by decide +kernel
theorem dX1_allAbove_37 : decode cX1_allAbove 37 = .ok (.lload_n 1, 1) := by decide +kernel
theorem dX1_allAbove_38 : decode cX1_allAbove 38 = .ok (.lconst 1, 1) := by decide +kernel
theorem dX1_allAbove_39 : decode cX1_allAbove 39 = .ok (.iload_n 3, 1) := by decide +kernel
theorem dX1_allAbove_40 : decode cX1_allAbove 40 = .ok (.lshl, 1) := by decide +kernel
theorem dX1_allAbove_41 : decode cX1_allAbove 41 = .ok (.getstatic 31, 3) := by decide +kernel
theorem dX1_allAbove_44 : decode cX1_allAbove 44 = .ok (.iload_n 3, 1) := by decide +kernel
theorem dX1_allAbove_45 : decode cX1_allAbove 45 = .ok (.laload, 1) := by decide +kernel
theorem dX1_allAbove_46 : decode cX1_allAbove 46 = .ok (.lor, 1) := by decide +kernel
theorem dX1_allAbove_47 : decode cX1_allAbove 47 = .ok (.lor, 1) := by decide +kernel
theorem dX1_allAbove_48 : decode cX1_allAbove 48 = .ok (.lstore_n 1, 1) := by decide +kernel
theorem dX1_allAbove_49 : decode cX1_allAbove 49 = .ok (.getstatic 27, 3) := by decide +kernel
theorem dX1_allAbove_52 : decode cX1_allAbove 52 = .ok (.iload_n 3, 1) := by decide +kernel
theorem dX1_allAbove_53 : decode cX1_allAbove 53 = .ok (.iaload, 1) := by decide +kernel
theorem dX1_allAbove_54 : decode cX1_allAbove 54 = .ok (.istore_n 3, 1) := by decide +kernel
theorem dX1_allAbove_55 : decode cX1_allAbove 55 = .ok (.iinc 4 1, 3) := by decide +kernel
theorem dX1_allAbove_58 : decode cX1_allAbove 58 = .ok (.goto (-35), 3) := by decide +kernel
theorem dX1_allAbove_61 : decode cX1_allAbove 61 = .ok (.lload_n 1, 1) := by decide +kernel
theorem dX1_allAbove_62 : decode cX1_allAbove 62 = .ok (.lreturn, 1) := by decide +kernel
theorem dX1_standsUnder_0 : decode cX1_standsUnder 0 = .ok (.iload_n 0, 1) := by decide +kernel
theorem dX1_standsUnder_1 : decode cX1_standsUnder 1 = .ok (.invokestatic 24, 3) := by decide +kernel
theorem dX1_standsUnder_4 : decode cX1_standsUnder 4 = .ok (.ifCond .eq 25, 3) := by decide +kernel
theorem dX1_standsUnder_7 : decode cX1_standsUnder 7 = .ok (.iload_n 1, 1) := by decide +kernel
theorem dX1_standsUnder_8 : decode cX1_standsUnder 8 = .ok (.invokestatic 24, 3) := by decide +kernel
theorem dX1_standsUnder_11 : decode cX1_standsUnder 11 = .ok (.ifCond .eq 18, 3) := by decide +kernel
theorem dX1_standsUnder_14 : decode cX1_standsUnder 14 = .ok (.iload_n 0, 1) := by decide +kernel
theorem dX1_standsUnder_15 : decode cX1_standsUnder 15 = .ok (.invokestatic 38, 3) := by decide +kernel
theorem dX1_standsUnder_18 : decode cX1_standsUnder 18 = .ok (.iload_n 1, 1) := by decide +kernel
theorem dX1_standsUnder_19 : decode cX1_standsUnder 19 = .ok (.invokestatic 20, 3) := by decide +kernel
theorem dX1_standsUnder_22 : decode cX1_standsUnder 22 = .ok (.ifCond .eq 7, 3) := by decide +kernel
theorem dX1_standsUnder_25 : decode cX1_standsUnder 25 = .ok (.iconst 1, 1) := by decide +kernel
theorem dX1_standsUnder_26 : decode cX1_standsUnder 26 = .ok (.goto 4, 3) := by decide +kernel
theorem dX1_standsUnder_29 : decode cX1_standsUnder 29 = .ok (.iconst 0, 1) := by decide +kernel
theorem dX1_standsUnder_30 : decode cX1_standsUnder 30 = .ok (.ireturn, 1) := by decide +kernel
theorem dX1_stepsUp_0 : decode cX1_stepsUp 0 = .ok (.iload_n 1, 1) := by decide +kernel
theorem dX1_stepsUp_1 : decode cX1_stepsUp 1 = .ok (.invokestatic 24, 3) := by decide +kernel
theorem dX1_stepsUp_4 : decode cX1_stepsUp 4 = .ok (.ifCond .ne 5, 3) := by decide +kernel
theorem dX1_stepsUp_7 : decode cX1_stepsUp 7 = .ok (.iconst (-1), 1) := by decide +kernel
theorem dX1_stepsUp_8 : decode cX1_stepsUp 8 = .ok (.ireturn, 1) := by decide +kernel
theorem dX1_stepsUp_9 : decode cX1_stepsUp 9 = .ok (.iload_n 0, 1) := by decide +kernel
theorem dX1_stepsUp_10 : decode cX1_stepsUp 10 = .ok (.istore_n 2, 1) := by decide +kernel
theorem dX1_stepsUp_11 : decode cX1_stepsUp 11 = .ok (.iconst 0, 1) := by decide +kernel
theorem dX1_stepsUp_12 : decode cX1_stepsUp 12 = .ok (.istore_n 3, 1) := by decide +kernel
theorem dX1_stepsUp_13 : decode cX1_stepsUp 13 = .ok (.iload_n 3, 1) := by decide +kernel
theorem dX1_stepsUp_14 : decode cX1_stepsUp 14 = .ok (.bipush 24, 2) := by decide +kernel
theorem dX1_stepsUp_16 : decode cX1_stepsUp 16 = .ok (.if_icmp .ge 41, 3) := by decide +kernel
theorem dX1_stepsUp_19 : decode cX1_stepsUp 19 = .ok (.iload_n 2, 1) := by decide +kernel
theorem dX1_stepsUp_20 : decode cX1_stepsUp 20 = .ok (.invokestatic 11, 3) := by decide +kernel
theorem dX1_stepsUp_23 : decode cX1_stepsUp 23 = .ok (.ifCond .eq 34, 3) := by decide +kernel
theorem dX1_stepsUp_26 : decode cX1_stepsUp 26 = .ok (.iload_n 2, 1) := by decide +kernel
theorem dX1_stepsUp_27 : decode cX1_stepsUp 27 = .ok (.iload_n 1, 1) := by decide +kernel
theorem dX1_stepsUp_28 : decode cX1_stepsUp 28 = .ok (.if_icmp .eq 15, 3) := by decide +kernel
theorem dX1_stepsUp_31 : decode cX1_stepsUp 31 = .ok (.getstatic 31, 3) := by decide +kernel
theorem dX1_stepsUp_34 : decode cX1_stepsUp 34 = .ok (.iload_n 2, 1) := by decide +kernel
theorem dX1_stepsUp_35 : decode cX1_stepsUp 35 = .ok (.laload, 1) := by decide +kernel
theorem dX1_stepsUp_36 : decode cX1_stepsUp 36 = .ok (.iload_n 1, 1) := by decide +kernel
theorem dX1_stepsUp_37 : decode cX1_stepsUp 37 = .ok (.invokestatic 20, 3) := by decide +kernel
theorem dX1_stepsUp_40 : decode cX1_stepsUp 40 = .ok (.ifCond .eq 5, 3) := by decide +kernel
theorem dX1_stepsUp_43 : decode cX1_stepsUp 43 = .ok (.iload_n 3, 1) := by decide +kernel
theorem dX1_stepsUp_44 : decode cX1_stepsUp 44 = .ok (.ireturn, 1) := by decide +kernel
theorem dX1_stepsUp_45 : decode cX1_stepsUp 45 = .ok (.getstatic 27, 3) := by decide +kernel
theorem dX1_stepsUp_48 : decode cX1_stepsUp 48 = .ok (.iload_n 2, 1) := by decide +kernel
theorem dX1_stepsUp_49 : decode cX1_stepsUp 49 = .ok (.iaload, 1) := by decide +kernel
theorem dX1_stepsUp_50 : decode cX1_stepsUp 50 = .ok (.istore_n 2, 1) := by decide +kernel
theorem dX1_stepsUp_51 : decode cX1_stepsUp 51 = .ok (.iinc 3 1, 3) := by decide +kernel
theorem dX1_stepsUp_54 : decode cX1_stepsUp 54 = .ok (.goto (-41), 3) := by decide +kernel
theorem dX1_stepsUp_57 : decode cX1_stepsUp 57 = .ok (.iconst (-1), 1) := by decide +kernel
theorem dX1_stepsUp_58 : decode cX1_stepsUp 58 = .ok (.ireturn, 1) := by decide +kernel
theorem dX1_lowestShared_0 : decode cX1_lowestShared 0 = .ok (.iload_n 0, 1) := by decide +kernel
theorem dX1_lowestShared_1 : decode cX1_lowestShared 1 = .ok (.invokestatic 11, 3) := by decide +kernel
theorem dX1_lowestShared_4 : decode cX1_lowestShared 4 = .ok (.ifCond .eq 10, 3) := by decide +kernel
theorem dX1_lowestShared_7 : decode cX1_lowestShared 7 = .ok (.iload_n 1, 1) := by decide +kernel
theorem dX1_lowestShared_8 : decode cX1_lowestShared 8 = .ok (.invokestatic 11, 3) := by decide +kernel
theorem dX1_lowestShared_11 : decode cX1_lowestShared 11 = .ok (.ifCond .ne 5, 3) := by decide +kernel
theorem dX1_lowestShared_14 : decode cX1_lowestShared 14 = .ok (.iconst (-1), 1) := by decide +kernel
theorem dX1_lowestShared_15 : decode cX1_lowestShared 15 = .ok (.ireturn, 1) := by decide +kernel
theorem dX1_lowestShared_16 : decode cX1_lowestShared 16 = .ok (.iload_n 1, 1) := by decide +kernel
theorem dX1_lowestShared_17 : decode cX1_lowestShared 17 = .ok (.invokestatic 38, 3) := by decide +kernel
theorem dX1_lowestShared_20 : decode cX1_lowestShared 20 = .ok (.lstore_n 2, 1) := by decide +kernel
theorem dX1_lowestShared_21 : decode cX1_lowestShared 21 = .ok (.iload_n 0, 1) := by decide +kernel
theorem dX1_lowestShared_22 : decode cX1_lowestShared 22 = .ok (.istore 4, 2) := by decide +kernel
theorem dX1_lowestShared_24 : decode cX1_lowestShared 24 = .ok (.iconst 0, 1) := by decide +kernel
theorem dX1_lowestShared_25 : decode cX1_lowestShared 25 = .ok (.istore 5, 2) := by decide +kernel
theorem dX1_lowestShared_27 : decode cX1_lowestShared 27 = .ok (.iload 5, 2) := by decide +kernel
theorem dX1_lowestShared_29 : decode cX1_lowestShared 29 = .ok (.bipush 24, 2) := by decide +kernel
theorem dX1_lowestShared_31 : decode cX1_lowestShared 31 = .ok (.if_icmp .ge 37, 3) := by decide +kernel
theorem dX1_lowestShared_34 : decode cX1_lowestShared 34 = .ok (.iload 4, 2) := by decide +kernel
theorem dX1_lowestShared_36 : decode cX1_lowestShared 36 = .ok (.invokestatic 11, 3) := by decide +kernel
theorem dX1_lowestShared_39 : decode cX1_lowestShared 39 = .ok (.ifCond .eq 29, 3) := by decide +kernel
theorem dX1_lowestShared_42 : decode cX1_lowestShared 42 = .ok (.lload_n 2, 1) := by decide +kernel
theorem dX1_lowestShared_43 : decode cX1_lowestShared 43 = .ok (.iload 4, 2) := by decide +kernel
theorem dX1_lowestShared_45 : decode cX1_lowestShared 45 = .ok (.invokestatic 20, 3) := by decide +kernel
theorem dX1_lowestShared_48 : decode cX1_lowestShared 48 = .ok (.ifCond .eq 6, 3) := by decide +kernel
theorem dX1_lowestShared_51 : decode cX1_lowestShared 51 = .ok (.iload 4, 2) := by decide +kernel
theorem dX1_lowestShared_53 : decode cX1_lowestShared 53 = .ok (.ireturn, 1) := by decide +kernel
theorem dX1_lowestShared_54 : decode cX1_lowestShared 54 = .ok (.getstatic 27, 3) := by decide +kernel
theorem dX1_lowestShared_57 : decode cX1_lowestShared 57 = .ok (.iload 4, 2) := by decide +kernel
theorem dX1_lowestShared_59 : decode cX1_lowestShared 59 = .ok (.iaload, 1) := by decide +kernel
theorem dX1_lowestShared_60 : decode cX1_lowestShared 60 = .ok (.istore 4, 2) := by decide +kernel
theorem dX1_lowestShared_62 : decode cX1_lowestShared 62 = .ok (.iinc 5 1, 3) := by decide +kernel
theorem dX1_lowestShared_65 : decode cX1_lowestShared 65 = .ok (.goto (-38), 3) := by decide +kernel
theorem dX1_lowestShared_68 : decode cX1_lowestShared 68 = .ok (.iconst (-1), 1) := by decide +kernel
theorem dX1_lowestShared_69 : decode cX1_lowestShared 69 = .ok (.ireturn, 1) := by decide +kernel
theorem dX1_sharedTraits_0 : decode cX1_sharedTraits 0 = .ok (.iload_n 0, 1) := by decide +kernel
theorem dX1_sharedTraits_1 : decode cX1_sharedTraits 1 = .ok (.invokestatic 11, 3) := by decide +kernel
theorem dX1_sharedTraits_4 : decode cX1_sharedTraits 4 = .ok (.ifCond .eq 10, 3) := by decide +kernel
theorem dX1_sharedTraits_7 : decode cX1_sharedTraits 7 = .ok (.iload_n 1, 1) := by decide +kernel
theorem dX1_sharedTraits_8 : decode cX1_sharedTraits 8 = .ok (.invokestatic 11, 3) := by decide +kernel
theorem dX1_sharedTraits_11 : decode cX1_sharedTraits 11 = .ok (.ifCond .ne 5, 3) := by decide +kernel
theorem dX1_sharedTraits_14 : decode cX1_sharedTraits 14 = .ok (.lconst 0, 1) := by decide +kernel
theorem dX1_sharedTraits_15 : decode cX1_sharedTraits 15 = .ok (.lreturn, 1) := by decide +kernel
theorem dX1_sharedTraits_16 : decode cX1_sharedTraits 16 = .ok (.iload_n 0, 1) := by decide +kernel
theorem dX1_sharedTraits_17 : decode cX1_sharedTraits 17 = .ok (.invokestatic 38, 3) := by decide +kernel
theorem dX1_sharedTraits_20 : decode cX1_sharedTraits 20 = .ok (.iload_n 1, 1) := by decide +kernel
theorem dX1_sharedTraits_21 : decode cX1_sharedTraits 21 = .ok (.invokestatic 38, 3) := by decide +kernel
theorem dX1_sharedTraits_24 : decode cX1_sharedTraits 24 = .ok (.land, 1) := by decide +kernel
theorem dX1_sharedTraits_25 : decode cX1_sharedTraits 25 = .ok (.ldc2_w 42, 3) := by decide +kernel
theorem dX1_sharedTraits_28 : decode cX1_sharedTraits 28 = .ok (.land, 1) := by decide +kernel
theorem dX1_sharedTraits_29 : decode cX1_sharedTraits 29 = .ok (.lreturn, 1) := by decide +kernel
theorem dX1_mayTurnInto_0 : decode cX1_mayTurnInto 0 = .ok (.iload_n 0, 1) := by decide +kernel
theorem dX1_mayTurnInto_1 : decode cX1_mayTurnInto 1 = .ok (.iload_n 1, 1) := by decide +kernel
theorem dX1_mayTurnInto_2 : decode cX1_mayTurnInto 2 = .ok (.invokestatic 44, 3) := by decide +kernel
theorem dX1_mayTurnInto_5 : decode cX1_mayTurnInto 5 = .ok (.ldc2_w 48, 3) := by decide +kernel
theorem dX1_mayTurnInto_8 : decode cX1_mayTurnInto 8 = .ok (.land, 1) := by decide +kernel
theorem dX1_mayTurnInto_9 : decode cX1_mayTurnInto 9 = .ok (.lconst 0, 1) := by decide +kernel
theorem dX1_mayTurnInto_10 : decode cX1_mayTurnInto 10 = .ok (.lcmp, 1) := by decide +kernel
theorem dX1_mayTurnInto_11 : decode cX1_mayTurnInto 11 = .ok (.ifCond .eq 7, 3) := by decide +kernel
theorem dX1_mayTurnInto_14 : decode cX1_mayTurnInto 14 = .ok (.iconst 1, 1) := by decide +kernel
theorem dX1_mayTurnInto_15 : decode cX1_mayTurnInto 15 = .ok (.goto 4, 3) := by decide +kernel
theorem dX1_mayTurnInto_18 : decode cX1_mayTurnInto 18 = .ok (.iconst 0, 1) := by decide +kernel
theorem dX1_mayTurnInto_19 : decode cX1_mayTurnInto 19 = .ok (.ireturn, 1) := by decide +kernel
theorem dX1_lowest_0 : decode cX1_lowest 0 = .ok (.lload_n 0, 1) := by decide +kernel
theorem dX1_lowest_1 : decode cX1_lowest 1 = .ok (.lstore_n 2, 1) := by decide +kernel
theorem dX1_lowest_2 : decode cX1_lowest 2 = .ok (.bipush 40, 2) := by decide +kernel
theorem dX1_lowest_4 : decode cX1_lowest 4 = .ok (.istore 4, 2) := by decide +kernel
theorem dX1_lowest_6 : decode cX1_lowest 6 = .ok (.iload 4, 2) := by decide +kernel
theorem dX1_lowest_8 : decode cX1_lowest 8 = .ok (.bipush 49, 2) := by decide +kernel
theorem dX1_lowest_10 : decode cX1_lowest 10 = .ok (.if_icmp .ge 39, 3) := by decide +kernel
theorem dX1_lowest_13 : decode cX1_lowest 13 = .ok (.lload_n 0, 1) := by decide +kernel
theorem dX1_lowest_14 : decode cX1_lowest 14 = .ok (.iload 4, 2) := by decide +kernel
theorem dX1_lowest_16 : decode cX1_lowest 16 = .ok (.invokestatic 20, 3) := by decide +kernel
theorem dX1_lowest_19 : decode cX1_lowest 19 = .ok (.ifCond .eq 24, 3) := by decide +kernel
theorem dX1_lowest_22 : decode cX1_lowest 22 = .ok (.lload_n 2, 1) := by decide +kernel
theorem dX1_lowest_23 : decode cX1_lowest 23 = .ok (.getstatic 35, 3) := by decide +kernel
theorem dX1_lowest_26 : decode cX1_lowest 26 = .ok (.iload 4, 2) := by decide +kernel
theorem dX1_lowest_28 : decode cX1_lowest 28 = .ok (.bipush 40, 2) := by decide +kernel
theorem dX1_lowest_30 : decode cX1_lowest 30 = .ok (.isub, 1) := by decide +kernel
theorem dX1_lowest_31 : decode cX1_lowest 31 = .ok (.laload, 1) := by decide +kernel
theorem dX1_lowest_32 : decode cX1_lowest 32 = .ok (.ldc2_w 50, 3) := by decide +kernel
theorem dX1_lowest_35 : decode cX1_lowest 35 = .ok (.lxor, 1) := by decide +kernel
theorem dX1_lowest_36 : decode cX1_lowest 36 = .ok (.lconst 1, 1) := by decide +kernel
theorem dX1_lowest_37 : decode cX1_lowest 37 = .ok (.iload 4, 2) := by decide +kernel
theorem dX1_lowest_39 : decode cX1_lowest 39 = .ok (.lshl, 1) := by decide +kernel
theorem dX1_lowest_40 : decode cX1_lowest 40 = .ok (.lor, 1) := by decide +kernel
theorem dX1_lowest_41 : decode cX1_lowest 41 = .ok (.land, 1) := by decide +kernel
theorem dX1_lowest_42 : decode cX1_lowest 42 = .ok (.lstore_n 2, 1) := by decide +kernel
theorem dX1_lowest_43 : decode cX1_lowest 43 = .ok (.iinc 4 1, 3) := by decide +kernel
theorem dX1_lowest_46 : decode cX1_lowest 46 = .ok (.goto (-40), 3) := by decide +kernel
theorem dX1_lowest_49 : decode cX1_lowest 49 = .ok (.lload_n 2, 1) := by decide +kernel
theorem dX1_lowest_50 : decode cX1_lowest 50 = .ok (.lreturn, 1) := by decide +kernel
theorem dX1_pick_0 : decode cX1_pick 0 = .ok (.iconst 0, 1) := by decide +kernel
theorem dX1_pick_1 : decode cX1_pick 1 = .ok (.istore_n 3, 1) := by decide +kernel
theorem dX1_pick_2 : decode cX1_pick 2 = .ok (.iconst 0, 1) := by decide +kernel
theorem dX1_pick_3 : decode cX1_pick 3 = .ok (.istore 4, 2) := by decide +kernel
theorem dX1_pick_5 : decode cX1_pick 5 = .ok (.iload 4, 2) := by decide +kernel
theorem dX1_pick_7 : decode cX1_pick 7 = .ok (.bipush 49, 2) := by decide +kernel
theorem dX1_pick_9 : decode cX1_pick 9 = .ok (.if_icmp .ge 29, 3) := by decide +kernel
theorem dX1_pick_12 : decode cX1_pick 12 = .ok (.lload_n 0, 1) := by decide +kernel
theorem dX1_pick_13 : decode cX1_pick 13 = .ok (.iload 4, 2) := by decide +kernel
theorem dX1_pick_15 : decode cX1_pick 15 = .ok (.invokestatic 20, 3) := by decide +kernel
theorem dX1_pick_18 : decode cX1_pick 18 = .ok (.ifCond .eq 14, 3) := by decide +kernel
theorem dX1_pick_21 : decode cX1_pick 21 = .ok (.iload_n 3, 1) := by decide +kernel
theorem dX1_pick_22 : decode cX1_pick 22 = .ok (.iload_n 2, 1) := by decide +kernel
theorem dX1_pick_23 : decode cX1_pick 23 = .ok (.if_icmp .ne 6, 3) := by decide +kernel
theorem dX1_pick_26 : decode cX1_pick 26 = .ok (.iload 4, 2) := by decide +kernel
theorem dX1_pick_28 : decode cX1_pick 28 = .ok (.ireturn, 1) := by decide +kernel
theorem dX1_pick_29 : decode cX1_pick 29 = .ok (.iinc 3 1, 3) := by decide +kernel
theorem dX1_pick_32 : decode cX1_pick 32 = .ok (.iinc 4 1, 3) := by decide +kernel
theorem dX1_pick_35 : decode cX1_pick 35 = .ok (.goto (-30), 3) := by decide +kernel
theorem dX1_pick_38 : decode cX1_pick 38 = .ok (.iconst (-1), 1) := by decide +kernel
theorem dX1_pick_39 : decode cX1_pick 39 = .ok (.ireturn, 1) := by decide +kernel
theorem dX2_init_0 : decode cX2_init 0 = .ok (.aload_n 0, 1) := by decide +kernel
theorem dX2_init_1 : decode cX2_init 1 = .ok (.invokespecial 3, 3) := by decide +kernel
theorem dX2_init_4 : decode cX2_init 4 = .ok (.aload_n 0, 1) := by decide +kernel
theorem dX2_init_5 : decode cX2_init 5 = .ok (.bipush 40, 2) := by decide +kernel
theorem dX2_init_7 : decode cX2_init 7 = .ok (.anewarray 11, 3) := by decide +kernel
theorem dX2_init_10 : decode cX2_init 10 = .ok (.putfield 13, 3) := by decide +kernel
theorem dX2_init_13 : decode cX2_init 13 = .ok (.aload_n 0, 1) := by decide +kernel
theorem dX2_init_14 : decode cX2_init 14 = .ok (.iconst 0, 1) := by decide +kernel
theorem dX2_init_15 : decode cX2_init 15 = .ok (.putfield 17, 3) := by decide +kernel
theorem dX2_init_18 : decode cX2_init 18 = .ok (.aload_n 0, 1) := by decide +kernel
theorem dX2_init_19 : decode cX2_init 19 = .ok (.iconst 0, 1) := by decide +kernel
theorem dX2_init_20 : decode cX2_init 20 = .ok (.putfield 21, 3) := by decide +kernel
theorem dX2_init_23 : decode cX2_init 23 = .ok (.return_, 1) := by decide +kernel
theorem dX2_isFull_0 : decode cX2_isFull 0 = .ok (.aload_n 0, 1) := by decide +kernel
theorem dX2_isFull_1 : decode cX2_isFull 1 = .ok (.getfield 17, 3) := by decide +kernel
theorem dX2_isFull_4 : decode cX2_isFull 4 = .ok (.bipush 40, 2) := by decide +kernel
theorem dX2_isFull_6 : decode cX2_isFull 6 = .ok (.if_icmp .lt 7, 3) := by decide +kernel
theorem dX2_isFull_9 : decode cX2_isFull 9 = .ok (.iconst 1, 1) := by decide +kernel
theorem dX2_isFull_10 : decode cX2_isFull 10 = .ok (.goto 4, 3) := by decide +kernel
theorem dX2_isFull_13 : decode cX2_isFull 13 = .ok (.iconst 0, 1) := by decide +kernel
theorem dX2_isFull_14 : decode cX2_isFull 14 = .ok (.ireturn, 1) := by decide +kernel
theorem dX2_mayTell_0 : decode cX2_mayTell 0 = .ok (.iload_n 1, 1) := by decide +kernel
theorem dX2_mayTell_1 : decode cX2_mayTell 1 = .ok (.iconst (-1), 1) := by decide +kernel
theorem dX2_mayTell_2 : decode cX2_mayTell 2 = .ok (.if_icmp .eq 29, 3) := by decide +kernel
theorem dX2_mayTell_5 : decode cX2_mayTell 5 = .ok (.iload_n 1, 1) := by decide +kernel
theorem dX2_mayTell_6 : decode cX2_mayTell 6 = .ok (.invokestatic 24, 3) := by decide +kernel
theorem dX2_mayTell_9 : decode cX2_mayTell 9 = .ok (.ifCond .ne 22, 3) := by decide +kernel
theorem dX2_mayTell_12 : decode cX2_mayTell 12 = .ok (.iload_n 1, 1) := by decide +kernel
theorem dX2_mayTell_13 : decode cX2_mayTell 13 = .ok (.sipush 200, 3) := by decide +kernel
theorem dX2_mayTell_16 : decode cX2_mayTell 16 = .ok (.aload_n 0, 1) := by decide +kernel
theorem dX2_mayTell_17 : decode cX2_mayTell 17 = .ok (.getfield 17, 3) := by decide +kernel
theorem dX2_mayTell_20 : decode cX2_mayTell 20 = .ok (.iadd, 1) := by decide +kernel
theorem dX2_mayTell_21 : decode cX2_mayTell 21 = .ok (.if_icmp .le 14, 3) := by decide +kernel
theorem dX2_mayTell_24 : decode cX2_mayTell 24 = .ok (.iload_n 1, 1) := by decide +kernel
theorem dX2_mayTell_25 : decode cX2_mayTell 25 = .ok (.sipush 240, 3) := by decide +kernel
theorem dX2_mayTell_28 : decode cX2_mayTell 28 = .ok (.if_icmp .ge 7, 3) := by decide +kernel
theorem dX2_mayTell_31 : decode cX2_mayTell 31 = .ok (.iconst 1, 1) := by decide +kernel
theorem dX2_mayTell_32 : decode cX2_mayTell 32 = .ok (.goto 4, 3) := by decide +kernel
theorem dX2_mayTell_35 : decode cX2_mayTell 35 = .ok (.iconst 0, 1) := by decide +kernel
theorem dX2_mayTell_36 : decode cX2_mayTell 36 = .ok (.ireturn, 1) := by decide +kernel
theorem dX2_add_0 : decode cX2_add 0 = .ok (.aload_n 0, 1) := by decide +kernel
theorem dX2_add_1 : decode cX2_add 1 = .ok (.invokevirtual 30, 3) := by decide +kernel
theorem dX2_add_4 : decode cX2_add 4 = .ok (.ifCond .eq 5, 3) := by decide +kernel
theorem dX2_add_7 : decode cX2_add 7 = .ok (.iconst (-1), 1) := by decide +kernel
theorem dX2_add_8 : decode cX2_add 8 = .ok (.ireturn, 1) := by decide +kernel
theorem dX2_add_9 : decode cX2_add 9 = .ok (.aload_n 0, 1) := by decide +kernel
theorem dX2_add_10 : decode cX2_add 10 = .ok (.getfield 13, 3) := by decide +kernel
theorem dX2_add_13 : decode cX2_add 13 = .ok (.aload_n 0, 1) := by decide +kernel
theorem dX2_add_14 : decode cX2_add 14 = .ok (.getfield 17, 3) := by decide +kernel
theorem dX2_add_17 : decode cX2_add 17 = .ok (.aload_n 1, 1) := by decide +kernel
theorem dX2_add_18 : decode cX2_add 18 = .ok (.aastore, 1) := by decide +kernel
theorem dX2_add_19 : decode cX2_add 19 = .ok (.aload_n 0, 1) := by decide +kernel
theorem dX2_add_20 : decode cX2_add 20 = .ok (.dup, 1) := by decide +kernel
theorem dX2_add_21 : decode cX2_add 21 = .ok (.getfield 17, 3) := by decide +kernel
theorem dX2_add_24 : decode cX2_add 24 = .ok (.iconst 1, 1) := by decide +kernel
theorem dX2_add_25 : decode cX2_add 25 = .ok (.iadd, 1) := by decide +kernel
theorem dX2_add_26 : decode cX2_add 26 = .ok (.putfield 17, 3) := by decide +kernel
theorem dX2_add_29 : decode cX2_add 29 = .ok (.aload_n 0, 1) := by decide +kernel
theorem dX2_add_30 : decode cX2_add 30 = .ok (.getfield 17, 3) := by decide +kernel
theorem dX2_add_33 : decode cX2_add 33 = .ok (.ireturn, 1) := by decide +kernel
theorem dX2_nameOf_0 : decode cX2_nameOf 0 = .ok (.aload_n 0, 1) := by decide +kernel
theorem dX2_nameOf_1 : decode cX2_nameOf 1 = .ok (.iconst 0, 1) := by decide +kernel
theorem dX2_nameOf_2 : decode cX2_nameOf 2 = .ok (.putfield 21, 3) := by decide +kernel
theorem dX2_nameOf_5 : decode cX2_nameOf 5 = .ok (.sipush 200, 3) := by decide +kernel
theorem dX2_nameOf_8 : decode cX2_nameOf 8 = .ok (.istore_n 2, 1) := by decide +kernel
theorem dX2_nameOf_9 : decode cX2_nameOf 9 = .ok (.iconst 0, 1) := by decide +kernel
theorem dX2_nameOf_10 : decode cX2_nameOf 10 = .ok (.istore_n 3, 1) := by decide +kernel
theorem dX2_nameOf_11 : decode cX2_nameOf 11 = .ok (.iload_n 3, 1) := by decide +kernel
theorem dX2_nameOf_12 : decode cX2_nameOf 12 = .ok (.bipush 40, 2) := by decide +kernel
theorem dX2_nameOf_14 : decode cX2_nameOf 14 = .ok (.if_icmp .ge 51, 3) := by decide +kernel
theorem dX2_nameOf_17 : decode cX2_nameOf 17 = .ok (.iload_n 2, 1) := by decide +kernel
theorem dX2_nameOf_18 : decode cX2_nameOf 18 = .ok (.sipush 200, 3) := by decide +kernel
theorem dX2_nameOf_21 : decode cX2_nameOf 21 = .ok (.if_icmp .lt 44, 3) := by decide +kernel
theorem dX2_nameOf_24 : decode cX2_nameOf 24 = .ok (.aload_n 0, 1) := by decide +kernel
theorem dX2_nameOf_25 : decode cX2_nameOf 25 = .ok (.iload_n 2, 1) := by decide +kernel
theorem dX2_nameOf_26 : decode cX2_nameOf 26 = .ok (.sipush 200, 3) := by decide +kernel
theorem dX2_nameOf_29 : decode cX2_nameOf 29 = .ok (.isub, 1) := by decide +kernel
theorem dX2_nameOf_30 : decode cX2_nameOf 30 = .ok (.invokevirtual 34, 3) := by decide +kernel
theorem dX2_nameOf_33 : decode cX2_nameOf 33 = .ok (.astore 4, 2) := by decide +kernel
theorem dX2_nameOf_35 : decode cX2_nameOf 35 = .ok (.aload 4, 2) := by decide +kernel
theorem dX2_nameOf_37 : decode cX2_nameOf 37 = .ok (.ifnonnull 5, 3) := by decide +kernel
theorem dX2_nameOf_40 : decode cX2_nameOf 40 = .ok (.iconst (-1), 1) := by decide +kernel
theorem dX2_nameOf_41 : decode cX2_nameOf 41 = .ok (.ireturn, 1) := by decide +kernel
theorem dX2_nameOf_42 : decode cX2_nameOf 42 = .ok (.aload_n 0, 1) := by decide +kernel
theorem dX2_nameOf_43 : decode cX2_nameOf 43 = .ok (.dup, 1) := by decide +kernel
theorem dX2_nameOf_44 : decode cX2_nameOf 44 = .ok (.getfield 21, 3) := by decide +kernel
theorem dX2_nameOf_47 : decode cX2_nameOf 47 = .ok (.iconst 1, 1) := by decide +kernel
theorem dX2_nameOf_48 : decode cX2_nameOf 48 = .ok (.iadd, 1) := by decide +kernel
theorem dX2_nameOf_49 : decode cX2_nameOf 49 = .ok (.putfield 21, 3) := by decide +kernel
theorem dX2_nameOf_52 : decode cX2_nameOf 52 = .ok (.aload 4, 2) := by decide +kernel
theorem dX2_nameOf_54 : decode cX2_nameOf 54 = .ok (.aload_n 1, 1) := by decide +kernel
theorem dX2_nameOf_55 : decode cX2_nameOf 55 = .ok (.invokevirtual 38, 3) := by decide +kernel
theorem dX2_nameOf_58 : decode cX2_nameOf 58 = .ok (.istore_n 2, 1) := by decide +kernel
theorem dX2_nameOf_59 : decode cX2_nameOf 59 = .ok (.iinc 3 1, 3) := by decide +kernel
theorem dX2_nameOf_62 : decode cX2_nameOf 62 = .ok (.goto (-51), 3) := by decide +kernel
theorem dX2_nameOf_65 : decode cX2_nameOf 65 = .ok (.iload_n 2, 1) := by decide +kernel
theorem dX2_nameOf_66 : decode cX2_nameOf 66 = .ok (.ireturn, 1) := by decide +kernel
theorem dX2_questionAt_0 : decode cX2_questionAt 0 = .ok (.iload_n 1, 1) := by decide +kernel
theorem dX2_questionAt_1 : decode cX2_questionAt 1 = .ok (.ifCond .lt 26, 3) := by decide +kernel
theorem dX2_questionAt_4 : decode cX2_questionAt 4 = .ok (.iload_n 1, 1) := by decide +kernel
theorem dX2_questionAt_5 : decode cX2_questionAt 5 = .ok (.aload_n 0, 1) := by decide +kernel
theorem dX2_questionAt_6 : decode cX2_questionAt 6 = .ok (.getfield 17, 3) := by decide +kernel
theorem dX2_questionAt_9 : decode cX2_questionAt 9 = .ok (.if_icmp .ge 18, 3) := by decide +kernel
theorem dX2_questionAt_12 : decode cX2_questionAt 12 = .ok (.iload_n 1, 1) := by decide +kernel
theorem dX2_questionAt_13 : decode cX2_questionAt 13 = .ok (.bipush 40, 2) := by decide +kernel
theorem dX2_questionAt_15 : decode cX2_questionAt 15 = .ok (.if_icmp .ge 12, 3) := by decide +kernel
theorem dX2_questionAt_18 : decode cX2_questionAt 18 = .ok (.aload_n 0, 1) := by decide +kernel
theorem dX2_questionAt_19 : decode cX2_questionAt 19 = .ok (.getfield 13, 3) := by decide +kernel
theorem dX2_questionAt_22 : decode cX2_questionAt 22 = .ok (.iload_n 1, 1) := by decide +kernel
theorem dX2_questionAt_23 : decode cX2_questionAt 23 = .ok (.aaload, 1) := by decide +kernel
theorem dX2_questionAt_24 : decode cX2_questionAt 24 = .ok (.goto 4, 3) := by decide +kernel
theorem dX2_questionAt_27 : decode cX2_questionAt 27 = .ok (.aconst_null, 1) := by decide +kernel
theorem dX2_questionAt_28 : decode cX2_questionAt 28 = .ok (.areturn, 1) := by decide +kernel
theorem dX3_init_0 : decode cX3_init 0 = .ok (.aload_n 0, 1) := by decide +kernel
theorem dX3_init_1 : decode cX3_init 1 = .ok (.invokespecial 5, 3) := by decide +kernel
theorem dX3_init_4 : decode cX3_init 4 = .ok (.aload_n 0, 1) := by decide +kernel
theorem dX3_init_5 : decode cX3_init 5 = .ok (.sipush 240, 3) := by decide +kernel
theorem dX3_init_8 : decode cX3_init 8 = .ok (.anewarray 11, 3) := by decide +kernel
theorem dX3_init_11 : decode cX3_init 11 = .ok (.putfield 13, 3) := by decide +kernel
theorem dX3_init_14 : decode cX3_init 14 = .ok (.aload_n 0, 1) := by decide +kernel
theorem dX3_init_15 : decode cX3_init 15 = .ok (.bipush 20, 2) := by decide +kernel
theorem dX3_init_17 : decode cX3_init 17 = .ok (.newarray .int, 2) := by decide +kernel
theorem dX3_init_19 : decode cX3_init 19 = .ok (.putfield 17, 3) := by decide +kernel
theorem dX3_init_22 : decode cX3_init 22 = .ok (.aload_n 0, 1) := by decide +kernel
theorem dX3_init_23 : decode cX3_init 23 = .ok (.bipush 20, 2) := by decide +kernel
theorem dX3_init_25 : decode cX3_init 25 = .ok (.newarray .int, 2) := by decide +kernel
theorem dX3_init_27 : decode cX3_init 27 = .ok (.putfield 21, 3) := by decide +kernel
theorem dX3_init_30 : decode cX3_init 30 = .ok (.aload_n 0, 1) := by decide +kernel
theorem dX3_init_31 : decode cX3_init 31 = .ok (.iconst 0, 1) := by decide +kernel
theorem dX3_init_32 : decode cX3_init 32 = .ok (.putfield 24, 3) := by decide +kernel
theorem dX3_init_35 : decode cX3_init 35 = .ok (.aload_n 0, 1) := by decide +kernel
theorem dX3_init_36 : decode cX3_init 36 = .ok (.iconst 0, 1) := by decide +kernel
theorem dX3_init_37 : decode cX3_init 37 = .ok (.putfield 28, 3) := by decide +kernel
theorem dX3_init_40 : decode cX3_init 40 = .ok (.return_, 1) := by decide +kernel
theorem dX3_isDay_0 : decode cX3_isDay 0 = .ok (.iload_n 0, 1) := by decide +kernel
theorem dX3_isDay_1 : decode cX3_isDay 1 = .ok (.ifCond .lt 13, 3) := by decide +kernel
theorem dX3_isDay_4 : decode cX3_isDay 4 = .ok (.iload_n 0, 1) := by decide +kernel
theorem dX3_isDay_5 : decode cX3_isDay 5 = .ok (.ldc 31, 2) := by decide +kernel
theorem dX3_isDay_7 : decode cX3_isDay 7 = .ok (.if_icmp .gt 7, 3) := by decide +kernel
theorem dX3_isDay_10 : decode cX3_isDay 10 = .ok (.iconst 1, 1) := by decide +kernel
theorem dX3_isDay_11 : decode cX3_isDay 11 = .ok (.goto 4, 3) := by decide +kernel
theorem dX3_isDay_14 : decode cX3_isDay 14 = .ok (.iconst 0, 1) := by decide +kernel
theorem dX3_isDay_15 : decode cX3_isDay 15 = .ok (.ireturn, 1) := by decide +kernel
theorem dX3_isBorrower_0 : decode cX3_isBorrower 0 = .ok (.iload_n 0, 1) := by decide +kernel
theorem dX3_isBorrower_1 : decode cX3_isBorrower 1 = .ok (.ifCond .lt 13, 3) := by decide +kernel
theorem dX3_isBorrower_4 : decode cX3_isBorrower 4 = .ok (.iload_n 0, 1) := by decide +kernel
theorem dX3_isBorrower_5 : decode cX3_isBorrower 5 = .ok (.bipush 20, 2) := by decide +kernel
theorem dX3_isBorrower_7 : decode cX3_isBorrower 7 = .ok (.if_icmp .ge 7, 3) := by decide +kernel
theorem dX3_isBorrower_10 : decode cX3_isBorrower 10 = .ok (.iconst 1, 1) := by decide +kernel
theorem dX3_isBorrower_11 : decode cX3_isBorrower 11 = .ok (.goto 4, 3) := by decide +kernel
theorem dX3_isBorrower_14 : decode cX3_isBorrower 14 = .ok (.iconst 0, 1) := by decide +kernel
theorem dX3_isBorrower_15 : decode cX3_isBorrower 15 = .ok (.ireturn, 1) := by decide +kernel
theorem dX3_hasLeaveFor_0 : decode cX3_hasLeaveFor 0 = .ok (.iload_n 1, 1) := by decide +kernel
theorem dX3_hasLeaveFor_1 : decode cX3_hasLeaveFor 1 = .ok (.invokestatic 32, 3) := by decide +kernel
theorem dX3_hasLeaveFor_4 : decode cX3_hasLeaveFor 4 = .ok (.ifCond .eq 20, 3) := by decide +kernel
theorem dX3_hasLeaveFor_7 : decode cX3_hasLeaveFor 7 = .ok (.aload_n 0, 1) := by decide +kernel
theorem dX3_hasLeaveFor_8 : decode cX3_hasLeaveFor 8 = .ok (.getfield 17, 3) := by decide +kernel
theorem dX3_hasLeaveFor_11 : decode cX3_hasLeaveFor 11 = .ok (.iload_n 1, 1) := by decide +kernel
theorem dX3_hasLeaveFor_12 : decode cX3_hasLeaveFor 12 = .ok (.iaload, 1) := by decide +kernel
theorem dX3_hasLeaveFor_13 : decode cX3_hasLeaveFor 13 = .ok (.iload_n 2, 1) := by decide +kernel
theorem dX3_hasLeaveFor_14 : decode cX3_hasLeaveFor 14 = .ok (.iadd, 1) := by decide +kernel
theorem dX3_hasLeaveFor_15 : decode cX3_hasLeaveFor 15 = .ok (.bipush 12, 2) := by decide +kernel
theorem dX3_hasLeaveFor_17 : decode cX3_hasLeaveFor 17 = .ok (.if_icmp .gt 7, 3) := by decide +kernel
theorem dX3_hasLeaveFor_20 : decode cX3_hasLeaveFor 20 = .ok (.iconst 1, 1) := by decide +kernel
theorem dX3_hasLeaveFor_21 : decode cX3_hasLeaveFor 21 = .ok (.goto 4, 3) := by decide +kernel
theorem dX3_hasLeaveFor_24 : decode cX3_hasLeaveFor 24 = .ok (.iconst 0, 1) := by decide +kernel
theorem dX3_hasLeaveFor_25 : decode cX3_hasLeaveFor 25 = .ok (.ireturn, 1) := by decide +kernel
theorem dX3_open_0 : decode cX3_open 0 = .ok (.aload_n 1, 1) := by decide +kernel
theorem dX3_open_1 : decode cX3_open 1 = .ok (.getfield 36, 3) := by decide +kernel
theorem dX3_open_4 : decode cX3_open 4 = .ok (.invokestatic 32, 3) := by decide +kernel
theorem dX3_open_7 : decode cX3_open 7 = .ok (.ifCond .eq 13, 3) := by decide +kernel
theorem dX3_open_10 : decode cX3_open 10 = .ok (.aload_n 0, 1) := by decide +kernel
theorem dX3_open_11 : decode cX3_open 11 = .ok (.getfield 24, 3) := by decide +kernel
theorem dX3_open_14 : decode cX3_open 14 = .ok (.sipush 240, 3) := by decide +kernel
theorem dX3_open_17 : decode cX3_open 17 = .ok (.if_icmp .lt 4, 3) := by decide +kernel
theorem dX3_open_20 : decode cX3_open 20 = .ok (.return_, 1) := by decide +kernel
theorem dX3_open_21 : decode cX3_open 21 = .ok (.aload_n 0, 1) := by decide +kernel
theorem dX3_open_22 : decode cX3_open 22 = .ok (.getfield 24, 3) := by decide +kernel
theorem dX3_open_25 : decode cX3_open 25 = .ok (.istore_n 2, 1) := by decide +kernel
theorem dX3_open_26 : decode cX3_open 26 = .ok (.iload_n 2, 1) := by decide +kernel
theorem dX3_open_27 : decode cX3_open 27 = .ok (.ifCond .le 38, 3) := by decide +kernel
theorem dX3_open_30 : decode cX3_open 30 = .ok (.aload_n 0, 1) := by decide +kernel
theorem dX3_open_31 : decode cX3_open 31 = .ok (.getfield 13, 3) := by decide +kernel
theorem dX3_open_34 : decode cX3_open 34 = .ok (.iload_n 2, 1) := by decide +kernel
theorem dX3_open_35 : decode cX3_open 35 = .ok (.iconst 1, 1) := by decide +kernel
theorem dX3_open_36 : decode cX3_open 36 = .ok (.isub, 1) := by decide +kernel
theorem dX3_open_37 : decode cX3_open 37 = .ok (.aaload, 1) := by decide +kernel
theorem dX3_open_38 : decode cX3_open 38 = .ok (.aload_n 1, 1) := by decide +kernel
theorem dX3_open_39 : decode cX3_open 39 = .ok (.invokestatic 39, 3) := by decide +kernel
theorem dX3_open_42 : decode cX3_open 42 = .ok (.ifCond .eq 23, 3) := by decide +kernel
theorem dX3_open_45 : decode cX3_open 45 = .ok (.aload_n 0, 1) := by decide +kernel
theorem dX3_open_46 : decode cX3_open 46 = .ok (.getfield 13, 3) := by decide +kernel
theorem dX3_open_49 : decode cX3_open 49 = .ok (.iload_n 2, 1) := by decide +kernel
theorem dX3_open_50 : decode cX3_open 50 = .ok (.aload_n 0, 1) := by decide +kernel
theorem dX3_open_51 : decode cX3_open 51 = .ok (.getfield 13, 3) := by decide +kernel
theorem dX3_open_54 : decode cX3_open 54 = .ok (.iload_n 2, 1) := by decide +kernel
theorem dX3_open_55 : decode cX3_open 55 = .ok (.iconst 1, 1) := by decide +kernel
theorem dX3_open_56 : decode cX3_open 56 = .ok (.isub, 1) := by decide +kernel
theorem dX3_open_57 : decode cX3_open 57 = .ok (.aaload, 1) := by decide +kernel
theorem dX3_open_58 : decode cX3_open 58 = .ok (.aastore, 1) := by decide +kernel
theorem dX3_open_59 : decode cX3_open 59 = .ok (.iinc 2 (-1), 3) := by decide +kernel
theorem dX3_open_62 : decode cX3_open 62 = .ok (.goto (-36), 3) := by decide +kernel
theorem dX3_open_65 : decode cX3_open 65 = .ok (.aload_n 0, 1) := by decide +kernel
theorem dX3_open_66 : decode cX3_open 66 = .ok (.getfield 13, 3) := by decide +kernel
theorem dX3_open_69 : decode cX3_open 69 = .ok (.iload_n 2, 1) := by decide +kernel
theorem dX3_open_70 : decode cX3_open 70 = .ok (.aload_n 1, 1) := by decide +kernel
theorem dX3_open_71 : decode cX3_open 71 = .ok (.aastore, 1) := by decide +kernel
theorem dX3_open_72 : decode cX3_open 72 = .ok (.aload_n 0, 1) := by decide +kernel
theorem dX3_open_73 : decode cX3_open 73 = .ok (.getfield 17, 3) := by decide +kernel
theorem dX3_open_76 : decode cX3_open 76 = .ok (.aload_n 1, 1) := by decide +kernel
theorem dX3_open_77 : decode cX3_open 77 = .ok (.getfield 36, 3) := by decide +kernel
theorem dX3_open_80 : decode cX3_open 80 = .ok (.dup2, 1) := by decide +kernel
theorem dX3_open_81 : decode cX3_open 81 = .ok (.iaload, 1) := by decide +kernel
theorem dX3_open_82 : decode cX3_open 82 = .ok (.iconst 1, 1) := by decide +kernel
theorem dX3_open_83 : decode cX3_open 83 = .ok (.iadd, 1) := by decide +kernel
theorem dX3_open_84 : decode cX3_open 84 = .ok (.iastore, 1) := by decide +kernel
theorem dX3_open_85 : decode cX3_open 85 = .ok (.aload_n 0, 1) := by decide +kernel
theorem dX3_open_86 : decode cX3_open 86 = .ok (.dup, 1) := by decide +kernel
theorem dX3_open_87 : decode cX3_open 87 = .ok (.getfield 24, 3) := by decide +kernel
theorem dX3_open_90 : decode cX3_open 90 = .ok (.iconst 1, 1) := by decide +kernel
theorem dX3_open_91 : decode cX3_open 91 = .ok (.iadd, 1) := by decide +kernel
theorem dX3_open_92 : decode cX3_open 92 = .ok (.putfield 24, 3) := by decide +kernel
theorem dX3_open_95 : decode cX3_open 95 = .ok (.aload_n 0, 1) := by decide +kernel
theorem dX3_open_96 : decode cX3_open 96 = .ok (.dup, 1) := by decide +kernel
theorem dX3_open_97 : decode cX3_open 97 = .ok (.getfield 28, 3) := by decide +kernel
theorem dX3_open_100 : decode cX3_open 100 = .ok (.iconst 1, 1) := by decide +kernel
theorem dX3_open_101 : decode cX3_open 101 = .ok (.iadd, 1) := by decide +kernel
theorem dX3_open_102 : decode cX3_open 102 = .ok (.putfield 28, 3) := by decide +kernel
theorem dX3_open_105 : decode cX3_open 105 = .ok (.return_, 1) := by decide +kernel
theorem dX3_comesBehind_0 : decode cX3_comesBehind 0 = .ok (.aload_n 0, 1) := by decide +kernel
theorem dX3_comesBehind_1 : decode cX3_comesBehind 1 = .ok (.ifnonnull 5, 3) := by decide +kernel
theorem dX3_comesBehind_4 : decode cX3_comesBehind 4 = .ok (.iconst 0, 1) := by decide +kernel
theorem dX3_comesBehind_5 : decode cX3_comesBehind 5 = .ok (.ireturn, 1) := by decide +kernel
theorem dX3_comesBehind_6 : decode cX3_comesBehind 6 = .ok (.aload_n 0, 1) := by decide +kernel
theorem dX3_comesBehind_7 : decode cX3_comesBehind 7 = .ok (.invokevirtual 43, 3) := by decide +kernel
theorem dX3_comesBehind_10 : decode cX3_comesBehind 10 = .ok (.aload_n 1, 1) := by decide +kernel
theorem dX3_comesBehind_11 : decode cX3_comesBehind 11 = .ok (.invokevirtual 43, 3) := by decide +kernel
theorem dX3_comesBehind_14 : decode cX3_comesBehind 14 = .ok (.if_icmp .eq 20, 3) := by decide +kernel
theorem dX3_comesBehind_17 : decode cX3_comesBehind 17 = .ok (.aload_n 0, 1) := by decide +kernel
theorem dX3_comesBehind_18 : decode cX3_comesBehind 18 = .ok (.invokevirtual 43, 3) := by decide +kernel
theorem dX3_comesBehind_21 : decode cX3_comesBehind 21 = .ok (.aload_n 1, 1) := by decide +kernel
theorem dX3_comesBehind_22 : decode cX3_comesBehind 22 = .ok (.invokevirtual 43, 3) := by decide +kernel
theorem dX3_comesBehind_25 : decode cX3_comesBehind 25 = .ok (.if_icmp .le 7, 3) := by decide +kernel
theorem dX3_comesBehind_28 : decode cX3_comesBehind 28 = .ok (.iconst 1, 1) := by decide +kernel
theorem dX3_comesBehind_29 : decode cX3_comesBehind 29 = .ok (.goto 4, 3) := by decide +kernel
theorem dX3_comesBehind_32 : decode cX3_comesBehind 32 = .ok (.iconst 0, 1) := by decide +kernel
theorem dX3_comesBehind_33 : decode cX3_comesBehind 33 = .ok (.ireturn, 1) := by decide +kernel
theorem dX3_comesBehind_34 : decode cX3_comesBehind 34 = .ok (.aload_n 0, 1) := by decide +kernel
theorem dX3_comesBehind_35 : decode cX3_comesBehind 35 = .ok (.getfield 47, 3) := by decide +kernel
theorem dX3_comesBehind_38 : decode cX3_comesBehind 38 = .ok (.aload_n 1, 1) := by decide +kernel
theorem dX3_comesBehind_39 : decode cX3_comesBehind 39 = .ok (.getfield 47, 3) := by decide +kernel
theorem dX3_comesBehind_42 : decode cX3_comesBehind 42 = .ok (.if_icmp .le 7, 3) := by decide +kernel
theorem dX3_comesBehind_45 : decode cX3_comesBehind 45 = .ok (.iconst 1, 1) := by decide +kernel
theorem dX3_comesBehind_46 : decode cX3_comesBehind 46 = .ok (.goto 4, 3) := by decide +kernel
theorem dX3_comesBehind_49 : decode cX3_comesBehind 49 = .ok (.iconst 0, 1) := by decide +kernel
theorem dX3_comesBehind_50 : decode cX3_comesBehind 50 = .ok (.ireturn, 1) := by decide +kernel
theorem dX3_close_0 : decode cX3_close 0 = .ok (.aload_n 1, 1) := by decide +kernel
theorem dX3_close_1 : decode cX3_close 1 = .ok (.getfield 36, 3) := by decide +kernel
theorem dX3_close_4 : decode cX3_close 4 = .ok (.invokestatic 32, 3) := by decide +kernel
theorem dX3_close_7 : decode cX3_close 7 = .ok (.ifCond .ne 5, 3) := by decide +kernel
theorem dX3_close_10 : decode cX3_close 10 = .ok (.iconst (-1), 1) := by decide +kernel
theorem dX3_close_11 : decode cX3_close 11 = .ok (.ireturn, 1) := by decide +kernel
theorem dX3_close_12 : decode cX3_close 12 = .ok (.aload_n 1, 1) := by decide +kernel
theorem dX3_close_13 : decode cX3_close 13 = .ok (.iload_n 2, 1) := by decide +kernel
theorem dX3_close_14 : decode cX3_close 14 = .ok (.invokevirtual 50, 3) := by decide +kernel
theorem dX3_close_17 : decode cX3_close 17 = .ok (.istore_n 3, 1) := by decide +kernel
theorem dX3_close_18 : decode cX3_close 18 = .ok (.aload_n 0, 1) := by decide +kernel
theorem dX3_close_19 : decode cX3_close 19 = .ok (.getfield 21, 3) := by decide +kernel
theorem dX3_close_22 : decode cX3_close 22 = .ok (.aload_n 1, 1) := by decide +kernel
theorem dX3_close_23 : decode cX3_close 23 = .ok (.getfield 36, 3) := by decide +kernel
theorem dX3_close_26 : decode cX3_close 26 = .ok (.dup2, 1) := by decide +kernel
theorem dX3_close_27 : decode cX3_close 27 = .ok (.iaload, 1) := by decide +kernel
theorem dX3_close_28 : decode cX3_close 28 = .ok (.iload_n 3, 1) := by decide +kernel
theorem dX3_close_29 : decode cX3_close 29 = .ok (.iadd, 1) := by decide +kernel
theorem dX3_close_30 : decode cX3_close 30 = .ok (.iastore, 1) := by decide +kernel
theorem dX3_close_31 : decode cX3_close 31 = .ok (.aload_n 0, 1) := by decide +kernel
theorem dX3_close_32 : decode cX3_close 32 = .ok (.getfield 17, 3) := by decide +kernel
theorem dX3_close_35 : decode cX3_close 35 = .ok (.aload_n 1, 1) := by decide +kernel
theorem dX3_close_36 : decode cX3_close 36 = .ok (.getfield 36, 3) := by decide +kernel
theorem dX3_close_39 : decode cX3_close 39 = .ok (.dup2, 1) := by decide +kernel
theorem dX3_close_40 : decode cX3_close 40 = .ok (.iaload, 1) := by decide +kernel
theorem dX3_close_41 : decode cX3_close 41 = .ok (.iconst 1, 1) := by decide +kernel
theorem dX3_close_42 : decode cX3_close 42 = .ok (.isub, 1) := by decide +kernel
theorem dX3_close_43 : decode cX3_close 43 = .ok (.iastore, 1) := by decide +kernel
theorem dX3_close_44 : decode cX3_close 44 = .ok (.aload_n 0, 1) := by decide +kernel
theorem dX3_close_45 : decode cX3_close 45 = .ok (.aload_n 1, 1) := by decide +kernel
theorem dX3_close_46 : decode cX3_close 46 = .ok (.invokevirtual 54, 3) := by decide +kernel
theorem dX3_close_49 : decode cX3_close 49 = .ok (.aload_n 1, 1) := by decide +kernel
theorem dX3_close_50 : decode cX3_close 50 = .ok (.invokevirtual 58, 3) := by decide +kernel
theorem dX3_close_53 : decode cX3_close 53 = .ok (.iload_n 3, 1) := by decide +kernel
theorem dX3_close_54 : decode cX3_close 54 = .ok (.ireturn, 1) := by decide +kernel
theorem dX3_remove_0 : decode cX3_remove 0 = .ok (.iconst 0, 1) := by decide +kernel
theorem dX3_remove_1 : decode cX3_remove 1 = .ok (.istore_n 2, 1) := by decide +kernel
theorem dX3_remove_2 : decode cX3_remove 2 = .ok (.iconst 0, 1) := by decide +kernel
theorem dX3_remove_3 : decode cX3_remove 3 = .ok (.istore_n 3, 1) := by decide +kernel
theorem dX3_remove_4 : decode cX3_remove 4 = .ok (.iload_n 3, 1) := by decide +kernel
theorem dX3_remove_5 : decode cX3_remove 5 = .ok (.aload_n 0, 1) := by decide +kernel
theorem dX3_remove_6 : decode cX3_remove 6 = .ok (.getfield 24, 3) := by decide +kernel
theorem dX3_remove_9 : decode cX3_remove 9 = .ok (.if_icmp .ge 41, 3) := by decide +kernel
theorem dX3_remove_12 : decode cX3_remove 12 = .ok (.iload_n 3, 1) := by decide +kernel
theorem dX3_remove_13 : decode cX3_remove 13 = .ok (.sipush 240, 3) := by decide +kernel
theorem dX3_remove_16 : decode cX3_remove 16 = .ok (.if_icmp .ge 34, 3) := by decide +kernel
theorem dX3_remove_19 : decode cX3_remove 19 = .ok (.aload_n 0, 1) := by decide +kernel
theorem dX3_remove_20 : decode cX3_remove 20 = .ok (.getfield 13, 3) := by decide +kernel
theorem dX3_remove_23 : decode cX3_remove 23 = .ok (.iload_n 3, 1) := by decide +kernel
theorem dX3_remove_24 : decode cX3_remove 24 = .ok (.aaload, 1) := by decide +kernel
theorem dX3_remove_25 : decode cX3_remove 25 = .ok (.aload_n 1, 1) := by decide +kernel
theorem dX3_remove_26 : decode cX3_remove 26 = .ok (.if_acmp .eq 18, 3) := by decide +kernel
theorem dX3_remove_29 : decode cX3_remove 29 = .ok (.aload_n 0, 1) := by decide +kernel
theorem dX3_remove_30 : decode cX3_remove 30 = .ok (.getfield 13, 3) := by decide +kernel
theorem dX3_remove_33 : decode cX3_remove 33 = .ok (.iload_n 2, 1) := by decide +kernel
theorem dX3_remove_34 : decode cX3_remove 34 = .ok (.aload_n 0, 1) := by decide +kernel
theorem dX3_remove_35 : decode cX3_remove 35 = .ok (.getfield 13, 3) := by decide +kernel
theorem dX3_remove_38 : decode cX3_remove 38 = .ok (.iload_n 3, 1) := by decide +kernel
theorem dX3_remove_39 : decode cX3_remove 39 = .ok (.aaload, 1) := by decide +kernel
theorem dX3_remove_40 : decode cX3_remove 40 = .ok (.aastore, 1) := by decide +kernel
theorem dX3_remove_41 : decode cX3_remove 41 = .ok (.iinc 2 1, 3) := by decide +kernel
theorem dX3_remove_44 : decode cX3_remove 44 = .ok (.iinc 3 1, 3) := by decide +kernel
theorem dX3_remove_47 : decode cX3_remove 47 = .ok (.goto (-43), 3) := by decide +kernel
theorem dX3_remove_50 : decode cX3_remove 50 = .ok (.aload_n 0, 1) := by decide +kernel
theorem dX3_remove_51 : decode cX3_remove 51 = .ok (.iload_n 2, 1) := by decide +kernel
theorem dX3_remove_52 : decode cX3_remove 52 = .ok (.putfield 24, 3) := by decide +kernel
theorem dX3_remove_55 : decode cX3_remove 55 = .ok (.return_, 1) := by decide +kernel
theorem dX3_lateCount_0 : decode cX3_lateCount 0 = .ok (.iconst 0, 1) := by decide +kernel
theorem dX3_lateCount_1 : decode cX3_lateCount 1 = .ok (.istore_n 2, 1) := by decide +kernel
theorem dX3_lateCount_2 : decode cX3_lateCount 2 = .ok (.iconst 0, 1) := by decide +kernel
theorem dX3_lateCount_3 : decode cX3_lateCount 3 = .ok (.istore_n 3, 1) := by decide +kernel
theorem dX3_lateCount_4 : decode cX3_lateCount 4 = .ok (.iload_n 3, 1) := by decide +kernel
theorem dX3_lateCount_5 : decode cX3_lateCount 5 = .ok (.aload_n 0, 1) := by decide +kernel
theorem dX3_lateCount_6 : decode cX3_lateCount 6 = .ok (.getfield 24, 3) := by decide +kernel
theorem dX3_lateCount_9 : decode cX3_lateCount 9 = .ok (.if_icmp .ge 41, 3) := by decide +kernel
theorem dX3_lateCount_12 : decode cX3_lateCount 12 = .ok (.iload_n 3, 1) := by decide +kernel
theorem dX3_lateCount_13 : decode cX3_lateCount 13 = .ok (.sipush 240, 3) := by decide +kernel
theorem dX3_lateCount_16 : decode cX3_lateCount 16 = .ok (.if_icmp .ge 34, 3) := by decide +kernel
theorem dX3_lateCount_19 : decode cX3_lateCount 19 = .ok (.aload_n 0, 1) := by decide +kernel
theorem dX3_lateCount_20 : decode cX3_lateCount 20 = .ok (.getfield 13, 3) := by decide +kernel
theorem dX3_lateCount_23 : decode cX3_lateCount 23 = .ok (.iload_n 3, 1) := by decide +kernel
theorem dX3_lateCount_24 : decode cX3_lateCount 24 = .ok (.aaload, 1) := by decide +kernel
theorem dX3_lateCount_25 : decode cX3_lateCount 25 = .ok (.astore 4, 2) := by decide +kernel
theorem dX3_lateCount_27 : decode cX3_lateCount 27 = .ok (.aload 4, 2) := by decide +kernel
theorem dX3_lateCount_29 : decode cX3_lateCount 29 = .ok (.ifnull 15, 3) := by decide +kernel
theorem dX3_lateCount_32 : decode cX3_lateCount 32 = .ok (.aload 4, 2) := by decide +kernel
theorem dX3_lateCount_34 : decode cX3_lateCount 34 = .ok (.invokevirtual 43, 3) := by decide +kernel
theorem dX3_lateCount_37 : decode cX3_lateCount 37 = .ok (.iload_n 1, 1) := by decide +kernel
theorem dX3_lateCount_38 : decode cX3_lateCount 38 = .ok (.if_icmp .ge 6, 3) := by decide +kernel
theorem dX3_lateCount_41 : decode cX3_lateCount 41 = .ok (.iinc 2 1, 3) := by decide +kernel
theorem dX3_lateCount_44 : decode cX3_lateCount 44 = .ok (.iinc 3 1, 3) := by decide +kernel
theorem dX3_lateCount_47 : decode cX3_lateCount 47 = .ok (.goto (-43), 3) := by decide +kernel
theorem dX3_lateCount_50 : decode cX3_lateCount 50 = .ok (.iload_n 2, 1) := by decide +kernel
theorem dX3_lateCount_51 : decode cX3_lateCount 51 = .ok (.ireturn, 1) := by decide +kernel
theorem dX3_lateAt_0 : decode cX3_lateAt 0 = .ok (.iload_n 2, 1) := by decide +kernel
theorem dX3_lateAt_1 : decode cX3_lateAt 1 = .ok (.ifCond .lt 18, 3) := by decide +kernel
theorem dX3_lateAt_4 : decode cX3_lateAt 4 = .ok (.iload_n 2, 1) := by decide +kernel
theorem dX3_lateAt_5 : decode cX3_lateAt 5 = .ok (.aload_n 0, 1) := by decide +kernel
theorem dX3_lateAt_6 : decode cX3_lateAt 6 = .ok (.getfield 24, 3) := by decide +kernel
theorem dX3_lateAt_9 : decode cX3_lateAt 9 = .ok (.if_icmp .ge 10, 3) := by decide +kernel
theorem dX3_lateAt_12 : decode cX3_lateAt 12 = .ok (.iload_n 2, 1) := by decide +kernel
theorem dX3_lateAt_13 : decode cX3_lateAt 13 = .ok (.sipush 240, 3) := by decide +kernel
theorem dX3_lateAt_16 : decode cX3_lateAt 16 = .ok (.if_icmp .lt 5, 3) := by decide +kernel
theorem dX3_lateAt_19 : decode cX3_lateAt 19 = .ok (.iconst (-1), 1) := by decide +kernel
theorem dX3_lateAt_20 : decode cX3_lateAt 20 = .ok (.ireturn, 1) := by decide +kernel
theorem dX3_lateAt_21 : decode cX3_lateAt 21 = .ok (.aload_n 0, 1) := by decide +kernel
theorem dX3_lateAt_22 : decode cX3_lateAt 22 = .ok (.getfield 13, 3) := by decide +kernel
theorem dX3_lateAt_25 : decode cX3_lateAt 25 = .ok (.iload_n 2, 1) := by decide +kernel
theorem dX3_lateAt_26 : decode cX3_lateAt 26 = .ok (.aaload, 1) := by decide +kernel
theorem dX3_lateAt_27 : decode cX3_lateAt 27 = .ok (.astore_n 3, 1) := by decide +kernel
theorem dX3_lateAt_28 : decode cX3_lateAt 28 = .ok (.aload_n 3, 1) := by decide +kernel
theorem dX3_lateAt_29 : decode cX3_lateAt 29 = .ok (.ifnull 18, 3) := by decide +kernel
theorem dX3_lateAt_32 : decode cX3_lateAt 32 = .ok (.aload_n 3, 1) := by decide +kernel
theorem dX3_lateAt_33 : decode cX3_lateAt 33 = .ok (.invokevirtual 43, 3) := by decide +kernel
theorem dX3_lateAt_36 : decode cX3_lateAt 36 = .ok (.iload_n 1, 1) := by decide +kernel
theorem dX3_lateAt_37 : decode cX3_lateAt 37 = .ok (.if_icmp .ge 10, 3) := by decide +kernel
theorem dX3_lateAt_40 : decode cX3_lateAt 40 = .ok (.aload_n 3, 1) := by decide +kernel
theorem dX3_lateAt_41 : decode cX3_lateAt 41 = .ok (.getfield 47, 3) := by decide +kernel
theorem dX3_lateAt_44 : decode cX3_lateAt 44 = .ok (.goto 4, 3) := by decide +kernel
theorem dX3_lateAt_47 : decode cX3_lateAt 47 = .ok (.iconst (-1), 1) := by decide +kernel
theorem dX3_lateAt_48 : decode cX3_lateAt 48 = .ok (.ireturn, 1) := by decide +kernel
theorem dX3_owed_0 : decode cX3_owed 0 = .ok (.iload_n 1, 1) := by decide +kernel
theorem dX3_owed_1 : decode cX3_owed 1 = .ok (.invokestatic 32, 3) := by decide +kernel
theorem dX3_owed_4 : decode cX3_owed 4 = .ok (.ifCond .ne 5, 3) := by decide +kernel
theorem dX3_owed_7 : decode cX3_owed 7 = .ok (.iconst (-1), 1) := by decide +kernel
theorem dX3_owed_8 : decode cX3_owed 8 = .ok (.ireturn, 1) := by decide +kernel
theorem dX3_owed_9 : decode cX3_owed 9 = .ok (.aload_n 0, 1) := by decide +kernel
theorem dX3_owed_10 : decode cX3_owed 10 = .ok (.getfield 21, 3) := by decide +kernel
theorem dX3_owed_13 : decode cX3_owed 13 = .ok (.iload_n 1, 1) := by decide +kernel
theorem dX3_owed_14 : decode cX3_owed 14 = .ok (.iaload, 1) := by decide +kernel
theorem dX3_owed_15 : decode cX3_owed 15 = .ok (.istore_n 3, 1) := by decide +kernel
theorem dX3_owed_16 : decode cX3_owed 16 = .ok (.iconst 0, 1) := by decide +kernel
theorem dX3_owed_17 : decode cX3_owed 17 = .ok (.istore 4, 2) := by decide +kernel
theorem dX3_owed_19 : decode cX3_owed 19 = .ok (.iload 4, 2) := by decide +kernel
theorem dX3_owed_21 : decode cX3_owed 21 = .ok (.aload_n 0, 1) := by decide +kernel
theorem dX3_owed_22 : decode cX3_owed 22 = .ok (.getfield 24, 3) := by decide +kernel
theorem dX3_owed_25 : decode cX3_owed 25 = .ok (.if_icmp .ge 49, 3) := by decide +kernel
theorem dX3_owed_28 : decode cX3_owed 28 = .ok (.iload 4, 2) := by decide +kernel
theorem dX3_owed_30 : decode cX3_owed 30 = .ok (.sipush 240, 3) := by decide +kernel
theorem dX3_owed_33 : decode cX3_owed 33 = .ok (.if_icmp .ge 41, 3) := by decide +kernel
theorem dX3_owed_36 : decode cX3_owed 36 = .ok (.aload_n 0, 1) := by decide +kernel
theorem dX3_owed_37 : decode cX3_owed 37 = .ok (.getfield 13, 3) := by decide +kernel
theorem dX3_owed_40 : decode cX3_owed 40 = .ok (.iload 4, 2) := by decide +kernel
theorem dX3_owed_42 : decode cX3_owed 42 = .ok (.aaload, 1) := by decide +kernel
theorem dX3_owed_43 : decode cX3_owed 43 = .ok (.astore 5, 2) := by decide +kernel
theorem dX3_owed_45 : decode cX3_owed 45 = .ok (.aload 5, 2) := by decide +kernel
theorem dX3_owed_47 : decode cX3_owed 47 = .ok (.ifnull 21, 3) := by decide +kernel
theorem dX3_owed_50 : decode cX3_owed 50 = .ok (.aload 5, 2) := by decide +kernel
theorem dX3_owed_52 : decode cX3_owed 52 = .ok (.getfield 36, 3) := by decide +kernel
theorem dX3_owed_55 : decode cX3_owed 55 = .ok (.iload_n 1, 1) := by decide +kernel
theorem dX3_owed_56 : decode cX3_owed 56 = .ok (.if_icmp .ne 12, 3) := by decide +kernel
theorem dX3_owed_59 : decode cX3_owed 59 = .ok (.iload_n 3, 1) := by decide +kernel
theorem dX3_owed_60 : decode cX3_owed 60 = .ok (.aload 5, 2) := by decide +kernel
theorem dX3_owed_62 : decode cX3_owed 62 = .ok (.iload_n 2, 1) := by decide +kernel
theorem dX3_owed_63 : decode cX3_owed 63 = .ok (.invokevirtual 50, 3) := by decide +kernel
theorem dX3_owed_66 : decode cX3_owed 66 = .ok (.iadd, 1) := by decide +kernel
theorem dX3_owed_67 : decode cX3_owed 67 = .ok (.istore_n 3, 1) := by decide +kernel
theorem dX3_owed_68 : decode cX3_owed 68 = .ok (.iinc 4 1, 3) := by decide +kernel
theorem dX3_owed_71 : decode cX3_owed 71 = .ok (.goto (-52), 3) := by decide +kernel
theorem dX3_owed_74 : decode cX3_owed 74 = .ok (.iload_n 3, 1) := by decide +kernel
theorem dX3_owed_75 : decode cX3_owed 75 = .ok (.ireturn, 1) := by decide +kernel
theorem dX3_chargedToAll_0 : decode cX3_chargedToAll 0 = .ok (.iconst 0, 1) := by decide +kernel
theorem dX3_chargedToAll_1 : decode cX3_chargedToAll 1 = .ok (.istore_n 1, 1) := by decide +kernel
theorem dX3_chargedToAll_2 : decode cX3_chargedToAll 2 = .ok (.iconst 0, 1) := by decide +kernel
theorem dX3_chargedToAll_3 : decode cX3_chargedToAll 3 = .ok (.istore_n 2, 1) := by decide +kernel
theorem dX3_chargedToAll_4 : decode cX3_chargedToAll 4 = .ok (.iload_n 2, 1) := by decide +kernel
theorem dX3_chargedToAll_5 : decode cX3_chargedToAll 5 = .ok (.bipush 20, 2) := by decide +kernel
theorem dX3_chargedToAll_7 : decode cX3_chargedToAll 7 = .ok (.if_icmp .ge 18, 3) := by decide +kernel
theorem dX3_chargedToAll_10 : decode cX3_chargedToAll 10 = .ok (.iload_n 1, 1) := by decide +kernel
theorem dX3_chargedToAll_11 : decode cX3_chargedToAll 11 = .ok (.aload_n 0, 1) := by decide +kernel
theorem dX3_chargedToAll_12 : decode cX3_chargedToAll 12 = .ok (.getfield 21, 3) := by decide +kernel
theorem dX3_chargedToAll_15 : decode cX3_chargedToAll 15 = .ok (.iload_n 2, 1) := by decide +kernel
theorem dX3_chargedToAll_16 : decode cX3_chargedToAll 16 = .ok (.iaload, 1) := by decide +kernel
theorem dX3_chargedToAll_17 : decode cX3_chargedToAll 17 = .ok (.iadd, 1) := by decide +kernel
theorem dX3_chargedToAll_18 : decode cX3_chargedToAll 18 = .ok (.istore_n 1, 1) := by decide +kernel
theorem dX3_chargedToAll_19 : decode cX3_chargedToAll 19 = .ok (.iinc 2 1, 3) := by decide +kernel
theorem dX3_chargedToAll_22 : decode cX3_chargedToAll 22 = .ok (.goto (-18), 3) := by decide +kernel
theorem dX3_chargedToAll_25 : decode cX3_chargedToAll 25 = .ok (.iload_n 1, 1) := by decide +kernel
theorem dX3_chargedToAll_26 : decode cX3_chargedToAll 26 = .ok (.ireturn, 1) := by decide +kernel
theorem dX4_init_0 : decode cX4_init 0 = .ok (.aload_n 0, 1) := by decide +kernel
theorem dX4_init_1 : decode cX4_init 1 = .ok (.invokespecial 1, 3) := by decide +kernel
theorem dX4_init_4 : decode cX4_init 4 = .ok (.aload_n 0, 1) := by decide +kernel
theorem dX4_init_5 : decode cX4_init 5 = .ok (.iload_n 1, 1) := by decide +kernel
theorem dX4_init_6 : decode cX4_init 6 = .ok (.putfield 7, 3) := by decide +kernel
theorem dX4_init_9 : decode cX4_init 9 = .ok (.aload_n 0, 1) := by decide +kernel
theorem dX4_init_10 : decode cX4_init 10 = .ok (.iload_n 2, 1) := by decide +kernel
theorem dX4_init_11 : decode cX4_init 11 = .ok (.putfield 13, 3) := by decide +kernel
theorem dX4_init_14 : decode cX4_init 14 = .ok (.aload_n 0, 1) := by decide +kernel
theorem dX4_init_15 : decode cX4_init 15 = .ok (.iload_n 3, 1) := by decide +kernel
theorem dX4_init_16 : decode cX4_init 16 = .ok (.putfield 16, 3) := by decide +kernel
theorem dX4_init_19 : decode cX4_init 19 = .ok (.aload_n 0, 1) := by decide +kernel
theorem dX4_init_20 : decode cX4_init 20 = .ok (.iload 4, 2) := by decide +kernel
theorem dX4_init_22 : decode cX4_init 22 = .ok (.putfield 19, 3) := by decide +kernel
theorem dX4_init_25 : decode cX4_init 25 = .ok (.return_, 1) := by decide +kernel
theorem dX4_mayAsk_0 : decode cX4_mayAsk 0 = .ok (.iload_n 0, 1) := by decide +kernel
theorem dX4_mayAsk_1 : decode cX4_mayAsk 1 = .ok (.bipush 60, 2) := by decide +kernel
theorem dX4_mayAsk_3 : decode cX4_mayAsk 3 = .ok (.if_icmp .eq 9, 3) := by decide +kernel
theorem dX4_mayAsk_6 : decode cX4_mayAsk 6 = .ok (.iload_n 0, 1) := by decide +kernel
theorem dX4_mayAsk_7 : decode cX4_mayAsk 7 = .ok (.bipush 61, 2) := by decide +kernel
theorem dX4_mayAsk_9 : decode cX4_mayAsk 9 = .ok (.if_icmp .ne 8, 3) := by decide +kernel
theorem dX4_mayAsk_12 : decode cX4_mayAsk 12 = .ok (.iload_n 1, 1) := by decide +kernel
theorem dX4_mayAsk_13 : decode cX4_mayAsk 13 = .ok (.invokestatic 22, 3) := by decide +kernel
theorem dX4_mayAsk_16 : decode cX4_mayAsk 16 = .ok (.ireturn, 1) := by decide +kernel
theorem dX4_mayAsk_17 : decode cX4_mayAsk 17 = .ok (.iload_n 0, 1) := by decide +kernel
theorem dX4_mayAsk_18 : decode cX4_mayAsk 18 = .ok (.invokestatic 28, 3) := by decide +kernel
theorem dX4_mayAsk_21 : decode cX4_mayAsk 21 = .ok (.ifCond .eq 11, 3) := by decide +kernel
theorem dX4_mayAsk_24 : decode cX4_mayAsk 24 = .ok (.iload_n 1, 1) := by decide +kernel
theorem dX4_mayAsk_25 : decode cX4_mayAsk 25 = .ok (.ifCond .ne 7, 3) := by decide +kernel
theorem dX4_mayAsk_28 : decode cX4_mayAsk 28 = .ok (.iconst 1, 1) := by decide +kernel
theorem dX4_mayAsk_29 : decode cX4_mayAsk 29 = .ok (.goto 4, 3) := by decide +kernel
theorem dX4_mayAsk_32 : decode cX4_mayAsk 32 = .ok (.iconst 0, 1) := by decide +kernel
theorem dX4_mayAsk_33 : decode cX4_mayAsk 33 = .ok (.ireturn, 1) := by decide +kernel
theorem dX4_tell_0 : decode cX4_tell 0 = .ok (.aload_n 0, 1) := by decide +kernel
theorem dX4_tell_1 : decode cX4_tell 1 = .ok (.aload_n 1, 1) := by decide +kernel
theorem dX4_tell_2 : decode cX4_tell 2 = .ok (.invokevirtual 33, 3) := by decide +kernel
theorem dX4_tell_5 : decode cX4_tell 5 = .ok (.ifCond .eq 10, 3) := by decide +kernel
theorem dX4_tell_8 : decode cX4_tell 8 = .ok (.aload_n 0, 1) := by decide +kernel
theorem dX4_tell_9 : decode cX4_tell 9 = .ok (.getfield 16, 3) := by decide +kernel
theorem dX4_tell_12 : decode cX4_tell 12 = .ok (.goto 7, 3) := by decide +kernel
theorem dX4_tell_15 : decode cX4_tell 15 = .ok (.aload_n 0, 1) := by decide +kernel
theorem dX4_tell_16 : decode cX4_tell 16 = .ok (.getfield 19, 3) := by decide +kernel
theorem dX4_tell_19 : decode cX4_tell 19 = .ok (.ireturn, 1) := by decide +kernel
theorem dX4_holdsFor_0 : decode cX4_holdsFor 0 = .ok (.aload_n 0, 1) := by decide +kernel
theorem dX4_holdsFor_1 : decode cX4_holdsFor 1 = .ok (.getfield 7, 3) := by decide +kernel
theorem dX4_holdsFor_4 : decode cX4_holdsFor 4 = .ok (.bipush 60, 2) := by decide +kernel
theorem dX4_holdsFor_6 : decode cX4_holdsFor 6 = .ok (.if_icmp .ne 20, 3) := by decide +kernel
theorem dX4_holdsFor_9 : decode cX4_holdsFor 9 = .ok (.aload_n 1, 1) := by decide +kernel
theorem dX4_holdsFor_10 : decode cX4_holdsFor 10 = .ok (.getfield 37, 3) := by decide +kernel
theorem dX4_holdsFor_13 : decode cX4_holdsFor 13 = .ok (.aload_n 0, 1) := by decide +kernel
theorem dX4_holdsFor_14 : decode cX4_holdsFor 14 = .ok (.getfield 13, 3) := by decide +kernel
theorem dX4_holdsFor_17 : decode cX4_holdsFor 17 = .ok (.if_icmp .lt 7, 3) := by decide +kernel
theorem dX4_holdsFor_20 : decode cX4_holdsFor 20 = .ok (.iconst 1, 1) := by decide +kernel
theorem dX4_holdsFor_21 : decode cX4_holdsFor 21 = .ok (.goto 4, 3) := by decide +kernel
theorem dX4_holdsFor_24 : decode cX4_holdsFor 24 = .ok (.iconst 0, 1) := by decide +kernel
theorem dX4_holdsFor_25 : decode cX4_holdsFor 25 = .ok (.ireturn, 1) := by decide +kernel
theorem dX4_holdsFor_26 : decode cX4_holdsFor 26 = .ok (.aload_n 0, 1) := by decide +kernel
theorem dX4_holdsFor_27 : decode cX4_holdsFor 27 = .ok (.getfield 7, 3) := by decide +kernel
theorem dX4_holdsFor_30 : decode cX4_holdsFor 30 = .ok (.bipush 61, 2) := by decide +kernel
theorem dX4_holdsFor_32 : decode cX4_holdsFor 32 = .ok (.if_icmp .ne 20, 3) := by decide +kernel
theorem dX4_holdsFor_35 : decode cX4_holdsFor 35 = .ok (.aload_n 1, 1) := by decide +kernel
theorem dX4_holdsFor_36 : decode cX4_holdsFor 36 = .ok (.getfield 40, 3) := by decide +kernel
theorem dX4_holdsFor_39 : decode cX4_holdsFor 39 = .ok (.aload_n 0, 1) := by decide +kernel
theorem dX4_holdsFor_40 : decode cX4_holdsFor 40 = .ok (.getfield 13, 3) := by decide +kernel
theorem dX4_holdsFor_43 : decode cX4_holdsFor 43 = .ok (.if_icmp .lt 7, 3) := by decide +kernel
theorem dX4_holdsFor_46 : decode cX4_holdsFor 46 = .ok (.iconst 1, 1) := by decide +kernel
theorem dX4_holdsFor_47 : decode cX4_holdsFor 47 = .ok (.goto 4, 3) := by decide +kernel
theorem dX4_holdsFor_50 : decode cX4_holdsFor 50 = .ok (.iconst 0, 1) := by decide +kernel
theorem dX4_holdsFor_51 : decode cX4_holdsFor 51 = .ok (.ireturn, 1) := by decide +kernel
theorem dX4_holdsFor_52 : decode cX4_holdsFor 52 = .ok (.aload_n 1, 1) := by decide +kernel
theorem dX4_holdsFor_53 : decode cX4_holdsFor 53 = .ok (.getfield 43, 3) := by decide +kernel
theorem dX4_holdsFor_56 : decode cX4_holdsFor 56 = .ok (.aload_n 0, 1) := by decide +kernel
theorem dX4_holdsFor_57 : decode cX4_holdsFor 57 = .ok (.getfield 7, 3) := by decide +kernel
theorem dX4_holdsFor_60 : decode cX4_holdsFor 60 = .ok (.invokestatic 46, 3) := by decide +kernel
theorem dX4_holdsFor_63 : decode cX4_holdsFor 63 = .ok (.ireturn, 1) := by decide +kernel
theorem dX5_init_0 : decode cX5_init 0 = .ok (.aload_n 0, 1) := by decide +kernel
theorem dX5_init_1 : decode cX5_init 1 = .ok (.invokespecial 3, 3) := by decide +kernel
theorem dX5_init_4 : decode cX5_init 4 = .ok (.aload_n 0, 1) := by decide +kernel
theorem dX5_init_5 : decode cX5_init 5 = .ok (.iconst 5, 1) := by decide +kernel
theorem dX5_init_6 : decode cX5_init 6 = .ok (.newarray .long, 2) := by decide +kernel
theorem dX5_init_8 : decode cX5_init 8 = .ok (.putfield 11, 3) := by decide +kernel
theorem dX5_init_11 : decode cX5_init 11 = .ok (.aload_n 0, 1) := by decide +kernel
theorem dX5_init_12 : decode cX5_init 12 = .ok (.sipush 245, 3) := by decide +kernel
theorem dX5_init_15 : decode cX5_init 15 = .ok (.newarray .int, 2) := by decide +kernel
theorem dX5_init_17 : decode cX5_init 17 = .ok (.putfield 17, 3) := by decide +kernel
theorem dX5_init_20 : decode cX5_init 20 = .ok (.return_, 1) := by decide +kernel
theorem dX5_isField_0 : decode cX5_isField 0 = .ok (.iload_n 0, 1) := by decide +kernel
theorem dX5_isField_1 : decode cX5_isField 1 = .ok (.ifCond .lt 12, 3) := by decide +kernel
theorem dX5_isField_4 : decode cX5_isField 4 = .ok (.iload_n 0, 1) := by decide +kernel
theorem dX5_isField_5 : decode cX5_isField 5 = .ok (.iconst 5, 1) := by decide +kernel
theorem dX5_isField_6 : decode cX5_isField 6 = .ok (.if_icmp .ge 7, 3) := by decide +kernel
theorem dX5_isField_9 : decode cX5_isField 9 = .ok (.iconst 1, 1) := by decide +kernel
theorem dX5_isField_10 : decode cX5_isField 10 = .ok (.goto 4, 3) := by decide +kernel
theorem dX5_isField_13 : decode cX5_isField 13 = .ok (.iconst 0, 1) := by decide +kernel
theorem dX5_isField_14 : decode cX5_isField 14 = .ok (.ireturn, 1) := by decide +kernel
theorem dX5_lay_0 : decode cX5_lay 0 = .ok (.iload_n 1, 1) := by decide +kernel
theorem dX5_lay_1 : decode cX5_lay 1 = .ok (.invokestatic 21, 3) := by decide +kernel
theorem dX5_lay_4 : decode cX5_lay 4 = .ok (.ifCond .eq 23, 3) := by decide +kernel
theorem dX5_lay_7 : decode cX5_lay 7 = .ok (.iload_n 2, 1) := by decide +kernel
theorem dX5_lay_8 : decode cX5_lay 8 = .ok (.invokestatic 25, 3) := by decide +kernel
theorem dX5_lay_11 : decode cX5_lay 11 = .ok (.ifCond .eq 16, 3) := by decide +kernel
theorem dX5_lay_14 : decode cX5_lay 14 = .ok (.iload_n 3, 1) := by decide +kernel
theorem dX5_lay_15 : decode cX5_lay 15 = .ok (.ifCond .lt 12, 3) := by decide +kernel
theorem dX5_lay_18 : decode cX5_lay 18 = .ok (.iload_n 3, 1) := by decide +kernel
theorem dX5_lay_19 : decode cX5_lay 19 = .ok (.getstatic 28, 3) := by decide +kernel
theorem dX5_lay_22 : decode cX5_lay 22 = .ok (.iload_n 2, 1) := by decide +kernel
theorem dX5_lay_23 : decode cX5_lay 23 = .ok (.iaload, 1) := by decide +kernel
theorem dX5_lay_24 : decode cX5_lay 24 = .ok (.if_icmp .le 5, 3) := by decide +kernel
theorem dX5_lay_27 : decode cX5_lay 27 = .ok (.iconst 0, 1) := by decide +kernel
theorem dX5_lay_28 : decode cX5_lay 28 = .ok (.ireturn, 1) := by decide +kernel
theorem dX5_lay_29 : decode cX5_lay 29 = .ok (.aload_n 0, 1) := by decide +kernel
theorem dX5_lay_30 : decode cX5_lay 30 = .ok (.getfield 11, 3) := by decide +kernel
theorem dX5_lay_33 : decode cX5_lay 33 = .ok (.iload_n 2, 1) := by decide +kernel
theorem dX5_lay_34 : decode cX5_lay 34 = .ok (.dup2, 1) := by decide +kernel
theorem dX5_lay_35 : decode cX5_lay 35 = .ok (.laload, 1) := by decide +kernel
theorem dX5_lay_36 : decode cX5_lay 36 = .ok (.lconst 1, 1) := by decide +kernel
theorem dX5_lay_37 : decode cX5_lay 37 = .ok (.iload_n 1, 1) := by decide +kernel
theorem dX5_lay_38 : decode cX5_lay 38 = .ok (.lshl, 1) := by decide +kernel
theorem dX5_lay_39 : decode cX5_lay 39 = .ok (.lor, 1) := by decide +kernel
theorem dX5_lay_40 : decode cX5_lay 40 = .ok (.lastore, 1) := by decide +kernel
theorem dX5_lay_41 : decode cX5_lay 41 = .ok (.aload_n 0, 1) := by decide +kernel
theorem dX5_lay_42 : decode cX5_lay 42 = .ok (.getfield 17, 3) := by decide +kernel
theorem dX5_lay_45 : decode cX5_lay 45 = .ok (.iload_n 2, 1) := by decide +kernel
theorem dX5_lay_46 : decode cX5_lay 46 = .ok (.bipush 49, 2) := by decide +kernel
theorem dX5_lay_48 : decode cX5_lay 48 = .ok (.imul, 1) := by decide +kernel
theorem dX5_lay_49 : decode cX5_lay 49 = .ok (.iload_n 1, 1) := by decide +kernel
theorem dX5_lay_50 : decode cX5_lay 50 = .ok (.iadd, 1) := by decide +kernel
theorem dX5_lay_51 : decode cX5_lay 51 = .ok (.iload_n 3, 1) := by decide +kernel
theorem dX5_lay_52 : decode cX5_lay 52 = .ok (.iastore, 1) := by decide +kernel
theorem dX5_lay_53 : decode cX5_lay 53 = .ok (.iconst 1, 1) := by decide +kernel
theorem dX5_lay_54 : decode cX5_lay 54 = .ok (.ireturn, 1) := by decide +kernel
theorem dX5_drop_0 : decode cX5_drop 0 = .ok (.iload_n 1, 1) := by decide +kernel
theorem dX5_drop_1 : decode cX5_drop 1 = .ok (.invokestatic 21, 3) := by decide +kernel
theorem dX5_drop_4 : decode cX5_drop 4 = .ok (.ifCond .eq 23, 3) := by decide +kernel
theorem dX5_drop_7 : decode cX5_drop 7 = .ok (.iload_n 2, 1) := by decide +kernel
theorem dX5_drop_8 : decode cX5_drop 8 = .ok (.invokestatic 25, 3) := by decide +kernel
theorem dX5_drop_11 : decode cX5_drop 11 = .ok (.ifCond .eq 16, 3) := by decide +kernel
theorem dX5_drop_14 : decode cX5_drop 14 = .ok (.aload_n 0, 1) := by decide +kernel
theorem dX5_drop_15 : decode cX5_drop 15 = .ok (.getfield 11, 3) := by decide +kernel
theorem dX5_drop_18 : decode cX5_drop 18 = .ok (.iload_n 2, 1) := by decide +kernel
theorem dX5_drop_19 : decode cX5_drop 19 = .ok (.laload, 1) := by decide +kernel
theorem dX5_drop_20 : decode cX5_drop 20 = .ok (.iload_n 1, 1) := by decide +kernel
theorem dX5_drop_21 : decode cX5_drop 21 = .ok (.invokestatic 31, 3) := by decide +kernel
theorem dX5_drop_24 : decode cX5_drop 24 = .ok (.ifCond .ne 5, 3) := by decide +kernel
theorem dX5_drop_27 : decode cX5_drop 27 = .ok (.iconst 0, 1) := by decide +kernel
theorem dX5_drop_28 : decode cX5_drop 28 = .ok (.ireturn, 1) := by decide +kernel
theorem dX5_drop_29 : decode cX5_drop 29 = .ok (.aload_n 0, 1) := by decide +kernel
theorem dX5_drop_30 : decode cX5_drop 30 = .ok (.getfield 11, 3) := by decide +kernel
theorem dX5_drop_33 : decode cX5_drop 33 = .ok (.iload_n 2, 1) := by decide +kernel
theorem dX5_drop_34 : decode cX5_drop 34 = .ok (.dup2, 1) := by decide +kernel
theorem dX5_drop_35 : decode cX5_drop 35 = .ok (.laload, 1) := by decide +kernel
theorem dX5_drop_36 : decode cX5_drop 36 = .ok (.lconst 1, 1) := by decide +kernel
theorem dX5_drop_37 : decode cX5_drop 37 = .ok (.iload_n 1, 1) := by decide +kernel
theorem dX5_drop_38 : decode cX5_drop 38 = .ok (.lshl, 1) := by decide +kernel
theorem dX5_drop_39 : decode cX5_drop 39 = .ok (.ldc2_w 35, 3) := by decide +kernel
theorem dX5_drop_42 : decode cX5_drop 42 = .ok (.lxor, 1) := by decide +kernel
theorem dX5_drop_43 : decode cX5_drop 43 = .ok (.land, 1) := by decide +kernel
theorem dX5_drop_44 : decode cX5_drop 44 = .ok (.lastore, 1) := by decide +kernel
theorem dX5_drop_45 : decode cX5_drop 45 = .ok (.iconst 1, 1) := by decide +kernel
theorem dX5_drop_46 : decode cX5_drop 46 = .ok (.ireturn, 1) := by decide +kernel
theorem dX5_size_0 : decode cX5_size 0 = .ok (.iconst 0, 1) := by decide +kernel
theorem dX5_size_1 : decode cX5_size 1 = .ok (.istore_n 1, 1) := by decide +kernel
theorem dX5_size_2 : decode cX5_size 2 = .ok (.iconst 0, 1) := by decide +kernel
theorem dX5_size_3 : decode cX5_size 3 = .ok (.istore_n 2, 1) := by decide +kernel
theorem dX5_size_4 : decode cX5_size 4 = .ok (.iload_n 2, 1) := by decide +kernel
theorem dX5_size_5 : decode cX5_size 5 = .ok (.iconst 5, 1) := by decide +kernel
theorem dX5_size_6 : decode cX5_size 6 = .ok (.if_icmp .ge 21, 3) := by decide +kernel
theorem dX5_size_9 : decode cX5_size 9 = .ok (.iload_n 1, 1) := by decide +kernel
theorem dX5_size_10 : decode cX5_size 10 = .ok (.aload_n 0, 1) := by decide +kernel
theorem dX5_size_11 : decode cX5_size 11 = .ok (.getfield 11, 3) := by decide +kernel
theorem dX5_size_14 : decode cX5_size 14 = .ok (.iload_n 2, 1) := by decide +kernel
theorem dX5_size_15 : decode cX5_size 15 = .ok (.laload, 1) := by decide +kernel
theorem dX5_size_16 : decode cX5_size 16 = .ok (.invokestatic 37, 3) := by decide +kernel
theorem dX5_size_19 : decode cX5_size 19 = .ok (.iadd, 1) := by decide +kernel
theorem dX5_size_20 : decode cX5_size 20 = .ok (.istore_n 1, 1) := by decide +kernel
theorem dX5_size_21 : decode cX5_size 21 = .ok (.iinc 2 1, 3) := by decide +kernel
theorem dX5_size_24 : decode cX5_size 24 = .ok (.goto (-20), 3) := by decide +kernel
theorem dX5_size_27 : decode cX5_size 27 = .ok (.iload_n 1, 1) := by decide +kernel
theorem dX5_size_28 : decode cX5_size 28 = .ok (.ireturn, 1) := by decide +kernel
theorem dX5_nearestOf_0 : decode cX5_nearestOf 0 = .ok (.iload_n 2, 1) := by decide +kernel
theorem dX5_nearestOf_1 : decode cX5_nearestOf 1 = .ok (.invokestatic 25, 3) := by decide +kernel
theorem dX5_nearestOf_4 : decode cX5_nearestOf 4 = .ok (.ifCond .ne 5, 3) := by decide +kernel
theorem dX5_nearestOf_7 : decode cX5_nearestOf 7 = .ok (.lconst 0, 1) := by decide +kernel
theorem dX5_nearestOf_8 : decode cX5_nearestOf 8 = .ok (.lreturn, 1) := by decide +kernel
theorem dX5_nearestOf_9 : decode cX5_nearestOf 9 = .ok (.iload_n 1, 1) := by decide +kernel
theorem dX5_nearestOf_10 : decode cX5_nearestOf 10 = .ok (.istore_n 3, 1) := by decide +kernel
theorem dX5_nearestOf_11 : decode cX5_nearestOf 11 = .ok (.iconst 0, 1) := by decide +kernel
theorem dX5_nearestOf_12 : decode cX5_nearestOf 12 = .ok (.istore 4, 2) := by decide +kernel
theorem dX5_nearestOf_14 : decode cX5_nearestOf 14 = .ok (.iload 4, 2) := by decide +kernel
theorem dX5_nearestOf_16 : decode cX5_nearestOf 16 = .ok (.bipush 24, 2) := by decide +kernel
theorem dX5_nearestOf_18 : decode cX5_nearestOf 18 = .ok (.if_icmp .ge 64, 3) := by decide +kernel
theorem dX5_nearestOf_21 : decode cX5_nearestOf 21 = .ok (.iload_n 3, 1) := by decide +kernel
theorem dX5_nearestOf_22 : decode cX5_nearestOf 22 = .ok (.invokestatic 43, 3) := by decide +kernel
theorem dX5_nearestOf_25 : decode cX5_nearestOf 25 = .ok (.ifCond .eq 57, 3) := by decide +kernel
theorem dX5_nearestOf_28 : decode cX5_nearestOf 28 = .ok (.aload_n 0, 1) := by decide +kernel
theorem dX5_nearestOf_29 : decode cX5_nearestOf 29 = .ok (.getfield 11, 3) := by decide +kernel
theorem dX5_nearestOf_32 : decode cX5_nearestOf 32 = .ok (.iload_n 2, 1) := by decide +kernel
theorem dX5_nearestOf_33 : decode cX5_nearestOf 33 = .ok (.laload, 1) := by decide +kernel
theorem dX5_nearestOf_34 : decode cX5_nearestOf 34 = .ok (.iload_n 3, 1) := by decide +kernel
theorem dX5_nearestOf_35 : decode cX5_nearestOf 35 = .ok (.invokestatic 31, 3) := by decide +kernel
theorem dX5_nearestOf_38 : decode cX5_nearestOf 38 = .ok (.ifCond .eq 7, 3) := by decide +kernel
theorem dX5_nearestOf_41 : decode cX5_nearestOf 41 = .ok (.lconst 1, 1) := by decide +kernel
theorem dX5_nearestOf_42 : decode cX5_nearestOf 42 = .ok (.iload_n 3, 1) := by decide +kernel
theorem dX5_nearestOf_43 : decode cX5_nearestOf 43 = .ok (.lshl, 1) := by decide +kernel
theorem dX5_nearestOf_44 : decode cX5_nearestOf 44 = .ok (.lreturn, 1) := by decide +kernel
theorem dX5_nearestOf_45 : decode cX5_nearestOf 45 = .ok (.iload_n 3, 1) := by decide +kernel
theorem dX5_nearestOf_46 : decode cX5_nearestOf 46 = .ok (.invokestatic 46, 3) := by decide +kernel
theorem dX5_nearestOf_49 : decode cX5_nearestOf 49 = .ok (.aload_n 0, 1) := by decide +kernel
theorem dX5_nearestOf_50 : decode cX5_nearestOf 50 = .ok (.getfield 11, 3) := by decide +kernel
theorem dX5_nearestOf_53 : decode cX5_nearestOf 53 = .ok (.iload_n 2, 1) := by decide +kernel
theorem dX5_nearestOf_54 : decode cX5_nearestOf 54 = .ok (.laload, 1) := by decide +kernel
theorem dX5_nearestOf_55 : decode cX5_nearestOf 55 = .ok (.land, 1) := by decide +kernel
theorem dX5_nearestOf_56 : decode cX5_nearestOf 56 = .ok (.lstore 5, 2) := by decide +kernel
theorem dX5_nearestOf_58 : decode cX5_nearestOf 58 = .ok (.lload 5, 2) := by decide +kernel
theorem dX5_nearestOf_60 : decode cX5_nearestOf 60 = .ok (.lconst 0, 1) := by decide +kernel
theorem dX5_nearestOf_61 : decode cX5_nearestOf 61 = .ok (.lcmp, 1) := by decide +kernel
theorem dX5_nearestOf_62 : decode cX5_nearestOf 62 = .ok (.ifCond .eq 9, 3) := by decide +kernel
theorem dX5_nearestOf_65 : decode cX5_nearestOf 65 = .ok (.lload 5, 2) := by decide +kernel
theorem dX5_nearestOf_67 : decode cX5_nearestOf 67 = .ok (.invokestatic 50, 3) := by decide +kernel
theorem dX5_nearestOf_70 : decode cX5_nearestOf 70 = .ok (.lreturn, 1) := by decide +kernel
theorem dX5_nearestOf_71 : decode cX5_nearestOf 71 = .ok (.iload_n 3, 1) := by decide +kernel
theorem dX5_nearestOf_72 : decode cX5_nearestOf 72 = .ok (.invokestatic 54, 3) := by decide +kernel
theorem dX5_nearestOf_75 : decode cX5_nearestOf 75 = .ok (.istore_n 3, 1) := by decide +kernel
theorem dX5_nearestOf_76 : decode cX5_nearestOf 76 = .ok (.iinc 4 1, 3) := by decide +kernel
theorem dX5_nearestOf_79 : decode cX5_nearestOf 79 = .ok (.goto (-65), 3) := by decide +kernel
theorem dX5_nearestOf_82 : decode cX5_nearestOf 82 = .ok (.lconst 0, 1) := by decide +kernel
theorem dX5_nearestOf_83 : decode cX5_nearestOf 83 = .ok (.lreturn, 1) := by decide +kernel
theorem dX5_answer_0 : decode cX5_answer 0 = .ok (.iload_n 2, 1) := by decide +kernel
theorem dX5_answer_1 : decode cX5_answer 1 = .ok (.invokestatic 25, 3) := by decide +kernel
theorem dX5_answer_4 : decode cX5_answer 4 = .ok (.ifCond .ne 5, 3) := by decide +kernel
theorem dX5_answer_7 : decode cX5_answer 7 = .ok (.iconst (-1), 1) := by decide +kernel
theorem dX5_answer_8 : decode cX5_answer 8 = .ok (.ireturn, 1) := by decide +kernel
theorem dX5_answer_9 : decode cX5_answer 9 = .ok (.aload_n 0, 1) := by decide +kernel
theorem dX5_answer_10 : decode cX5_answer 10 = .ok (.iload_n 1, 1) := by decide +kernel
theorem dX5_answer_11 : decode cX5_answer 11 = .ok (.iload_n 2, 1) := by decide +kernel
theorem dX5_answer_12 : decode cX5_answer 12 = .ok (.invokevirtual 58, 3) := by decide +kernel
theorem dX5_answer_15 : decode cX5_answer 15 = .ok (.lstore_n 3, 1) := by decide +kernel
theorem dX5_answer_16 : decode cX5_answer 16 = .ok (.iconst (-1), 1) := by decide +kernel
theorem dX5_answer_17 : decode cX5_answer 17 = .ok (.istore 5, 2) := by decide +kernel
theorem dX5_answer_19 : decode cX5_answer 19 = .ok (.iconst 0, 1) := by decide +kernel
theorem dX5_answer_20 : decode cX5_answer 20 = .ok (.istore 6, 2) := by decide +kernel
theorem dX5_answer_22 : decode cX5_answer 22 = .ok (.iload 6, 2) := by decide +kernel
theorem dX5_answer_24 : decode cX5_answer 24 = .ok (.bipush 49, 2) := by decide +kernel
theorem dX5_answer_26 : decode cX5_answer 26 = .ok (.if_icmp .ge 52, 3) := by decide +kernel
theorem dX5_answer_29 : decode cX5_answer 29 = .ok (.lload_n 3, 1) := by decide +kernel
theorem dX5_answer_30 : decode cX5_answer 30 = .ok (.iload 6, 2) := by decide +kernel
theorem dX5_answer_32 : decode cX5_answer 32 = .ok (.invokestatic 31, 3) := by decide +kernel
theorem dX5_answer_35 : decode cX5_answer 35 = .ok (.ifCond .eq 37, 3) := by decide +kernel
theorem dX5_answer_38 : decode cX5_answer 38 = .ok (.aload_n 0, 1) := by decide +kernel
theorem dX5_answer_39 : decode cX5_answer 39 = .ok (.getfield 17, 3) := by decide +kernel
theorem dX5_answer_42 : decode cX5_answer 42 = .ok (.iload_n 2, 1) := by decide +kernel
theorem dX5_answer_43 : decode cX5_answer 43 = .ok (.bipush 49, 2) := by decide +kernel
theorem dX5_answer_45 : decode cX5_answer 45 = .ok (.imul, 1) := by decide +kernel
theorem dX5_answer_46 : decode cX5_answer 46 = .ok (.iload 6, 2) := by decide +kernel
theorem dX5_answer_48 : decode cX5_answer 48 = .ok (.iadd, 1) := by decide +kernel
theorem dX5_answer_49 : decode cX5_answer 49 = .ok (.iaload, 1) := by decide +kernel
theorem dX5_answer_50 : decode cX5_answer 50 = .ok (.istore 7, 2) := by decide +kernel
theorem dX5_answer_52 : decode cX5_answer 52 = .ok (.iload 5, 2) := by decide +kernel
theorem dX5_answer_54 : decode cX5_answer 54 = .ok (.iconst (-1), 1) := by decide +kernel
theorem dX5_answer_55 : decode cX5_answer 55 = .ok (.if_icmp .eq 13, 3) := by decide +kernel
theorem dX5_answer_58 : decode cX5_answer 58 = .ok (.iload 5, 2) := by decide +kernel
theorem dX5_answer_60 : decode cX5_answer 60 = .ok (.iload 7, 2) := by decide +kernel
theorem dX5_answer_62 : decode cX5_answer 62 = .ok (.if_icmp .eq 6, 3) := by decide +kernel
theorem dX5_answer_65 : decode cX5_answer 65 = .ok (.bipush (-2), 2) := by decide +kernel
theorem dX5_answer_67 : decode cX5_answer 67 = .ok (.ireturn, 1) := by decide +kernel
theorem dX5_answer_68 : decode cX5_answer 68 = .ok (.iload 7, 2) := by decide +kernel
theorem dX5_answer_70 : decode cX5_answer 70 = .ok (.istore 5, 2) := by decide +kernel
theorem dX5_answer_72 : decode cX5_answer 72 = .ok (.iinc 6 1, 3) := by decide +kernel
theorem dX5_answer_75 : decode cX5_answer 75 = .ok (.goto (-53), 3) := by decide +kernel
theorem dX5_answer_78 : decode cX5_answer 78 = .ok (.iload 5, 2) := by decide +kernel
theorem dX5_answer_80 : decode cX5_answer 80 = .ok (.ireturn, 1) := by decide +kernel
theorem dX6_init_0 : decode cX6_init 0 = .ok (.aload_n 0, 1) := by decide +kernel
theorem dX6_init_1 : decode cX6_init 1 = .ok (.invokespecial 1, 3) := by decide +kernel
theorem dX6_init_4 : decode cX6_init 4 = .ok (.aload_n 0, 1) := by decide +kernel
theorem dX6_init_5 : decode cX6_init 5 = .ok (.iload_n 1, 1) := by decide +kernel
theorem dX6_init_6 : decode cX6_init 6 = .ok (.putfield 7, 3) := by decide +kernel
theorem dX6_init_9 : decode cX6_init 9 = .ok (.aload_n 0, 1) := by decide +kernel
theorem dX6_init_10 : decode cX6_init 10 = .ok (.iconst 0, 1) := by decide +kernel
theorem dX6_init_11 : decode cX6_init 11 = .ok (.putfield 13, 3) := by decide +kernel
theorem dX6_init_14 : decode cX6_init 14 = .ok (.aload_n 0, 1) := by decide +kernel
theorem dX6_init_15 : decode cX6_init 15 = .ok (.iconst 0, 1) := by decide +kernel
theorem dX6_init_16 : decode cX6_init 16 = .ok (.putfield 16, 3) := by decide +kernel
theorem dX6_init_19 : decode cX6_init 19 = .ok (.aload_n 0, 1) := by decide +kernel
theorem dX6_init_20 : decode cX6_init 20 = .ok (.iconst 0, 1) := by decide +kernel
theorem dX6_init_21 : decode cX6_init 21 = .ok (.putfield 19, 3) := by decide +kernel
theorem dX6_init_24 : decode cX6_init 24 = .ok (.aload_n 0, 1) := by decide +kernel
theorem dX6_init_25 : decode cX6_init 25 = .ok (.iconst 0, 1) := by decide +kernel
theorem dX6_init_26 : decode cX6_init 26 = .ok (.putfield 22, 3) := by decide +kernel
theorem dX6_init_29 : decode cX6_init 29 = .ok (.return_, 1) := by decide +kernel
theorem dX6_hasRoomFor_0 : decode cX6_hasRoomFor 0 = .ok (.aload_n 0, 1) := by decide +kernel
theorem dX6_hasRoomFor_1 : decode cX6_hasRoomFor 1 = .ok (.getfield 22, 3) := by decide +kernel
theorem dX6_hasRoomFor_4 : decode cX6_hasRoomFor 4 = .ok (.aload_n 1, 1) := by decide +kernel
theorem dX6_hasRoomFor_5 : decode cX6_hasRoomFor 5 = .ok (.getfield 25, 3) := by decide +kernel
theorem dX6_hasRoomFor_8 : decode cX6_hasRoomFor 8 = .ok (.iadd, 1) := by decide +kernel
theorem dX6_hasRoomFor_9 : decode cX6_hasRoomFor 9 = .ok (.aload_n 0, 1) := by decide +kernel
theorem dX6_hasRoomFor_10 : decode cX6_hasRoomFor 10 = .ok (.getfield 16, 3) := by decide +kernel
theorem dX6_hasRoomFor_13 : decode cX6_hasRoomFor 13 = .ok (.if_icmp .gt 7, 3) := by decide +kernel
theorem dX6_hasRoomFor_16 : decode cX6_hasRoomFor 16 = .ok (.iconst 1, 1) := by decide +kernel
theorem dX6_hasRoomFor_17 : decode cX6_hasRoomFor 17 = .ok (.goto 4, 3) := by decide +kernel
theorem dX6_hasRoomFor_20 : decode cX6_hasRoomFor 20 = .ok (.iconst 0, 1) := by decide +kernel
theorem dX6_hasRoomFor_21 : decode cX6_hasRoomFor 21 = .ok (.ireturn, 1) := by decide +kernel
theorem dX6_add_0 : decode cX6_add 0 = .ok (.aload_n 0, 1) := by decide +kernel
theorem dX6_add_1 : decode cX6_add 1 = .ok (.dup, 1) := by decide +kernel
theorem dX6_add_2 : decode cX6_add 2 = .ok (.getfield 19, 3) := by decide +kernel
theorem dX6_add_5 : decode cX6_add 5 = .ok (.iconst 1, 1) := by decide +kernel
theorem dX6_add_6 : decode cX6_add 6 = .ok (.iadd, 1) := by decide +kernel
theorem dX6_add_7 : decode cX6_add 7 = .ok (.putfield 19, 3) := by decide +kernel
theorem dX6_add_10 : decode cX6_add 10 = .ok (.aload_n 0, 1) := by decide +kernel
theorem dX6_add_11 : decode cX6_add 11 = .ok (.dup, 1) := by decide +kernel
theorem dX6_add_12 : decode cX6_add 12 = .ok (.getfield 22, 3) := by decide +kernel
theorem dX6_add_15 : decode cX6_add 15 = .ok (.aload_n 1, 1) := by decide +kernel
theorem dX6_add_16 : decode cX6_add 16 = .ok (.getfield 25, 3) := by decide +kernel
theorem dX6_add_19 : decode cX6_add 19 = .ok (.iadd, 1) := by decide +kernel
theorem dX6_add_20 : decode cX6_add 20 = .ok (.putfield 22, 3) := by decide +kernel
theorem dX6_add_23 : decode cX6_add 23 = .ok (.return_, 1) := by decide +kernel
theorem dX6_remove_0 : decode cX6_remove 0 = .ok (.aload_n 0, 1) := by decide +kernel
theorem dX6_remove_1 : decode cX6_remove 1 = .ok (.dup, 1) := by decide +kernel
theorem dX6_remove_2 : decode cX6_remove 2 = .ok (.getfield 19, 3) := by decide +kernel
theorem dX6_remove_5 : decode cX6_remove 5 = .ok (.iconst 1, 1) := by decide +kernel
theorem dX6_remove_6 : decode cX6_remove 6 = .ok (.isub, 1) := by decide +kernel
theorem dX6_remove_7 : decode cX6_remove 7 = .ok (.putfield 19, 3) := by decide +kernel
theorem dX6_remove_10 : decode cX6_remove 10 = .ok (.aload_n 0, 1) := by decide +kernel
theorem dX6_remove_11 : decode cX6_remove 11 = .ok (.dup, 1) := by decide +kernel
theorem dX6_remove_12 : decode cX6_remove 12 = .ok (.getfield 22, 3) := by decide +kernel
theorem dX6_remove_15 : decode cX6_remove 15 = .ok (.aload_n 1, 1) := by decide +kernel
theorem dX6_remove_16 : decode cX6_remove 16 = .ok (.getfield 25, 3) := by decide +kernel
theorem dX6_remove_19 : decode cX6_remove 19 = .ok (.isub, 1) := by decide +kernel
theorem dX6_remove_20 : decode cX6_remove 20 = .ok (.putfield 22, 3) := by decide +kernel
theorem dX6_remove_23 : decode cX6_remove 23 = .ok (.return_, 1) := by decide +kernel
theorem dX7_init_0 : decode cX7_init 0 = .ok (.aload_n 0, 1) := by decide +kernel
theorem dX7_init_1 : decode cX7_init 1 = .ok (.invokespecial 3, 3) := by decide +kernel
theorem dX7_init_4 : decode cX7_init 4 = .ok (.aload_n 0, 1) := by decide +kernel
theorem dX7_init_5 : decode cX7_init 5 = .ok (.iload_n 1, 1) := by decide +kernel
theorem dX7_init_6 : decode cX7_init 6 = .ok (.putfield 9, 3) := by decide +kernel
theorem dX7_init_9 : decode cX7_init 9 = .ok (.aload_n 0, 1) := by decide +kernel
theorem dX7_init_10 : decode cX7_init 10 = .ok (.iload_n 2, 1) := by decide +kernel
theorem dX7_init_11 : decode cX7_init 11 = .ok (.putfield 15, 3) := by decide +kernel
theorem dX7_init_14 : decode cX7_init 14 = .ok (.aload_n 0, 1) := by decide +kernel
theorem dX7_init_15 : decode cX7_init 15 = .ok (.iload_n 3, 1) := by decide +kernel
theorem dX7_init_16 : decode cX7_init 16 = .ok (.putfield 18, 3) := by decide +kernel
theorem dX7_init_19 : decode cX7_init 19 = .ok (.aload_n 0, 1) := by decide +kernel
theorem dX7_init_20 : decode cX7_init 20 = .ok (.iload 4, 2) := by decide +kernel
theorem dX7_init_22 : decode cX7_init 22 = .ok (.putfield 21, 3) := by decide +kernel
theorem dX7_init_25 : decode cX7_init 25 = .ok (.aload_n 0, 1) := by decide +kernel
theorem dX7_init_26 : decode cX7_init 26 = .ok (.aconst_null, 1) := by decide +kernel
theorem dX7_init_27 : decode cX7_init 27 = .ok (.putfield 24, 3) := by decide +kernel
theorem dX7_init_30 : decode cX7_init 30 = .ok (.aload_n 0, 1) := by decide +kernel
theorem dX7_init_31 : decode cX7_init 31 = .ok (.iconst (-1), 1) := by decide +kernel
theorem dX7_init_32 : decode cX7_init 32 = .ok (.putfield 28, 3) := by decide +kernel
theorem dX7_init_35 : decode cX7_init 35 = .ok (.aload_n 0, 1) := by decide +kernel
theorem dX7_init_36 : decode cX7_init 36 = .ok (.aconst_null, 1) := by decide +kernel
theorem dX7_init_37 : decode cX7_init 37 = .ok (.putfield 31, 3) := by decide +kernel
theorem dX7_init_40 : decode cX7_init 40 = .ok (.aload_n 0, 1) := by decide +kernel
theorem dX7_init_41 : decode cX7_init 41 = .ok (.iconst (-1), 1) := by decide +kernel
theorem dX7_init_42 : decode cX7_init 42 = .ok (.putfield 35, 3) := by decide +kernel
theorem dX7_init_45 : decode cX7_init 45 = .ok (.aload_n 0, 1) := by decide +kernel
theorem dX7_init_46 : decode cX7_init 46 = .ok (.iconst (-1), 1) := by decide +kernel
theorem dX7_init_47 : decode cX7_init 47 = .ok (.putfield 38, 3) := by decide +kernel
theorem dX7_init_50 : decode cX7_init 50 = .ok (.aload_n 0, 1) := by decide +kernel
theorem dX7_init_51 : decode cX7_init 51 = .ok (.iconst (-1), 1) := by decide +kernel
theorem dX7_init_52 : decode cX7_init 52 = .ok (.putfield 41, 3) := by decide +kernel
theorem dX7_init_55 : decode cX7_init 55 = .ok (.aload_n 0, 1) := by decide +kernel
theorem dX7_init_56 : decode cX7_init 56 = .ok (.iconst (-1), 1) := by decide +kernel
theorem dX7_init_57 : decode cX7_init 57 = .ok (.putfield 44, 3) := by decide +kernel
theorem dX7_init_60 : decode cX7_init 60 = .ok (.return_, 1) := by decide +kernel
theorem dX7_isMeasure_0 : decode cX7_isMeasure 0 = .ok (.iload_n 0, 1) := by decide +kernel
theorem dX7_isMeasure_1 : decode cX7_isMeasure 1 = .ok (.ifCond .lt 13, 3) := by decide +kernel
theorem dX7_isMeasure_4 : decode cX7_isMeasure 4 = .ok (.iload_n 0, 1) := by decide +kernel
theorem dX7_isMeasure_5 : decode cX7_isMeasure 5 = .ok (.ldc 47, 2) := by decide +kernel
theorem dX7_isMeasure_7 : decode cX7_isMeasure 7 = .ok (.if_icmp .gt 7, 3) := by decide +kernel
theorem dX7_isMeasure_10 : decode cX7_isMeasure 10 = .ok (.iconst 1, 1) := by decide +kernel
theorem dX7_isMeasure_11 : decode cX7_isMeasure 11 = .ok (.goto 4, 3) := by decide +kernel
theorem dX7_isMeasure_14 : decode cX7_isMeasure 14 = .ok (.iconst 0, 1) := by decide +kernel
theorem dX7_isMeasure_15 : decode cX7_isMeasure 15 = .ok (.ireturn, 1) := by decide +kernel
theorem dX7_isLent_0 : decode cX7_isLent 0 = .ok (.aload_n 0, 1) := by decide +kernel
theorem dX7_isLent_1 : decode cX7_isLent 1 = .ok (.getfield 35, 3) := by decide +kernel
theorem dX7_isLent_4 : decode cX7_isLent 4 = .ok (.iconst (-1), 1) := by decide +kernel
theorem dX7_isLent_5 : decode cX7_isLent 5 = .ok (.if_icmp .eq 7, 3) := by decide +kernel
theorem dX7_isLent_8 : decode cX7_isLent 8 = .ok (.iconst 1, 1) := by decide +kernel
theorem dX7_isLent_9 : decode cX7_isLent 9 = .ok (.goto 4, 3) := by decide +kernel
theorem dX7_isLent_12 : decode cX7_isLent 12 = .ok (.iconst 0, 1) := by decide +kernel
theorem dX7_isLent_13 : decode cX7_isLent 13 = .ok (.ireturn, 1) := by decide +kernel
theorem dX7_lendTo_0 : decode cX7_lendTo 0 = .ok (.aload_n 0, 1) := by decide +kernel
theorem dX7_lendTo_1 : decode cX7_lendTo 1 = .ok (.iload_n 1, 1) := by decide +kernel
theorem dX7_lendTo_2 : decode cX7_lendTo 2 = .ok (.putfield 35, 3) := by decide +kernel
theorem dX7_lendTo_5 : decode cX7_lendTo 5 = .ok (.aload_n 0, 1) := by decide +kernel
theorem dX7_lendTo_6 : decode cX7_lendTo 6 = .ok (.iload_n 2, 1) := by decide +kernel
theorem dX7_lendTo_7 : decode cX7_lendTo 7 = .ok (.putfield 38, 3) := by decide +kernel
theorem dX7_lendTo_10 : decode cX7_lendTo 10 = .ok (.aload_n 0, 1) := by decide +kernel
theorem dX7_lendTo_11 : decode cX7_lendTo 11 = .ok (.iload_n 3, 1) := by decide +kernel
theorem dX7_lendTo_12 : decode cX7_lendTo 12 = .ok (.putfield 41, 3) := by decide +kernel
theorem dX7_lendTo_15 : decode cX7_lendTo 15 = .ok (.aload_n 0, 1) := by decide +kernel
theorem dX7_lendTo_16 : decode cX7_lendTo 16 = .ok (.iload 4, 2) := by decide +kernel
theorem dX7_lendTo_18 : decode cX7_lendTo 18 = .ok (.putfield 44, 3) := by decide +kernel
theorem dX7_lendTo_21 : decode cX7_lendTo 21 = .ok (.return_, 1) := by decide +kernel
theorem dX7_endLoan_0 : decode cX7_endLoan 0 = .ok (.aload_n 0, 1) := by decide +kernel
theorem dX7_endLoan_1 : decode cX7_endLoan 1 = .ok (.iconst (-1), 1) := by decide +kernel
theorem dX7_endLoan_2 : decode cX7_endLoan 2 = .ok (.iconst (-1), 1) := by decide +kernel
theorem dX7_endLoan_3 : decode cX7_endLoan 3 = .ok (.iconst (-1), 1) := by decide +kernel
theorem dX7_endLoan_4 : decode cX7_endLoan 4 = .ok (.iconst (-1), 1) := by decide +kernel
theorem dX7_endLoan_5 : decode cX7_endLoan 5 = .ok (.invokevirtual 48, 3) := by decide +kernel
theorem dX7_endLoan_8 : decode cX7_endLoan 8 = .ok (.return_, 1) := by decide +kernel
theorem dX7_lastDay_0 : decode cX7_lastDay 0 = .ok (.aload_n 0, 1) := by decide +kernel
theorem dX7_lastDay_1 : decode cX7_lastDay 1 = .ok (.getfield 38, 3) := by decide +kernel
theorem dX7_lastDay_4 : decode cX7_lastDay 4 = .ok (.aload_n 0, 1) := by decide +kernel
theorem dX7_lastDay_5 : decode cX7_lastDay 5 = .ok (.getfield 41, 3) := by decide +kernel
theorem dX7_lastDay_8 : decode cX7_lastDay 8 = .ok (.iadd, 1) := by decide +kernel
theorem dX7_lastDay_9 : decode cX7_lastDay 9 = .ok (.ireturn, 1) := by decide +kernel
theorem dX7_dueOn_0 : decode cX7_dueOn 0 = .ok (.iconst 0, 1) := by decide +kernel
theorem dX7_dueOn_1 : decode cX7_dueOn 1 = .ok (.iload_n 1, 1) := by decide +kernel
theorem dX7_dueOn_2 : decode cX7_dueOn 2 = .ok (.aload_n 0, 1) := by decide +kernel
theorem dX7_dueOn_3 : decode cX7_dueOn 3 = .ok (.invokevirtual 52, 3) := by decide +kernel
theorem dX7_dueOn_6 : decode cX7_dueOn 6 = .ok (.isub, 1) := by decide +kernel
theorem dX7_dueOn_7 : decode cX7_dueOn 7 = .ok (.invokestatic 56, 3) := by decide +kernel
theorem dX7_dueOn_10 : decode cX7_dueOn 10 = .ok (.istore_n 2, 1) := by decide +kernel
theorem dX7_dueOn_11 : decode cX7_dueOn 11 = .ok (.iload_n 2, 1) := by decide +kernel
theorem dX7_dueOn_12 : decode cX7_dueOn 12 = .ok (.iconst 0, 1) := by decide +kernel
theorem dX7_dueOn_13 : decode cX7_dueOn 13 = .ok (.iload_n 2, 1) := by decide +kernel
theorem dX7_dueOn_14 : decode cX7_dueOn 14 = .ok (.bipush 30, 2) := by decide +kernel
theorem dX7_dueOn_16 : decode cX7_dueOn 16 = .ok (.isub, 1) := by decide +kernel
theorem dX7_dueOn_17 : decode cX7_dueOn 17 = .ok (.invokestatic 56, 3) := by decide +kernel
theorem dX7_dueOn_20 : decode cX7_dueOn 20 = .ok (.iadd, 1) := by decide +kernel
theorem dX7_dueOn_21 : decode cX7_dueOn 21 = .ok (.istore_n 3, 1) := by decide +kernel
theorem dX7_dueOn_22 : decode cX7_dueOn 22 = .ok (.aload_n 0, 1) := by decide +kernel
theorem dX7_dueOn_23 : decode cX7_dueOn 23 = .ok (.getfield 44, 3) := by decide +kernel
theorem dX7_dueOn_26 : decode cX7_dueOn 26 = .ok (.iload_n 3, 1) := by decide +kernel
theorem dX7_dueOn_27 : decode cX7_dueOn 27 = .ok (.bipush 100, 2) := by decide +kernel
theorem dX7_dueOn_29 : decode cX7_dueOn 29 = .ok (.invokestatic 64, 3) := by decide +kernel
theorem dX7_dueOn_32 : decode cX7_dueOn 32 = .ok (.imul, 1) := by decide +kernel
theorem dX7_dueOn_33 : decode cX7_dueOn 33 = .ok (.ireturn, 1) := by decide +kernel
theorem dX8_init_0 : decode cX8_init 0 = .ok (.aload_n 0, 1) := by decide +kernel
theorem dX8_init_1 : decode cX8_init 1 = .ok (.invokespecial 3, 3) := by decide +kernel
theorem dX8_init_4 : decode cX8_init 4 = .ok (.aload_n 0, 1) := by decide +kernel
theorem dX8_init_5 : decode cX8_init 5 = .ok (.sipush 300, 3) := by decide +kernel
theorem dX8_init_8 : decode cX8_init 8 = .ok (.anewarray 11, 3) := by decide +kernel
theorem dX8_init_11 : decode cX8_init 11 = .ok (.putfield 13, 3) := by decide +kernel
theorem dX8_init_14 : decode cX8_init 14 = .ok (.aload_n 0, 1) := by decide +kernel
theorem dX8_init_15 : decode cX8_init 15 = .ok (.sipush 300, 3) := by decide +kernel
theorem dX8_init_18 : decode cX8_init 18 = .ok (.anewarray 11, 3) := by decide +kernel
theorem dX8_init_21 : decode cX8_init 21 = .ok (.putfield 17, 3) := by decide +kernel
theorem dX8_init_24 : decode cX8_init 24 = .ok (.aload_n 0, 1) := by decide +kernel
theorem dX8_init_25 : decode cX8_init 25 = .ok (.iconst 0, 1) := by decide +kernel
theorem dX8_init_26 : decode cX8_init 26 = .ok (.putfield 20, 3) := by decide +kernel
theorem dX8_init_29 : decode cX8_init 29 = .ok (.return_, 1) := by decide +kernel
theorem dX8_at_0 : decode cX8_at 0 = .ok (.iload_n 1, 1) := by decide +kernel
theorem dX8_at_1 : decode cX8_at 1 = .ok (.ifCond .lt 27, 3) := by decide +kernel
theorem dX8_at_4 : decode cX8_at 4 = .ok (.iload_n 1, 1) := by decide +kernel
theorem dX8_at_5 : decode cX8_at 5 = .ok (.aload_n 0, 1) := by decide +kernel
theorem dX8_at_6 : decode cX8_at 6 = .ok (.getfield 20, 3) := by decide +kernel
theorem dX8_at_9 : decode cX8_at 9 = .ok (.if_icmp .ge 19, 3) := by decide +kernel
theorem dX8_at_12 : decode cX8_at 12 = .ok (.iload_n 1, 1) := by decide +kernel
theorem dX8_at_13 : decode cX8_at 13 = .ok (.sipush 300, 3) := by decide +kernel
theorem dX8_at_16 : decode cX8_at 16 = .ok (.if_icmp .ge 12, 3) := by decide +kernel
theorem dX8_at_19 : decode cX8_at 19 = .ok (.aload_n 0, 1) := by decide +kernel
theorem dX8_at_20 : decode cX8_at 20 = .ok (.getfield 13, 3) := by decide +kernel
theorem dX8_at_23 : decode cX8_at 23 = .ok (.iload_n 1, 1) := by decide +kernel
theorem dX8_at_24 : decode cX8_at 24 = .ok (.aaload, 1) := by decide +kernel
theorem dX8_at_25 : decode cX8_at 25 = .ok (.goto 4, 3) := by decide +kernel
theorem dX8_at_28 : decode cX8_at 28 = .ok (.aconst_null, 1) := by decide +kernel
theorem dX8_at_29 : decode cX8_at 29 = .ok (.areturn, 1) := by decide +kernel
theorem dX8_add_0 : decode cX8_add 0 = .ok (.aload_n 0, 1) := by decide +kernel
theorem dX8_add_1 : decode cX8_add 1 = .ok (.getfield 20, 3) := by decide +kernel
theorem dX8_add_4 : decode cX8_add 4 = .ok (.sipush 300, 3) := by decide +kernel
theorem dX8_add_7 : decode cX8_add 7 = .ok (.if_icmp .lt 5, 3) := by decide +kernel
theorem dX8_add_10 : decode cX8_add 10 = .ok (.iconst (-1), 1) := by decide +kernel
theorem dX8_add_11 : decode cX8_add 11 = .ok (.ireturn, 1) := by decide +kernel
theorem dX8_add_12 : decode cX8_add 12 = .ok (.new 11, 3) := by decide +kernel
theorem dX8_add_15 : decode cX8_add 15 = .ok (.dup, 1) := by decide +kernel
theorem dX8_add_16 : decode cX8_add 16 = .ok (.aload_n 0, 1) := by decide +kernel
theorem dX8_add_17 : decode cX8_add 17 = .ok (.getfield 20, 3) := by decide +kernel
theorem dX8_add_20 : decode cX8_add 20 = .ok (.iload_n 1, 1) := by decide +kernel
theorem dX8_add_21 : decode cX8_add 21 = .ok (.iload_n 2, 1) := by decide +kernel
theorem dX8_add_22 : decode cX8_add 22 = .ok (.iload_n 3, 1) := by decide +kernel
theorem dX8_add_23 : decode cX8_add 23 = .ok (.invokespecial 24, 3) := by decide +kernel
theorem dX8_add_26 : decode cX8_add 26 = .ok (.astore 4, 2) := by decide +kernel
theorem dX8_add_28 : decode cX8_add 28 = .ok (.aload_n 0, 1) := by decide +kernel
theorem dX8_add_29 : decode cX8_add 29 = .ok (.getfield 13, 3) := by decide +kernel
theorem dX8_add_32 : decode cX8_add 32 = .ok (.aload_n 0, 1) := by decide +kernel
theorem dX8_add_33 : decode cX8_add 33 = .ok (.getfield 20, 3) := by decide +kernel
theorem dX8_add_36 : decode cX8_add 36 = .ok (.aload 4, 2) := by decide +kernel
theorem dX8_add_38 : decode cX8_add 38 = .ok (.aastore, 1) := by decide +kernel
theorem dX8_add_39 : decode cX8_add 39 = .ok (.aload_n 0, 1) := by decide +kernel
theorem dX8_add_40 : decode cX8_add 40 = .ok (.getfield 20, 3) := by decide +kernel
theorem dX8_add_43 : decode cX8_add 43 = .ok (.istore 5, 2) := by decide +kernel
theorem dX8_add_45 : decode cX8_add 45 = .ok (.iload 5, 2) := by decide +kernel
theorem dX8_add_47 : decode cX8_add 47 = .ok (.ifCond .le 41, 3) := by decide +kernel
theorem dX8_add_50 : decode cX8_add 50 = .ok (.aload_n 0, 1) := by decide +kernel
theorem dX8_add_51 : decode cX8_add 51 = .ok (.getfield 17, 3) := by decide +kernel
theorem dX8_add_54 : decode cX8_add 54 = .ok (.iload 5, 2) := by decide +kernel
theorem dX8_add_56 : decode cX8_add 56 = .ok (.iconst 1, 1) := by decide +kernel
theorem dX8_add_57 : decode cX8_add 57 = .ok (.isub, 1) := by decide +kernel
theorem dX8_add_58 : decode cX8_add 58 = .ok (.aaload, 1) := by decide +kernel
theorem dX8_add_59 : decode cX8_add 59 = .ok (.iload_n 2, 1) := by decide +kernel
theorem dX8_add_60 : decode cX8_add 60 = .ok (.invokestatic 27, 3) := by decide +kernel
theorem dX8_add_63 : decode cX8_add 63 = .ok (.ifCond .eq 25, 3) := by decide +kernel
theorem dX8_add_66 : decode cX8_add 66 = .ok (.aload_n 0, 1) := by decide +kernel
theorem dX8_add_67 : decode cX8_add 67 = .ok (.getfield 17, 3) := by decide +kernel
theorem dX8_add_70 : decode cX8_add 70 = .ok (.iload 5, 2) := by decide +kernel
theorem dX8_add_72 : decode cX8_add 72 = .ok (.aload_n 0, 1) := by decide +kernel
theorem dX8_add_73 : decode cX8_add 73 = .ok (.getfield 17, 3) := by decide +kernel
theorem dX8_add_76 : decode cX8_add 76 = .ok (.iload 5, 2) := by decide +kernel
theorem dX8_add_78 : decode cX8_add 78 = .ok (.iconst 1, 1) := by decide +kernel
theorem dX8_add_79 : decode cX8_add 79 = .ok (.isub, 1) := by decide +kernel
theorem dX8_add_80 : decode cX8_add 80 = .ok (.aaload, 1) := by decide +kernel
theorem dX8_add_81 : decode cX8_add 81 = .ok (.aastore, 1) := by decide +kernel
theorem dX8_add_82 : decode cX8_add 82 = .ok (.iinc 5 (-1), 3) := by decide +kernel
theorem dX8_add_85 : decode cX8_add 85 = .ok (.goto (-40), 3) := by decide +kernel
theorem dX8_add_88 : decode cX8_add 88 = .ok (.aload_n 0, 1) := by decide +kernel
theorem dX8_add_89 : decode cX8_add 89 = .ok (.getfield 17, 3) := by decide +kernel
theorem dX8_add_92 : decode cX8_add 92 = .ok (.iload 5, 2) := by decide +kernel
theorem dX8_add_94 : decode cX8_add 94 = .ok (.aload 4, 2) := by decide +kernel
theorem dX8_add_96 : decode cX8_add 96 = .ok (.aastore, 1) := by decide +kernel
theorem dX8_add_97 : decode cX8_add 97 = .ok (.aload_n 0, 1) := by decide +kernel
theorem dX8_add_98 : decode cX8_add 98 = .ok (.dup, 1) := by decide +kernel
theorem dX8_add_99 : decode cX8_add 99 = .ok (.getfield 20, 3) := by decide +kernel
theorem dX8_add_102 : decode cX8_add 102 = .ok (.iconst 1, 1) := by decide +kernel
theorem dX8_add_103 : decode cX8_add 103 = .ok (.iadd, 1) := by decide +kernel
theorem dX8_add_104 : decode cX8_add 104 = .ok (.putfield 20, 3) := by decide +kernel
theorem dX8_add_107 : decode cX8_add 107 = .ok (.aload 4, 2) := by decide +kernel
theorem dX8_add_109 : decode cX8_add 109 = .ok (.getfield 31, 3) := by decide +kernel
theorem dX8_add_112 : decode cX8_add 112 = .ok (.ireturn, 1) := by decide +kernel
theorem dX8_isLonger_0 : decode cX8_isLonger 0 = .ok (.aload_n 0, 1) := by decide +kernel
theorem dX8_isLonger_1 : decode cX8_isLonger 1 = .ok (.ifnull 15, 3) := by decide +kernel
theorem dX8_isLonger_4 : decode cX8_isLonger 4 = .ok (.aload_n 0, 1) := by decide +kernel
theorem dX8_isLonger_5 : decode cX8_isLonger 5 = .ok (.getfield 34, 3) := by decide +kernel
theorem dX8_isLonger_8 : decode cX8_isLonger 8 = .ok (.iload_n 1, 1) := by decide +kernel
theorem dX8_isLonger_9 : decode cX8_isLonger 9 = .ok (.if_icmp .le 7, 3) := by decide +kernel
theorem dX8_isLonger_12 : decode cX8_isLonger 12 = .ok (.iconst 1, 1) := by decide +kernel
theorem dX8_isLonger_13 : decode cX8_isLonger 13 = .ok (.goto 4, 3) := by decide +kernel
theorem dX8_isLonger_16 : decode cX8_isLonger 16 = .ok (.iconst 0, 1) := by decide +kernel
theorem dX8_isLonger_17 : decode cX8_isLonger 17 = .ok (.ireturn, 1) := by decide +kernel
theorem dX8_countOf_0 : decode cX8_countOf 0 = .ok (.iconst 0, 1) := by decide +kernel
theorem dX8_countOf_1 : decode cX8_countOf 1 = .ok (.istore 4, 2) := by decide +kernel
theorem dX8_countOf_3 : decode cX8_countOf 3 = .ok (.iconst 0, 1) := by decide +kernel
theorem dX8_countOf_4 : decode cX8_countOf 4 = .ok (.istore 5, 2) := by decide +kernel
theorem dX8_countOf_6 : decode cX8_countOf 6 = .ok (.iload 5, 2) := by decide +kernel
theorem dX8_countOf_8 : decode cX8_countOf 8 = .ok (.aload_n 0, 1) := by decide +kernel
theorem dX8_countOf_9 : decode cX8_countOf 9 = .ok (.getfield 20, 3) := by decide +kernel
theorem dX8_countOf_12 : decode cX8_countOf 12 = .ok (.if_icmp .ge 64, 3) := by decide +kernel
theorem dX8_countOf_15 : decode cX8_countOf 15 = .ok (.iload 5, 2) := by decide +kernel
theorem dX8_countOf_17 : decode cX8_countOf 17 = .ok (.sipush 300, 3) := by decide +kernel
theorem dX8_countOf_20 : decode cX8_countOf 20 = .ok (.if_icmp .ge 56, 3) := by decide +kernel
theorem dX8_countOf_23 : decode cX8_countOf 23 = .ok (.aload_n 0, 1) := by decide +kernel
theorem dX8_countOf_24 : decode cX8_countOf 24 = .ok (.getfield 13, 3) := by decide +kernel
theorem dX8_countOf_27 : decode cX8_countOf 27 = .ok (.iload 5, 2) := by decide +kernel
theorem dX8_countOf_29 : decode cX8_countOf 29 = .ok (.aaload, 1) := by decide +kernel
theorem dX8_countOf_30 : decode cX8_countOf 30 = .ok (.astore 6, 2) := by decide +kernel
theorem dX8_countOf_32 : decode cX8_countOf 32 = .ok (.aload 6, 2) := by decide +kernel
theorem dX8_countOf_34 : decode cX8_countOf 34 = .ok (.ifnull 36, 3) := by decide +kernel
theorem dX8_countOf_37 : decode cX8_countOf 37 = .ok (.aload 6, 2) := by decide +kernel
theorem dX8_countOf_39 : decode cX8_countOf 39 = .ok (.getfield 34, 3) := by decide +kernel
theorem dX8_countOf_42 : decode cX8_countOf 42 = .ok (.iload_n 2, 1) := by decide +kernel
theorem dX8_countOf_43 : decode cX8_countOf 43 = .ok (.if_icmp .lt 27, 3) := by decide +kernel
theorem dX8_countOf_46 : decode cX8_countOf 46 = .ok (.aload 6, 2) := by decide +kernel
theorem dX8_countOf_48 : decode cX8_countOf 48 = .ok (.getfield 34, 3) := by decide +kernel
theorem dX8_countOf_51 : decode cX8_countOf 51 = .ok (.iload_n 3, 1) := by decide +kernel
theorem dX8_countOf_52 : decode cX8_countOf 52 = .ok (.if_icmp .gt 18, 3) := by decide +kernel
theorem dX8_countOf_55 : decode cX8_countOf 55 = .ok (.aload 6, 2) := by decide +kernel
theorem dX8_countOf_57 : decode cX8_countOf 57 = .ok (.getfield 37, 3) := by decide +kernel
theorem dX8_countOf_60 : decode cX8_countOf 60 = .ok (.iload_n 1, 1) := by decide +kernel
theorem dX8_countOf_61 : decode cX8_countOf 61 = .ok (.invokestatic 40, 3) := by decide +kernel
theorem dX8_countOf_64 : decode cX8_countOf 64 = .ok (.ifCond .eq 6, 3) := by decide +kernel
theorem dX8_countOf_67 : decode cX8_countOf 67 = .ok (.iinc 4 1, 3) := by decide +kernel
theorem dX8_countOf_70 : decode cX8_countOf 70 = .ok (.iinc 5 1, 3) := by decide +kernel
theorem dX8_countOf_73 : decode cX8_countOf 73 = .ok (.goto (-67), 3) := by decide +kernel
theorem dX8_countOf_76 : decode cX8_countOf 76 = .ok (.iload 4, 2) := by decide +kernel
theorem dX8_countOf_78 : decode cX8_countOf 78 = .ok (.ireturn, 1) := by decide +kernel
theorem dX8_numberOf_0 : decode cX8_numberOf 0 = .ok (.iconst 0, 1) := by decide +kernel
theorem dX8_numberOf_1 : decode cX8_numberOf 1 = .ok (.istore_n 3, 1) := by decide +kernel
theorem dX8_numberOf_2 : decode cX8_numberOf 2 = .ok (.iconst 0, 1) := by decide +kernel
theorem dX8_numberOf_3 : decode cX8_numberOf 3 = .ok (.istore 4, 2) := by decide +kernel
theorem dX8_numberOf_5 : decode cX8_numberOf 5 = .ok (.iload 4, 2) := by decide +kernel
theorem dX8_numberOf_7 : decode cX8_numberOf 7 = .ok (.aload_n 0, 1) := by decide +kernel
theorem dX8_numberOf_8 : decode cX8_numberOf 8 = .ok (.getfield 20, 3) := by decide +kernel
theorem dX8_numberOf_11 : decode cX8_numberOf 11 = .ok (.if_icmp .ge 57, 3) := by decide +kernel
theorem dX8_numberOf_14 : decode cX8_numberOf 14 = .ok (.iload 4, 2) := by decide +kernel
theorem dX8_numberOf_16 : decode cX8_numberOf 16 = .ok (.sipush 300, 3) := by decide +kernel
theorem dX8_numberOf_19 : decode cX8_numberOf 19 = .ok (.if_icmp .ge 49, 3) := by decide +kernel
theorem dX8_numberOf_22 : decode cX8_numberOf 22 = .ok (.aload_n 0, 1) := by decide +kernel
theorem dX8_numberOf_23 : decode cX8_numberOf 23 = .ok (.getfield 17, 3) := by decide +kernel
theorem dX8_numberOf_26 : decode cX8_numberOf 26 = .ok (.iload 4, 2) := by decide +kernel
theorem dX8_numberOf_28 : decode cX8_numberOf 28 = .ok (.aaload, 1) := by decide +kernel
theorem dX8_numberOf_29 : decode cX8_numberOf 29 = .ok (.astore 5, 2) := by decide +kernel
theorem dX8_numberOf_31 : decode cX8_numberOf 31 = .ok (.aload 5, 2) := by decide +kernel
theorem dX8_numberOf_33 : decode cX8_numberOf 33 = .ok (.ifnull 29, 3) := by decide +kernel
theorem dX8_numberOf_36 : decode cX8_numberOf 36 = .ok (.aload 5, 2) := by decide +kernel
theorem dX8_numberOf_38 : decode cX8_numberOf 38 = .ok (.getfield 37, 3) := by decide +kernel
theorem dX8_numberOf_41 : decode cX8_numberOf 41 = .ok (.iload_n 1, 1) := by decide +kernel
theorem dX8_numberOf_42 : decode cX8_numberOf 42 = .ok (.invokestatic 40, 3) := by decide +kernel
theorem dX8_numberOf_45 : decode cX8_numberOf 45 = .ok (.ifCond .eq 17, 3) := by decide +kernel
theorem dX8_numberOf_48 : decode cX8_numberOf 48 = .ok (.iload_n 3, 1) := by decide +kernel
theorem dX8_numberOf_49 : decode cX8_numberOf 49 = .ok (.iload_n 2, 1) := by decide +kernel
theorem dX8_numberOf_50 : decode cX8_numberOf 50 = .ok (.if_icmp .ne 9, 3) := by decide +kernel
theorem dX8_numberOf_53 : decode cX8_numberOf 53 = .ok (.aload 5, 2) := by decide +kernel
theorem dX8_numberOf_55 : decode cX8_numberOf 55 = .ok (.getfield 31, 3) := by decide +kernel
theorem dX8_numberOf_58 : decode cX8_numberOf 58 = .ok (.ireturn, 1) := by decide +kernel
theorem dX8_numberOf_59 : decode cX8_numberOf 59 = .ok (.iinc 3 1, 3) := by decide +kernel
theorem dX8_numberOf_62 : decode cX8_numberOf 62 = .ok (.iinc 4 1, 3) := by decide +kernel
theorem dX8_numberOf_65 : decode cX8_numberOf 65 = .ok (.goto (-60), 3) := by decide +kernel
theorem dX8_numberOf_68 : decode cX8_numberOf 68 = .ok (.iconst (-1), 1) := by decide +kernel
theorem dX8_numberOf_69 : decode cX8_numberOf 69 = .ok (.ireturn, 1) := by decide +kernel
theorem dX8_countInBoxes_0 : decode cX8_countInBoxes 0 = .ok (.iconst 0, 1) := by decide +kernel
theorem dX8_countInBoxes_1 : decode cX8_countInBoxes 1 = .ok (.istore_n 1, 1) := by decide +kernel
theorem dX8_countInBoxes_2 : decode cX8_countInBoxes 2 = .ok (.iconst 0, 1) := by decide +kernel
theorem dX8_countInBoxes_3 : decode cX8_countInBoxes 3 = .ok (.istore_n 2, 1) := by decide +kernel
theorem dX8_countInBoxes_4 : decode cX8_countInBoxes 4 = .ok (.iload_n 2, 1) := by decide +kernel
theorem dX8_countInBoxes_5 : decode cX8_countInBoxes 5 = .ok (.aload_n 0, 1) := by decide +kernel
theorem dX8_countInBoxes_6 : decode cX8_countInBoxes 6 = .ok (.getfield 20, 3) := by decide +kernel
theorem dX8_countInBoxes_9 : decode cX8_countInBoxes 9 = .ok (.if_icmp .ge 37, 3) := by decide +kernel
theorem dX8_countInBoxes_12 : decode cX8_countInBoxes 12 = .ok (.iload_n 2, 1) := by decide +kernel
theorem dX8_countInBoxes_13 : decode cX8_countInBoxes 13 = .ok (.sipush 300, 3) := by decide +kernel
theorem dX8_countInBoxes_16 : decode cX8_countInBoxes 16 = .ok (.if_icmp .ge 30, 3) := by decide +kernel
theorem dX8_countInBoxes_19 : decode cX8_countInBoxes 19 = .ok (.aload_n 0, 1) := by decide +kernel
theorem dX8_countInBoxes_20 : decode cX8_countInBoxes 20 = .ok (.getfield 13, 3) := by decide +kernel
theorem dX8_countInBoxes_23 : decode cX8_countInBoxes 23 = .ok (.iload_n 2, 1) := by decide +kernel
theorem dX8_countInBoxes_24 : decode cX8_countInBoxes 24 = .ok (.aaload, 1) := by decide +kernel
theorem dX8_countInBoxes_25 : decode cX8_countInBoxes 25 = .ok (.astore_n 3, 1) := by decide +kernel
theorem dX8_countInBoxes_26 : decode cX8_countInBoxes 26 = .ok (.aload_n 3, 1) := by decide +kernel
theorem dX8_countInBoxes_27 : decode cX8_countInBoxes 27 = .ok (.ifnull 13, 3) := by decide +kernel
theorem dX8_countInBoxes_30 : decode cX8_countInBoxes 30 = .ok (.aload_n 3, 1) := by decide +kernel
theorem dX8_countInBoxes_31 : decode cX8_countInBoxes 31 = .ok (.getfield 46, 3) := by decide +kernel
theorem dX8_countInBoxes_34 : decode cX8_countInBoxes 34 = .ok (.ifnull 6, 3) := by decide +kernel
theorem dX8_countInBoxes_37 : decode cX8_countInBoxes 37 = .ok (.iinc 1 1, 3) := by decide +kernel
theorem dX8_countInBoxes_40 : decode cX8_countInBoxes 40 = .ok (.iinc 2 1, 3) := by decide +kernel
theorem dX8_countInBoxes_43 : decode cX8_countInBoxes 43 = .ok (.goto (-39), 3) := by decide +kernel
theorem dX8_countInBoxes_46 : decode cX8_countInBoxes 46 = .ok (.iload_n 1, 1) := by decide +kernel
theorem dX8_countInBoxes_47 : decode cX8_countInBoxes 47 = .ok (.ireturn, 1) := by decide +kernel
theorem dX9_init_0 : decode cX9_init 0 = .ok (.aload_n 0, 1) := by decide +kernel
theorem dX9_init_1 : decode cX9_init 1 = .ok (.invokespecial 1, 3) := by decide +kernel
theorem dX9_init_4 : decode cX9_init 4 = .ok (.aload_n 0, 1) := by decide +kernel
theorem dX9_init_5 : decode cX9_init 5 = .ok (.new 7, 3) := by decide +kernel
theorem dX9_init_8 : decode cX9_init 8 = .ok (.dup, 1) := by decide +kernel
theorem dX9_init_9 : decode cX9_init 9 = .ok (.invokespecial 9, 3) := by decide +kernel
theorem dX9_init_12 : decode cX9_init 12 = .ok (.putfield 10, 3) := by decide +kernel
theorem dX9_init_15 : decode cX9_init 15 = .ok (.aload_n 0, 1) := by decide +kernel
theorem dX9_init_16 : decode cX9_init 16 = .ok (.bipush 40, 2) := by decide +kernel
theorem dX9_init_18 : decode cX9_init 18 = .ok (.anewarray 16, 3) := by decide +kernel
theorem dX9_init_21 : decode cX9_init 21 = .ok (.putfield 18, 3) := by decide +kernel
theorem dX9_init_24 : decode cX9_init 24 = .ok (.aload_n 0, 1) := by decide +kernel
theorem dX9_init_25 : decode cX9_init 25 = .ok (.bipush 10, 2) := by decide +kernel
theorem dX9_init_27 : decode cX9_init 27 = .ok (.anewarray 22, 3) := by decide +kernel
theorem dX9_init_30 : decode cX9_init 30 = .ok (.putfield 24, 3) := by decide +kernel
theorem dX9_init_33 : decode cX9_init 33 = .ok (.iconst 0, 1) := by decide +kernel
theorem dX9_init_34 : decode cX9_init 34 = .ok (.istore_n 1, 1) := by decide +kernel
theorem dX9_init_35 : decode cX9_init 35 = .ok (.iload_n 1, 1) := by decide +kernel
theorem dX9_init_36 : decode cX9_init 36 = .ok (.bipush 10, 2) := by decide +kernel
theorem dX9_init_38 : decode cX9_init 38 = .ok (.if_icmp .ge 23, 3) := by decide +kernel
theorem dX9_init_41 : decode cX9_init 41 = .ok (.aload_n 0, 1) := by decide +kernel
theorem dX9_init_42 : decode cX9_init 42 = .ok (.getfield 24, 3) := by decide +kernel
theorem dX9_init_45 : decode cX9_init 45 = .ok (.iload_n 1, 1) := by decide +kernel
theorem dX9_init_46 : decode cX9_init 46 = .ok (.new 22, 3) := by decide +kernel
theorem dX9_init_49 : decode cX9_init 49 = .ok (.dup, 1) := by decide +kernel
theorem dX9_init_50 : decode cX9_init 50 = .ok (.iload_n 1, 1) := by decide +kernel
theorem dX9_init_51 : decode cX9_init 51 = .ok (.invokespecial 28, 3) := by decide +kernel
theorem dX9_init_54 : decode cX9_init 54 = .ok (.aastore, 1) := by decide +kernel
theorem dX9_init_55 : decode cX9_init 55 = .ok (.iinc 1 1, 3) := by decide +kernel
theorem dX9_init_58 : decode cX9_init 58 = .ok (.goto (-23), 3) := by decide +kernel
theorem dX9_init_61 : decode cX9_init 61 = .ok (.aload_n 0, 1) := by decide +kernel
theorem dX9_init_62 : decode cX9_init 62 = .ok (.bipush 10, 2) := by decide +kernel
theorem dX9_init_64 : decode cX9_init 64 = .ok (.anewarray 31, 3) := by decide +kernel
theorem dX9_init_67 : decode cX9_init 67 = .ok (.putfield 33, 3) := by decide +kernel
theorem dX9_init_70 : decode cX9_init 70 = .ok (.iconst 0, 1) := by decide +kernel
theorem dX9_init_71 : decode cX9_init 71 = .ok (.istore_n 1, 1) := by decide +kernel
theorem dX9_init_72 : decode cX9_init 72 = .ok (.iload_n 1, 1) := by decide +kernel
theorem dX9_init_73 : decode cX9_init 73 = .ok (.bipush 10, 2) := by decide +kernel
theorem dX9_init_75 : decode cX9_init 75 = .ok (.if_icmp .ge 22, 3) := by decide +kernel
theorem dX9_init_78 : decode cX9_init 78 = .ok (.aload_n 0, 1) := by decide +kernel
theorem dX9_init_79 : decode cX9_init 79 = .ok (.getfield 33, 3) := by decide +kernel
theorem dX9_init_82 : decode cX9_init 82 = .ok (.iload_n 1, 1) := by decide +kernel
theorem dX9_init_83 : decode cX9_init 83 = .ok (.new 31, 3) := by decide +kernel
theorem dX9_init_86 : decode cX9_init 86 = .ok (.dup, 1) := by decide +kernel
theorem dX9_init_87 : decode cX9_init 87 = .ok (.invokespecial 37, 3) := by decide +kernel
theorem dX9_init_90 : decode cX9_init 90 = .ok (.aastore, 1) := by decide +kernel
theorem dX9_init_91 : decode cX9_init 91 = .ok (.iinc 1 1, 3) := by decide +kernel
theorem dX9_init_94 : decode cX9_init 94 = .ok (.goto (-22), 3) := by decide +kernel
theorem dX9_init_97 : decode cX9_init 97 = .ok (.aload_n 0, 1) := by decide +kernel
theorem dX9_init_98 : decode cX9_init 98 = .ok (.new 38, 3) := by decide +kernel
theorem dX9_init_101 : decode cX9_init 101 = .ok (.dup, 1) := by decide +kernel
theorem dX9_init_102 : decode cX9_init 102 = .ok (.invokespecial 40, 3) := by decide +kernel
theorem dX9_init_105 : decode cX9_init 105 = .ok (.putfield 41, 3) := by decide +kernel
theorem dX9_init_108 : decode cX9_init 108 = .ok (.aload_n 0, 1) := by decide +kernel
theorem dX9_init_109 : decode cX9_init 109 = .ok (.new 45, 3) := by decide +kernel
theorem dX9_init_112 : decode cX9_init 112 = .ok (.dup, 1) := by decide +kernel
theorem dX9_init_113 : decode cX9_init 113 = .ok (.invokespecial 47, 3) := by decide +kernel
theorem dX9_init_116 : decode cX9_init 116 = .ok (.putfield 48, 3) := by decide +kernel
theorem dX9_init_119 : decode cX9_init 119 = .ok (.aload_n 0, 1) := by decide +kernel
theorem dX9_init_120 : decode cX9_init 120 = .ok (.iconst 0, 1) := by decide +kernel
theorem dX9_init_121 : decode cX9_init 121 = .ok (.putfield 52, 3) := by decide +kernel
theorem dX9_init_124 : decode cX9_init 124 = .ok (.aload_n 0, 1) := by decide +kernel
theorem dX9_init_125 : decode cX9_init 125 = .ok (.iconst 0, 1) := by decide +kernel
theorem dX9_init_126 : decode cX9_init 126 = .ok (.putfield 56, 3) := by decide +kernel
theorem dX9_init_129 : decode cX9_init 129 = .ok (.return_, 1) := by decide +kernel
theorem dX9_make_0 : decode cX9_make 0 = .ok (.iload_n 1, 1) := by decide +kernel
theorem dX9_make_1 : decode cX9_make 1 = .ok (.invokestatic 59, 3) := by decide +kernel
theorem dX9_make_4 : decode cX9_make 4 = .ok (.ifCond .eq 17, 3) := by decide +kernel
theorem dX9_make_7 : decode cX9_make 7 = .ok (.iload_n 2, 1) := by decide +kernel
theorem dX9_make_8 : decode cX9_make 8 = .ok (.invokestatic 65, 3) := by decide +kernel
theorem dX9_make_11 : decode cX9_make 11 = .ok (.ifCond .eq 10, 3) := by decide +kernel
theorem dX9_make_14 : decode cX9_make 14 = .ok (.iload_n 3, 1) := by decide +kernel
theorem dX9_make_15 : decode cX9_make 15 = .ok (.invokestatic 65, 3) := by decide +kernel
theorem dX9_make_18 : decode cX9_make 18 = .ok (.ifCond .ne 5, 3) := by decide +kernel
theorem dX9_make_21 : decode cX9_make 21 = .ok (.iconst (-1), 1) := by decide +kernel
theorem dX9_make_22 : decode cX9_make 22 = .ok (.ireturn, 1) := by decide +kernel
theorem dX9_make_23 : decode cX9_make 23 = .ok (.aload_n 0, 1) := by decide +kernel
theorem dX9_make_24 : decode cX9_make 24 = .ok (.getfield 10, 3) := by decide +kernel
theorem dX9_make_27 : decode cX9_make 27 = .ok (.iload_n 1, 1) := by decide +kernel
theorem dX9_make_28 : decode cX9_make 28 = .ok (.iload_n 2, 1) := by decide +kernel
theorem dX9_make_29 : decode cX9_make 29 = .ok (.iload_n 3, 1) := by decide +kernel
theorem dX9_make_30 : decode cX9_make 30 = .ok (.invokevirtual 70, 3) := by decide +kernel
theorem dX9_make_33 : decode cX9_make 33 = .ok (.ireturn, 1) := by decide +kernel
theorem dX9_caseOf_0 : decode cX9_caseOf 0 = .ok (.iload_n 1, 1) := by decide +kernel
theorem dX9_caseOf_1 : decode cX9_caseOf 1 = .ok (.invokestatic 74, 3) := by decide +kernel
theorem dX9_caseOf_4 : decode cX9_caseOf 4 = .ok (.ifCond .eq 23, 3) := by decide +kernel
theorem dX9_caseOf_7 : decode cX9_caseOf 7 = .ok (.iload_n 2, 1) := by decide +kernel
theorem dX9_caseOf_8 : decode cX9_caseOf 8 = .ok (.iconst 1, 1) := by decide +kernel
theorem dX9_caseOf_9 : decode cX9_caseOf 9 = .ok (.if_icmp .lt 18, 3) := by decide +kernel
theorem dX9_caseOf_12 : decode cX9_caseOf 12 = .ok (.iload_n 2, 1) := by decide +kernel
theorem dX9_caseOf_13 : decode cX9_caseOf 13 = .ok (.bipush 20, 2) := by decide +kernel
theorem dX9_caseOf_15 : decode cX9_caseOf 15 = .ok (.if_icmp .gt 12, 3) := by decide +kernel
theorem dX9_caseOf_18 : decode cX9_caseOf 18 = .ok (.aload_n 0, 1) := by decide +kernel
theorem dX9_caseOf_19 : decode cX9_caseOf 19 = .ok (.getfield 52, 3) := by decide +kernel
theorem dX9_caseOf_22 : decode cX9_caseOf 22 = .ok (.bipush 40, 2) := by decide +kernel
theorem dX9_caseOf_24 : decode cX9_caseOf 24 = .ok (.if_icmp .lt 5, 3) := by decide +kernel
theorem dX9_caseOf_27 : decode cX9_caseOf 27 = .ok (.iconst (-1), 1) := by decide +kernel
theorem dX9_caseOf_28 : decode cX9_caseOf 28 = .ok (.ireturn, 1) := by decide +kernel
theorem dX9_caseOf_29 : decode cX9_caseOf 29 = .ok (.aload_n 0, 1) := by decide +kernel
theorem dX9_caseOf_30 : decode cX9_caseOf 30 = .ok (.getfield 18, 3) := by decide +kernel
theorem dX9_caseOf_33 : decode cX9_caseOf 33 = .ok (.aload_n 0, 1) := by decide +kernel
theorem dX9_caseOf_34 : decode cX9_caseOf 34 = .ok (.getfield 52, 3) := by decide +kernel
theorem dX9_caseOf_37 : decode cX9_caseOf 37 = .ok (.new 16, 3) := by decide +kernel
theorem dX9_caseOf_40 : decode cX9_caseOf 40 = .ok (.dup, 1) := by decide +kernel
theorem dX9_caseOf_41 : decode cX9_caseOf 41 = .ok (.aload_n 0, 1) := by decide +kernel
theorem dX9_caseOf_42 : decode cX9_caseOf 42 = .ok (.getfield 52, 3) := by decide +kernel
theorem dX9_caseOf_45 : decode cX9_caseOf 45 = .ok (.iload_n 1, 1) := by decide +kernel
theorem dX9_caseOf_46 : decode cX9_caseOf 46 = .ok (.iload_n 2, 1) := by decide +kernel
theorem dX9_caseOf_47 : decode cX9_caseOf 47 = .ok (.invokespecial 77, 3) := by decide +kernel
theorem dX9_caseOf_50 : decode cX9_caseOf 50 = .ok (.aastore, 1) := by decide +kernel
theorem dX9_caseOf_51 : decode cX9_caseOf 51 = .ok (.aload_n 0, 1) := by decide +kernel
theorem dX9_caseOf_52 : decode cX9_caseOf 52 = .ok (.dup, 1) := by decide +kernel
theorem dX9_caseOf_53 : decode cX9_caseOf 53 = .ok (.getfield 52, 3) := by decide +kernel
theorem dX9_caseOf_56 : decode cX9_caseOf 56 = .ok (.iconst 1, 1) := by decide +kernel
theorem dX9_caseOf_57 : decode cX9_caseOf 57 = .ok (.iadd, 1) := by decide +kernel
theorem dX9_caseOf_58 : decode cX9_caseOf 58 = .ok (.putfield 52, 3) := by decide +kernel
theorem dX9_caseOf_61 : decode cX9_caseOf 61 = .ok (.aload_n 0, 1) := by decide +kernel
theorem dX9_caseOf_62 : decode cX9_caseOf 62 = .ok (.getfield 52, 3) := by decide +kernel
theorem dX9_caseOf_65 : decode cX9_caseOf 65 = .ok (.iconst 1, 1) := by decide +kernel
theorem dX9_caseOf_66 : decode cX9_caseOf 66 = .ok (.isub, 1) := by decide +kernel
theorem dX9_caseOf_67 : decode cX9_caseOf 67 = .ok (.ireturn, 1) := by decide +kernel
theorem dX9_putIn_0 : decode cX9_putIn 0 = .ok (.aload_n 0, 1) := by decide +kernel
theorem dX9_putIn_1 : decode cX9_putIn 1 = .ok (.iload_n 1, 1) := by decide +kernel
theorem dX9_putIn_2 : decode cX9_putIn 2 = .ok (.invokevirtual 80, 3) := by decide +kernel
theorem dX9_putIn_5 : decode cX9_putIn 5 = .ok (.astore 4, 2) := by decide +kernel
theorem dX9_putIn_7 : decode cX9_putIn 7 = .ok (.aload_n 0, 1) := by decide +kernel
theorem dX9_putIn_8 : decode cX9_putIn 8 = .ok (.getfield 10, 3) := by decide +kernel
theorem dX9_putIn_11 : decode cX9_putIn 11 = .ok (.iload_n 3, 1) := by decide +kernel
theorem dX9_putIn_12 : decode cX9_putIn 12 = .ok (.invokevirtual 84, 3) := by decide +kernel
theorem dX9_putIn_15 : decode cX9_putIn 15 = .ok (.astore 5, 2) := by decide +kernel
theorem dX9_putIn_17 : decode cX9_putIn 17 = .ok (.aload 4, 2) := by decide +kernel
theorem dX9_putIn_19 : decode cX9_putIn 19 = .ok (.ifnull 25, 3) := by decide +kernel
theorem dX9_putIn_22 : decode cX9_putIn 22 = .ok (.aload 5, 2) := by decide +kernel
theorem dX9_putIn_24 : decode cX9_putIn 24 = .ok (.ifnull 20, 3) := by decide +kernel
theorem dX9_putIn_27 : decode cX9_putIn 27 = .ok (.aload 4, 2) := by decide +kernel
theorem dX9_putIn_29 : decode cX9_putIn 29 = .ok (.iload_n 2, 1) := by decide +kernel
theorem dX9_putIn_30 : decode cX9_putIn 30 = .ok (.invokevirtual 88, 3) := by decide +kernel
theorem dX9_putIn_33 : decode cX9_putIn 33 = .ok (.ifCond .eq 11, 3) := by decide +kernel
theorem dX9_putIn_36 : decode cX9_putIn 36 = .ok (.aload 5, 2) := by decide +kernel
theorem dX9_putIn_38 : decode cX9_putIn 38 = .ok (.invokevirtual 91, 3) := by decide +kernel
theorem dX9_putIn_41 : decode cX9_putIn 41 = .ok (.ifCond .eq 5, 3) := by decide +kernel
theorem dX9_putIn_44 : decode cX9_putIn 44 = .ok (.iconst (-1), 1) := by decide +kernel
theorem dX9_putIn_45 : decode cX9_putIn 45 = .ok (.ireturn, 1) := by decide +kernel
theorem dX9_putIn_46 : decode cX9_putIn 46 = .ok (.aload 5, 2) := by decide +kernel
theorem dX9_putIn_48 : decode cX9_putIn 48 = .ok (.getfield 95, 3) := by decide +kernel
theorem dX9_putIn_51 : decode cX9_putIn 51 = .ok (.aload 4, 2) := by decide +kernel
theorem dX9_putIn_53 : decode cX9_putIn 53 = .ok (.getfield 98, 3) := by decide +kernel
theorem dX9_putIn_56 : decode cX9_putIn 56 = .ok (.invokestatic 99, 3) := by decide +kernel
theorem dX9_putIn_59 : decode cX9_putIn 59 = .ok (.ifCond .ne 6, 3) := by decide +kernel
theorem dX9_putIn_62 : decode cX9_putIn 62 = .ok (.bipush (-2), 2) := by decide +kernel
theorem dX9_putIn_64 : decode cX9_putIn 64 = .ok (.ireturn, 1) := by decide +kernel
theorem dX9_putIn_65 : decode cX9_putIn 65 = .ok (.aload 5, 2) := by decide +kernel
theorem dX9_putIn_67 : decode cX9_putIn 67 = .ok (.invokestatic 103, 3) := by decide +kernel
theorem dX9_putIn_70 : decode cX9_putIn 70 = .ok (.aload 4, 2) := by decide +kernel
theorem dX9_putIn_72 : decode cX9_putIn 72 = .ok (.iload_n 2, 1) := by decide +kernel
theorem dX9_putIn_73 : decode cX9_putIn 73 = .ok (.aload 5, 2) := by decide +kernel
theorem dX9_putIn_75 : decode cX9_putIn 75 = .ok (.invokevirtual 107, 3) := by decide +kernel
theorem dX9_putIn_78 : decode cX9_putIn 78 = .ok (.aload 5, 2) := by decide +kernel
theorem dX9_putIn_80 : decode cX9_putIn 80 = .ok (.aload 4, 2) := by decide +kernel
theorem dX9_putIn_82 : decode cX9_putIn 82 = .ok (.putfield 111, 3) := by decide +kernel
theorem dX9_putIn_85 : decode cX9_putIn 85 = .ok (.aload 5, 2) := by decide +kernel
theorem dX9_putIn_87 : decode cX9_putIn 87 = .ok (.iload_n 2, 1) := by decide +kernel
theorem dX9_putIn_88 : decode cX9_putIn 88 = .ok (.putfield 115, 3) := by decide +kernel
theorem dX9_putIn_91 : decode cX9_putIn 91 = .ok (.iconst 1, 1) := by decide +kernel
theorem dX9_putIn_92 : decode cX9_putIn 92 = .ok (.ireturn, 1) := by decide +kernel
theorem dX9_takeOut_0 : decode cX9_takeOut 0 = .ok (.aload_n 0, 1) := by decide +kernel
theorem dX9_takeOut_1 : decode cX9_takeOut 1 = .ok (.iload_n 1, 1) := by decide +kernel
theorem dX9_takeOut_2 : decode cX9_takeOut 2 = .ok (.iload_n 2, 1) := by decide +kernel
theorem dX9_takeOut_3 : decode cX9_takeOut 3 = .ok (.invokevirtual 118, 3) := by decide +kernel
theorem dX9_takeOut_6 : decode cX9_takeOut 6 = .ok (.astore_n 3, 1) := by decide +kernel
theorem dX9_takeOut_7 : decode cX9_takeOut 7 = .ok (.aload_n 3, 1) := by decide +kernel
theorem dX9_takeOut_8 : decode cX9_takeOut 8 = .ok (.ifnull 10, 3) := by decide +kernel
theorem dX9_takeOut_11 : decode cX9_takeOut 11 = .ok (.aload_n 3, 1) := by decide +kernel
theorem dX9_takeOut_12 : decode cX9_takeOut 12 = .ok (.invokevirtual 91, 3) := by decide +kernel
theorem dX9_takeOut_15 : decode cX9_takeOut 15 = .ok (.ifCond .eq 5, 3) := by decide +kernel
theorem dX9_takeOut_18 : decode cX9_takeOut 18 = .ok (.iconst (-1), 1) := by decide +kernel
theorem dX9_takeOut_19 : decode cX9_takeOut 19 = .ok (.ireturn, 1) := by decide +kernel
theorem dX9_takeOut_20 : decode cX9_takeOut 20 = .ok (.aload_n 3, 1) := by decide +kernel
theorem dX9_takeOut_21 : decode cX9_takeOut 21 = .ok (.invokestatic 103, 3) := by decide +kernel
theorem dX9_takeOut_24 : decode cX9_takeOut 24 = .ok (.aload_n 3, 1) := by decide +kernel
theorem dX9_takeOut_25 : decode cX9_takeOut 25 = .ok (.getfield 122, 3) := by decide +kernel
theorem dX9_takeOut_28 : decode cX9_takeOut 28 = .ok (.ireturn, 1) := by decide +kernel
theorem dX9_placed_0 : decode cX9_placed 0 = .ok (.aload_n 0, 1) := by decide +kernel
theorem dX9_placed_1 : decode cX9_placed 1 = .ok (.iload_n 1, 1) := by decide +kernel
theorem dX9_placed_2 : decode cX9_placed 2 = .ok (.iload_n 2, 1) := by decide +kernel
theorem dX9_placed_3 : decode cX9_placed 3 = .ok (.invokevirtual 118, 3) := by decide +kernel
theorem dX9_placed_6 : decode cX9_placed 6 = .ok (.astore_n 3, 1) := by decide +kernel
theorem dX9_placed_7 : decode cX9_placed 7 = .ok (.aload_n 3, 1) := by decide +kernel
theorem dX9_placed_8 : decode cX9_placed 8 = .ok (.ifnonnull 7, 3) := by decide +kernel
theorem dX9_placed_11 : decode cX9_placed 11 = .ok (.iconst (-1), 1) := by decide +kernel
theorem dX9_placed_12 : decode cX9_placed 12 = .ok (.goto 7, 3) := by decide +kernel
theorem dX9_placed_15 : decode cX9_placed 15 = .ok (.aload_n 3, 1) := by decide +kernel
theorem dX9_placed_16 : decode cX9_placed 16 = .ok (.getfield 122, 3) := by decide +kernel
theorem dX9_placed_19 : decode cX9_placed 19 = .ok (.ireturn, 1) := by decide +kernel
theorem dX9_told_0 : decode cX9_told 0 = .ok (.aload_n 0, 1) := by decide +kernel
theorem dX9_told_1 : decode cX9_told 1 = .ok (.getfield 10, 3) := by decide +kernel
theorem dX9_told_4 : decode cX9_told 4 = .ok (.iload_n 1, 1) := by decide +kernel
theorem dX9_told_5 : decode cX9_told 5 = .ok (.invokevirtual 84, 3) := by decide +kernel
theorem dX9_told_8 : decode cX9_told 8 = .ok (.astore_n 3, 1) := by decide +kernel
theorem dX9_told_9 : decode cX9_told 9 = .ok (.aload_n 3, 1) := by decide +kernel
theorem dX9_told_10 : decode cX9_told 10 = .ok (.ifnonnull 5, 3) := by decide +kernel
theorem dX9_told_13 : decode cX9_told 13 = .ok (.iconst (-1), 1) := by decide +kernel
theorem dX9_told_14 : decode cX9_told 14 = .ok (.ireturn, 1) := by decide +kernel
theorem dX9_told_15 : decode cX9_told 15 = .ok (.iload_n 2, 1) := by decide +kernel
theorem dX9_told_16 : decode cX9_told 16 = .ok (.tableswitch 134 0 9 #[56, 61, 66, 71, 90, 95, 114, 119, 124, 129], 56) := by decide +kernel
theorem dX9_told_72 : decode cX9_told 72 = .ok (.aload_n 3, 1) := by decide +kernel
theorem dX9_told_73 : decode cX9_told 73 = .ok (.getfield 95, 3) := by decide +kernel
theorem dX9_told_76 : decode cX9_told 76 = .ok (.ireturn, 1) := by decide +kernel
theorem dX9_told_77 : decode cX9_told 77 = .ok (.aload_n 3, 1) := by decide +kernel
theorem dX9_told_78 : decode cX9_told 78 = .ok (.getfield 125, 3) := by decide +kernel
theorem dX9_told_81 : decode cX9_told 81 = .ok (.ireturn, 1) := by decide +kernel
theorem dX9_told_82 : decode cX9_told 82 = .ok (.aload_n 3, 1) := by decide +kernel
theorem dX9_told_83 : decode cX9_told 83 = .ok (.getfield 128, 3) := by decide +kernel
theorem dX9_told_86 : decode cX9_told 86 = .ok (.ireturn, 1) := by decide +kernel
theorem dX9_told_87 : decode cX9_told 87 = .ok (.aload_n 3, 1) := by decide +kernel
theorem dX9_told_88 : decode cX9_told 88 = .ok (.getfield 111, 3) := by decide +kernel
theorem dX9_told_91 : decode cX9_told 91 = .ok (.ifnonnull 7, 3) := by decide +kernel
theorem dX9_told_94 : decode cX9_told 94 = .ok (.iconst (-1), 1) := by decide +kernel
theorem dX9_told_95 : decode cX9_told 95 = .ok (.goto 10, 3) := by decide +kernel
theorem dX9_told_98 : decode cX9_told 98 = .ok (.aload_n 3, 1) := by decide +kernel
theorem dX9_told_99 : decode cX9_told 99 = .ok (.getfield 111, 3) := by decide +kernel
theorem dX9_told_102 : decode cX9_told 102 = .ok (.getfield 131, 3) := by decide +kernel
theorem dX9_told_105 : decode cX9_told 105 = .ok (.ireturn, 1) := by decide +kernel
theorem dX9_told_106 : decode cX9_told 106 = .ok (.aload_n 3, 1) := by decide +kernel
theorem dX9_told_107 : decode cX9_told 107 = .ok (.getfield 115, 3) := by decide +kernel
theorem dX9_told_110 : decode cX9_told 110 = .ok (.ireturn, 1) := by decide +kernel
theorem dX9_told_111 : decode cX9_told 111 = .ok (.aload_n 3, 1) := by decide +kernel
theorem dX9_told_112 : decode cX9_told 112 = .ok (.getfield 132, 3) := by decide +kernel
theorem dX9_told_115 : decode cX9_told 115 = .ok (.ifnonnull 7, 3) := by decide +kernel
theorem dX9_told_118 : decode cX9_told 118 = .ok (.iconst (-1), 1) := by decide +kernel
theorem dX9_told_119 : decode cX9_told 119 = .ok (.goto 10, 3) := by decide +kernel
theorem dX9_told_122 : decode cX9_told 122 = .ok (.aload_n 3, 1) := by decide +kernel
theorem dX9_told_123 : decode cX9_told 123 = .ok (.getfield 132, 3) := by decide +kernel
theorem dX9_told_126 : decode cX9_told 126 = .ok (.getfield 136, 3) := by decide +kernel
theorem dX9_told_129 : decode cX9_told 129 = .ok (.ireturn, 1) := by decide +kernel
theorem dX9_told_130 : decode cX9_told 130 = .ok (.aload_n 3, 1) := by decide +kernel
theorem dX9_told_131 : decode cX9_told 131 = .ok (.getfield 137, 3) := by decide +kernel
theorem dX9_told_134 : decode cX9_told 134 = .ok (.ireturn, 1) := by decide +kernel
theorem dX9_told_135 : decode cX9_told 135 = .ok (.aload_n 3, 1) := by decide +kernel
theorem dX9_told_136 : decode cX9_told 136 = .ok (.getfield 140, 3) := by decide +kernel
theorem dX9_told_139 : decode cX9_told 139 = .ok (.ireturn, 1) := by decide +kernel
theorem dX9_told_140 : decode cX9_told 140 = .ok (.aload_n 3, 1) := by decide +kernel
theorem dX9_told_141 : decode cX9_told 141 = .ok (.getfield 143, 3) := by decide +kernel
theorem dX9_told_144 : decode cX9_told 144 = .ok (.ireturn, 1) := by decide +kernel
theorem dX9_told_145 : decode cX9_told 145 = .ok (.aload_n 3, 1) := by decide +kernel
theorem dX9_told_146 : decode cX9_told 146 = .ok (.getfield 146, 3) := by decide +kernel
theorem dX9_told_149 : decode cX9_told 149 = .ok (.ireturn, 1) := by decide +kernel
theorem dX9_told_150 : decode cX9_told 150 = .ok (.iconst (-1), 1) := by decide +kernel
theorem dX9_told_151 : decode cX9_told 151 = .ok (.ireturn, 1) := by decide +kernel
theorem dX9_below_0 : decode cX9_below 0 = .ok (.iload_n 1, 1) := by decide +kernel
theorem dX9_below_1 : decode cX9_below 1 = .ok (.invokestatic 149, 3) := by decide +kernel
theorem dX9_below_4 : decode cX9_below 4 = .ok (.ifCond .eq 22, 3) := by decide +kernel
theorem dX9_below_7 : decode cX9_below 7 = .ok (.iload_n 2, 1) := by decide +kernel
theorem dX9_below_8 : decode cX9_below 8 = .ok (.invokestatic 149, 3) := by decide +kernel
theorem dX9_below_11 : decode cX9_below 11 = .ok (.ifCond .eq 15, 3) := by decide +kernel
theorem dX9_below_14 : decode cX9_below 14 = .ok (.iload_n 1, 1) := by decide +kernel
theorem dX9_below_15 : decode cX9_below 15 = .ok (.bipush 100, 2) := by decide +kernel
theorem dX9_below_17 : decode cX9_below 17 = .ok (.isub, 1) := by decide +kernel
theorem dX9_below_18 : decode cX9_below 18 = .ok (.iload_n 2, 1) := by decide +kernel
theorem dX9_below_19 : decode cX9_below 19 = .ok (.bipush 100, 2) := by decide +kernel
theorem dX9_below_21 : decode cX9_below 21 = .ok (.isub, 1) := by decide +kernel
theorem dX9_below_22 : decode cX9_below 22 = .ok (.invokestatic 99, 3) := by decide +kernel
theorem dX9_below_25 : decode cX9_below 25 = .ok (.ireturn, 1) := by decide +kernel
theorem dX9_below_26 : decode cX9_below 26 = .ok (.iload_n 1, 1) := by decide +kernel
theorem dX9_below_27 : decode cX9_below 27 = .ok (.iload_n 2, 1) := by decide +kernel
theorem dX9_below_28 : decode cX9_below 28 = .ok (.invokestatic 99, 3) := by decide +kernel
theorem dX9_below_31 : decode cX9_below 31 = .ok (.ireturn, 1) := by decide +kernel
theorem dX9_steps_0 : decode cX9_steps 0 = .ok (.iload_n 1, 1) := by decide +kernel
theorem dX9_steps_1 : decode cX9_steps 1 = .ok (.iload_n 2, 1) := by decide +kernel
theorem dX9_steps_2 : decode cX9_steps 2 = .ok (.invokestatic 152, 3) := by decide +kernel
theorem dX9_steps_5 : decode cX9_steps 5 = .ok (.ireturn, 1) := by decide +kernel
theorem dX9_common_0 : decode cX9_common 0 = .ok (.iload_n 1, 1) := by decide +kernel
theorem dX9_common_1 : decode cX9_common 1 = .ok (.iload_n 2, 1) := by decide +kernel
theorem dX9_common_2 : decode cX9_common 2 = .ok (.invokestatic 156, 3) := by decide +kernel
theorem dX9_common_5 : decode cX9_common 5 = .ok (.ireturn, 1) := by decide +kernel
theorem dX9_commonTrait_0 : decode cX9_commonTrait 0 = .ok (.iload_n 1, 1) := by decide +kernel
theorem dX9_commonTrait_1 : decode cX9_commonTrait 1 = .ok (.iload_n 2, 1) := by decide +kernel
theorem dX9_commonTrait_2 : decode cX9_commonTrait 2 = .ok (.invokestatic 159, 3) := by decide +kernel
theorem dX9_commonTrait_5 : decode cX9_commonTrait 5 = .ok (.invokestatic 163, 3) := by decide +kernel
theorem dX9_commonTrait_8 : decode cX9_commonTrait 8 = .ok (.iload_n 3, 1) := by decide +kernel
theorem dX9_commonTrait_9 : decode cX9_commonTrait 9 = .ok (.invokestatic 167, 3) := by decide +kernel
theorem dX9_commonTrait_12 : decode cX9_commonTrait 12 = .ok (.ireturn, 1) := by decide +kernel
theorem dX9_rule_0 : decode cX9_rule 0 = .ok (.aload_n 0, 1) := by decide +kernel
theorem dX9_rule_1 : decode cX9_rule 1 = .ok (.getfield 41, 3) := by decide +kernel
theorem dX9_rule_4 : decode cX9_rule 4 = .ok (.iload_n 1, 1) := by decide +kernel
theorem dX9_rule_5 : decode cX9_rule 5 = .ok (.iload_n 2, 1) := by decide +kernel
theorem dX9_rule_6 : decode cX9_rule 6 = .ok (.iload_n 3, 1) := by decide +kernel
theorem dX9_rule_7 : decode cX9_rule 7 = .ok (.invokevirtual 171, 3) := by decide +kernel
theorem dX9_rule_10 : decode cX9_rule 10 = .ok (.ireturn, 1) := by decide +kernel
theorem dX9_unrule_0 : decode cX9_unrule 0 = .ok (.aload_n 0, 1) := by decide +kernel
theorem dX9_unrule_1 : decode cX9_unrule 1 = .ok (.getfield 41, 3) := by decide +kernel
theorem dX9_unrule_4 : decode cX9_unrule 4 = .ok (.iload_n 1, 1) := by decide +kernel
theorem dX9_unrule_5 : decode cX9_unrule 5 = .ok (.iload_n 2, 1) := by decide +kernel
theorem dX9_unrule_6 : decode cX9_unrule 6 = .ok (.invokevirtual 175, 3) := by decide +kernel
theorem dX9_unrule_9 : decode cX9_unrule 9 = .ok (.ireturn, 1) := by decide +kernel
theorem dX9_asks_0 : decode cX9_asks 0 = .ok (.aload_n 0, 1) := by decide +kernel
theorem dX9_asks_1 : decode cX9_asks 1 = .ok (.getfield 10, 3) := by decide +kernel
theorem dX9_asks_4 : decode cX9_asks 4 = .ok (.iload_n 1, 1) := by decide +kernel
theorem dX9_asks_5 : decode cX9_asks 5 = .ok (.invokevirtual 84, 3) := by decide +kernel
theorem dX9_asks_8 : decode cX9_asks 8 = .ok (.astore_n 3, 1) := by decide +kernel
theorem dX9_asks_9 : decode cX9_asks 9 = .ok (.aload_n 3, 1) := by decide +kernel
theorem dX9_asks_10 : decode cX9_asks 10 = .ok (.ifnonnull 7, 3) := by decide +kernel
theorem dX9_asks_13 : decode cX9_asks 13 = .ok (.iconst (-1), 1) := by decide +kernel
theorem dX9_asks_14 : decode cX9_asks 14 = .ok (.goto 15, 3) := by decide +kernel
theorem dX9_asks_17 : decode cX9_asks 17 = .ok (.aload_n 0, 1) := by decide +kernel
theorem dX9_asks_18 : decode cX9_asks 18 = .ok (.getfield 41, 3) := by decide +kernel
theorem dX9_asks_21 : decode cX9_asks 21 = .ok (.aload_n 3, 1) := by decide +kernel
theorem dX9_asks_22 : decode cX9_asks 22 = .ok (.getfield 95, 3) := by decide +kernel
theorem dX9_asks_25 : decode cX9_asks 25 = .ok (.iload_n 2, 1) := by decide +kernel
theorem dX9_asks_26 : decode cX9_asks 26 = .ok (.invokevirtual 178, 3) := by decide +kernel
theorem dX9_asks_29 : decode cX9_asks 29 = .ok (.ireturn, 1) := by decide +kernel
theorem dX9_nearest_0 : decode cX9_nearest 0 = .ok (.aload_n 0, 1) := by decide +kernel
theorem dX9_nearest_1 : decode cX9_nearest 1 = .ok (.getfield 10, 3) := by decide +kernel
theorem dX9_nearest_4 : decode cX9_nearest 4 = .ok (.iload_n 1, 1) := by decide +kernel
theorem dX9_nearest_5 : decode cX9_nearest 5 = .ok (.invokevirtual 84, 3) := by decide +kernel
theorem dX9_nearest_8 : decode cX9_nearest 8 = .ok (.astore 4, 2) := by decide +kernel
theorem dX9_nearest_10 : decode cX9_nearest 10 = .ok (.aload 4, 2) := by decide +kernel
theorem dX9_nearest_12 : decode cX9_nearest 12 = .ok (.ifnonnull 7, 3) := by decide +kernel
theorem dX9_nearest_15 : decode cX9_nearest 15 = .ok (.iconst (-1), 1) := by decide +kernel
theorem dX9_nearest_16 : decode cX9_nearest 16 = .ok (.goto 20, 3) := by decide +kernel
theorem dX9_nearest_19 : decode cX9_nearest 19 = .ok (.aload_n 0, 1) := by decide +kernel
theorem dX9_nearest_20 : decode cX9_nearest 20 = .ok (.getfield 41, 3) := by decide +kernel
theorem dX9_nearest_23 : decode cX9_nearest 23 = .ok (.aload 4, 2) := by decide +kernel
theorem dX9_nearest_25 : decode cX9_nearest 25 = .ok (.getfield 95, 3) := by decide +kernel
theorem dX9_nearest_28 : decode cX9_nearest 28 = .ok (.iload_n 2, 1) := by decide +kernel
theorem dX9_nearest_29 : decode cX9_nearest 29 = .ok (.invokevirtual 181, 3) := by decide +kernel
theorem dX9_nearest_32 : decode cX9_nearest 32 = .ok (.iload_n 3, 1) := by decide +kernel
theorem dX9_nearest_33 : decode cX9_nearest 33 = .ok (.invokestatic 167, 3) := by decide +kernel
theorem dX9_nearest_36 : decode cX9_nearest 36 = .ok (.ireturn, 1) := by decide +kernel
theorem dX9_lend_0 : decode cX9_lend 0 = .ok (.iload_n 2, 1) := by decide +kernel
theorem dX9_lend_1 : decode cX9_lend 1 = .ok (.invokestatic 184, 3) := by decide +kernel
theorem dX9_lend_4 : decode cX9_lend 4 = .ok (.ifCond .eq 10, 3) := by decide +kernel
theorem dX9_lend_7 : decode cX9_lend 7 = .ok (.iload_n 3, 1) := by decide +kernel
theorem dX9_lend_8 : decode cX9_lend 8 = .ok (.invokestatic 187, 3) := by decide +kernel
theorem dX9_lend_11 : decode cX9_lend 11 = .ok (.ifCond .ne 5, 3) := by decide +kernel
theorem dX9_lend_14 : decode cX9_lend 14 = .ok (.iconst (-1), 1) := by decide +kernel
theorem dX9_lend_15 : decode cX9_lend 15 = .ok (.ireturn, 1) := by decide +kernel
theorem dX9_lend_16 : decode cX9_lend 16 = .ok (.iload_n 1, 1) := by decide +kernel
theorem dX9_lend_17 : decode cX9_lend 17 = .ok (.sipush 1000, 3) := by decide +kernel
theorem dX9_lend_20 : decode cX9_lend 20 = .ok (.if_icmp .lt 19, 3) := by decide +kernel
theorem dX9_lend_23 : decode cX9_lend 23 = .ok (.aload_n 0, 1) := by decide +kernel
theorem dX9_lend_24 : decode cX9_lend 24 = .ok (.aload_n 0, 1) := by decide +kernel
theorem dX9_lend_25 : decode cX9_lend 25 = .ok (.iload_n 1, 1) := by decide +kernel
theorem dX9_lend_26 : decode cX9_lend 26 = .ok (.sipush 1000, 3) := by decide +kernel
theorem dX9_lend_29 : decode cX9_lend 29 = .ok (.isub, 1) := by decide +kernel
theorem dX9_lend_30 : decode cX9_lend 30 = .ok (.invokevirtual 80, 3) := by decide +kernel
theorem dX9_lend_33 : decode cX9_lend 33 = .ok (.iload_n 2, 1) := by decide +kernel
theorem dX9_lend_34 : decode cX9_lend 34 = .ok (.iload_n 3, 1) := by decide +kernel
theorem dX9_lend_35 : decode cX9_lend 35 = .ok (.invokevirtual 190, 3) := by decide +kernel
theorem dX9_lend_38 : decode cX9_lend 38 = .ok (.ireturn, 1) := by decide +kernel
theorem dX9_lend_39 : decode cX9_lend 39 = .ok (.aload_n 0, 1) := by decide +kernel
theorem dX9_lend_40 : decode cX9_lend 40 = .ok (.getfield 10, 3) := by decide +kernel
theorem dX9_lend_43 : decode cX9_lend 43 = .ok (.iload_n 1, 1) := by decide +kernel
theorem dX9_lend_44 : decode cX9_lend 44 = .ok (.invokevirtual 84, 3) := by decide +kernel
theorem dX9_lend_47 : decode cX9_lend 47 = .ok (.astore 4, 2) := by decide +kernel
theorem dX9_lend_49 : decode cX9_lend 49 = .ok (.aload_n 0, 1) := by decide +kernel
theorem dX9_lend_50 : decode cX9_lend 50 = .ok (.aload 4, 2) := by decide +kernel
theorem dX9_lend_52 : decode cX9_lend 52 = .ok (.invokevirtual 194, 3) := by decide +kernel
theorem dX9_lend_55 : decode cX9_lend 55 = .ok (.ifCond .eq 15, 3) := by decide +kernel
theorem dX9_lend_58 : decode cX9_lend 58 = .ok (.aload_n 0, 1) := by decide +kernel
theorem dX9_lend_59 : decode cX9_lend 59 = .ok (.getfield 48, 3) := by decide +kernel
theorem dX9_lend_62 : decode cX9_lend 62 = .ok (.iload_n 2, 1) := by decide +kernel
theorem dX9_lend_63 : decode cX9_lend 63 = .ok (.iconst 1, 1) := by decide +kernel
theorem dX9_lend_64 : decode cX9_lend 64 = .ok (.invokevirtual 198, 3) := by decide +kernel
theorem dX9_lend_67 : decode cX9_lend 67 = .ok (.ifCond .ne 5, 3) := by decide +kernel
theorem dX9_lend_70 : decode cX9_lend 70 = .ok (.iconst (-1), 1) := by decide +kernel
theorem dX9_lend_71 : decode cX9_lend 71 = .ok (.ireturn, 1) := by decide +kernel
theorem dX9_lend_72 : decode cX9_lend 72 = .ok (.aload_n 0, 1) := by decide +kernel
theorem dX9_lend_73 : decode cX9_lend 73 = .ok (.aload 4, 2) := by decide +kernel
theorem dX9_lend_75 : decode cX9_lend 75 = .ok (.iload_n 2, 1) := by decide +kernel
theorem dX9_lend_76 : decode cX9_lend 76 = .ok (.iload_n 3, 1) := by decide +kernel
theorem dX9_lend_77 : decode cX9_lend 77 = .ok (.invokevirtual 201, 3) := by decide +kernel
theorem dX9_lend_80 : decode cX9_lend 80 = .ok (.iconst 1, 1) := by decide +kernel
theorem dX9_lend_81 : decode cX9_lend 81 = .ok (.ireturn, 1) := by decide +kernel
theorem dX9_giveBack_0 : decode cX9_giveBack 0 = .ok (.aload_n 0, 1) := by decide +kernel
theorem dX9_giveBack_1 : decode cX9_giveBack 1 = .ok (.getfield 10, 3) := by decide +kernel
theorem dX9_giveBack_4 : decode cX9_giveBack 4 = .ok (.iload_n 1, 1) := by decide +kernel
theorem dX9_giveBack_5 : decode cX9_giveBack 5 = .ok (.invokevirtual 84, 3) := by decide +kernel
theorem dX9_giveBack_8 : decode cX9_giveBack 8 = .ok (.astore_n 3, 1) := by decide +kernel
theorem dX9_giveBack_9 : decode cX9_giveBack 9 = .ok (.aload_n 3, 1) := by decide +kernel
theorem dX9_giveBack_10 : decode cX9_giveBack 10 = .ok (.ifnull 25, 3) := by decide +kernel
theorem dX9_giveBack_13 : decode cX9_giveBack 13 = .ok (.aload_n 3, 1) := by decide +kernel
theorem dX9_giveBack_14 : decode cX9_giveBack 14 = .ok (.invokevirtual 91, 3) := by decide +kernel
theorem dX9_giveBack_17 : decode cX9_giveBack 17 = .ok (.ifCond .eq 18, 3) := by decide +kernel
theorem dX9_giveBack_20 : decode cX9_giveBack 20 = .ok (.iload_n 2, 1) := by decide +kernel
theorem dX9_giveBack_21 : decode cX9_giveBack 21 = .ok (.invokestatic 187, 3) := by decide +kernel
theorem dX9_giveBack_24 : decode cX9_giveBack 24 = .ok (.ifCond .eq 11, 3) := by decide +kernel
theorem dX9_giveBack_27 : decode cX9_giveBack 27 = .ok (.iload_n 2, 1) := by decide +kernel
theorem dX9_giveBack_28 : decode cX9_giveBack 28 = .ok (.aload_n 3, 1) := by decide +kernel
theorem dX9_giveBack_29 : decode cX9_giveBack 29 = .ok (.getfield 140, 3) := by decide +kernel
theorem dX9_giveBack_32 : decode cX9_giveBack 32 = .ok (.if_icmp .ge 5, 3) := by decide +kernel
theorem dX9_giveBack_35 : decode cX9_giveBack 35 = .ok (.iconst (-1), 1) := by decide +kernel
theorem dX9_giveBack_36 : decode cX9_giveBack 36 = .ok (.ireturn, 1) := by decide +kernel
theorem dX9_giveBack_37 : decode cX9_giveBack 37 = .ok (.aload_n 0, 1) := by decide +kernel
theorem dX9_giveBack_38 : decode cX9_giveBack 38 = .ok (.getfield 48, 3) := by decide +kernel
theorem dX9_giveBack_41 : decode cX9_giveBack 41 = .ok (.aload_n 3, 1) := by decide +kernel
theorem dX9_giveBack_42 : decode cX9_giveBack 42 = .ok (.iload_n 2, 1) := by decide +kernel
theorem dX9_giveBack_43 : decode cX9_giveBack 43 = .ok (.invokevirtual 205, 3) := by decide +kernel
theorem dX9_giveBack_46 : decode cX9_giveBack 46 = .ok (.ireturn, 1) := by decide +kernel
theorem dX9_overdue_0 : decode cX9_overdue 0 = .ok (.iload_n 1, 1) := by decide +kernel
theorem dX9_overdue_1 : decode cX9_overdue 1 = .ok (.invokestatic 187, 3) := by decide +kernel
theorem dX9_overdue_4 : decode cX9_overdue 4 = .ok (.ifCond .eq 14, 3) := by decide +kernel
theorem dX9_overdue_7 : decode cX9_overdue 7 = .ok (.aload_n 0, 1) := by decide +kernel
theorem dX9_overdue_8 : decode cX9_overdue 8 = .ok (.getfield 48, 3) := by decide +kernel
theorem dX9_overdue_11 : decode cX9_overdue 11 = .ok (.iload_n 1, 1) := by decide +kernel
theorem dX9_overdue_12 : decode cX9_overdue 12 = .ok (.invokevirtual 209, 3) := by decide +kernel
theorem dX9_overdue_15 : decode cX9_overdue 15 = .ok (.goto 4, 3) := by decide +kernel
theorem dX9_overdue_18 : decode cX9_overdue 18 = .ok (.iconst (-1), 1) := by decide +kernel
theorem dX9_overdue_19 : decode cX9_overdue 19 = .ok (.ireturn, 1) := by decide +kernel
theorem dX9_lateOne_0 : decode cX9_lateOne 0 = .ok (.iload_n 1, 1) := by decide +kernel
theorem dX9_lateOne_1 : decode cX9_lateOne 1 = .ok (.invokestatic 187, 3) := by decide +kernel
theorem dX9_lateOne_4 : decode cX9_lateOne 4 = .ok (.ifCond .eq 15, 3) := by decide +kernel
theorem dX9_lateOne_7 : decode cX9_lateOne 7 = .ok (.aload_n 0, 1) := by decide +kernel
theorem dX9_lateOne_8 : decode cX9_lateOne 8 = .ok (.getfield 48, 3) := by decide +kernel
theorem dX9_lateOne_11 : decode cX9_lateOne 11 = .ok (.iload_n 1, 1) := by decide +kernel
theorem dX9_lateOne_12 : decode cX9_lateOne 12 = .ok (.iload_n 2, 1) := by decide +kernel
theorem dX9_lateOne_13 : decode cX9_lateOne 13 = .ok (.invokevirtual 213, 3) := by decide +kernel
theorem dX9_lateOne_16 : decode cX9_lateOne 16 = .ok (.goto 4, 3) := by decide +kernel
theorem dX9_lateOne_19 : decode cX9_lateOne 19 = .ok (.iconst (-1), 1) := by decide +kernel
theorem dX9_lateOne_20 : decode cX9_lateOne 20 = .ok (.ireturn, 1) := by decide +kernel
theorem dX9_fees_0 : decode cX9_fees 0 = .ok (.iload_n 1, 1) := by decide +kernel
theorem dX9_fees_1 : decode cX9_fees 1 = .ok (.invokestatic 184, 3) := by decide +kernel
theorem dX9_fees_4 : decode cX9_fees 4 = .ok (.ifCond .eq 10, 3) := by decide +kernel
theorem dX9_fees_7 : decode cX9_fees 7 = .ok (.iload_n 2, 1) := by decide +kernel
theorem dX9_fees_8 : decode cX9_fees 8 = .ok (.invokestatic 187, 3) := by decide +kernel
theorem dX9_fees_11 : decode cX9_fees 11 = .ok (.ifCond .ne 5, 3) := by decide +kernel
theorem dX9_fees_14 : decode cX9_fees 14 = .ok (.iconst (-1), 1) := by decide +kernel
theorem dX9_fees_15 : decode cX9_fees 15 = .ok (.ireturn, 1) := by decide +kernel
theorem dX9_fees_16 : decode cX9_fees 16 = .ok (.aload_n 0, 1) := by decide +kernel
theorem dX9_fees_17 : decode cX9_fees 17 = .ok (.getfield 48, 3) := by decide +kernel
theorem dX9_fees_20 : decode cX9_fees 20 = .ok (.iload_n 1, 1) := by decide +kernel
theorem dX9_fees_21 : decode cX9_fees 21 = .ok (.iload_n 2, 1) := by decide +kernel
theorem dX9_fees_22 : decode cX9_fees 22 = .ok (.invokevirtual 216, 3) := by decide +kernel
theorem dX9_fees_25 : decode cX9_fees 25 = .ok (.ireturn, 1) := by decide +kernel
theorem dX9_question_0 : decode cX9_question 0 = .ok (.aload_n 0, 1) := by decide +kernel
theorem dX9_question_1 : decode cX9_question 1 = .ok (.iload_n 1, 1) := by decide +kernel
theorem dX9_question_2 : decode cX9_question 2 = .ok (.invokevirtual 219, 3) := by decide +kernel
theorem dX9_question_5 : decode cX9_question 5 = .ok (.astore 6, 2) := by decide +kernel
theorem dX9_question_7 : decode cX9_question 7 = .ok (.aload 6, 2) := by decide +kernel
theorem dX9_question_9 : decode cX9_question 9 = .ok (.ifnull 39, 3) := by decide +kernel
theorem dX9_question_12 : decode cX9_question 12 = .ok (.aload 6, 2) := by decide +kernel
theorem dX9_question_14 : decode cX9_question 14 = .ok (.invokevirtual 223, 3) := by decide +kernel
theorem dX9_question_17 : decode cX9_question 17 = .ok (.ifCond .ne 31, 3) := by decide +kernel
theorem dX9_question_20 : decode cX9_question 20 = .ok (.iload_n 2, 1) := by decide +kernel
theorem dX9_question_21 : decode cX9_question 21 = .ok (.iload_n 3, 1) := by decide +kernel
theorem dX9_question_22 : decode cX9_question 22 = .ok (.invokestatic 226, 3) := by decide +kernel
theorem dX9_question_25 : decode cX9_question 25 = .ok (.ifCond .eq 23, 3) := by decide +kernel
theorem dX9_question_28 : decode cX9_question 28 = .ok (.aload 6, 2) := by decide +kernel
theorem dX9_question_30 : decode cX9_question 30 = .ok (.iload 4, 2) := by decide +kernel
theorem dX9_question_32 : decode cX9_question 32 = .ok (.invokevirtual 231, 3) := by decide +kernel
theorem dX9_question_35 : decode cX9_question 35 = .ok (.ifCond .eq 13, 3) := by decide +kernel
theorem dX9_question_38 : decode cX9_question 38 = .ok (.aload 6, 2) := by decide +kernel
theorem dX9_question_40 : decode cX9_question 40 = .ok (.iload 5, 2) := by decide +kernel
theorem dX9_question_42 : decode cX9_question 42 = .ok (.invokevirtual 231, 3) := by decide +kernel
theorem dX9_question_45 : decode cX9_question 45 = .ok (.ifCond .ne 5, 3) := by decide +kernel
theorem dX9_question_48 : decode cX9_question 48 = .ok (.iconst (-1), 1) := by decide +kernel
theorem dX9_question_49 : decode cX9_question 49 = .ok (.ireturn, 1) := by decide +kernel
theorem dX9_question_50 : decode cX9_question 50 = .ok (.aload 6, 2) := by decide +kernel
theorem dX9_question_52 : decode cX9_question 52 = .ok (.new 227, 3) := by decide +kernel
theorem dX9_question_55 : decode cX9_question 55 = .ok (.dup, 1) := by decide +kernel
theorem dX9_question_56 : decode cX9_question 56 = .ok (.iload_n 2, 1) := by decide +kernel
theorem dX9_question_57 : decode cX9_question 57 = .ok (.iload_n 3, 1) := by decide +kernel
theorem dX9_question_58 : decode cX9_question 58 = .ok (.iload 4, 2) := by decide +kernel
theorem dX9_question_60 : decode cX9_question 60 = .ok (.iload 5, 2) := by decide +kernel
theorem dX9_question_62 : decode cX9_question 62 = .ok (.invokespecial 234, 3) := by decide +kernel
theorem dX9_question_65 : decode cX9_question 65 = .ok (.invokevirtual 237, 3) := by decide +kernel
theorem dX9_question_68 : decode cX9_question 68 = .ok (.ireturn, 1) := by decide +kernel
theorem dX9_name_0 : decode cX9_name 0 = .ok (.aload_n 0, 1) := by decide +kernel
theorem dX9_name_1 : decode cX9_name 1 = .ok (.iload_n 1, 1) := by decide +kernel
theorem dX9_name_2 : decode cX9_name 2 = .ok (.invokevirtual 219, 3) := by decide +kernel
theorem dX9_name_5 : decode cX9_name 5 = .ok (.astore_n 3, 1) := by decide +kernel
theorem dX9_name_6 : decode cX9_name 6 = .ok (.aload_n 0, 1) := by decide +kernel
theorem dX9_name_7 : decode cX9_name 7 = .ok (.getfield 10, 3) := by decide +kernel
theorem dX9_name_10 : decode cX9_name 10 = .ok (.iload_n 2, 1) := by decide +kernel
theorem dX9_name_11 : decode cX9_name 11 = .ok (.invokevirtual 84, 3) := by decide +kernel
theorem dX9_name_14 : decode cX9_name 14 = .ok (.astore 4, 2) := by decide +kernel
theorem dX9_name_16 : decode cX9_name 16 = .ok (.aload_n 3, 1) := by decide +kernel
theorem dX9_name_17 : decode cX9_name 17 = .ok (.ifnull 8, 3) := by decide +kernel
theorem dX9_name_20 : decode cX9_name 20 = .ok (.aload 4, 2) := by decide +kernel
theorem dX9_name_22 : decode cX9_name 22 = .ok (.ifnonnull 5, 3) := by decide +kernel
theorem dX9_name_25 : decode cX9_name 25 = .ok (.iconst (-1), 1) := by decide +kernel
theorem dX9_name_26 : decode cX9_name 26 = .ok (.ireturn, 1) := by decide +kernel
theorem dX9_name_27 : decode cX9_name 27 = .ok (.aload_n 3, 1) := by decide +kernel
theorem dX9_name_28 : decode cX9_name 28 = .ok (.aload 4, 2) := by decide +kernel
theorem dX9_name_30 : decode cX9_name 30 = .ok (.invokevirtual 240, 3) := by decide +kernel
theorem dX9_name_33 : decode cX9_name 33 = .ok (.istore 5, 2) := by decide +kernel
theorem dX9_name_35 : decode cX9_name 35 = .ok (.aload_n 0, 1) := by decide +kernel
theorem dX9_name_36 : decode cX9_name 36 = .ok (.aload_n 3, 1) := by decide +kernel
theorem dX9_name_37 : decode cX9_name 37 = .ok (.getfield 244, 3) := by decide +kernel
theorem dX9_name_40 : decode cX9_name 40 = .ok (.putfield 56, 3) := by decide +kernel
theorem dX9_name_43 : decode cX9_name 43 = .ok (.iload 5, 2) := by decide +kernel
theorem dX9_name_45 : decode cX9_name 45 = .ok (.ireturn, 1) := by decide +kernel
theorem dX9_asked_0 : decode cX9_asked 0 = .ok (.aload_n 0, 1) := by decide +kernel
theorem dX9_asked_1 : decode cX9_asked 1 = .ok (.getfield 56, 3) := by decide +kernel
theorem dX9_asked_4 : decode cX9_asked 4 = .ok (.ireturn, 1) := by decide +kernel
theorem dX9_convert_0 : decode cX9_convert 0 = .ok (.aload_n 0, 1) := by decide +kernel
theorem dX9_convert_1 : decode cX9_convert 1 = .ok (.getfield 10, 3) := by decide +kernel
theorem dX9_convert_4 : decode cX9_convert 4 = .ok (.iload_n 1, 1) := by decide +kernel
theorem dX9_convert_5 : decode cX9_convert 5 = .ok (.invokevirtual 84, 3) := by decide +kernel
theorem dX9_convert_8 : decode cX9_convert 8 = .ok (.astore_n 3, 1) := by decide +kernel
theorem dX9_convert_9 : decode cX9_convert 9 = .ok (.aload_n 3, 1) := by decide +kernel
theorem dX9_convert_10 : decode cX9_convert 10 = .ok (.ifnull 36, 3) := by decide +kernel
theorem dX9_convert_13 : decode cX9_convert 13 = .ok (.aload_n 3, 1) := by decide +kernel
theorem dX9_convert_14 : decode cX9_convert 14 = .ok (.invokevirtual 91, 3) := by decide +kernel
theorem dX9_convert_17 : decode cX9_convert 17 = .ok (.ifCond .ne 29, 3) := by decide +kernel
theorem dX9_convert_20 : decode cX9_convert 20 = .ok (.iload_n 2, 1) := by decide +kernel
theorem dX9_convert_21 : decode cX9_convert 21 = .ok (.invokestatic 59, 3) := by decide +kernel
theorem dX9_convert_24 : decode cX9_convert 24 = .ok (.ifCond .eq 22, 3) := by decide +kernel
theorem dX9_convert_27 : decode cX9_convert 27 = .ok (.iload_n 2, 1) := by decide +kernel
theorem dX9_convert_28 : decode cX9_convert 28 = .ok (.aload_n 3, 1) := by decide +kernel
theorem dX9_convert_29 : decode cX9_convert 29 = .ok (.getfield 95, 3) := by decide +kernel
theorem dX9_convert_32 : decode cX9_convert 32 = .ok (.if_icmp .eq 14, 3) := by decide +kernel
theorem dX9_convert_35 : decode cX9_convert 35 = .ok (.aload_n 3, 1) := by decide +kernel
theorem dX9_convert_36 : decode cX9_convert 36 = .ok (.getfield 95, 3) := by decide +kernel
theorem dX9_convert_39 : decode cX9_convert 39 = .ok (.iload_n 2, 1) := by decide +kernel
theorem dX9_convert_40 : decode cX9_convert 40 = .ok (.invokestatic 247, 3) := by decide +kernel
theorem dX9_convert_43 : decode cX9_convert 43 = .ok (.ifCond .ne 5, 3) := by decide +kernel
theorem dX9_convert_46 : decode cX9_convert 46 = .ok (.iconst 0, 1) := by decide +kernel
theorem dX9_convert_47 : decode cX9_convert 47 = .ok (.ireturn, 1) := by decide +kernel
theorem dX9_convert_48 : decode cX9_convert 48 = .ok (.aload_n 3, 1) := by decide +kernel
theorem dX9_convert_49 : decode cX9_convert 49 = .ok (.iload_n 2, 1) := by decide +kernel
theorem dX9_convert_50 : decode cX9_convert 50 = .ok (.putfield 95, 3) := by decide +kernel
theorem dX9_convert_53 : decode cX9_convert 53 = .ok (.aload_n 3, 1) := by decide +kernel
theorem dX9_convert_54 : decode cX9_convert 54 = .ok (.getfield 111, 3) := by decide +kernel
theorem dX9_convert_57 : decode cX9_convert 57 = .ok (.ifnull 21, 3) := by decide +kernel
theorem dX9_convert_60 : decode cX9_convert 60 = .ok (.iload_n 2, 1) := by decide +kernel
theorem dX9_convert_61 : decode cX9_convert 61 = .ok (.aload_n 3, 1) := by decide +kernel
theorem dX9_convert_62 : decode cX9_convert 62 = .ok (.getfield 111, 3) := by decide +kernel
theorem dX9_convert_65 : decode cX9_convert 65 = .ok (.getfield 98, 3) := by decide +kernel
theorem dX9_convert_68 : decode cX9_convert 68 = .ok (.invokestatic 99, 3) := by decide +kernel
theorem dX9_convert_71 : decode cX9_convert 71 = .ok (.ifCond .ne 7, 3) := by decide +kernel
theorem dX9_convert_74 : decode cX9_convert 74 = .ok (.aload_n 3, 1) := by decide +kernel
theorem dX9_convert_75 : decode cX9_convert 75 = .ok (.invokestatic 103, 3) := by decide +kernel
theorem dX9_convert_78 : decode cX9_convert 78 = .ok (.aload_n 3, 1) := by decide +kernel
theorem dX9_convert_79 : decode cX9_convert 79 = .ok (.getfield 132, 3) := by decide +kernel
theorem dX9_convert_82 : decode cX9_convert 82 = .ok (.ifnull 22, 3) := by decide +kernel
theorem dX9_convert_85 : decode cX9_convert 85 = .ok (.iload_n 2, 1) := by decide +kernel
theorem dX9_convert_86 : decode cX9_convert 86 = .ok (.aload_n 3, 1) := by decide +kernel
theorem dX9_convert_87 : decode cX9_convert 87 = .ok (.getfield 132, 3) := by decide +kernel
theorem dX9_convert_90 : decode cX9_convert 90 = .ok (.getfield 250, 3) := by decide +kernel
theorem dX9_convert_93 : decode cX9_convert 93 = .ok (.invokestatic 99, 3) := by decide +kernel
theorem dX9_convert_96 : decode cX9_convert 96 = .ok (.ifCond .ne 8, 3) := by decide +kernel
theorem dX9_convert_99 : decode cX9_convert 99 = .ok (.aload_n 3, 1) := by decide +kernel
theorem dX9_convert_100 : decode cX9_convert 100 = .ok (.invokestatic 251, 3) := by decide +kernel
theorem dX9_convert_103 : decode cX9_convert 103 = .ok (.pop, 1) := by decide +kernel
theorem dX9_convert_104 : decode cX9_convert 104 = .ok (.iconst 1, 1) := by decide +kernel
theorem dX9_convert_105 : decode cX9_convert 105 = .ok (.ireturn, 1) := by decide +kernel
theorem dX9_find_0 : decode cX9_find 0 = .ok (.iload_n 1, 1) := by decide +kernel
theorem dX9_find_1 : decode cX9_find 1 = .ok (.invokestatic 254, 3) := by decide +kernel
theorem dX9_find_4 : decode cX9_find 4 = .ok (.ifCond .eq 16, 3) := by decide +kernel
theorem dX9_find_7 : decode cX9_find 7 = .ok (.aload_n 0, 1) := by decide +kernel
theorem dX9_find_8 : decode cX9_find 8 = .ok (.getfield 10, 3) := by decide +kernel
theorem dX9_find_11 : decode cX9_find 11 = .ok (.iload_n 1, 1) := by decide +kernel
theorem dX9_find_12 : decode cX9_find 12 = .ok (.iload_n 2, 1) := by decide +kernel
theorem dX9_find_13 : decode cX9_find 13 = .ok (.iload_n 3, 1) := by decide +kernel
theorem dX9_find_14 : decode cX9_find 14 = .ok (.invokevirtual 257, 3) := by decide +kernel
theorem dX9_find_17 : decode cX9_find 17 = .ok (.goto 4, 3) := by decide +kernel
theorem dX9_find_20 : decode cX9_find 20 = .ok (.iconst (-1), 1) := by decide +kernel
theorem dX9_find_21 : decode cX9_find 21 = .ok (.ireturn, 1) := by decide +kernel
theorem dX9_nth_0 : decode cX9_nth 0 = .ok (.iload_n 1, 1) := by decide +kernel
theorem dX9_nth_1 : decode cX9_nth 1 = .ok (.invokestatic 254, 3) := by decide +kernel
theorem dX9_nth_4 : decode cX9_nth 4 = .ok (.ifCond .eq 15, 3) := by decide +kernel
theorem dX9_nth_7 : decode cX9_nth 7 = .ok (.aload_n 0, 1) := by decide +kernel
theorem dX9_nth_8 : decode cX9_nth 8 = .ok (.getfield 10, 3) := by decide +kernel
theorem dX9_nth_11 : decode cX9_nth 11 = .ok (.iload_n 1, 1) := by decide +kernel
theorem dX9_nth_12 : decode cX9_nth 12 = .ok (.iload_n 2, 1) := by decide +kernel
theorem dX9_nth_13 : decode cX9_nth 13 = .ok (.invokevirtual 260, 3) := by decide +kernel
theorem dX9_nth_16 : decode cX9_nth 16 = .ok (.goto 4, 3) := by decide +kernel
theorem dX9_nth_19 : decode cX9_nth 19 = .ok (.iconst (-1), 1) := by decide +kernel
theorem dX9_nth_20 : decode cX9_nth 20 = .ok (.ireturn, 1) := by decide +kernel
theorem dX9_shelf_0 : decode cX9_shelf 0 = .ok (.aload_n 0, 1) := by decide +kernel
theorem dX9_shelf_1 : decode cX9_shelf 1 = .ok (.iload_n 1, 1) := by decide +kernel
theorem dX9_shelf_2 : decode cX9_shelf 2 = .ok (.invokevirtual 263, 3) := by decide +kernel
theorem dX9_shelf_5 : decode cX9_shelf 5 = .ok (.astore 4, 2) := by decide +kernel
theorem dX9_shelf_7 : decode cX9_shelf 7 = .ok (.aload 4, 2) := by decide +kernel
theorem dX9_shelf_9 : decode cX9_shelf 9 = .ok (.ifnull 29, 3) := by decide +kernel
theorem dX9_shelf_12 : decode cX9_shelf 12 = .ok (.aload 4, 2) := by decide +kernel
theorem dX9_shelf_14 : decode cX9_shelf 14 = .ok (.getfield 267, 3) := by decide +kernel
theorem dX9_shelf_17 : decode cX9_shelf 17 = .ok (.ifCond .gt 21, 3) := by decide +kernel
theorem dX9_shelf_20 : decode cX9_shelf 20 = .ok (.iload_n 2, 1) := by decide +kernel
theorem dX9_shelf_21 : decode cX9_shelf 21 = .ok (.invokestatic 74, 3) := by decide +kernel
theorem dX9_shelf_24 : decode cX9_shelf 24 = .ok (.ifCond .eq 14, 3) := by decide +kernel
theorem dX9_shelf_27 : decode cX9_shelf 27 = .ok (.iload_n 3, 1) := by decide +kernel
theorem dX9_shelf_28 : decode cX9_shelf 28 = .ok (.ifCond .lt 10, 3) := by decide +kernel
theorem dX9_shelf_31 : decode cX9_shelf 31 = .ok (.iload_n 3, 1) := by decide +kernel
theorem dX9_shelf_32 : decode cX9_shelf 32 = .ok (.ldc_w 270, 3) := by decide +kernel
theorem dX9_shelf_35 : decode cX9_shelf 35 = .ok (.if_icmp .le 5, 3) := by decide +kernel
theorem dX9_shelf_38 : decode cX9_shelf 38 = .ok (.iconst 0, 1) := by decide +kernel
theorem dX9_shelf_39 : decode cX9_shelf 39 = .ok (.ireturn, 1) := by decide +kernel
theorem dX9_shelf_40 : decode cX9_shelf 40 = .ok (.aload 4, 2) := by decide +kernel
theorem dX9_shelf_42 : decode cX9_shelf 42 = .ok (.iload_n 2, 1) := by decide +kernel
theorem dX9_shelf_43 : decode cX9_shelf 43 = .ok (.putfield 250, 3) := by decide +kernel
theorem dX9_shelf_46 : decode cX9_shelf 46 = .ok (.aload 4, 2) := by decide +kernel
theorem dX9_shelf_48 : decode cX9_shelf 48 = .ok (.iload_n 3, 1) := by decide +kernel
theorem dX9_shelf_49 : decode cX9_shelf 49 = .ok (.putfield 271, 3) := by decide +kernel
theorem dX9_shelf_52 : decode cX9_shelf 52 = .ok (.iconst 1, 1) := by decide +kernel
theorem dX9_shelf_53 : decode cX9_shelf 53 = .ok (.ireturn, 1) := by decide +kernel
theorem dX9_move_0 : decode cX9_move 0 = .ok (.aload_n 0, 1) := by decide +kernel
theorem dX9_move_1 : decode cX9_move 1 = .ok (.getfield 10, 3) := by decide +kernel
theorem dX9_move_4 : decode cX9_move 4 = .ok (.iload_n 1, 1) := by decide +kernel
theorem dX9_move_5 : decode cX9_move 5 = .ok (.invokevirtual 84, 3) := by decide +kernel
theorem dX9_move_8 : decode cX9_move 8 = .ok (.astore_n 3, 1) := by decide +kernel
theorem dX9_move_9 : decode cX9_move 9 = .ok (.aload_n 3, 1) := by decide +kernel
theorem dX9_move_10 : decode cX9_move 10 = .ok (.ifnull 10, 3) := by decide +kernel
theorem dX9_move_13 : decode cX9_move 13 = .ok (.aload_n 3, 1) := by decide +kernel
theorem dX9_move_14 : decode cX9_move 14 = .ok (.invokevirtual 91, 3) := by decide +kernel
theorem dX9_move_17 : decode cX9_move 17 = .ok (.ifCond .eq 5, 3) := by decide +kernel
theorem dX9_move_20 : decode cX9_move 20 = .ok (.iconst 0, 1) := by decide +kernel
theorem dX9_move_21 : decode cX9_move 21 = .ok (.ireturn, 1) := by decide +kernel
theorem dX9_move_22 : decode cX9_move 22 = .ok (.iload_n 2, 1) := by decide +kernel
theorem dX9_move_23 : decode cX9_move 23 = .ok (.iconst (-1), 1) := by decide +kernel
theorem dX9_move_24 : decode cX9_move 24 = .ok (.if_icmp .ne 8, 3) := by decide +kernel
theorem dX9_move_27 : decode cX9_move 27 = .ok (.aload_n 3, 1) := by decide +kernel
theorem dX9_move_28 : decode cX9_move 28 = .ok (.invokestatic 251, 3) := by decide +kernel
theorem dX9_move_31 : decode cX9_move 31 = .ok (.ireturn, 1) := by decide +kernel
theorem dX9_move_32 : decode cX9_move 32 = .ok (.aload_n 0, 1) := by decide +kernel
theorem dX9_move_33 : decode cX9_move 33 = .ok (.iload_n 2, 1) := by decide +kernel
theorem dX9_move_34 : decode cX9_move 34 = .ok (.invokevirtual 263, 3) := by decide +kernel
theorem dX9_move_37 : decode cX9_move 37 = .ok (.astore 4, 2) := by decide +kernel
theorem dX9_move_39 : decode cX9_move 39 = .ok (.aload 4, 2) := by decide +kernel
theorem dX9_move_41 : decode cX9_move 41 = .ok (.ifnull 36, 3) := by decide +kernel
theorem dX9_move_44 : decode cX9_move 44 = .ok (.aload 4, 2) := by decide +kernel
theorem dX9_move_46 : decode cX9_move 46 = .ok (.aload_n 3, 1) := by decide +kernel
theorem dX9_move_47 : decode cX9_move 47 = .ok (.getfield 132, 3) := by decide +kernel
theorem dX9_move_50 : decode cX9_move 50 = .ok (.if_acmp .eq 27, 3) := by decide +kernel
theorem dX9_move_53 : decode cX9_move 53 = .ok (.aload 4, 2) := by decide +kernel
theorem dX9_move_55 : decode cX9_move 55 = .ok (.aload_n 3, 1) := by decide +kernel
theorem dX9_move_56 : decode cX9_move 56 = .ok (.invokevirtual 274, 3) := by decide +kernel
theorem dX9_move_59 : decode cX9_move 59 = .ok (.ifCond .eq 18, 3) := by decide +kernel
theorem dX9_move_62 : decode cX9_move 62 = .ok (.aload_n 3, 1) := by decide +kernel
theorem dX9_move_63 : decode cX9_move 63 = .ok (.getfield 95, 3) := by decide +kernel
theorem dX9_move_66 : decode cX9_move 66 = .ok (.aload 4, 2) := by decide +kernel
theorem dX9_move_68 : decode cX9_move 68 = .ok (.getfield 250, 3) := by decide +kernel
theorem dX9_move_71 : decode cX9_move 71 = .ok (.invokestatic 99, 3) := by decide +kernel
theorem dX9_move_74 : decode cX9_move 74 = .ok (.ifCond .ne 5, 3) := by decide +kernel
theorem dX9_move_77 : decode cX9_move 77 = .ok (.iconst 0, 1) := by decide +kernel
theorem dX9_move_78 : decode cX9_move 78 = .ok (.ireturn, 1) := by decide +kernel
theorem dX9_move_79 : decode cX9_move 79 = .ok (.aload_n 3, 1) := by decide +kernel
theorem dX9_move_80 : decode cX9_move 80 = .ok (.invokestatic 251, 3) := by decide +kernel
theorem dX9_move_83 : decode cX9_move 83 = .ok (.pop, 1) := by decide +kernel
theorem dX9_move_84 : decode cX9_move 84 = .ok (.aload 4, 2) := by decide +kernel
theorem dX9_move_86 : decode cX9_move 86 = .ok (.aload_n 3, 1) := by decide +kernel
theorem dX9_move_87 : decode cX9_move 87 = .ok (.invokevirtual 277, 3) := by decide +kernel
theorem dX9_move_90 : decode cX9_move 90 = .ok (.aload_n 3, 1) := by decide +kernel
theorem dX9_move_91 : decode cX9_move 91 = .ok (.aload 4, 2) := by decide +kernel
theorem dX9_move_93 : decode cX9_move 93 = .ok (.putfield 132, 3) := by decide +kernel
theorem dX9_move_96 : decode cX9_move 96 = .ok (.iconst 1, 1) := by decide +kernel
theorem dX9_move_97 : decode cX9_move 97 = .ok (.ireturn, 1) := by decide +kernel
theorem dX9_count_0 : decode cX9_count 0 = .ok (.iload_n 1, 1) := by decide +kernel
theorem dX9_count_1 : decode cX9_count 1 = .ok (.tableswitch 105 0 7 #[47, 55, 60, 68, 76, 84, 92, 97], 47) := by decide +kernel
theorem dX9_count_48 : decode cX9_count 48 = .ok (.aload_n 0, 1) := by decide +kernel
theorem dX9_count_49 : decode cX9_count 49 = .ok (.getfield 10, 3) := by decide +kernel
theorem dX9_count_52 : decode cX9_count 52 = .ok (.getfield 279, 3) := by decide +kernel
theorem dX9_count_55 : decode cX9_count 55 = .ok (.ireturn, 1) := by decide +kernel
theorem dX9_count_56 : decode cX9_count 56 = .ok (.aload_n 0, 1) := by decide +kernel
theorem dX9_count_57 : decode cX9_count 57 = .ok (.getfield 52, 3) := by decide +kernel
theorem dX9_count_60 : decode cX9_count 60 = .ok (.ireturn, 1) := by decide +kernel
theorem dX9_count_61 : decode cX9_count 61 = .ok (.aload_n 0, 1) := by decide +kernel
theorem dX9_count_62 : decode cX9_count 62 = .ok (.getfield 41, 3) := by decide +kernel
theorem dX9_count_65 : decode cX9_count 65 = .ok (.invokevirtual 282, 3) := by decide +kernel
theorem dX9_count_68 : decode cX9_count 68 = .ok (.ireturn, 1) := by decide +kernel
theorem dX9_count_69 : decode cX9_count 69 = .ok (.aload_n 0, 1) := by decide +kernel
theorem dX9_count_70 : decode cX9_count 70 = .ok (.getfield 48, 3) := by decide +kernel
theorem dX9_count_73 : decode cX9_count 73 = .ok (.getfield 285, 3) := by decide +kernel
theorem dX9_count_76 : decode cX9_count 76 = .ok (.ireturn, 1) := by decide +kernel
theorem dX9_count_77 : decode cX9_count 77 = .ok (.aload_n 0, 1) := by decide +kernel
theorem dX9_count_78 : decode cX9_count 78 = .ok (.getfield 48, 3) := by decide +kernel
theorem dX9_count_81 : decode cX9_count 81 = .ok (.getfield 288, 3) := by decide +kernel
theorem dX9_count_84 : decode cX9_count 84 = .ok (.ireturn, 1) := by decide +kernel
theorem dX9_count_85 : decode cX9_count 85 = .ok (.aload_n 0, 1) := by decide +kernel
theorem dX9_count_86 : decode cX9_count 86 = .ok (.getfield 10, 3) := by decide +kernel
theorem dX9_count_89 : decode cX9_count 89 = .ok (.invokevirtual 291, 3) := by decide +kernel
theorem dX9_count_92 : decode cX9_count 92 = .ok (.ireturn, 1) := by decide +kernel
theorem dX9_count_93 : decode cX9_count 93 = .ok (.aload_n 0, 1) := by decide +kernel
theorem dX9_count_94 : decode cX9_count 94 = .ok (.invokevirtual 294, 3) := by decide +kernel
theorem dX9_count_97 : decode cX9_count 97 = .ok (.ireturn, 1) := by decide +kernel
theorem dX9_count_98 : decode cX9_count 98 = .ok (.aload_n 0, 1) := by decide +kernel
theorem dX9_count_99 : decode cX9_count 99 = .ok (.getfield 48, 3) := by decide +kernel
theorem dX9_count_102 : decode cX9_count 102 = .ok (.invokevirtual 297, 3) := by decide +kernel
theorem dX9_count_105 : decode cX9_count 105 = .ok (.ireturn, 1) := by decide +kernel
theorem dX9_count_106 : decode cX9_count 106 = .ok (.iconst (-1), 1) := by decide +kernel
theorem dX9_count_107 : decode cX9_count 107 = .ok (.ireturn, 1) := by decide +kernel
theorem dX9_boxAt_0 : decode cX9_boxAt 0 = .ok (.iload_n 1, 1) := by decide +kernel
theorem dX9_boxAt_1 : decode cX9_boxAt 1 = .ok (.ifCond .lt 29, 3) := by decide +kernel
theorem dX9_boxAt_4 : decode cX9_boxAt 4 = .ok (.iload_n 1, 1) := by decide +kernel
theorem dX9_boxAt_5 : decode cX9_boxAt 5 = .ok (.aload_n 0, 1) := by decide +kernel
theorem dX9_boxAt_6 : decode cX9_boxAt 6 = .ok (.getfield 52, 3) := by decide +kernel
theorem dX9_boxAt_9 : decode cX9_boxAt 9 = .ok (.if_icmp .ge 21, 3) := by decide +kernel
theorem dX9_boxAt_12 : decode cX9_boxAt 12 = .ok (.iload_n 1, 1) := by decide +kernel
theorem dX9_boxAt_13 : decode cX9_boxAt 13 = .ok (.aload_n 0, 1) := by decide +kernel
theorem dX9_boxAt_14 : decode cX9_boxAt 14 = .ok (.getfield 18, 3) := by decide +kernel
theorem dX9_boxAt_17 : decode cX9_boxAt 17 = .ok (.arraylength, 1) := by decide +kernel
theorem dX9_boxAt_18 : decode cX9_boxAt 18 = .ok (.if_icmp .ge 12, 3) := by decide +kernel
theorem dX9_boxAt_21 : decode cX9_boxAt 21 = .ok (.aload_n 0, 1) := by decide +kernel
theorem dX9_boxAt_22 : decode cX9_boxAt 22 = .ok (.getfield 18, 3) := by decide +kernel
theorem dX9_boxAt_25 : decode cX9_boxAt 25 = .ok (.iload_n 1, 1) := by decide +kernel
theorem dX9_boxAt_26 : decode cX9_boxAt 26 = .ok (.aaload, 1) := by decide +kernel
theorem dX9_boxAt_27 : decode cX9_boxAt 27 = .ok (.goto 4, 3) := by decide +kernel
theorem dX9_boxAt_30 : decode cX9_boxAt 30 = .ok (.aconst_null, 1) := by decide +kernel
theorem dX9_boxAt_31 : decode cX9_boxAt 31 = .ok (.areturn, 1) := by decide +kernel
theorem dX9_shelfAt_0 : decode cX9_shelfAt 0 = .ok (.iload_n 1, 1) := by decide +kernel
theorem dX9_shelfAt_1 : decode cX9_shelfAt 1 = .ok (.ifCond .lt 21, 3) := by decide +kernel
theorem dX9_shelfAt_4 : decode cX9_shelfAt 4 = .ok (.iload_n 1, 1) := by decide +kernel
theorem dX9_shelfAt_5 : decode cX9_shelfAt 5 = .ok (.aload_n 0, 1) := by decide +kernel
theorem dX9_shelfAt_6 : decode cX9_shelfAt 6 = .ok (.getfield 24, 3) := by decide +kernel
theorem dX9_shelfAt_9 : decode cX9_shelfAt 9 = .ok (.arraylength, 1) := by decide +kernel
theorem dX9_shelfAt_10 : decode cX9_shelfAt 10 = .ok (.if_icmp .ge 12, 3) := by decide +kernel
theorem dX9_shelfAt_13 : decode cX9_shelfAt 13 = .ok (.aload_n 0, 1) := by decide +kernel
theorem dX9_shelfAt_14 : decode cX9_shelfAt 14 = .ok (.getfield 24, 3) := by decide +kernel
theorem dX9_shelfAt_17 : decode cX9_shelfAt 17 = .ok (.iload_n 1, 1) := by decide +kernel
theorem dX9_shelfAt_18 : decode cX9_shelfAt 18 = .ok (.aaload, 1) := by decide +kernel
theorem dX9_shelfAt_19 : decode cX9_shelfAt 19 = .ok (.goto 4, 3) := by decide +kernel
theorem dX9_shelfAt_22 : decode cX9_shelfAt 22 = .ok (.aconst_null, 1) := by decide +kernel
theorem dX9_shelfAt_23 : decode cX9_shelfAt 23 = .ok (.areturn, 1) := by decide +kernel
theorem dX9_keyAt_0 : decode cX9_keyAt 0 = .ok (.iload_n 1, 1) := by decide +kernel
theorem dX9_keyAt_1 : decode cX9_keyAt 1 = .ok (.ifCond .lt 21, 3) := by decide +kernel
theorem dX9_keyAt_4 : decode cX9_keyAt 4 = .ok (.iload_n 1, 1) := by decide +kernel
theorem dX9_keyAt_5 : decode cX9_keyAt 5 = .ok (.aload_n 0, 1) := by decide +kernel
theorem dX9_keyAt_6 : decode cX9_keyAt 6 = .ok (.getfield 33, 3) := by decide +kernel
theorem dX9_keyAt_9 : decode cX9_keyAt 9 = .ok (.arraylength, 1) := by decide +kernel
theorem dX9_keyAt_10 : decode cX9_keyAt 10 = .ok (.if_icmp .ge 12, 3) := by decide +kernel
theorem dX9_keyAt_13 : decode cX9_keyAt 13 = .ok (.aload_n 0, 1) := by decide +kernel
theorem dX9_keyAt_14 : decode cX9_keyAt 14 = .ok (.getfield 33, 3) := by decide +kernel
theorem dX9_keyAt_17 : decode cX9_keyAt 17 = .ok (.iload_n 1, 1) := by decide +kernel
theorem dX9_keyAt_18 : decode cX9_keyAt 18 = .ok (.aaload, 1) := by decide +kernel
theorem dX9_keyAt_19 : decode cX9_keyAt 19 = .ok (.goto 4, 3) := by decide +kernel
theorem dX9_keyAt_22 : decode cX9_keyAt 22 = .ok (.aconst_null, 1) := by decide +kernel
theorem dX9_keyAt_23 : decode cX9_keyAt 23 = .ok (.areturn, 1) := by decide +kernel
theorem dX9_specimenIn_0 : decode cX9_specimenIn 0 = .ok (.aload_n 0, 1) := by decide +kernel
theorem dX9_specimenIn_1 : decode cX9_specimenIn 1 = .ok (.iload_n 1, 1) := by decide +kernel
theorem dX9_specimenIn_2 : decode cX9_specimenIn 2 = .ok (.invokevirtual 80, 3) := by decide +kernel
theorem dX9_specimenIn_5 : decode cX9_specimenIn 5 = .ok (.astore_n 3, 1) := by decide +kernel
theorem dX9_specimenIn_6 : decode cX9_specimenIn 6 = .ok (.aload_n 3, 1) := by decide +kernel
theorem dX9_specimenIn_7 : decode cX9_specimenIn 7 = .ok (.ifnonnull 7, 3) := by decide +kernel
theorem dX9_specimenIn_10 : decode cX9_specimenIn 10 = .ok (.aconst_null, 1) := by decide +kernel
theorem dX9_specimenIn_11 : decode cX9_specimenIn 11 = .ok (.goto 8, 3) := by decide +kernel
theorem dX9_specimenIn_14 : decode cX9_specimenIn 14 = .ok (.aload_n 3, 1) := by decide +kernel
theorem dX9_specimenIn_15 : decode cX9_specimenIn 15 = .ok (.iload_n 2, 1) := by decide +kernel
theorem dX9_specimenIn_16 : decode cX9_specimenIn 16 = .ok (.invokevirtual 300, 3) := by decide +kernel
theorem dX9_specimenIn_19 : decode cX9_specimenIn 19 = .ok (.areturn, 1) := by decide +kernel
theorem dX9_onShelves_0 : decode cX9_onShelves 0 = .ok (.iconst 0, 1) := by decide +kernel
theorem dX9_onShelves_1 : decode cX9_onShelves 1 = .ok (.istore_n 1, 1) := by decide +kernel
theorem dX9_onShelves_2 : decode cX9_onShelves 2 = .ok (.iconst 0, 1) := by decide +kernel
theorem dX9_onShelves_3 : decode cX9_onShelves 3 = .ok (.istore_n 2, 1) := by decide +kernel
theorem dX9_onShelves_4 : decode cX9_onShelves 4 = .ok (.iload_n 2, 1) := by decide +kernel
theorem dX9_onShelves_5 : decode cX9_onShelves 5 = .ok (.bipush 10, 2) := by decide +kernel
theorem dX9_onShelves_7 : decode cX9_onShelves 7 = .ok (.if_icmp .ge 30, 3) := by decide +kernel
theorem dX9_onShelves_10 : decode cX9_onShelves 10 = .ok (.aload_n 0, 1) := by decide +kernel
theorem dX9_onShelves_11 : decode cX9_onShelves 11 = .ok (.iload_n 2, 1) := by decide +kernel
theorem dX9_onShelves_12 : decode cX9_onShelves 12 = .ok (.invokevirtual 263, 3) := by decide +kernel
theorem dX9_onShelves_15 : decode cX9_onShelves 15 = .ok (.astore_n 3, 1) := by decide +kernel
theorem dX9_onShelves_16 : decode cX9_onShelves 16 = .ok (.iload_n 1, 1) := by decide +kernel
theorem dX9_onShelves_17 : decode cX9_onShelves 17 = .ok (.aload_n 3, 1) := by decide +kernel
theorem dX9_onShelves_18 : decode cX9_onShelves 18 = .ok (.ifnonnull 7, 3) := by decide +kernel
theorem dX9_onShelves_21 : decode cX9_onShelves 21 = .ok (.iconst 0, 1) := by decide +kernel
theorem dX9_onShelves_22 : decode cX9_onShelves 22 = .ok (.goto 7, 3) := by decide +kernel
theorem dX9_onShelves_25 : decode cX9_onShelves 25 = .ok (.aload_n 3, 1) := by decide +kernel
theorem dX9_onShelves_26 : decode cX9_onShelves 26 = .ok (.getfield 267, 3) := by decide +kernel
theorem dX9_onShelves_29 : decode cX9_onShelves 29 = .ok (.iadd, 1) := by decide +kernel
theorem dX9_onShelves_30 : decode cX9_onShelves 30 = .ok (.istore_n 1, 1) := by decide +kernel
theorem dX9_onShelves_31 : decode cX9_onShelves 31 = .ok (.iinc 2 1, 3) := by decide +kernel
theorem dX9_onShelves_34 : decode cX9_onShelves 34 = .ok (.goto (-30), 3) := by decide +kernel
theorem dX9_onShelves_37 : decode cX9_onShelves 37 = .ok (.iload_n 1, 1) := by decide +kernel
theorem dX9_onShelves_38 : decode cX9_onShelves 38 = .ok (.ireturn, 1) := by decide +kernel
theorem dX9_leavePlace_0 : decode cX9_leavePlace 0 = .ok (.aload_n 0, 1) := by decide +kernel
theorem dX9_leavePlace_1 : decode cX9_leavePlace 1 = .ok (.getfield 111, 3) := by decide +kernel
theorem dX9_leavePlace_4 : decode cX9_leavePlace 4 = .ok (.ifnull 25, 3) := by decide +kernel
theorem dX9_leavePlace_7 : decode cX9_leavePlace 7 = .ok (.aload_n 0, 1) := by decide +kernel
theorem dX9_leavePlace_8 : decode cX9_leavePlace 8 = .ok (.getfield 111, 3) := by decide +kernel
theorem dX9_leavePlace_11 : decode cX9_leavePlace 11 = .ok (.aload_n 0, 1) := by decide +kernel
theorem dX9_leavePlace_12 : decode cX9_leavePlace 12 = .ok (.getfield 115, 3) := by decide +kernel
theorem dX9_leavePlace_15 : decode cX9_leavePlace 15 = .ok (.aconst_null, 1) := by decide +kernel
theorem dX9_leavePlace_16 : decode cX9_leavePlace 16 = .ok (.invokevirtual 107, 3) := by decide +kernel
theorem dX9_leavePlace_19 : decode cX9_leavePlace 19 = .ok (.aload_n 0, 1) := by decide +kernel
theorem dX9_leavePlace_20 : decode cX9_leavePlace 20 = .ok (.aconst_null, 1) := by decide +kernel
theorem dX9_leavePlace_21 : decode cX9_leavePlace 21 = .ok (.putfield 111, 3) := by decide +kernel
theorem dX9_leavePlace_24 : decode cX9_leavePlace 24 = .ok (.aload_n 0, 1) := by decide +kernel
theorem dX9_leavePlace_25 : decode cX9_leavePlace 25 = .ok (.iconst (-1), 1) := by decide +kernel
theorem dX9_leavePlace_26 : decode cX9_leavePlace 26 = .ok (.putfield 115, 3) := by decide +kernel
theorem dX9_leavePlace_29 : decode cX9_leavePlace 29 = .ok (.return_, 1) := by decide +kernel
theorem dX9_leaveShelf_0 : decode cX9_leaveShelf 0 = .ok (.aload_n 0, 1) := by decide +kernel
theorem dX9_leaveShelf_1 : decode cX9_leaveShelf 1 = .ok (.getfield 132, 3) := by decide +kernel
theorem dX9_leaveShelf_4 : decode cX9_leaveShelf 4 = .ok (.ifnonnull 5, 3) := by decide +kernel
theorem dX9_leaveShelf_7 : decode cX9_leaveShelf 7 = .ok (.iconst 0, 1) := by decide +kernel
theorem dX9_leaveShelf_8 : decode cX9_leaveShelf 8 = .ok (.ireturn, 1) := by decide +kernel
theorem dX9_leaveShelf_9 : decode cX9_leaveShelf 9 = .ok (.aload_n 0, 1) := by decide +kernel
theorem dX9_leaveShelf_10 : decode cX9_leaveShelf 10 = .ok (.getfield 132, 3) := by decide +kernel
theorem dX9_leaveShelf_13 : decode cX9_leaveShelf 13 = .ok (.aload_n 0, 1) := by decide +kernel
theorem dX9_leaveShelf_14 : decode cX9_leaveShelf 14 = .ok (.invokevirtual 301, 3) := by decide +kernel
theorem dX9_leaveShelf_17 : decode cX9_leaveShelf 17 = .ok (.aload_n 0, 1) := by decide +kernel
theorem dX9_leaveShelf_18 : decode cX9_leaveShelf 18 = .ok (.aconst_null, 1) := by decide +kernel
theorem dX9_leaveShelf_19 : decode cX9_leaveShelf 19 = .ok (.putfield 132, 3) := by decide +kernel
theorem dX9_leaveShelf_22 : decode cX9_leaveShelf 22 = .ok (.iconst 1, 1) := by decide +kernel
theorem dX9_leaveShelf_23 : decode cX9_leaveShelf 23 = .ok (.ireturn, 1) := by decide +kernel
theorem dX9_mayBeLent_0 : decode cX9_mayBeLent 0 = .ok (.aload_n 1, 1) := by decide +kernel
theorem dX9_mayBeLent_1 : decode cX9_mayBeLent 1 = .ok (.ifnull 46, 3) := by decide +kernel
theorem dX9_mayBeLent_4 : decode cX9_mayBeLent 4 = .ok (.aload_n 1, 1) := by decide +kernel
theorem dX9_mayBeLent_5 : decode cX9_mayBeLent 5 = .ok (.invokevirtual 91, 3) := by decide +kernel
theorem dX9_mayBeLent_8 : decode cX9_mayBeLent 8 = .ok (.ifCond .ne 39, 3) := by decide +kernel
theorem dX9_mayBeLent_11 : decode cX9_mayBeLent 11 = .ok (.aload_n 0, 1) := by decide +kernel
theorem dX9_mayBeLent_12 : decode cX9_mayBeLent 12 = .ok (.getfield 41, 3) := by decide +kernel
theorem dX9_mayBeLent_15 : decode cX9_mayBeLent 15 = .ok (.aload_n 1, 1) := by decide +kernel
theorem dX9_mayBeLent_16 : decode cX9_mayBeLent 16 = .ok (.getfield 95, 3) := by decide +kernel
theorem dX9_mayBeLent_19 : decode cX9_mayBeLent 19 = .ok (.iconst 2, 1) := by decide +kernel
theorem dX9_mayBeLent_20 : decode cX9_mayBeLent 20 = .ok (.invokevirtual 178, 3) := by decide +kernel
theorem dX9_mayBeLent_23 : decode cX9_mayBeLent 23 = .ok (.ifCond .le 24, 3) := by decide +kernel
theorem dX9_mayBeLent_26 : decode cX9_mayBeLent 26 = .ok (.aload_n 0, 1) := by decide +kernel
theorem dX9_mayBeLent_27 : decode cX9_mayBeLent 27 = .ok (.getfield 41, 3) := by decide +kernel
theorem dX9_mayBeLent_30 : decode cX9_mayBeLent 30 = .ok (.aload_n 1, 1) := by decide +kernel
theorem dX9_mayBeLent_31 : decode cX9_mayBeLent 31 = .ok (.getfield 95, 3) := by decide +kernel
theorem dX9_mayBeLent_34 : decode cX9_mayBeLent 34 = .ok (.iconst 3, 1) := by decide +kernel
theorem dX9_mayBeLent_35 : decode cX9_mayBeLent 35 = .ok (.invokevirtual 178, 3) := by decide +kernel
theorem dX9_mayBeLent_38 : decode cX9_mayBeLent 38 = .ok (.bipush (-2), 2) := by decide +kernel
theorem dX9_mayBeLent_40 : decode cX9_mayBeLent 40 = .ok (.if_icmp .eq 7, 3) := by decide +kernel
theorem dX9_mayBeLent_43 : decode cX9_mayBeLent 43 = .ok (.iconst 1, 1) := by decide +kernel
theorem dX9_mayBeLent_44 : decode cX9_mayBeLent 44 = .ok (.goto 4, 3) := by decide +kernel
theorem dX9_mayBeLent_47 : decode cX9_mayBeLent 47 = .ok (.iconst 0, 1) := by decide +kernel
theorem dX9_mayBeLent_48 : decode cX9_mayBeLent 48 = .ok (.ireturn, 1) := by decide +kernel
theorem dX9_openLoan_0 : decode cX9_openLoan 0 = .ok (.aload_n 0, 1) := by decide +kernel
theorem dX9_openLoan_1 : decode cX9_openLoan 1 = .ok (.getfield 41, 3) := by decide +kernel
theorem dX9_openLoan_4 : decode cX9_openLoan 4 = .ok (.aload_n 1, 1) := by decide +kernel
theorem dX9_openLoan_5 : decode cX9_openLoan 5 = .ok (.getfield 95, 3) := by decide +kernel
theorem dX9_openLoan_8 : decode cX9_openLoan 8 = .ok (.iconst 2, 1) := by decide +kernel
theorem dX9_openLoan_9 : decode cX9_openLoan 9 = .ok (.invokevirtual 178, 3) := by decide +kernel
theorem dX9_openLoan_12 : decode cX9_openLoan 12 = .ok (.istore 4, 2) := by decide +kernel
theorem dX9_openLoan_14 : decode cX9_openLoan 14 = .ok (.iconst 0, 1) := by decide +kernel
theorem dX9_openLoan_15 : decode cX9_openLoan 15 = .ok (.aload_n 0, 1) := by decide +kernel
theorem dX9_openLoan_16 : decode cX9_openLoan 16 = .ok (.getfield 41, 3) := by decide +kernel
theorem dX9_openLoan_19 : decode cX9_openLoan 19 = .ok (.aload_n 1, 1) := by decide +kernel
theorem dX9_openLoan_20 : decode cX9_openLoan 20 = .ok (.getfield 95, 3) := by decide +kernel
theorem dX9_openLoan_23 : decode cX9_openLoan 23 = .ok (.iconst 3, 1) := by decide +kernel
theorem dX9_openLoan_24 : decode cX9_openLoan 24 = .ok (.invokevirtual 178, 3) := by decide +kernel
theorem dX9_openLoan_27 : decode cX9_openLoan 27 = .ok (.invokestatic 304, 3) := by decide +kernel
theorem dX9_openLoan_30 : decode cX9_openLoan 30 = .ok (.istore 5, 2) := by decide +kernel
theorem dX9_openLoan_32 : decode cX9_openLoan 32 = .ok (.aload_n 1, 1) := by decide +kernel
theorem dX9_openLoan_33 : decode cX9_openLoan 33 = .ok (.iload_n 2, 1) := by decide +kernel
theorem dX9_openLoan_34 : decode cX9_openLoan 34 = .ok (.iload_n 3, 1) := by decide +kernel
theorem dX9_openLoan_35 : decode cX9_openLoan 35 = .ok (.iload 4, 2) := by decide +kernel
theorem dX9_openLoan_37 : decode cX9_openLoan 37 = .ok (.iload 5, 2) := by decide +kernel
theorem dX9_openLoan_39 : decode cX9_openLoan 39 = .ok (.invokevirtual 309, 3) := by decide +kernel
theorem dX9_openLoan_42 : decode cX9_openLoan 42 = .ok (.aload_n 0, 1) := by decide +kernel
theorem dX9_openLoan_43 : decode cX9_openLoan 43 = .ok (.getfield 48, 3) := by decide +kernel
theorem dX9_openLoan_46 : decode cX9_openLoan 46 = .ok (.aload_n 1, 1) := by decide +kernel
theorem dX9_openLoan_47 : decode cX9_openLoan 47 = .ok (.invokevirtual 312, 3) := by decide +kernel
theorem dX9_openLoan_50 : decode cX9_openLoan 50 = .ok (.return_, 1) := by decide +kernel
theorem dX9_lendBox_0 : decode cX9_lendBox 0 = .ok (.aload_n 1, 1) := by decide +kernel
theorem dX9_lendBox_1 : decode cX9_lendBox 1 = .ok (.ifnonnull 5, 3) := by decide +kernel
theorem dX9_lendBox_4 : decode cX9_lendBox 4 = .ok (.iconst (-1), 1) := by decide +kernel
theorem dX9_lendBox_5 : decode cX9_lendBox 5 = .ok (.ireturn, 1) := by decide +kernel
theorem dX9_lendBox_6 : decode cX9_lendBox 6 = .ok (.iconst 0, 1) := by decide +kernel
theorem dX9_lendBox_7 : decode cX9_lendBox 7 = .ok (.istore 4, 2) := by decide +kernel
theorem dX9_lendBox_9 : decode cX9_lendBox 9 = .ok (.iconst 0, 1) := by decide +kernel
theorem dX9_lendBox_10 : decode cX9_lendBox 10 = .ok (.istore 5, 2) := by decide +kernel
theorem dX9_lendBox_12 : decode cX9_lendBox 12 = .ok (.iload 5, 2) := by decide +kernel
theorem dX9_lendBox_14 : decode cX9_lendBox 14 = .ok (.aload_n 1, 1) := by decide +kernel
theorem dX9_lendBox_15 : decode cX9_lendBox 15 = .ok (.getfield 315, 3) := by decide +kernel
theorem dX9_lendBox_18 : decode cX9_lendBox 18 = .ok (.arraylength, 1) := by decide +kernel
theorem dX9_lendBox_19 : decode cX9_lendBox 19 = .ok (.if_icmp .ge 37, 3) := by decide +kernel
theorem dX9_lendBox_22 : decode cX9_lendBox 22 = .ok (.aload_n 1, 1) := by decide +kernel
theorem dX9_lendBox_23 : decode cX9_lendBox 23 = .ok (.getfield 315, 3) := by decide +kernel
theorem dX9_lendBox_26 : decode cX9_lendBox 26 = .ok (.iload 5, 2) := by decide +kernel
theorem dX9_lendBox_28 : decode cX9_lendBox 28 = .ok (.aaload, 1) := by decide +kernel
theorem dX9_lendBox_29 : decode cX9_lendBox 29 = .ok (.astore 6, 2) := by decide +kernel
theorem dX9_lendBox_31 : decode cX9_lendBox 31 = .ok (.aload 6, 2) := by decide +kernel
theorem dX9_lendBox_33 : decode cX9_lendBox 33 = .ok (.ifnull 17, 3) := by decide +kernel
theorem dX9_lendBox_36 : decode cX9_lendBox 36 = .ok (.aload_n 0, 1) := by decide +kernel
theorem dX9_lendBox_37 : decode cX9_lendBox 37 = .ok (.aload 6, 2) := by decide +kernel
theorem dX9_lendBox_39 : decode cX9_lendBox 39 = .ok (.invokevirtual 194, 3) := by decide +kernel
theorem dX9_lendBox_42 : decode cX9_lendBox 42 = .ok (.ifCond .ne 5, 3) := by decide +kernel
theorem dX9_lendBox_45 : decode cX9_lendBox 45 = .ok (.iconst (-1), 1) := by decide +kernel
theorem dX9_lendBox_46 : decode cX9_lendBox 46 = .ok (.ireturn, 1) := by decide +kernel
theorem dX9_lendBox_47 : decode cX9_lendBox 47 = .ok (.iinc 4 1, 3) := by decide +kernel
theorem dX9_lendBox_50 : decode cX9_lendBox 50 = .ok (.iinc 5 1, 3) := by decide +kernel
theorem dX9_lendBox_53 : decode cX9_lendBox 53 = .ok (.goto (-41), 3) := by decide +kernel
theorem dX9_lendBox_56 : decode cX9_lendBox 56 = .ok (.iload 4, 2) := by decide +kernel
theorem dX9_lendBox_58 : decode cX9_lendBox 58 = .ok (.ifCond .eq 16, 3) := by decide +kernel
theorem dX9_lendBox_61 : decode cX9_lendBox 61 = .ok (.aload_n 0, 1) := by decide +kernel
theorem dX9_lendBox_62 : decode cX9_lendBox 62 = .ok (.getfield 48, 3) := by decide +kernel
theorem dX9_lendBox_65 : decode cX9_lendBox 65 = .ok (.iload_n 2, 1) := by decide +kernel
theorem dX9_lendBox_66 : decode cX9_lendBox 66 = .ok (.iload 4, 2) := by decide +kernel
theorem dX9_lendBox_68 : decode cX9_lendBox 68 = .ok (.invokevirtual 198, 3) := by decide +kernel
theorem dX9_lendBox_71 : decode cX9_lendBox 71 = .ok (.ifCond .ne 5, 3) := by decide +kernel
theorem dX9_lendBox_74 : decode cX9_lendBox 74 = .ok (.iconst (-1), 1) := by decide +kernel
theorem dX9_lendBox_75 : decode cX9_lendBox 75 = .ok (.ireturn, 1) := by decide +kernel
theorem dX9_lendBox_76 : decode cX9_lendBox 76 = .ok (.iconst 0, 1) := by decide +kernel
theorem dX9_lendBox_77 : decode cX9_lendBox 77 = .ok (.istore 5, 2) := by decide +kernel
theorem dX9_lendBox_79 : decode cX9_lendBox 79 = .ok (.iload 5, 2) := by decide +kernel
theorem dX9_lendBox_81 : decode cX9_lendBox 81 = .ok (.aload_n 1, 1) := by decide +kernel
theorem dX9_lendBox_82 : decode cX9_lendBox 82 = .ok (.getfield 315, 3) := by decide +kernel
theorem dX9_lendBox_85 : decode cX9_lendBox 85 = .ok (.arraylength, 1) := by decide +kernel
theorem dX9_lendBox_86 : decode cX9_lendBox 86 = .ok (.if_icmp .ge 31, 3) := by decide +kernel
theorem dX9_lendBox_89 : decode cX9_lendBox 89 = .ok (.aload_n 1, 1) := by decide +kernel
theorem dX9_lendBox_90 : decode cX9_lendBox 90 = .ok (.getfield 315, 3) := by decide +kernel
theorem dX9_lendBox_93 : decode cX9_lendBox 93 = .ok (.iload 5, 2) := by decide +kernel
theorem dX9_lendBox_95 : decode cX9_lendBox 95 = .ok (.aaload, 1) := by decide +kernel
theorem dX9_lendBox_96 : decode cX9_lendBox 96 = .ok (.astore 6, 2) := by decide +kernel
theorem dX9_lendBox_98 : decode cX9_lendBox 98 = .ok (.aload 6, 2) := by decide +kernel
theorem dX9_lendBox_100 : decode cX9_lendBox 100 = .ok (.ifnull 11, 3) := by decide +kernel
theorem dX9_lendBox_103 : decode cX9_lendBox 103 = .ok (.aload_n 0, 1) := by decide +kernel
theorem dX9_lendBox_104 : decode cX9_lendBox 104 = .ok (.aload 6, 2) := by decide +kernel
theorem dX9_lendBox_106 : decode cX9_lendBox 106 = .ok (.iload_n 2, 1) := by decide +kernel
theorem dX9_lendBox_107 : decode cX9_lendBox 107 = .ok (.iload_n 3, 1) := by decide +kernel
theorem dX9_lendBox_108 : decode cX9_lendBox 108 = .ok (.invokevirtual 201, 3) := by decide +kernel
theorem dX9_lendBox_111 : decode cX9_lendBox 111 = .ok (.iinc 5 1, 3) := by decide +kernel
theorem dX9_lendBox_114 : decode cX9_lendBox 114 = .ok (.goto (-35), 3) := by decide +kernel
theorem dX9_lendBox_117 : decode cX9_lendBox 117 = .ok (.iload 4, 2) := by decide +kernel
theorem dX9_lendBox_119 : decode cX9_lendBox 119 = .ok (.ireturn, 1) := by decide +kernel
theorem dJ13_bitCount_95d88_0 : decode cJ13_bitCount_95d88 0 = .ok (.lload_n 0, 1) := by decide +kernel
theorem dJ13_bitCount_95d88_1 : decode cJ13_bitCount_95d88 1 = .ok (.lload_n 0, 1) := by decide +kernel
theorem dJ13_bitCount_95d88_2 : decode cJ13_bitCount_95d88 2 = .ok (.iconst 1, 1) := by decide +kernel
theorem dJ13_bitCount_95d88_3 : decode cJ13_bitCount_95d88 3 = .ok (.lushr, 1) := by decide +kernel
theorem dJ13_bitCount_95d88_4 : decode cJ13_bitCount_95d88 4 = .ok (.ldc2_w 314, 3) := by decide +kernel
theorem dJ13_bitCount_95d88_7 : decode cJ13_bitCount_95d88 7 = .ok (.land, 1) := by decide +kernel
theorem dJ13_bitCount_95d88_8 : decode cJ13_bitCount_95d88 8 = .ok (.lsub, 1) := by decide +kernel
theorem dJ13_bitCount_95d88_9 : decode cJ13_bitCount_95d88 9 = .ok (.lstore_n 0, 1) := by decide +kernel
theorem dJ13_bitCount_95d88_10 : decode cJ13_bitCount_95d88 10 = .ok (.lload_n 0, 1) := by decide +kernel
theorem dJ13_bitCount_95d88_11 : decode cJ13_bitCount_95d88 11 = .ok (.ldc2_w 316, 3) := by decide +kernel
theorem dJ13_bitCount_95d88_14 : decode cJ13_bitCount_95d88 14 = .ok (.land, 1) := by decide +kernel
theorem dJ13_bitCount_95d88_15 : decode cJ13_bitCount_95d88 15 = .ok (.lload_n 0, 1) := by decide +kernel
theorem dJ13_bitCount_95d88_16 : decode cJ13_bitCount_95d88 16 = .ok (.iconst 2, 1) := by decide +kernel
theorem dJ13_bitCount_95d88_17 : decode cJ13_bitCount_95d88 17 = .ok (.lushr, 1) := by decide +kernel
theorem dJ13_bitCount_95d88_18 : decode cJ13_bitCount_95d88 18 = .ok (.ldc2_w 316, 3) := by decide +kernel
theorem dJ13_bitCount_95d88_21 : decode cJ13_bitCount_95d88 21 = .ok (.land, 1) := by decide +kernel
theorem dJ13_bitCount_95d88_22 : decode cJ13_bitCount_95d88 22 = .ok (.ladd, 1) := by decide +kernel
theorem dJ13_bitCount_95d88_23 : decode cJ13_bitCount_95d88 23 = .ok (.lstore_n 0, 1) := by decide +kernel
theorem dJ13_bitCount_95d88_24 : decode cJ13_bitCount_95d88 24 = .ok (.lload_n 0, 1) := by decide +kernel
theorem dJ13_bitCount_95d88_25 : decode cJ13_bitCount_95d88 25 = .ok (.lload_n 0, 1) := by decide +kernel
theorem dJ13_bitCount_95d88_26 : decode cJ13_bitCount_95d88 26 = .ok (.iconst 4, 1) := by decide +kernel
theorem dJ13_bitCount_95d88_27 : decode cJ13_bitCount_95d88 27 = .ok (.lushr, 1) := by decide +kernel
theorem dJ13_bitCount_95d88_28 : decode cJ13_bitCount_95d88 28 = .ok (.ladd, 1) := by decide +kernel
theorem dJ13_bitCount_95d88_29 : decode cJ13_bitCount_95d88 29 = .ok (.ldc2_w 318, 3) := by decide +kernel
theorem dJ13_bitCount_95d88_32 : decode cJ13_bitCount_95d88 32 = .ok (.land, 1) := by decide +kernel
theorem dJ13_bitCount_95d88_33 : decode cJ13_bitCount_95d88 33 = .ok (.lstore_n 0, 1) := by decide +kernel
theorem dJ13_bitCount_95d88_34 : decode cJ13_bitCount_95d88 34 = .ok (.lload_n 0, 1) := by decide +kernel
theorem dJ13_bitCount_95d88_35 : decode cJ13_bitCount_95d88 35 = .ok (.lload_n 0, 1) := by decide +kernel
theorem dJ13_bitCount_95d88_36 : decode cJ13_bitCount_95d88 36 = .ok (.bipush 8, 2) := by decide +kernel
theorem dJ13_bitCount_95d88_38 : decode cJ13_bitCount_95d88 38 = .ok (.lushr, 1) := by decide +kernel
theorem dJ13_bitCount_95d88_39 : decode cJ13_bitCount_95d88 39 = .ok (.ladd, 1) := by decide +kernel
theorem dJ13_bitCount_95d88_40 : decode cJ13_bitCount_95d88 40 = .ok (.lstore_n 0, 1) := by decide +kernel
theorem dJ13_bitCount_95d88_41 : decode cJ13_bitCount_95d88 41 = .ok (.lload_n 0, 1) := by decide +kernel
theorem dJ13_bitCount_95d88_42 : decode cJ13_bitCount_95d88 42 = .ok (.lload_n 0, 1) := by decide +kernel
theorem dJ13_bitCount_95d88_43 : decode cJ13_bitCount_95d88 43 = .ok (.bipush 16, 2) := by decide +kernel
theorem dJ13_bitCount_95d88_45 : decode cJ13_bitCount_95d88 45 = .ok (.lushr, 1) := by decide +kernel
theorem dJ13_bitCount_95d88_46 : decode cJ13_bitCount_95d88 46 = .ok (.ladd, 1) := by decide +kernel
theorem dJ13_bitCount_95d88_47 : decode cJ13_bitCount_95d88 47 = .ok (.lstore_n 0, 1) := by decide +kernel
theorem dJ13_bitCount_95d88_48 : decode cJ13_bitCount_95d88 48 = .ok (.lload_n 0, 1) := by decide +kernel
theorem dJ13_bitCount_95d88_49 : decode cJ13_bitCount_95d88 49 = .ok (.lload_n 0, 1) := by decide +kernel
theorem dJ13_bitCount_95d88_50 : decode cJ13_bitCount_95d88 50 = .ok (.bipush 32, 2) := by decide +kernel
theorem dJ13_bitCount_95d88_52 : decode cJ13_bitCount_95d88 52 = .ok (.lushr, 1) := by decide +kernel
theorem dJ13_bitCount_95d88_53 : decode cJ13_bitCount_95d88 53 = .ok (.ladd, 1) := by decide +kernel
theorem dJ13_bitCount_95d88_54 : decode cJ13_bitCount_95d88 54 = .ok (.lstore_n 0, 1) := by decide +kernel
theorem dJ13_bitCount_95d88_55 : decode cJ13_bitCount_95d88 55 = .ok (.lload_n 0, 1) := by decide +kernel
theorem dJ13_bitCount_95d88_56 : decode cJ13_bitCount_95d88 56 = .ok (.l2i, 1) := by decide +kernel
theorem dJ13_bitCount_95d88_57 : decode cJ13_bitCount_95d88 57 = .ok (.bipush 127, 2) := by decide +kernel
theorem dJ13_bitCount_95d88_59 : decode cJ13_bitCount_95d88 59 = .ok (.iand, 1) := by decide +kernel
theorem dJ13_bitCount_95d88_60 : decode cJ13_bitCount_95d88 60 = .ok (.ireturn, 1) := by decide +kernel
theorem dJ9_max_7cf53_0 : decode cJ9_max_7cf53 0 = .ok (.iload_n 0, 1) := by decide +kernel
theorem dJ9_max_7cf53_1 : decode cJ9_max_7cf53 1 = .ok (.iload_n 1, 1) := by decide +kernel
theorem dJ9_max_7cf53_2 : decode cJ9_max_7cf53 2 = .ok (.if_icmp .lt 7, 3) := by decide +kernel
theorem dJ9_max_7cf53_5 : decode cJ9_max_7cf53 5 = .ok (.iload_n 0, 1) := by decide +kernel
theorem dJ9_max_7cf53_6 : decode cJ9_max_7cf53 6 = .ok (.goto 4, 3) := by decide +kernel
theorem dJ9_max_7cf53_9 : decode cJ9_max_7cf53 9 = .ok (.iload_n 1, 1) := by decide +kernel
theorem dJ9_max_7cf53_10 : decode cJ9_max_7cf53 10 = .ok (.ireturn, 1) := by decide +kernel
theorem dJ9_min_7cf53_0 : decode cJ9_min_7cf53 0 = .ok (.iload_n 0, 1) := by decide +kernel
theorem dJ9_min_7cf53_1 : decode cJ9_min_7cf53 1 = .ok (.iload_n 1, 1) := by decide +kernel
theorem dJ9_min_7cf53_2 : decode cJ9_min_7cf53 2 = .ok (.if_icmp .gt 7, 3) := by decide +kernel
theorem dJ9_min_7cf53_5 : decode cJ9_min_7cf53 5 = .ok (.iload_n 0, 1) := by decide +kernel
theorem dJ9_min_7cf53_6 : decode cJ9_min_7cf53 6 = .ok (.goto 4, 3) := by decide +kernel
theorem dJ9_min_7cf53_9 : decode cJ9_min_7cf53 9 = .ok (.iload_n 1, 1) := by decide +kernel
theorem dJ9_min_7cf53_10 : decode cJ9_min_7cf53 10 = .ok (.ireturn, 1) := by decide +kernel
