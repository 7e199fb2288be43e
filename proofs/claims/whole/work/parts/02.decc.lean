theorem dX0_init_0 : decode cX0_init 0 = .ok (.aload_n 0, 1) := by decide +kernel
theorem dX0_init_1 : decode cX0_init 1 = .ok (.invokespecial 3, 3) := by decide +kernel
theorem dX0_init_4 : decode cX0_init 4 = .ok (.aload_n 0, 1) := by decide +kernel
theorem dX0_init_5 : decode cX0_init 5 = .ok (.bipush 32, 2) := by decide +kernel
theorem dX0_init_7 : decode cX0_init 7 = .ok (.newarray .int, 2) := by decide +kernel
theorem dX0_init_9 : decode cX0_init 9 = .ok (.putfield 9, 3) := by decide +kernel
theorem dX0_init_12 : decode cX0_init 12 = .ok (.aload_n 0, 1) := by decide +kernel
theorem dX0_init_13 : decode cX0_init 13 = .ok (.bipush 8, 2) := by decide +kernel
theorem dX0_init_15 : decode cX0_init 15 = .ok (.anewarray 15, 3) := by decide +kernel
theorem dX0_init_18 : decode cX0_init 18 = .ok (.putfield 17, 3) := by decide +kernel
theorem dX0_init_21 : decode cX0_init 21 = .ok (.iconst 0, 1) := by decide +kernel
theorem dX0_init_22 : decode cX0_init 22 = .ok (.istore_n 1, 1) := by decide +kernel
theorem dX0_init_23 : decode cX0_init 23 = .ok (.iload_n 1, 1) := by decide +kernel
theorem dX0_init_24 : decode cX0_init 24 = .ok (.bipush 8, 2) := by decide +kernel
theorem dX0_init_26 : decode cX0_init 26 = .ok (.if_icmp .ge 23, 3) := by decide +kernel
theorem dX0_init_29 : decode cX0_init 29 = .ok (.aload_n 0, 1) := by decide +kernel
theorem dX0_init_30 : decode cX0_init 30 = .ok (.getfield 17, 3) := by decide +kernel
theorem dX0_init_33 : decode cX0_init 33 = .ok (.iload_n 1, 1) := by decide +kernel
theorem dX0_init_34 : decode cX0_init 34 = .ok (.new 15, 3) := by decide +kernel
theorem dX0_init_37 : decode cX0_init 37 = .ok (.dup, 1) := by decide +kernel
theorem dX0_init_38 : decode cX0_init 38 = .ok (.iload_n 1, 1) := by decide +kernel
theorem dX0_init_39 : decode cX0_init 39 = .ok (.invokespecial 21, 3) := by decide +kernel
theorem dX0_init_42 : decode cX0_init 42 = .ok (.aastore, 1) := by decide +kernel
theorem dX0_init_43 : decode cX0_init 43 = .ok (.iinc 1 1, 3) := by decide +kernel
theorem dX0_init_46 : decode cX0_init 46 = .ok (.goto (-23), 3) := by decide +kernel
theorem dX0_init_49 : decode cX0_init 49 = .ok (.return_, 1) := by decide +kernel
theorem dX0_has_0 : decode cX0_has 0 = .ok (.iload_n 1, 1) := by decide +kernel
theorem dX0_has_1 : decode cX0_has 1 = .ok (.ifCond .lt 15, 3) := by decide +kernel
theorem dX0_has_4 : decode cX0_has 4 = .ok (.iload_n 1, 1) := by decide +kernel
theorem dX0_has_5 : decode cX0_has 5 = .ok (.aload_n 0, 1) := by decide +kernel
theorem dX0_has_6 : decode cX0_has 6 = .ok (.getfield 24, 3) := by decide +kernel
theorem dX0_has_9 : decode cX0_has 9 = .ok (.if_icmp .ge 7, 3) := by decide +kernel
theorem dX0_has_12 : decode cX0_has 12 = .ok (.iconst 1, 1) := by decide +kernel
theorem dX0_has_13 : decode cX0_has 13 = .ok (.goto 4, 3) := by decide +kernel
theorem dX0_has_16 : decode cX0_has 16 = .ok (.iconst 0, 1) := by decide +kernel
theorem dX0_has_17 : decode cX0_has 17 = .ok (.ireturn, 1) := by decide +kernel
theorem dX0_become_0 : decode cX0_become 0 = .ok (.aload_n 1, 1) := by decide +kernel
theorem dX0_become_1 : decode cX0_become 1 = .ok (.getfield 9, 3) := by decide +kernel
theorem dX0_become_4 : decode cX0_become 4 = .ok (.iconst 0, 1) := by decide +kernel
theorem dX0_become_5 : decode cX0_become 5 = .ok (.aload_n 0, 1) := by decide +kernel
theorem dX0_become_6 : decode cX0_become 6 = .ok (.getfield 9, 3) := by decide +kernel
theorem dX0_become_9 : decode cX0_become 9 = .ok (.iconst 0, 1) := by decide +kernel
theorem dX0_become_10 : decode cX0_become 10 = .ok (.bipush 32, 2) := by decide +kernel
theorem dX0_become_12 : decode cX0_become 12 = .ok (.invokestatic 28, 3) := by decide +kernel
theorem dX0_become_15 : decode cX0_become 15 = .ok (.iconst 0, 1) := by decide +kernel
theorem dX0_become_16 : decode cX0_become 16 = .ok (.istore_n 2, 1) := by decide +kernel
theorem dX0_become_17 : decode cX0_become 17 = .ok (.iload_n 2, 1) := by decide +kernel
theorem dX0_become_18 : decode cX0_become 18 = .ok (.bipush 8, 2) := by decide +kernel
theorem dX0_become_20 : decode cX0_become 20 = .ok (.if_icmp .ge 24, 3) := by decide +kernel
theorem dX0_become_23 : decode cX0_become 23 = .ok (.aload_n 0, 1) := by decide +kernel
theorem dX0_become_24 : decode cX0_become 24 = .ok (.getfield 17, 3) := by decide +kernel
theorem dX0_become_27 : decode cX0_become 27 = .ok (.iload_n 2, 1) := by decide +kernel
theorem dX0_become_28 : decode cX0_become 28 = .ok (.aaload, 1) := by decide +kernel
theorem dX0_become_29 : decode cX0_become 29 = .ok (.aload_n 1, 1) := by decide +kernel
theorem dX0_become_30 : decode cX0_become 30 = .ok (.getfield 17, 3) := by decide +kernel
theorem dX0_become_33 : decode cX0_become 33 = .ok (.iload_n 2, 1) := by decide +kernel
theorem dX0_become_34 : decode cX0_become 34 = .ok (.aaload, 1) := by decide +kernel
theorem dX0_become_35 : decode cX0_become 35 = .ok (.invokevirtual 34, 3) := by decide +kernel
theorem dX0_become_38 : decode cX0_become 38 = .ok (.iinc 2 1, 3) := by decide +kernel
theorem dX0_become_41 : decode cX0_become 41 = .ok (.goto (-24), 3) := by decide +kernel
theorem dX0_become_44 : decode cX0_become 44 = .ok (.aload_n 0, 1) := by decide +kernel
theorem dX0_become_45 : decode cX0_become 45 = .ok (.aload_n 1, 1) := by decide +kernel
theorem dX0_become_46 : decode cX0_become 46 = .ok (.getfield 24, 3) := by decide +kernel
theorem dX0_become_49 : decode cX0_become 49 = .ok (.putfield 24, 3) := by decide +kernel
theorem dX0_become_52 : decode cX0_become 52 = .ok (.aload_n 0, 1) := by decide +kernel
theorem dX0_become_53 : decode cX0_become 53 = .ok (.aload_n 1, 1) := by decide +kernel
theorem dX0_become_54 : decode cX0_become 54 = .ok (.getfield 38, 3) := by decide +kernel
theorem dX0_become_57 : decode cX0_become 57 = .ok (.putfield 38, 3) := by decide +kernel
theorem dX0_become_60 : decode cX0_become 60 = .ok (.return_, 1) := by decide +kernel
theorem dX0_shows_0 : decode cX0_shows 0 = .ok (.iload_n 2, 1) := by decide +kernel
theorem dX0_shows_1 : decode cX0_shows 1 = .ok (.invokestatic 41, 3) := by decide +kernel
theorem dX0_shows_4 : decode cX0_shows 4 = .ok (.ifCond .eq 25, 3) := by decide +kernel
theorem dX0_shows_7 : decode cX0_shows 7 = .ok (.aload_n 1, 1) := by decide +kernel
theorem dX0_shows_8 : decode cX0_shows 8 = .ok (.iload_n 2, 1) := by decide +kernel
theorem dX0_shows_9 : decode cX0_shows 9 = .ok (.iconst 0, 1) := by decide +kernel
theorem dX0_shows_10 : decode cX0_shows 10 = .ok (.invokevirtual 45, 3) := by decide +kernel
theorem dX0_shows_13 : decode cX0_shows 13 = .ok (.ifCond .eq 16, 3) := by decide +kernel
theorem dX0_shows_16 : decode cX0_shows 16 = .ok (.aload_n 0, 1) := by decide +kernel
theorem dX0_shows_17 : decode cX0_shows 17 = .ok (.getfield 9, 3) := by decide +kernel
theorem dX0_shows_20 : decode cX0_shows 20 = .ok (.aload_n 1, 1) := by decide +kernel
theorem dX0_shows_21 : decode cX0_shows 21 = .ok (.iload_n 2, 1) := by decide +kernel
theorem dX0_shows_22 : decode cX0_shows 22 = .ok (.invokevirtual 49, 3) := by decide +kernel
theorem dX0_shows_25 : decode cX0_shows 25 = .ok (.iaload, 1) := by decide +kernel
theorem dX0_shows_26 : decode cX0_shows 26 = .ok (.goto 4, 3) := by decide +kernel
theorem dX0_shows_29 : decode cX0_shows 29 = .ok (.iconst (-1), 1) := by decide +kernel
theorem dX0_shows_30 : decode cX0_shows 30 = .ok (.ireturn, 1) := by decide +kernel
theorem dX0_weatherTogether_0 : decode cX0_weatherTogether 0 = .ok (.iconst 0, 1) := by decide +kernel
theorem dX0_weatherTogether_1 : decode cX0_weatherTogether 1 = .ok (.istore_n 1, 1) := by decide +kernel
theorem dX0_weatherTogether_2 : decode cX0_weatherTogether 2 = .ok (.iconst 0, 1) := by decide +kernel
theorem dX0_weatherTogether_3 : decode cX0_weatherTogether 3 = .ok (.istore_n 2, 1) := by decide +kernel
theorem dX0_weatherTogether_4 : decode cX0_weatherTogether 4 = .ok (.iload_n 2, 1) := by decide +kernel
theorem dX0_weatherTogether_5 : decode cX0_weatherTogether 5 = .ok (.bipush 32, 2) := by decide +kernel
theorem dX0_weatherTogether_7 : decode cX0_weatherTogether 7 = .ok (.if_icmp .ge 18, 3) := by decide +kernel
theorem dX0_weatherTogether_10 : decode cX0_weatherTogether 10 = .ok (.iload_n 1, 1) := by decide +kernel
theorem dX0_weatherTogether_11 : decode cX0_weatherTogether 11 = .ok (.aload_n 0, 1) := by decide +kernel
theorem dX0_weatherTogether_12 : decode cX0_weatherTogether 12 = .ok (.getfield 9, 3) := by decide +kernel
theorem dX0_weatherTogether_15 : decode cX0_weatherTogether 15 = .ok (.iload_n 2, 1) := by decide +kernel
theorem dX0_weatherTogether_16 : decode cX0_weatherTogether 16 = .ok (.iaload, 1) := by decide +kernel
theorem dX0_weatherTogether_17 : decode cX0_weatherTogether 17 = .ok (.iadd, 1) := by decide +kernel
theorem dX0_weatherTogether_18 : decode cX0_weatherTogether 18 = .ok (.istore_n 1, 1) := by decide +kernel
theorem dX0_weatherTogether_19 : decode cX0_weatherTogether 19 = .ok (.iinc 2 1, 3) := by decide +kernel
theorem dX0_weatherTogether_22 : decode cX0_weatherTogether 22 = .ok (.goto (-18), 3) := by decide +kernel
theorem dX0_weatherTogether_25 : decode cX0_weatherTogether 25 = .ok (.iload_n 1, 1) := by decide +kernel
theorem dX0_weatherTogether_26 : decode cX0_weatherTogether 26 = .ok (.ireturn, 1) := by decide +kernel
theorem dX1_init_0 : decode cX1_init 0 = .ok (.aload_n 0, 1) := by decide +kernel
theorem dX1_init_1 : decode cX1_init 1 = .ok (.invokespecial 3, 3) := by decide +kernel
theorem dX1_init_4 : decode cX1_init 4 = .ok (.aload_n 0, 1) := by decide +kernel
theorem dX1_init_5 : decode cX1_init 5 = .ok (.iload_n 1, 1) := by decide +kernel
theorem dX1_init_6 : decode cX1_init 6 = .ok (.putfield 9, 3) := by decide +kernel
theorem dX1_init_9 : decode cX1_init 9 = .ok (.return_, 1) := by decide +kernel
theorem dX1_become_0 : decode cX1_become 0 = .ok (.aload_n 0, 1) := by decide +kernel
theorem dX1_become_1 : decode cX1_become 1 = .ok (.aload_n 1, 1) := by decide +kernel
theorem dX1_become_2 : decode cX1_become 2 = .ok (.getfield 15, 3) := by decide +kernel
theorem dX1_become_5 : decode cX1_become 5 = .ok (.putfield 15, 3) := by decide +kernel
theorem dX1_become_8 : decode cX1_become 8 = .ok (.aload_n 0, 1) := by decide +kernel
theorem dX1_become_9 : decode cX1_become 9 = .ok (.aload_n 1, 1) := by decide +kernel
theorem dX1_become_10 : decode cX1_become 10 = .ok (.getfield 18, 3) := by decide +kernel
theorem dX1_become_13 : decode cX1_become 13 = .ok (.putfield 18, 3) := by decide +kernel
theorem dX1_become_16 : decode cX1_become 16 = .ok (.aload_n 0, 1) := by decide +kernel
theorem dX1_become_17 : decode cX1_become 17 = .ok (.aload_n 1, 1) := by decide +kernel
theorem dX1_become_18 : decode cX1_become 18 = .ok (.getfield 21, 3) := by decide +kernel
theorem dX1_become_21 : decode cX1_become 21 = .ok (.putfield 21, 3) := by decide +kernel
theorem dX1_become_24 : decode cX1_become 24 = .ok (.aload_n 0, 1) := by decide +kernel
theorem dX1_become_25 : decode cX1_become 25 = .ok (.aload_n 1, 1) := by decide +kernel
theorem dX1_become_26 : decode cX1_become 26 = .ok (.getfield 24, 3) := by decide +kernel
theorem dX1_become_29 : decode cX1_become 29 = .ok (.putfield 24, 3) := by decide +kernel
theorem dX1_become_32 : decode cX1_become 32 = .ok (.aload_n 0, 1) := by decide +kernel
theorem dX1_become_33 : decode cX1_become 33 = .ok (.aload_n 1, 1) := by decide +kernel
theorem dX1_become_34 : decode cX1_become 34 = .ok (.getfield 27, 3) := by decide +kernel
theorem dX1_become_37 : decode cX1_become 37 = .ok (.putfield 27, 3) := by decide +kernel
theorem dX1_become_40 : decode cX1_become 40 = .ok (.return_, 1) := by decide +kernel
theorem dX1_change_0 : decode cX1_change 0 = .ok (.iload_n 1, 1) := by decide +kernel
theorem dX1_change_1 : decode cX1_change 1 = .ok (.tableswitch 63 1 4 #[31, 39, 47, 55], 31) := by decide +kernel
theorem dX1_change_32 : decode cX1_change 32 = .ok (.aload_n 0, 1) := by decide +kernel
theorem dX1_change_33 : decode cX1_change 33 = .ok (.iload_n 2, 1) := by decide +kernel
theorem dX1_change_34 : decode cX1_change 34 = .ok (.putfield 18, 3) := by decide +kernel
theorem dX1_change_37 : decode cX1_change 37 = .ok (.goto 27, 3) := by decide +kernel
theorem dX1_change_40 : decode cX1_change 40 = .ok (.aload_n 0, 1) := by decide +kernel
theorem dX1_change_41 : decode cX1_change 41 = .ok (.iload_n 2, 1) := by decide +kernel
theorem dX1_change_42 : decode cX1_change 42 = .ok (.putfield 21, 3) := by decide +kernel
theorem dX1_change_45 : decode cX1_change 45 = .ok (.goto 19, 3) := by decide +kernel
theorem dX1_change_48 : decode cX1_change 48 = .ok (.aload_n 0, 1) := by decide +kernel
theorem dX1_change_49 : decode cX1_change 49 = .ok (.iload_n 2, 1) := by decide +kernel
theorem dX1_change_50 : decode cX1_change 50 = .ok (.putfield 24, 3) := by decide +kernel
theorem dX1_change_53 : decode cX1_change 53 = .ok (.goto 11, 3) := by decide +kernel
theorem dX1_change_56 : decode cX1_change 56 = .ok (.aload_n 0, 1) := by decide +kernel
theorem dX1_change_57 : decode cX1_change 57 = .ok (.iload_n 2, 1) := by decide +kernel
theorem dX1_change_58 : decode cX1_change 58 = .ok (.putfield 27, 3) := by decide +kernel
theorem dX1_change_61 : decode cX1_change 61 = .ok (.goto 3, 3) := by decide +kernel
theorem dX1_change_64 : decode cX1_change 64 = .ok (.return_, 1) := by decide +kernel
theorem dX1_tell_0 : decode cX1_tell 0 = .ok (.iload_n 1, 1) := by decide +kernel
theorem dX1_tell_1 : decode cX1_tell 1 = .ok (.tableswitch 69 1 6 #[39, 44, 49, 54, 59, 64], 39) := by decide +kernel
theorem dX1_tell_40 : decode cX1_tell 40 = .ok (.aload_n 0, 1) := by decide +kernel
theorem dX1_tell_41 : decode cX1_tell 41 = .ok (.getfield 18, 3) := by decide +kernel
theorem dX1_tell_44 : decode cX1_tell 44 = .ok (.ireturn, 1) := by decide +kernel
theorem dX1_tell_45 : decode cX1_tell 45 = .ok (.aload_n 0, 1) := by decide +kernel
theorem dX1_tell_46 : decode cX1_tell 46 = .ok (.getfield 21, 3) := by decide +kernel
theorem dX1_tell_49 : decode cX1_tell 49 = .ok (.ireturn, 1) := by decide +kernel
theorem dX1_tell_50 : decode cX1_tell 50 = .ok (.aload_n 0, 1) := by decide +kernel
theorem dX1_tell_51 : decode cX1_tell 51 = .ok (.getfield 24, 3) := by decide +kernel
theorem dX1_tell_54 : decode cX1_tell 54 = .ok (.ireturn, 1) := by decide +kernel
theorem dX1_tell_55 : decode cX1_tell 55 = .ok (.aload_n 0, 1) := by decide +kernel
theorem dX1_tell_56 : decode cX1_tell 56 = .ok (.getfield 27, 3) := by decide +kernel
theorem dX1_tell_59 : decode cX1_tell 59 = .ok (.ireturn, 1) := by decide +kernel
theorem dX1_tell_60 : decode cX1_tell 60 = .ok (.aload_n 0, 1) := by decide +kernel
theorem dX1_tell_61 : decode cX1_tell 61 = .ok (.getfield 15, 3) := by decide +kernel
theorem dX1_tell_64 : decode cX1_tell 64 = .ok (.ireturn, 1) := by decide +kernel
theorem dX1_tell_65 : decode cX1_tell 65 = .ok (.aload_n 0, 1) := by decide +kernel
theorem dX1_tell_66 : decode cX1_tell 66 = .ok (.invokevirtual 30, 3) := by decide +kernel
theorem dX1_tell_69 : decode cX1_tell 69 = .ok (.ireturn, 1) := by decide +kernel
theorem dX1_tell_70 : decode cX1_tell 70 = .ok (.bipush (-100), 2) := by decide +kernel
theorem dX1_tell_72 : decode cX1_tell 72 = .ok (.ireturn, 1) := by decide +kernel
theorem dX1_on_0 : decode cX1_on 0 = .ok (.aload_n 0, 1) := by decide +kernel
theorem dX1_on_1 : decode cX1_on 1 = .ok (.getfield 15, 3) := by decide +kernel
theorem dX1_on_4 : decode cX1_on 4 = .ok (.tableswitch 64 1 5 #[36, 64, 36, 48, 50], 36) := by decide +kernel
theorem dX1_on_40 : decode cX1_on 40 = .ok (.iload_n 1, 1) := by decide +kernel
theorem dX1_on_41 : decode cX1_on 41 = .ok (.aload_n 0, 1) := by decide +kernel
theorem dX1_on_42 : decode cX1_on 42 = .ok (.getfield 21, 3) := by decide +kernel
theorem dX1_on_45 : decode cX1_on 45 = .ok (.iadd, 1) := by decide +kernel
theorem dX1_on_46 : decode cX1_on 46 = .ok (.aload_n 0, 1) := by decide +kernel
theorem dX1_on_47 : decode cX1_on 47 = .ok (.getfield 18, 3) := by decide +kernel
theorem dX1_on_50 : decode cX1_on 50 = .ok (.isub, 1) := by decide +kernel
theorem dX1_on_51 : decode cX1_on 51 = .ok (.ireturn, 1) := by decide +kernel
theorem dX1_on_52 : decode cX1_on 52 = .ok (.iload_n 1, 1) := by decide +kernel
theorem dX1_on_53 : decode cX1_on 53 = .ok (.ireturn, 1) := by decide +kernel
theorem dX1_on_54 : decode cX1_on 54 = .ok (.iload_n 1, 1) := by decide +kernel
theorem dX1_on_55 : decode cX1_on 55 = .ok (.aload_n 0, 1) := by decide +kernel
theorem dX1_on_56 : decode cX1_on 56 = .ok (.getfield 21, 3) := by decide +kernel
theorem dX1_on_59 : decode cX1_on 59 = .ok (.aload_n 0, 1) := by decide +kernel
theorem dX1_on_60 : decode cX1_on 60 = .ok (.getfield 18, 3) := by decide +kernel
theorem dX1_on_63 : decode cX1_on 63 = .ok (.iconst 1, 1) := by decide +kernel
theorem dX1_on_64 : decode cX1_on 64 = .ok (.iadd, 1) := by decide +kernel
theorem dX1_on_65 : decode cX1_on 65 = .ok (.imul, 1) := by decide +kernel
theorem dX1_on_66 : decode cX1_on 66 = .ok (.iadd, 1) := by decide +kernel
theorem dX1_on_67 : decode cX1_on 67 = .ok (.ireturn, 1) := by decide +kernel
theorem dX1_on_68 : decode cX1_on 68 = .ok (.iload_n 1, 1) := by decide +kernel
theorem dX1_on_69 : decode cX1_on 69 = .ok (.aload_n 0, 1) := by decide +kernel
theorem dX1_on_70 : decode cX1_on 70 = .ok (.getfield 21, 3) := by decide +kernel
theorem dX1_on_73 : decode cX1_on 73 = .ok (.iadd, 1) := by decide +kernel
theorem dX1_on_74 : decode cX1_on 74 = .ok (.ireturn, 1) := by decide +kernel
theorem dX1_passes_0 : decode cX1_passes 0 = .ok (.aload_n 0, 1) := by decide +kernel
theorem dX1_passes_1 : decode cX1_passes 1 = .ok (.iload_n 1, 1) := by decide +kernel
theorem dX1_passes_2 : decode cX1_passes 2 = .ok (.invokevirtual 34, 3) := by decide +kernel
theorem dX1_passes_5 : decode cX1_passes 5 = .ok (.invokestatic 38, 3) := by decide +kernel
theorem dX1_passes_8 : decode cX1_passes 8 = .ok (.ifCond .eq 16, 3) := by decide +kernel
theorem dX1_passes_11 : decode cX1_passes 11 = .ok (.aload_n 0, 1) := by decide +kernel
theorem dX1_passes_12 : decode cX1_passes 12 = .ok (.iload_n 1, 1) := by decide +kernel
theorem dX1_passes_13 : decode cX1_passes 13 = .ok (.iload_n 2, 1) := by decide +kernel
theorem dX1_passes_14 : decode cX1_passes 14 = .ok (.invokevirtual 42, 3) := by decide +kernel
theorem dX1_passes_17 : decode cX1_passes 17 = .ok (.ifCond .eq 7, 3) := by decide +kernel
theorem dX1_passes_20 : decode cX1_passes 20 = .ok (.iconst 1, 1) := by decide +kernel
theorem dX1_passes_21 : decode cX1_passes 21 = .ok (.goto 4, 3) := by decide +kernel
theorem dX1_passes_24 : decode cX1_passes 24 = .ok (.iconst 0, 1) := by decide +kernel
theorem dX1_passes_25 : decode cX1_passes 25 = .ok (.ireturn, 1) := by decide +kernel
theorem dX1_lets_0 : decode cX1_lets 0 = .ok (.aload_n 0, 1) := by decide +kernel
theorem dX1_lets_1 : decode cX1_lets 1 = .ok (.getfield 15, 3) := by decide +kernel
theorem dX1_lets_4 : decode cX1_lets 4 = .ok (.tableswitch 79 2 5 #[32, 43, 45, 55], 32) := by decide +kernel
theorem dX1_lets_36 : decode cX1_lets 36 = .ok (.iload_n 2, 1) := by decide +kernel
theorem dX1_lets_37 : decode cX1_lets 37 = .ok (.iconst 1, 1) := by decide +kernel
theorem dX1_lets_38 : decode cX1_lets 38 = .ok (.if_icmp .ne 7, 3) := by decide +kernel
theorem dX1_lets_41 : decode cX1_lets 41 = .ok (.iconst 1, 1) := by decide +kernel
theorem dX1_lets_42 : decode cX1_lets 42 = .ok (.goto 4, 3) := by decide +kernel
theorem dX1_lets_45 : decode cX1_lets 45 = .ok (.iconst 0, 1) := by decide +kernel
theorem dX1_lets_46 : decode cX1_lets 46 = .ok (.ireturn, 1) := by decide +kernel
theorem dX1_lets_47 : decode cX1_lets 47 = .ok (.iconst 1, 1) := by decide +kernel
theorem dX1_lets_48 : decode cX1_lets 48 = .ok (.ireturn, 1) := by decide +kernel
theorem dX1_lets_49 : decode cX1_lets 49 = .ok (.iload_n 2, 1) := by decide +kernel
theorem dX1_lets_50 : decode cX1_lets 50 = .ok (.ifCond .ne 7, 3) := by decide +kernel
theorem dX1_lets_53 : decode cX1_lets 53 = .ok (.iconst 1, 1) := by decide +kernel
theorem dX1_lets_54 : decode cX1_lets 54 = .ok (.goto 4, 3) := by decide +kernel
theorem dX1_lets_57 : decode cX1_lets 57 = .ok (.iconst 0, 1) := by decide +kernel
theorem dX1_lets_58 : decode cX1_lets 58 = .ok (.ireturn, 1) := by decide +kernel
theorem dX1_lets_59 : decode cX1_lets 59 = .ok (.aload_n 0, 1) := by decide +kernel
theorem dX1_lets_60 : decode cX1_lets 60 = .ok (.getfield 18, 3) := by decide +kernel
theorem dX1_lets_63 : decode cX1_lets 63 = .ok (.ifCond .lt 18, 3) := by decide +kernel
theorem dX1_lets_66 : decode cX1_lets 66 = .ok (.iload_n 1, 1) := by decide +kernel
theorem dX1_lets_67 : decode cX1_lets 67 = .ok (.aload_n 0, 1) := by decide +kernel
theorem dX1_lets_68 : decode cX1_lets 68 = .ok (.getfield 18, 3) := by decide +kernel
theorem dX1_lets_71 : decode cX1_lets 71 = .ok (.iconst 1, 1) := by decide +kernel
theorem dX1_lets_72 : decode cX1_lets 72 = .ok (.iadd, 1) := by decide +kernel
theorem dX1_lets_73 : decode cX1_lets 73 = .ok (.irem, 1) := by decide +kernel
theorem dX1_lets_74 : decode cX1_lets 74 = .ok (.ifCond .ne 7, 3) := by decide +kernel
theorem dX1_lets_77 : decode cX1_lets 77 = .ok (.iconst 1, 1) := by decide +kernel
theorem dX1_lets_78 : decode cX1_lets 78 = .ok (.goto 4, 3) := by decide +kernel
theorem dX1_lets_81 : decode cX1_lets 81 = .ok (.iconst 0, 1) := by decide +kernel
theorem dX1_lets_82 : decode cX1_lets 82 = .ok (.ireturn, 1) := by decide +kernel
theorem dX1_lets_83 : decode cX1_lets 83 = .ok (.iload_n 2, 1) := by decide +kernel
theorem dX1_lets_84 : decode cX1_lets 84 = .ok (.ifCond .eq 8, 3) := by decide +kernel
theorem dX1_lets_87 : decode cX1_lets 87 = .ok (.iload_n 2, 1) := by decide +kernel
theorem dX1_lets_88 : decode cX1_lets 88 = .ok (.iconst 1, 1) := by decide +kernel
theorem dX1_lets_89 : decode cX1_lets 89 = .ok (.if_icmp .ne 7, 3) := by decide +kernel
theorem dX1_lets_92 : decode cX1_lets 92 = .ok (.iconst 1, 1) := by decide +kernel
theorem dX1_lets_93 : decode cX1_lets 93 = .ok (.goto 4, 3) := by decide +kernel
theorem dX1_lets_96 : decode cX1_lets 96 = .ok (.iconst 0, 1) := by decide +kernel
theorem dX1_lets_97 : decode cX1_lets 97 = .ok (.ireturn, 1) := by decide +kernel
theorem dX1_leads_0 : decode cX1_leads 0 = .ok (.aload_n 0, 1) := by decide +kernel
theorem dX1_leads_1 : decode cX1_leads 1 = .ok (.getfield 15, 3) := by decide +kernel
theorem dX1_leads_4 : decode cX1_leads 4 = .ok (.iconst 4, 1) := by decide +kernel
theorem dX1_leads_5 : decode cX1_leads 5 = .ok (.if_icmp .ne 10, 3) := by decide +kernel
theorem dX1_leads_8 : decode cX1_leads 8 = .ok (.aload_n 0, 1) := by decide +kernel
theorem dX1_leads_9 : decode cX1_leads 9 = .ok (.getfield 24, 3) := by decide +kernel
theorem dX1_leads_12 : decode cX1_leads 12 = .ok (.goto 7, 3) := by decide +kernel
theorem dX1_leads_15 : decode cX1_leads 15 = .ok (.aload_n 0, 1) := by decide +kernel
theorem dX1_leads_16 : decode cX1_leads 16 = .ok (.getfield 27, 3) := by decide +kernel
theorem dX1_leads_19 : decode cX1_leads 19 = .ok (.ireturn, 1) := by decide +kernel
theorem dX1_firstOut_0 : decode cX1_firstOut 0 = .ok (.iload_n 1, 1) := by decide +kernel
theorem dX1_firstOut_1 : decode cX1_firstOut 1 = .ok (.istore_n 3, 1) := by decide +kernel
theorem dX1_firstOut_2 : decode cX1_firstOut 2 = .ok (.iload_n 3, 1) := by decide +kernel
theorem dX1_firstOut_3 : decode cX1_firstOut 3 = .ok (.bipush 32, 2) := by decide +kernel
theorem dX1_firstOut_5 : decode cX1_firstOut 5 = .ok (.if_icmp .ge 24, 3) := by decide +kernel
theorem dX1_firstOut_8 : decode cX1_firstOut 8 = .ok (.aload_n 0, 1) := by decide +kernel
theorem dX1_firstOut_9 : decode cX1_firstOut 9 = .ok (.iload_n 3, 1) := by decide +kernel
theorem dX1_firstOut_10 : decode cX1_firstOut 10 = .ok (.iload_n 2, 1) := by decide +kernel
theorem dX1_firstOut_11 : decode cX1_firstOut 11 = .ok (.invokevirtual 46, 3) := by decide +kernel
theorem dX1_firstOut_14 : decode cX1_firstOut 14 = .ok (.ifCond .eq 9, 3) := by decide +kernel
theorem dX1_firstOut_17 : decode cX1_firstOut 17 = .ok (.aload_n 0, 1) := by decide +kernel
theorem dX1_firstOut_18 : decode cX1_firstOut 18 = .ok (.iload_n 3, 1) := by decide +kernel
theorem dX1_firstOut_19 : decode cX1_firstOut 19 = .ok (.invokevirtual 34, 3) := by decide +kernel
theorem dX1_firstOut_22 : decode cX1_firstOut 22 = .ok (.ireturn, 1) := by decide +kernel
theorem dX1_firstOut_23 : decode cX1_firstOut 23 = .ok (.iinc 3 1, 3) := by decide +kernel
theorem dX1_firstOut_26 : decode cX1_firstOut 26 = .ok (.goto (-24), 3) := by decide +kernel
theorem dX1_firstOut_29 : decode cX1_firstOut 29 = .ok (.bipush 32, 2) := by decide +kernel
theorem dX1_firstOut_31 : decode cX1_firstOut 31 = .ok (.ireturn, 1) := by decide +kernel
theorem dX2_init_0 : decode cX2_init 0 = .ok (.aload_n 0, 1) := by decide +kernel
theorem dX2_init_1 : decode cX2_init 1 = .ok (.invokespecial 3, 3) := by decide +kernel
theorem dX2_init_4 : decode cX2_init 4 = .ok (.aload_n 0, 1) := by decide +kernel
theorem dX2_init_5 : decode cX2_init 5 = .ok (.sipush 160, 3) := by decide +kernel
theorem dX2_init_8 : decode cX2_init 8 = .ok (.newarray .int, 2) := by decide +kernel
theorem dX2_init_10 : decode cX2_init 10 = .ok (.putfield 9, 3) := by decide +kernel
theorem dX2_init_13 : decode cX2_init 13 = .ok (.aload_n 0, 1) := by decide +kernel
theorem dX2_init_14 : decode cX2_init 14 = .ok (.iconst 3, 1) := by decide +kernel
theorem dX2_init_15 : decode cX2_init 15 = .ok (.newarray .int, 2) := by decide +kernel
theorem dX2_init_17 : decode cX2_init 17 = .ok (.putfield 15, 3) := by decide +kernel
theorem dX2_init_20 : decode cX2_init 20 = .ok (.return_, 1) := by decide +kernel
theorem dX2_read_0 : decode cX2_read 0 = .ok (.aload_n 1, 1) := by decide +kernel
theorem dX2_read_1 : decode cX2_read 1 = .ok (.invokevirtual 18, 3) := by decide +kernel
theorem dX2_read_4 : decode cX2_read 4 = .ok (.aload_n 0, 1) := by decide +kernel
theorem dX2_read_5 : decode cX2_read 5 = .ok (.iconst 0, 1) := by decide +kernel
theorem dX2_read_6 : decode cX2_read 6 = .ok (.putfield 23, 3) := by decide +kernel
theorem dX2_read_9 : decode cX2_read 9 = .ok (.aload_n 0, 1) := by decide +kernel
theorem dX2_read_10 : decode cX2_read 10 = .ok (.iconst 0, 1) := by decide +kernel
theorem dX2_read_11 : decode cX2_read 11 = .ok (.putfield 27, 3) := by decide +kernel
theorem dX2_read_14 : decode cX2_read 14 = .ok (.aload_n 0, 1) := by decide +kernel
theorem dX2_read_15 : decode cX2_read 15 = .ok (.iconst (-1), 1) := by decide +kernel
theorem dX2_read_16 : decode cX2_read 16 = .ok (.putfield 30, 3) := by decide +kernel
theorem dX2_read_19 : decode cX2_read 19 = .ok (.aload_n 0, 1) := by decide +kernel
theorem dX2_read_20 : decode cX2_read 20 = .ok (.aload_n 1, 1) := by decide +kernel
theorem dX2_read_21 : decode cX2_read 21 = .ok (.getfield 33, 3) := by decide +kernel
theorem dX2_read_24 : decode cX2_read 24 = .ok (.iconst 0, 1) := by decide +kernel
theorem dX2_read_25 : decode cX2_read 25 = .ok (.iaload, 1) := by decide +kernel
theorem dX2_read_26 : decode cX2_read 26 = .ok (.putfield 36, 3) := by decide +kernel
theorem dX2_read_29 : decode cX2_read 29 = .ok (.aload_n 0, 1) := by decide +kernel
theorem dX2_read_30 : decode cX2_read 30 = .ok (.aload_n 1, 1) := by decide +kernel
theorem dX2_read_31 : decode cX2_read 31 = .ok (.iconst 3, 1) := by decide +kernel
theorem dX2_read_32 : decode cX2_read 32 = .ok (.iconst 0, 1) := by decide +kernel
theorem dX2_read_33 : decode cX2_read 33 = .ok (.invokevirtual 39, 3) := by decide +kernel
theorem dX2_read_36 : decode cX2_read 36 = .ok (.aload_n 0, 1) := by decide +kernel
theorem dX2_read_37 : decode cX2_read 37 = .ok (.aload_n 1, 1) := by decide +kernel
theorem dX2_read_38 : decode cX2_read 38 = .ok (.iconst 4, 1) := by decide +kernel
theorem dX2_read_39 : decode cX2_read 39 = .ok (.iconst 1, 1) := by decide +kernel
theorem dX2_read_40 : decode cX2_read 40 = .ok (.invokevirtual 39, 3) := by decide +kernel
theorem dX2_read_43 : decode cX2_read 43 = .ok (.aload_n 0, 1) := by decide +kernel
theorem dX2_read_44 : decode cX2_read 44 = .ok (.aload_n 1, 1) := by decide +kernel
theorem dX2_read_45 : decode cX2_read 45 = .ok (.iconst 5, 1) := by decide +kernel
theorem dX2_read_46 : decode cX2_read 46 = .ok (.iconst 2, 1) := by decide +kernel
theorem dX2_read_47 : decode cX2_read 47 = .ok (.invokevirtual 39, 3) := by decide +kernel
theorem dX2_read_50 : decode cX2_read 50 = .ok (.aload_n 0, 1) := by decide +kernel
theorem dX2_read_51 : decode cX2_read 51 = .ok (.aload_n 1, 1) := by decide +kernel
theorem dX2_read_52 : decode cX2_read 52 = .ok (.iconst (-1), 1) := by decide +kernel
theorem dX2_read_53 : decode cX2_read 53 = .ok (.invokevirtual 43, 3) := by decide +kernel
theorem dX2_read_56 : decode cX2_read 56 = .ok (.aload_n 0, 1) := by decide +kernel
theorem dX2_read_57 : decode cX2_read 57 = .ok (.getfield 30, 3) := by decide +kernel
theorem dX2_read_60 : decode cX2_read 60 = .ok (.iconst (-1), 1) := by decide +kernel
theorem dX2_read_61 : decode cX2_read 61 = .ok (.if_icmp .ne 32, 3) := by decide +kernel
theorem dX2_read_64 : decode cX2_read 64 = .ok (.new 47, 3) := by decide +kernel
theorem dX2_read_67 : decode cX2_read 67 = .ok (.dup, 1) := by decide +kernel
theorem dX2_read_68 : decode cX2_read 68 = .ok (.aload_n 0, 1) := by decide +kernel
theorem dX2_read_69 : decode cX2_read 69 = .ok (.getfield 9, 3) := by decide +kernel
theorem dX2_read_72 : decode cX2_read 72 = .ok (.aload_n 0, 1) := by decide +kernel
theorem dX2_read_73 : decode cX2_read 73 = .ok (.getfield 27, 3) := by decide +kernel
theorem dX2_read_76 : decode cX2_read 76 = .ok (.invokestatic 49, 3) := by decide +kernel
theorem dX2_read_79 : decode cX2_read 79 = .ok (.aload_n 0, 1) := by decide +kernel
theorem dX2_read_80 : decode cX2_read 80 = .ok (.getfield 15, 3) := by decide +kernel
theorem dX2_read_83 : decode cX2_read 83 = .ok (.iconst 3, 1) := by decide +kernel
theorem dX2_read_84 : decode cX2_read 84 = .ok (.invokestatic 49, 3) := by decide +kernel
theorem dX2_read_87 : decode cX2_read 87 = .ok (.invokespecial 55, 3) := by decide +kernel
theorem dX2_read_90 : decode cX2_read 90 = .ok (.goto 4, 3) := by decide +kernel
theorem dX2_read_93 : decode cX2_read 93 = .ok (.aconst_null, 1) := by decide +kernel
theorem dX2_read_94 : decode cX2_read 94 = .ok (.areturn, 1) := by decide +kernel
theorem dX2_readPart_0 : decode cX2_readPart 0 = .ok (.aload_n 0, 1) := by decide +kernel
theorem dX2_readPart_1 : decode cX2_readPart 1 = .ok (.aload_n 1, 1) := by decide +kernel
theorem dX2_readPart_2 : decode cX2_readPart 2 = .ok (.iload_n 2, 1) := by decide +kernel
theorem dX2_readPart_3 : decode cX2_readPart 3 = .ok (.invokevirtual 43, 3) := by decide +kernel
theorem dX2_readPart_6 : decode cX2_readPart 6 = .ok (.aload_n 0, 1) := by decide +kernel
theorem dX2_readPart_7 : decode cX2_readPart 7 = .ok (.aload_n 1, 1) := by decide +kernel
theorem dX2_readPart_8 : decode cX2_readPart 8 = .ok (.iconst 0, 1) := by decide +kernel
theorem dX2_readPart_9 : decode cX2_readPart 9 = .ok (.invokevirtual 58, 3) := by decide +kernel
theorem dX2_readPart_12 : decode cX2_readPart 12 = .ok (.aload_n 0, 1) := by decide +kernel
theorem dX2_readPart_13 : decode cX2_readPart 13 = .ok (.aload_n 1, 1) := by decide +kernel
theorem dX2_readPart_14 : decode cX2_readPart 14 = .ok (.bipush 59, 2) := by decide +kernel
theorem dX2_readPart_16 : decode cX2_readPart 16 = .ok (.invokevirtual 43, 3) := by decide +kernel
theorem dX2_readPart_19 : decode cX2_readPart 19 = .ok (.aload_n 0, 1) := by decide +kernel
theorem dX2_readPart_20 : decode cX2_readPart 20 = .ok (.getfield 15, 3) := by decide +kernel
theorem dX2_readPart_23 : decode cX2_readPart 23 = .ok (.iload_n 3, 1) := by decide +kernel
theorem dX2_readPart_24 : decode cX2_readPart 24 = .ok (.aload_n 0, 1) := by decide +kernel
theorem dX2_readPart_25 : decode cX2_readPart 25 = .ok (.getfield 27, 3) := by decide +kernel
theorem dX2_readPart_28 : decode cX2_readPart 28 = .ok (.iastore, 1) := by decide +kernel
theorem dX2_readPart_29 : decode cX2_readPart 29 = .ok (.return_, 1) := by decide +kernel
theorem dX2_readOr_0 : decode cX2_readOr 0 = .ok (.aload_n 0, 1) := by decide +kernel
theorem dX2_readOr_1 : decode cX2_readOr 1 = .ok (.aload_n 1, 1) := by decide +kernel
theorem dX2_readOr_2 : decode cX2_readOr 2 = .ok (.iload_n 2, 1) := by decide +kernel
theorem dX2_readOr_3 : decode cX2_readOr 3 = .ok (.invokevirtual 61, 3) := by decide +kernel
theorem dX2_readOr_6 : decode cX2_readOr 6 = .ok (.iconst 0, 1) := by decide +kernel
theorem dX2_readOr_7 : decode cX2_readOr 7 = .ok (.istore_n 3, 1) := by decide +kernel
theorem dX2_readOr_8 : decode cX2_readOr 8 = .ok (.iload_n 3, 1) := by decide +kernel
theorem dX2_readOr_9 : decode cX2_readOr 9 = .ok (.sipush 160, 3) := by decide +kernel
theorem dX2_readOr_12 : decode cX2_readOr 12 = .ok (.if_icmp .ge 36, 3) := by decide +kernel
theorem dX2_readOr_15 : decode cX2_readOr 15 = .ok (.aload_n 0, 1) := by decide +kernel
theorem dX2_readOr_16 : decode cX2_readOr 16 = .ok (.getfield 36, 3) := by decide +kernel
theorem dX2_readOr_19 : decode cX2_readOr 19 = .ok (.bipush 6, 2) := by decide +kernel
theorem dX2_readOr_21 : decode cX2_readOr 21 = .ok (.if_icmp .ne 27, 3) := by decide +kernel
theorem dX2_readOr_24 : decode cX2_readOr 24 = .ok (.aload_n 0, 1) := by decide +kernel
theorem dX2_readOr_25 : decode cX2_readOr 25 = .ok (.aload_n 1, 1) := by decide +kernel
theorem dX2_readOr_26 : decode cX2_readOr 26 = .ok (.invokevirtual 64, 3) := by decide +kernel
theorem dX2_readOr_29 : decode cX2_readOr 29 = .ok (.aload_n 0, 1) := by decide +kernel
theorem dX2_readOr_30 : decode cX2_readOr 30 = .ok (.aload_n 1, 1) := by decide +kernel
theorem dX2_readOr_31 : decode cX2_readOr 31 = .ok (.iload_n 2, 1) := by decide +kernel
theorem dX2_readOr_32 : decode cX2_readOr 32 = .ok (.invokevirtual 61, 3) := by decide +kernel
theorem dX2_readOr_35 : decode cX2_readOr 35 = .ok (.aload_n 0, 1) := by decide +kernel
theorem dX2_readOr_36 : decode cX2_readOr 36 = .ok (.bipush 10, 2) := by decide +kernel
theorem dX2_readOr_38 : decode cX2_readOr 38 = .ok (.iconst 0, 1) := by decide +kernel
theorem dX2_readOr_39 : decode cX2_readOr 39 = .ok (.invokevirtual 70, 3) := by decide +kernel
theorem dX2_readOr_42 : decode cX2_readOr 42 = .ok (.iinc 3 1, 3) := by decide +kernel
theorem dX2_readOr_45 : decode cX2_readOr 45 = .ok (.goto (-37), 3) := by decide +kernel
theorem dX2_readOr_48 : decode cX2_readOr 48 = .ok (.return_, 1) := by decide +kernel
theorem dX2_readAnd_0 : decode cX2_readAnd 0 = .ok (.aload_n 0, 1) := by decide +kernel
theorem dX2_readAnd_1 : decode cX2_readAnd 1 = .ok (.aload_n 1, 1) := by decide +kernel
theorem dX2_readAnd_2 : decode cX2_readAnd 2 = .ok (.iload_n 2, 1) := by decide +kernel
theorem dX2_readAnd_3 : decode cX2_readAnd 3 = .ok (.invokevirtual 74, 3) := by decide +kernel
theorem dX2_readAnd_6 : decode cX2_readAnd 6 = .ok (.iconst 0, 1) := by decide +kernel
theorem dX2_readAnd_7 : decode cX2_readAnd 7 = .ok (.istore_n 3, 1) := by decide +kernel
theorem dX2_readAnd_8 : decode cX2_readAnd 8 = .ok (.iload_n 3, 1) := by decide +kernel
theorem dX2_readAnd_9 : decode cX2_readAnd 9 = .ok (.sipush 160, 3) := by decide +kernel
theorem dX2_readAnd_12 : decode cX2_readAnd 12 = .ok (.if_icmp .ge 36, 3) := by decide +kernel
theorem dX2_readAnd_15 : decode cX2_readAnd 15 = .ok (.aload_n 0, 1) := by decide +kernel
theorem dX2_readAnd_16 : decode cX2_readAnd 16 = .ok (.getfield 36, 3) := by decide +kernel
theorem dX2_readAnd_19 : decode cX2_readAnd 19 = .ok (.bipush 7, 2) := by decide +kernel
theorem dX2_readAnd_21 : decode cX2_readAnd 21 = .ok (.if_icmp .ne 27, 3) := by decide +kernel
theorem dX2_readAnd_24 : decode cX2_readAnd 24 = .ok (.aload_n 0, 1) := by decide +kernel
theorem dX2_readAnd_25 : decode cX2_readAnd 25 = .ok (.aload_n 1, 1) := by decide +kernel
theorem dX2_readAnd_26 : decode cX2_readAnd 26 = .ok (.invokevirtual 64, 3) := by decide +kernel
theorem dX2_readAnd_29 : decode cX2_readAnd 29 = .ok (.aload_n 0, 1) := by decide +kernel
theorem dX2_readAnd_30 : decode cX2_readAnd 30 = .ok (.aload_n 1, 1) := by decide +kernel
theorem dX2_readAnd_31 : decode cX2_readAnd 31 = .ok (.iload_n 2, 1) := by decide +kernel
theorem dX2_readAnd_32 : decode cX2_readAnd 32 = .ok (.invokevirtual 74, 3) := by decide +kernel
theorem dX2_readAnd_35 : decode cX2_readAnd 35 = .ok (.aload_n 0, 1) := by decide +kernel
theorem dX2_readAnd_36 : decode cX2_readAnd 36 = .ok (.bipush 9, 2) := by decide +kernel
theorem dX2_readAnd_38 : decode cX2_readAnd 38 = .ok (.iconst 0, 1) := by decide +kernel
theorem dX2_readAnd_39 : decode cX2_readAnd 39 = .ok (.invokevirtual 70, 3) := by decide +kernel
theorem dX2_readAnd_42 : decode cX2_readAnd 42 = .ok (.iinc 3 1, 3) := by decide +kernel
theorem dX2_readAnd_45 : decode cX2_readAnd 45 = .ok (.goto (-37), 3) := by decide +kernel
theorem dX2_readAnd_48 : decode cX2_readAnd 48 = .ok (.return_, 1) := by decide +kernel
theorem dX2_readNot_0 : decode cX2_readNot 0 = .ok (.aload_n 0, 1) := by decide +kernel
theorem dX2_readNot_1 : decode cX2_readNot 1 = .ok (.getfield 36, 3) := by decide +kernel
theorem dX2_readNot_4 : decode cX2_readNot 4 = .ok (.bipush 8, 2) := by decide +kernel
theorem dX2_readNot_6 : decode cX2_readNot 6 = .ok (.if_icmp .ne 28, 3) := by decide +kernel
theorem dX2_readNot_9 : decode cX2_readNot 9 = .ok (.iload_n 2, 1) := by decide +kernel
theorem dX2_readNot_10 : decode cX2_readNot 10 = .ok (.iconst 5, 1) := by decide +kernel
theorem dX2_readNot_11 : decode cX2_readNot 11 = .ok (.if_icmp .ge 23, 3) := by decide +kernel
theorem dX2_readNot_14 : decode cX2_readNot 14 = .ok (.aload_n 0, 1) := by decide +kernel
theorem dX2_readNot_15 : decode cX2_readNot 15 = .ok (.aload_n 1, 1) := by decide +kernel
theorem dX2_readNot_16 : decode cX2_readNot 16 = .ok (.invokevirtual 64, 3) := by decide +kernel
theorem dX2_readNot_19 : decode cX2_readNot 19 = .ok (.aload_n 0, 1) := by decide +kernel
theorem dX2_readNot_20 : decode cX2_readNot 20 = .ok (.aload_n 1, 1) := by decide +kernel
theorem dX2_readNot_21 : decode cX2_readNot 21 = .ok (.iload_n 2, 1) := by decide +kernel
theorem dX2_readNot_22 : decode cX2_readNot 22 = .ok (.iconst 1, 1) := by decide +kernel
theorem dX2_readNot_23 : decode cX2_readNot 23 = .ok (.iadd, 1) := by decide +kernel
theorem dX2_readNot_24 : decode cX2_readNot 24 = .ok (.invokevirtual 74, 3) := by decide +kernel
theorem dX2_readNot_27 : decode cX2_readNot 27 = .ok (.aload_n 0, 1) := by decide +kernel
theorem dX2_readNot_28 : decode cX2_readNot 28 = .ok (.iconst 3, 1) := by decide +kernel
theorem dX2_readNot_29 : decode cX2_readNot 29 = .ok (.iconst 0, 1) := by decide +kernel
theorem dX2_readNot_30 : decode cX2_readNot 30 = .ok (.invokevirtual 70, 3) := by decide +kernel
theorem dX2_readNot_33 : decode cX2_readNot 33 = .ok (.return_, 1) := by decide +kernel
theorem dX2_readNot_34 : decode cX2_readNot 34 = .ok (.aload_n 0, 1) := by decide +kernel
theorem dX2_readNot_35 : decode cX2_readNot 35 = .ok (.aload_n 1, 1) := by decide +kernel
theorem dX2_readNot_36 : decode cX2_readNot 36 = .ok (.iload_n 2, 1) := by decide +kernel
theorem dX2_readNot_37 : decode cX2_readNot 37 = .ok (.invokevirtual 77, 3) := by decide +kernel
theorem dX2_readNot_40 : decode cX2_readNot 40 = .ok (.aload_n 0, 1) := by decide +kernel
theorem dX2_readNot_41 : decode cX2_readNot 41 = .ok (.getfield 36, 3) := by decide +kernel
theorem dX2_readNot_44 : decode cX2_readNot 44 = .ok (.bipush 60, 2) := by decide +kernel
theorem dX2_readNot_46 : decode cX2_readNot 46 = .ok (.if_icmp .eq 12, 3) := by decide +kernel
theorem dX2_readNot_49 : decode cX2_readNot 49 = .ok (.aload_n 0, 1) := by decide +kernel
theorem dX2_readNot_50 : decode cX2_readNot 50 = .ok (.getfield 36, 3) := by decide +kernel
theorem dX2_readNot_53 : decode cX2_readNot 53 = .ok (.bipush 61, 2) := by decide +kernel
theorem dX2_readNot_55 : decode cX2_readNot 55 = .ok (.if_icmp .ne 37, 3) := by decide +kernel
theorem dX2_readNot_58 : decode cX2_readNot 58 = .ok (.aload_n 0, 1) := by decide +kernel
theorem dX2_readNot_59 : decode cX2_readNot 59 = .ok (.getfield 36, 3) := by decide +kernel
theorem dX2_readNot_62 : decode cX2_readNot 62 = .ok (.bipush 60, 2) := by decide +kernel
theorem dX2_readNot_64 : decode cX2_readNot 64 = .ok (.if_icmp .ne 8, 3) := by decide +kernel
theorem dX2_readNot_67 : decode cX2_readNot 67 = .ok (.bipush 7, 2) := by decide +kernel
theorem dX2_readNot_69 : decode cX2_readNot 69 = .ok (.goto 5, 3) := by decide +kernel
theorem dX2_readNot_72 : decode cX2_readNot 72 = .ok (.bipush 8, 2) := by decide +kernel
theorem dX2_readNot_74 : decode cX2_readNot 74 = .ok (.istore_n 3, 1) := by decide +kernel
theorem dX2_readNot_75 : decode cX2_readNot 75 = .ok (.aload_n 0, 1) := by decide +kernel
theorem dX2_readNot_76 : decode cX2_readNot 76 = .ok (.aload_n 1, 1) := by decide +kernel
theorem dX2_readNot_77 : decode cX2_readNot 77 = .ok (.invokevirtual 64, 3) := by decide +kernel
theorem dX2_readNot_80 : decode cX2_readNot 80 = .ok (.aload_n 0, 1) := by decide +kernel
theorem dX2_readNot_81 : decode cX2_readNot 81 = .ok (.aload_n 1, 1) := by decide +kernel
theorem dX2_readNot_82 : decode cX2_readNot 82 = .ok (.iload_n 2, 1) := by decide +kernel
theorem dX2_readNot_83 : decode cX2_readNot 83 = .ok (.invokevirtual 77, 3) := by decide +kernel
theorem dX2_readNot_86 : decode cX2_readNot 86 = .ok (.aload_n 0, 1) := by decide +kernel
theorem dX2_readNot_87 : decode cX2_readNot 87 = .ok (.iload_n 3, 1) := by decide +kernel
theorem dX2_readNot_88 : decode cX2_readNot 88 = .ok (.iconst 0, 1) := by decide +kernel
theorem dX2_readNot_89 : decode cX2_readNot 89 = .ok (.invokevirtual 70, 3) := by decide +kernel
theorem dX2_readNot_92 : decode cX2_readNot 92 = .ok (.return_, 1) := by decide +kernel
theorem dX2_readSum_0 : decode cX2_readSum 0 = .ok (.aload_n 0, 1) := by decide +kernel
theorem dX2_readSum_1 : decode cX2_readSum 1 = .ok (.aload_n 1, 1) := by decide +kernel
theorem dX2_readSum_2 : decode cX2_readSum 2 = .ok (.iload_n 2, 1) := by decide +kernel
theorem dX2_readSum_3 : decode cX2_readSum 3 = .ok (.invokevirtual 80, 3) := by decide +kernel
theorem dX2_readSum_6 : decode cX2_readSum 6 = .ok (.iconst 0, 1) := by decide +kernel
theorem dX2_readSum_7 : decode cX2_readSum 7 = .ok (.istore_n 3, 1) := by decide +kernel
theorem dX2_readSum_8 : decode cX2_readSum 8 = .ok (.iload_n 3, 1) := by decide +kernel
theorem dX2_readSum_9 : decode cX2_readSum 9 = .ok (.sipush 160, 3) := by decide +kernel
theorem dX2_readSum_12 : decode cX2_readSum 12 = .ok (.if_icmp .ge 61, 3) := by decide +kernel
theorem dX2_readSum_15 : decode cX2_readSum 15 = .ok (.aload_n 0, 1) := by decide +kernel
theorem dX2_readSum_16 : decode cX2_readSum 16 = .ok (.getfield 36, 3) := by decide +kernel
theorem dX2_readSum_19 : decode cX2_readSum 19 = .ok (.bipush 43, 2) := by decide +kernel
theorem dX2_readSum_21 : decode cX2_readSum 21 = .ok (.if_icmp .eq 12, 3) := by decide +kernel
theorem dX2_readSum_24 : decode cX2_readSum 24 = .ok (.aload_n 0, 1) := by decide +kernel
theorem dX2_readSum_25 : decode cX2_readSum 25 = .ok (.getfield 36, 3) := by decide +kernel
theorem dX2_readSum_28 : decode cX2_readSum 28 = .ok (.bipush 45, 2) := by decide +kernel
theorem dX2_readSum_30 : decode cX2_readSum 30 = .ok (.if_icmp .ne 43, 3) := by decide +kernel
theorem dX2_readSum_33 : decode cX2_readSum 33 = .ok (.aload_n 0, 1) := by decide +kernel
theorem dX2_readSum_34 : decode cX2_readSum 34 = .ok (.getfield 36, 3) := by decide +kernel
theorem dX2_readSum_37 : decode cX2_readSum 37 = .ok (.bipush 43, 2) := by decide +kernel
theorem dX2_readSum_39 : decode cX2_readSum 39 = .ok (.if_icmp .ne 7, 3) := by decide +kernel
theorem dX2_readSum_42 : decode cX2_readSum 42 = .ok (.iconst 4, 1) := by decide +kernel
theorem dX2_readSum_43 : decode cX2_readSum 43 = .ok (.goto 4, 3) := by decide +kernel
theorem dX2_readSum_46 : decode cX2_readSum 46 = .ok (.iconst 5, 1) := by decide +kernel
theorem dX2_readSum_47 : decode cX2_readSum 47 = .ok (.istore 4, 2) := by decide +kernel
theorem dX2_readSum_49 : decode cX2_readSum 49 = .ok (.aload_n 0, 1) := by decide +kernel
theorem dX2_readSum_50 : decode cX2_readSum 50 = .ok (.aload_n 1, 1) := by decide +kernel
theorem dX2_readSum_51 : decode cX2_readSum 51 = .ok (.invokevirtual 64, 3) := by decide +kernel
theorem dX2_readSum_54 : decode cX2_readSum 54 = .ok (.aload_n 0, 1) := by decide +kernel
theorem dX2_readSum_55 : decode cX2_readSum 55 = .ok (.aload_n 1, 1) := by decide +kernel
theorem dX2_readSum_56 : decode cX2_readSum 56 = .ok (.iload_n 2, 1) := by decide +kernel
theorem dX2_readSum_57 : decode cX2_readSum 57 = .ok (.invokevirtual 80, 3) := by decide +kernel
theorem dX2_readSum_60 : decode cX2_readSum 60 = .ok (.aload_n 0, 1) := by decide +kernel
theorem dX2_readSum_61 : decode cX2_readSum 61 = .ok (.iload 4, 2) := by decide +kernel
theorem dX2_readSum_63 : decode cX2_readSum 63 = .ok (.iconst 0, 1) := by decide +kernel
theorem dX2_readSum_64 : decode cX2_readSum 64 = .ok (.invokevirtual 70, 3) := by decide +kernel
theorem dX2_readSum_67 : decode cX2_readSum 67 = .ok (.iinc 3 1, 3) := by decide +kernel
theorem dX2_readSum_70 : decode cX2_readSum 70 = .ok (.goto (-62), 3) := by decide +kernel
theorem dX2_readSum_73 : decode cX2_readSum 73 = .ok (.return_, 1) := by decide +kernel
theorem dX2_readTerm_0 : decode cX2_readTerm 0 = .ok (.aload_n 0, 1) := by decide +kernel
theorem dX2_readTerm_1 : decode cX2_readTerm 1 = .ok (.aload_n 1, 1) := by decide +kernel
theorem dX2_readTerm_2 : decode cX2_readTerm 2 = .ok (.iload_n 2, 1) := by decide +kernel
theorem dX2_readTerm_3 : decode cX2_readTerm 3 = .ok (.invokevirtual 83, 3) := by decide +kernel
theorem dX2_readTerm_6 : decode cX2_readTerm 6 = .ok (.iconst 0, 1) := by decide +kernel
theorem dX2_readTerm_7 : decode cX2_readTerm 7 = .ok (.istore_n 3, 1) := by decide +kernel
theorem dX2_readTerm_8 : decode cX2_readTerm 8 = .ok (.iload_n 3, 1) := by decide +kernel
theorem dX2_readTerm_9 : decode cX2_readTerm 9 = .ok (.sipush 160, 3) := by decide +kernel
theorem dX2_readTerm_12 : decode cX2_readTerm 12 = .ok (.if_icmp .ge 36, 3) := by decide +kernel
theorem dX2_readTerm_15 : decode cX2_readTerm 15 = .ok (.aload_n 0, 1) := by decide +kernel
theorem dX2_readTerm_16 : decode cX2_readTerm 16 = .ok (.getfield 36, 3) := by decide +kernel
theorem dX2_readTerm_19 : decode cX2_readTerm 19 = .ok (.bipush 42, 2) := by decide +kernel
theorem dX2_readTerm_21 : decode cX2_readTerm 21 = .ok (.if_icmp .ne 27, 3) := by decide +kernel
theorem dX2_readTerm_24 : decode cX2_readTerm 24 = .ok (.aload_n 0, 1) := by decide +kernel
theorem dX2_readTerm_25 : decode cX2_readTerm 25 = .ok (.aload_n 1, 1) := by decide +kernel
theorem dX2_readTerm_26 : decode cX2_readTerm 26 = .ok (.invokevirtual 64, 3) := by decide +kernel
theorem dX2_readTerm_29 : decode cX2_readTerm 29 = .ok (.aload_n 0, 1) := by decide +kernel
theorem dX2_readTerm_30 : decode cX2_readTerm 30 = .ok (.aload_n 1, 1) := by decide +kernel
theorem dX2_readTerm_31 : decode cX2_readTerm 31 = .ok (.iload_n 2, 1) := by decide +kernel
theorem dX2_readTerm_32 : decode cX2_readTerm 32 = .ok (.invokevirtual 83, 3) := by decide +kernel
theorem dX2_readTerm_35 : decode cX2_readTerm 35 = .ok (.aload_n 0, 1) := by decide +kernel
theorem dX2_readTerm_36 : decode cX2_readTerm 36 = .ok (.bipush 6, 2) := by decide +kernel
theorem dX2_readTerm_38 : decode cX2_readTerm 38 = .ok (.iconst 0, 1) := by decide +kernel
theorem dX2_readTerm_39 : decode cX2_readTerm 39 = .ok (.invokevirtual 70, 3) := by decide +kernel
theorem dX2_readTerm_42 : decode cX2_readTerm 42 = .ok (.iinc 3 1, 3) := by decide +kernel
theorem dX2_readTerm_45 : decode cX2_readTerm 45 = .ok (.goto (-37), 3) := by decide +kernel
theorem dX2_readTerm_48 : decode cX2_readTerm 48 = .ok (.return_, 1) := by decide +kernel
theorem dX2_readOne_0 : decode cX2_readOne 0 = .ok (.aload_n 0, 1) := by decide +kernel
theorem dX2_readOne_1 : decode cX2_readOne 1 = .ok (.getfield 36, 3) := by decide +kernel
theorem dX2_readOne_4 : decode cX2_readOne 4 = .ok (.iconst 1, 1) := by decide +kernel
theorem dX2_readOne_5 : decode cX2_readOne 5 = .ok (.if_icmp .eq 11, 3) := by decide +kernel
theorem dX2_readOne_8 : decode cX2_readOne 8 = .ok (.aload_n 0, 1) := by decide +kernel
theorem dX2_readOne_9 : decode cX2_readOne 9 = .ok (.getfield 36, 3) := by decide +kernel
theorem dX2_readOne_12 : decode cX2_readOne 12 = .ok (.iconst 2, 1) := by decide +kernel
theorem dX2_readOne_13 : decode cX2_readOne 13 = .ok (.if_icmp .ne 37, 3) := by decide +kernel
theorem dX2_readOne_16 : decode cX2_readOne 16 = .ok (.aload_n 0, 1) := by decide +kernel
theorem dX2_readOne_17 : decode cX2_readOne 17 = .ok (.aload_n 0, 1) := by decide +kernel
theorem dX2_readOne_18 : decode cX2_readOne 18 = .ok (.getfield 36, 3) := by decide +kernel
theorem dX2_readOne_21 : decode cX2_readOne 21 = .ok (.iconst 1, 1) := by decide +kernel
theorem dX2_readOne_22 : decode cX2_readOne 22 = .ok (.if_icmp .ne 7, 3) := by decide +kernel
theorem dX2_readOne_25 : decode cX2_readOne 25 = .ok (.iconst 0, 1) := by decide +kernel
theorem dX2_readOne_26 : decode cX2_readOne 26 = .ok (.goto 4, 3) := by decide +kernel
theorem dX2_readOne_29 : decode cX2_readOne 29 = .ok (.iconst 1, 1) := by decide +kernel
theorem dX2_readOne_30 : decode cX2_readOne 30 = .ok (.aload_n 1, 1) := by decide +kernel
theorem dX2_readOne_31 : decode cX2_readOne 31 = .ok (.getfield 86, 3) := by decide +kernel
theorem dX2_readOne_34 : decode cX2_readOne 34 = .ok (.aload_n 0, 1) := by decide +kernel
theorem dX2_readOne_35 : decode cX2_readOne 35 = .ok (.getfield 23, 3) := by decide +kernel
theorem dX2_readOne_38 : decode cX2_readOne 38 = .ok (.iaload, 1) := by decide +kernel
theorem dX2_readOne_39 : decode cX2_readOne 39 = .ok (.invokevirtual 70, 3) := by decide +kernel
theorem dX2_readOne_42 : decode cX2_readOne 42 = .ok (.aload_n 0, 1) := by decide +kernel
theorem dX2_readOne_43 : decode cX2_readOne 43 = .ok (.aload_n 1, 1) := by decide +kernel
theorem dX2_readOne_44 : decode cX2_readOne 44 = .ok (.invokevirtual 64, 3) := by decide +kernel
theorem dX2_readOne_47 : decode cX2_readOne 47 = .ok (.goto 81, 3) := by decide +kernel
theorem dX2_readOne_50 : decode cX2_readOne 50 = .ok (.aload_n 0, 1) := by decide +kernel
theorem dX2_readOne_51 : decode cX2_readOne 51 = .ok (.getfield 36, 3) := by decide +kernel
theorem dX2_readOne_54 : decode cX2_readOne 54 = .ok (.bipush 45, 2) := by decide +kernel
theorem dX2_readOne_56 : decode cX2_readOne 56 = .ok (.if_icmp .ne 30, 3) := by decide +kernel
theorem dX2_readOne_59 : decode cX2_readOne 59 = .ok (.iload_n 2, 1) := by decide +kernel
theorem dX2_readOne_60 : decode cX2_readOne 60 = .ok (.iconst 5, 1) := by decide +kernel
theorem dX2_readOne_61 : decode cX2_readOne 61 = .ok (.if_icmp .ge 25, 3) := by decide +kernel
theorem dX2_readOne_64 : decode cX2_readOne 64 = .ok (.aload_n 0, 1) := by decide +kernel
theorem dX2_readOne_65 : decode cX2_readOne 65 = .ok (.aload_n 1, 1) := by decide +kernel
theorem dX2_readOne_66 : decode cX2_readOne 66 = .ok (.invokevirtual 64, 3) := by decide +kernel
theorem dX2_readOne_69 : decode cX2_readOne 69 = .ok (.aload_n 0, 1) := by decide +kernel
theorem dX2_readOne_70 : decode cX2_readOne 70 = .ok (.aload_n 1, 1) := by decide +kernel
theorem dX2_readOne_71 : decode cX2_readOne 71 = .ok (.iload_n 2, 1) := by decide +kernel
theorem dX2_readOne_72 : decode cX2_readOne 72 = .ok (.iconst 1, 1) := by decide +kernel
theorem dX2_readOne_73 : decode cX2_readOne 73 = .ok (.iadd, 1) := by decide +kernel
theorem dX2_readOne_74 : decode cX2_readOne 74 = .ok (.invokevirtual 83, 3) := by decide +kernel
theorem dX2_readOne_77 : decode cX2_readOne 77 = .ok (.aload_n 0, 1) := by decide +kernel
theorem dX2_readOne_78 : decode cX2_readOne 78 = .ok (.iconst 2, 1) := by decide +kernel
theorem dX2_readOne_79 : decode cX2_readOne 79 = .ok (.iconst 0, 1) := by decide +kernel
theorem dX2_readOne_80 : decode cX2_readOne 80 = .ok (.invokevirtual 70, 3) := by decide +kernel
theorem dX2_readOne_83 : decode cX2_readOne 83 = .ok (.goto 45, 3) := by decide +kernel
theorem dX2_readOne_86 : decode cX2_readOne 86 = .ok (.aload_n 0, 1) := by decide +kernel
theorem dX2_readOne_87 : decode cX2_readOne 87 = .ok (.getfield 36, 3) := by decide +kernel
theorem dX2_readOne_90 : decode cX2_readOne 90 = .ok (.bipush 40, 2) := by decide +kernel
theorem dX2_readOne_92 : decode cX2_readOne 92 = .ok (.if_icmp .ne 31, 3) := by decide +kernel
theorem dX2_readOne_95 : decode cX2_readOne 95 = .ok (.iload_n 2, 1) := by decide +kernel
theorem dX2_readOne_96 : decode cX2_readOne 96 = .ok (.iconst 5, 1) := by decide +kernel
theorem dX2_readOne_97 : decode cX2_readOne 97 = .ok (.if_icmp .ge 26, 3) := by decide +kernel
theorem dX2_readOne_100 : decode cX2_readOne 100 = .ok (.aload_n 0, 1) := by decide +kernel
theorem dX2_readOne_101 : decode cX2_readOne 101 = .ok (.aload_n 1, 1) := by decide +kernel
theorem dX2_readOne_102 : decode cX2_readOne 102 = .ok (.invokevirtual 64, 3) := by decide +kernel
theorem dX2_readOne_105 : decode cX2_readOne 105 = .ok (.aload_n 0, 1) := by decide +kernel
theorem dX2_readOne_106 : decode cX2_readOne 106 = .ok (.aload_n 1, 1) := by decide +kernel
theorem dX2_readOne_107 : decode cX2_readOne 107 = .ok (.iload_n 2, 1) := by decide +kernel
theorem dX2_readOne_108 : decode cX2_readOne 108 = .ok (.iconst 1, 1) := by decide +kernel
theorem dX2_readOne_109 : decode cX2_readOne 109 = .ok (.iadd, 1) := by decide +kernel
theorem dX2_readOne_110 : decode cX2_readOne 110 = .ok (.invokevirtual 58, 3) := by decide +kernel
theorem dX2_readOne_113 : decode cX2_readOne 113 = .ok (.aload_n 0, 1) := by decide +kernel
theorem dX2_readOne_114 : decode cX2_readOne 114 = .ok (.aload_n 1, 1) := by decide +kernel
theorem dX2_readOne_115 : decode cX2_readOne 115 = .ok (.bipush 41, 2) := by decide +kernel
theorem dX2_readOne_117 : decode cX2_readOne 117 = .ok (.invokevirtual 43, 3) := by decide +kernel
theorem dX2_readOne_120 : decode cX2_readOne 120 = .ok (.goto 8, 3) := by decide +kernel
theorem dX2_readOne_123 : decode cX2_readOne 123 = .ok (.aload_n 0, 1) := by decide +kernel
theorem dX2_readOne_124 : decode cX2_readOne 124 = .ok (.aload_n 1, 1) := by decide +kernel
theorem dX2_readOne_125 : decode cX2_readOne 125 = .ok (.invokevirtual 89, 3) := by decide +kernel
theorem dX2_readOne_128 : decode cX2_readOne 128 = .ok (.return_, 1) := by decide +kernel
theorem dX2_expect_0 : decode cX2_expect 0 = .ok (.aload_n 0, 1) := by decide +kernel
theorem dX2_expect_1 : decode cX2_expect 1 = .ok (.getfield 36, 3) := by decide +kernel
theorem dX2_expect_4 : decode cX2_expect 4 = .ok (.iload_n 2, 1) := by decide +kernel
theorem dX2_expect_5 : decode cX2_expect 5 = .ok (.if_icmp .ne 11, 3) := by decide +kernel
theorem dX2_expect_8 : decode cX2_expect 8 = .ok (.aload_n 0, 1) := by decide +kernel
theorem dX2_expect_9 : decode cX2_expect 9 = .ok (.aload_n 1, 1) := by decide +kernel
theorem dX2_expect_10 : decode cX2_expect 10 = .ok (.invokevirtual 64, 3) := by decide +kernel
theorem dX2_expect_13 : decode cX2_expect 13 = .ok (.goto 8, 3) := by decide +kernel
theorem dX2_expect_16 : decode cX2_expect 16 = .ok (.aload_n 0, 1) := by decide +kernel
theorem dX2_expect_17 : decode cX2_expect 17 = .ok (.aload_n 1, 1) := by decide +kernel
theorem dX2_expect_18 : decode cX2_expect 18 = .ok (.invokevirtual 89, 3) := by decide +kernel
theorem dX2_expect_21 : decode cX2_expect 21 = .ok (.return_, 1) := by decide +kernel
theorem dX2_advance_0 : decode cX2_advance 0 = .ok (.aload_n 0, 1) := by decide +kernel
theorem dX2_advance_1 : decode cX2_advance 1 = .ok (.getfield 23, 3) := by decide +kernel
theorem dX2_advance_4 : decode cX2_advance 4 = .ok (.iconst 1, 1) := by decide +kernel
theorem dX2_advance_5 : decode cX2_advance 5 = .ok (.iadd, 1) := by decide +kernel
theorem dX2_advance_6 : decode cX2_advance 6 = .ok (.aload_n 1, 1) := by decide +kernel
theorem dX2_advance_7 : decode cX2_advance 7 = .ok (.getfield 92, 3) := by decide +kernel
theorem dX2_advance_10 : decode cX2_advance 10 = .ok (.if_icmp .ge 13, 3) := by decide +kernel
theorem dX2_advance_13 : decode cX2_advance 13 = .ok (.aload_n 0, 1) := by decide +kernel
theorem dX2_advance_14 : decode cX2_advance 14 = .ok (.dup, 1) := by decide +kernel
theorem dX2_advance_15 : decode cX2_advance 15 = .ok (.getfield 23, 3) := by decide +kernel
theorem dX2_advance_18 : decode cX2_advance 18 = .ok (.iconst 1, 1) := by decide +kernel
theorem dX2_advance_19 : decode cX2_advance 19 = .ok (.iadd, 1) := by decide +kernel
theorem dX2_advance_20 : decode cX2_advance 20 = .ok (.putfield 23, 3) := by decide +kernel
theorem dX2_advance_23 : decode cX2_advance 23 = .ok (.aload_n 0, 1) := by decide +kernel
theorem dX2_advance_24 : decode cX2_advance 24 = .ok (.aload_n 1, 1) := by decide +kernel
theorem dX2_advance_25 : decode cX2_advance 25 = .ok (.getfield 33, 3) := by decide +kernel
theorem dX2_advance_28 : decode cX2_advance 28 = .ok (.aload_n 0, 1) := by decide +kernel
theorem dX2_advance_29 : decode cX2_advance 29 = .ok (.getfield 23, 3) := by decide +kernel
theorem dX2_advance_32 : decode cX2_advance 32 = .ok (.iaload, 1) := by decide +kernel
theorem dX2_advance_33 : decode cX2_advance 33 = .ok (.putfield 36, 3) := by decide +kernel
theorem dX2_advance_36 : decode cX2_advance 36 = .ok (.return_, 1) := by decide +kernel
theorem dX2_fail_0 : decode cX2_fail 0 = .ok (.aload_n 0, 1) := by decide +kernel
theorem dX2_fail_1 : decode cX2_fail 1 = .ok (.getfield 30, 3) := by decide +kernel
theorem dX2_fail_4 : decode cX2_fail 4 = .ok (.iconst (-1), 1) := by decide +kernel
theorem dX2_fail_5 : decode cX2_fail 5 = .ok (.if_icmp .ne 16, 3) := by decide +kernel
theorem dX2_fail_8 : decode cX2_fail 8 = .ok (.aload_n 0, 1) := by decide +kernel
theorem dX2_fail_9 : decode cX2_fail 9 = .ok (.aload_n 1, 1) := by decide +kernel
theorem dX2_fail_10 : decode cX2_fail 10 = .ok (.getfield 95, 3) := by decide +kernel
theorem dX2_fail_13 : decode cX2_fail 13 = .ok (.aload_n 0, 1) := by decide +kernel
theorem dX2_fail_14 : decode cX2_fail 14 = .ok (.getfield 23, 3) := by decide +kernel
theorem dX2_fail_17 : decode cX2_fail 17 = .ok (.iaload, 1) := by decide +kernel
theorem dX2_fail_18 : decode cX2_fail 18 = .ok (.putfield 30, 3) := by decide +kernel
theorem dX2_fail_21 : decode cX2_fail 21 = .ok (.aload_n 0, 1) := by decide +kernel
theorem dX2_fail_22 : decode cX2_fail 22 = .ok (.bipush (-2), 2) := by decide +kernel
theorem dX2_fail_24 : decode cX2_fail 24 = .ok (.putfield 36, 3) := by decide +kernel
theorem dX2_fail_27 : decode cX2_fail 27 = .ok (.return_, 1) := by decide +kernel
theorem dX2_emit_0 : decode cX2_emit 0 = .ok (.aload_n 0, 1) := by decide +kernel
theorem dX2_emit_1 : decode cX2_emit 1 = .ok (.getfield 27, 3) := by decide +kernel
theorem dX2_emit_4 : decode cX2_emit 4 = .ok (.aload_n 0, 1) := by decide +kernel
theorem dX2_emit_5 : decode cX2_emit 5 = .ok (.getfield 9, 3) := by decide +kernel
theorem dX2_emit_8 : decode cX2_emit 8 = .ok (.arraylength, 1) := by decide +kernel
theorem dX2_emit_9 : decode cX2_emit 9 = .ok (.if_icmp .ge 28, 3) := by decide +kernel
theorem dX2_emit_12 : decode cX2_emit 12 = .ok (.aload_n 0, 1) := by decide +kernel
theorem dX2_emit_13 : decode cX2_emit 13 = .ok (.getfield 9, 3) := by decide +kernel
theorem dX2_emit_16 : decode cX2_emit 16 = .ok (.aload_n 0, 1) := by decide +kernel
theorem dX2_emit_17 : decode cX2_emit 17 = .ok (.getfield 27, 3) := by decide +kernel
theorem dX2_emit_20 : decode cX2_emit 20 = .ok (.iload_n 2, 1) := by decide +kernel
theorem dX2_emit_21 : decode cX2_emit 21 = .ok (.bipush 16, 2) := by decide +kernel
theorem dX2_emit_23 : decode cX2_emit 23 = .ok (.imul, 1) := by decide +kernel
theorem dX2_emit_24 : decode cX2_emit 24 = .ok (.iload_n 1, 1) := by decide +kernel
theorem dX2_emit_25 : decode cX2_emit 25 = .ok (.iadd, 1) := by decide +kernel
theorem dX2_emit_26 : decode cX2_emit 26 = .ok (.iastore, 1) := by decide +kernel
theorem dX2_emit_27 : decode cX2_emit 27 = .ok (.aload_n 0, 1) := by decide +kernel
theorem dX2_emit_28 : decode cX2_emit 28 = .ok (.dup, 1) := by decide +kernel
theorem dX2_emit_29 : decode cX2_emit 29 = .ok (.getfield 27, 3) := by decide +kernel
theorem dX2_emit_32 : decode cX2_emit 32 = .ok (.iconst 1, 1) := by decide +kernel
theorem dX2_emit_33 : decode cX2_emit 33 = .ok (.iadd, 1) := by decide +kernel
theorem dX2_emit_34 : decode cX2_emit 34 = .ok (.putfield 27, 3) := by decide +kernel
theorem dX2_emit_37 : decode cX2_emit 37 = .ok (.return_, 1) := by decide +kernel
theorem dX3_init_0 : decode cX3_init 0 = .ok (.aload_n 0, 1) := by decide +kernel
theorem dX3_init_1 : decode cX3_init 1 = .ok (.invokespecial 3, 3) := by decide +kernel
theorem dX3_init_4 : decode cX3_init 4 = .ok (.aload_n 0, 1) := by decide +kernel
theorem dX3_init_5 : decode cX3_init 5 = .ok (.bipush 6, 2) := by decide +kernel
theorem dX3_init_7 : decode cX3_init 7 = .ok (.anewarray 9, 3) := by decide +kernel
theorem dX3_init_10 : decode cX3_init 10 = .ok (.putfield 11, 3) := by decide +kernel
theorem dX3_init_13 : decode cX3_init 13 = .ok (.aload_n 0, 1) := by decide +kernel
theorem dX3_init_14 : decode cX3_init 14 = .ok (.bipush 6, 2) := by decide +kernel
theorem dX3_init_16 : decode cX3_init 16 = .ok (.newarray .int, 2) := by decide +kernel
theorem dX3_init_18 : decode cX3_init 18 = .ok (.putfield 17, 3) := by decide +kernel
theorem dX3_init_21 : decode cX3_init 21 = .ok (.aload_n 0, 1) := by decide +kernel
theorem dX3_init_22 : decode cX3_init 22 = .ok (.sipush 160, 3) := by decide +kernel
theorem dX3_init_25 : decode cX3_init 25 = .ok (.newarray .int, 2) := by decide +kernel
theorem dX3_init_27 : decode cX3_init 27 = .ok (.putfield 21, 3) := by decide +kernel
theorem dX3_init_30 : decode cX3_init 30 = .ok (.return_, 1) := by decide +kernel
theorem dX3_add_0 : decode cX3_add 0 = .ok (.aload_n 0, 1) := by decide +kernel
theorem dX3_add_1 : decode cX3_add 1 = .ok (.getfield 24, 3) := by decide +kernel
theorem dX3_add_4 : decode cX3_add 4 = .ok (.bipush 6, 2) := by decide +kernel
theorem dX3_add_6 : decode cX3_add 6 = .ok (.if_icmp .lt 6, 3) := by decide +kernel
theorem dX3_add_9 : decode cX3_add 9 = .ok (.bipush (-4), 2) := by decide +kernel
theorem dX3_add_11 : decode cX3_add 11 = .ok (.ireturn, 1) := by decide +kernel
theorem dX3_add_12 : decode cX3_add 12 = .ok (.aload_n 0, 1) := by decide +kernel
theorem dX3_add_13 : decode cX3_add 13 = .ok (.getfield 11, 3) := by decide +kernel
theorem dX3_add_16 : decode cX3_add 16 = .ok (.aload_n 0, 1) := by decide +kernel
theorem dX3_add_17 : decode cX3_add 17 = .ok (.getfield 24, 3) := by decide +kernel
theorem dX3_add_20 : decode cX3_add 20 = .ok (.aload_n 1, 1) := by decide +kernel
theorem dX3_add_21 : decode cX3_add 21 = .ok (.aastore, 1) := by decide +kernel
theorem dX3_add_22 : decode cX3_add 22 = .ok (.aload_n 0, 1) := by decide +kernel
theorem dX3_add_23 : decode cX3_add 23 = .ok (.dup, 1) := by decide +kernel
theorem dX3_add_24 : decode cX3_add 24 = .ok (.getfield 24, 3) := by decide +kernel
theorem dX3_add_27 : decode cX3_add 27 = .ok (.iconst 1, 1) := by decide +kernel
theorem dX3_add_28 : decode cX3_add 28 = .ok (.iadd, 1) := by decide +kernel
theorem dX3_add_29 : decode cX3_add 29 = .ok (.putfield 24, 3) := by decide +kernel
theorem dX3_add_32 : decode cX3_add 32 = .ok (.aload_n 0, 1) := by decide +kernel
theorem dX3_add_33 : decode cX3_add 33 = .ok (.getfield 24, 3) := by decide +kernel
theorem dX3_add_36 : decode cX3_add 36 = .ok (.iconst 1, 1) := by decide +kernel
theorem dX3_add_37 : decode cX3_add 37 = .ok (.isub, 1) := by decide +kernel
theorem dX3_add_38 : decode cX3_add 38 = .ok (.ireturn, 1) := by decide +kernel
theorem dX3_worth_0 : decode cX3_worth 0 = .ok (.iload_n 1, 1) := by decide +kernel
theorem dX3_worth_1 : decode cX3_worth 1 = .ok (.ifCond .lt 20, 3) := by decide +kernel
theorem dX3_worth_4 : decode cX3_worth 4 = .ok (.iload_n 1, 1) := by decide +kernel
theorem dX3_worth_5 : decode cX3_worth 5 = .ok (.aload_n 0, 1) := by decide +kernel
theorem dX3_worth_6 : decode cX3_worth 6 = .ok (.getfield 24, 3) := by decide +kernel
theorem dX3_worth_9 : decode cX3_worth 9 = .ok (.if_icmp .ge 12, 3) := by decide +kernel
theorem dX3_worth_12 : decode cX3_worth 12 = .ok (.aload_n 0, 1) := by decide +kernel
theorem dX3_worth_13 : decode cX3_worth 13 = .ok (.getfield 11, 3) := by decide +kernel
theorem dX3_worth_16 : decode cX3_worth 16 = .ok (.iload_n 1, 1) := by decide +kernel
theorem dX3_worth_17 : decode cX3_worth 17 = .ok (.aaload, 1) := by decide +kernel
theorem dX3_worth_18 : decode cX3_worth 18 = .ok (.ifnonnull 5, 3) := by decide +kernel
theorem dX3_worth_21 : decode cX3_worth 21 = .ok (.iconst 0, 1) := by decide +kernel
theorem dX3_worth_22 : decode cX3_worth 22 = .ok (.ireturn, 1) := by decide +kernel
theorem dX3_worth_23 : decode cX3_worth 23 = .ok (.aload_n 3, 1) := by decide +kernel
theorem dX3_worth_24 : decode cX3_worth 24 = .ok (.iload 4, 2) := by decide +kernel
theorem dX3_worth_26 : decode cX3_worth 26 = .ok (.invokevirtual 28, 3) := by decide +kernel
theorem dX3_worth_29 : decode cX3_worth 29 = .ok (.istore 6, 2) := by decide +kernel
theorem dX3_worth_31 : decode cX3_worth 31 = .ok (.aload_n 0, 1) := by decide +kernel
theorem dX3_worth_32 : decode cX3_worth 32 = .ok (.getfield 17, 3) := by decide +kernel
theorem dX3_worth_35 : decode cX3_worth 35 = .ok (.iconst 0, 1) := by decide +kernel
theorem dX3_worth_36 : decode cX3_worth 36 = .ok (.iload 4, 2) := by decide +kernel
theorem dX3_worth_38 : decode cX3_worth 38 = .ok (.iastore, 1) := by decide +kernel
theorem dX3_worth_39 : decode cX3_worth 39 = .ok (.aload_n 0, 1) := by decide +kernel
theorem dX3_worth_40 : decode cX3_worth 40 = .ok (.getfield 17, 3) := by decide +kernel
theorem dX3_worth_43 : decode cX3_worth 43 = .ok (.iconst 1, 1) := by decide +kernel
theorem dX3_worth_44 : decode cX3_worth 44 = .ok (.aload_n 3, 1) := by decide +kernel
theorem dX3_worth_45 : decode cX3_worth 45 = .ok (.getfield 34, 3) := by decide +kernel
theorem dX3_worth_48 : decode cX3_worth 48 = .ok (.iastore, 1) := by decide +kernel
theorem dX3_worth_49 : decode cX3_worth 49 = .ok (.aload_n 0, 1) := by decide +kernel
theorem dX3_worth_50 : decode cX3_worth 50 = .ok (.getfield 17, 3) := by decide +kernel
theorem dX3_worth_53 : decode cX3_worth 53 = .ok (.iconst 2, 1) := by decide +kernel
theorem dX3_worth_54 : decode cX3_worth 54 = .ok (.aload_n 3, 1) := by decide +kernel
theorem dX3_worth_55 : decode cX3_worth 55 = .ok (.getfield 37, 3) := by decide +kernel
theorem dX3_worth_58 : decode cX3_worth 58 = .ok (.iastore, 1) := by decide +kernel
theorem dX3_worth_59 : decode cX3_worth 59 = .ok (.aload_n 0, 1) := by decide +kernel
theorem dX3_worth_60 : decode cX3_worth 60 = .ok (.getfield 17, 3) := by decide +kernel
theorem dX3_worth_63 : decode cX3_worth 63 = .ok (.iconst 3, 1) := by decide +kernel
theorem dX3_worth_64 : decode cX3_worth 64 = .ok (.iload 6, 2) := by decide +kernel
theorem dX3_worth_66 : decode cX3_worth 66 = .ok (.invokestatic 40, 3) := by decide +kernel
theorem dX3_worth_69 : decode cX3_worth 69 = .ok (.ifCond .eq 11, 3) := by decide +kernel
theorem dX3_worth_72 : decode cX3_worth 72 = .ok (.aload 5, 2) := by decide +kernel
theorem dX3_worth_74 : decode cX3_worth 74 = .ok (.iload 6, 2) := by decide +kernel
theorem dX3_worth_76 : decode cX3_worth 76 = .ok (.iaload, 1) := by decide +kernel
theorem dX3_worth_77 : decode cX3_worth 77 = .ok (.goto 4, 3) := by decide +kernel
theorem dX3_worth_80 : decode cX3_worth 80 = .ok (.iconst 0, 1) := by decide +kernel
theorem dX3_worth_81 : decode cX3_worth 81 = .ok (.iastore, 1) := by decide +kernel
theorem dX3_worth_82 : decode cX3_worth 82 = .ok (.aload_n 0, 1) := by decide +kernel
theorem dX3_worth_83 : decode cX3_worth 83 = .ok (.getfield 17, 3) := by decide +kernel
theorem dX3_worth_86 : decode cX3_worth 86 = .ok (.iconst 4, 1) := by decide +kernel
theorem dX3_worth_87 : decode cX3_worth 87 = .ok (.aload_n 3, 1) := by decide +kernel
theorem dX3_worth_88 : decode cX3_worth 88 = .ok (.getfield 44, 3) := by decide +kernel
theorem dX3_worth_91 : decode cX3_worth 91 = .ok (.iastore, 1) := by decide +kernel
theorem dX3_worth_92 : decode cX3_worth 92 = .ok (.aload_n 0, 1) := by decide +kernel
theorem dX3_worth_93 : decode cX3_worth 93 = .ok (.getfield 17, 3) := by decide +kernel
theorem dX3_worth_96 : decode cX3_worth 96 = .ok (.iconst 5, 1) := by decide +kernel
theorem dX3_worth_97 : decode cX3_worth 97 = .ok (.aload_n 3, 1) := by decide +kernel
theorem dX3_worth_98 : decode cX3_worth 98 = .ok (.getfield 47, 3) := by decide +kernel
theorem dX3_worth_101 : decode cX3_worth 101 = .ok (.iastore, 1) := by decide +kernel
theorem dX3_worth_102 : decode cX3_worth 102 = .ok (.iload_n 2, 1) := by decide +kernel
theorem dX3_worth_103 : decode cX3_worth 103 = .ok (.ifCond .ne 7, 3) := by decide +kernel
theorem dX3_worth_106 : decode cX3_worth 106 = .ok (.iconst 1, 1) := by decide +kernel
theorem dX3_worth_107 : decode cX3_worth 107 = .ok (.goto 4, 3) := by decide +kernel
theorem dX3_worth_110 : decode cX3_worth 110 = .ok (.iconst 0, 1) := by decide +kernel
theorem dX3_worth_111 : decode cX3_worth 111 = .ok (.istore 7, 2) := by decide +kernel
theorem dX3_worth_113 : decode cX3_worth 113 = .ok (.iload 7, 2) := by decide +kernel
theorem dX3_worth_115 : decode cX3_worth 115 = .ok (.bipush 99, 2) := by decide +kernel
theorem dX3_worth_117 : decode cX3_worth 117 = .ok (.aload_n 0, 1) := by decide +kernel
theorem dX3_worth_118 : decode cX3_worth 118 = .ok (.aload_n 0, 1) := by decide +kernel
theorem dX3_worth_119 : decode cX3_worth 119 = .ok (.getfield 11, 3) := by decide +kernel
theorem dX3_worth_122 : decode cX3_worth 122 = .ok (.iload_n 1, 1) := by decide +kernel
theorem dX3_worth_123 : decode cX3_worth 123 = .ok (.aaload, 1) := by decide +kernel
theorem dX3_worth_124 : decode cX3_worth 124 = .ok (.iload_n 2, 1) := by decide +kernel
theorem dX3_worth_125 : decode cX3_worth 125 = .ok (.invokevirtual 50, 3) := by decide +kernel
theorem dX3_worth_128 : decode cX3_worth 128 = .ok (.invokestatic 54, 3) := by decide +kernel
theorem dX3_worth_131 : decode cX3_worth 131 = .ok (.invokestatic 60, 3) := by decide +kernel
theorem dX3_worth_134 : decode cX3_worth 134 = .ok (.ireturn, 1) := by decide +kernel
theorem dX3_reckon_0 : decode cX3_reckon 0 = .ok (.iconst 0, 1) := by decide +kernel
theorem dX3_reckon_1 : decode cX3_reckon 1 = .ok (.istore_n 3, 1) := by decide +kernel
theorem dX3_reckon_2 : decode cX3_reckon 2 = .ok (.aload_n 1, 1) := by decide +kernel
theorem dX3_reckon_3 : decode cX3_reckon 3 = .ok (.iload_n 2, 1) := by decide +kernel
theorem dX3_reckon_4 : decode cX3_reckon 4 = .ok (.invokevirtual 63, 3) := by decide +kernel
theorem dX3_reckon_7 : decode cX3_reckon 7 = .ok (.istore 4, 2) := by decide +kernel
theorem dX3_reckon_9 : decode cX3_reckon 9 = .ok (.iload 4, 2) := by decide +kernel
theorem dX3_reckon_11 : decode cX3_reckon 11 = .ok (.aload_n 1, 1) := by decide +kernel
theorem dX3_reckon_12 : decode cX3_reckon 12 = .ok (.iload_n 2, 1) := by decide +kernel
theorem dX3_reckon_13 : decode cX3_reckon 13 = .ok (.invokevirtual 66, 3) := by decide +kernel
theorem dX3_reckon_16 : decode cX3_reckon 16 = .ok (.if_icmp .ge 185, 3) := by decide +kernel
theorem dX3_reckon_19 : decode cX3_reckon 19 = .ok (.aload_n 1, 1) := by decide +kernel
theorem dX3_reckon_20 : decode cX3_reckon 20 = .ok (.getfield 69, 3) := by decide +kernel
theorem dX3_reckon_23 : decode cX3_reckon 23 = .ok (.iload 4, 2) := by decide +kernel
theorem dX3_reckon_25 : decode cX3_reckon 25 = .ok (.iaload, 1) := by decide +kernel
theorem dX3_reckon_26 : decode cX3_reckon 26 = .ok (.bipush 16, 2) := by decide +kernel
theorem dX3_reckon_28 : decode cX3_reckon 28 = .ok (.irem, 1) := by decide +kernel
theorem dX3_reckon_29 : decode cX3_reckon 29 = .ok (.istore 5, 2) := by decide +kernel
theorem dX3_reckon_31 : decode cX3_reckon 31 = .ok (.aload_n 1, 1) := by decide +kernel
theorem dX3_reckon_32 : decode cX3_reckon 32 = .ok (.getfield 69, 3) := by decide +kernel
theorem dX3_reckon_35 : decode cX3_reckon 35 = .ok (.iload 4, 2) := by decide +kernel
theorem dX3_reckon_37 : decode cX3_reckon 37 = .ok (.iaload, 1) := by decide +kernel
theorem dX3_reckon_38 : decode cX3_reckon 38 = .ok (.bipush 16, 2) := by decide +kernel
theorem dX3_reckon_40 : decode cX3_reckon 40 = .ok (.idiv, 1) := by decide +kernel
theorem dX3_reckon_41 : decode cX3_reckon 41 = .ok (.istore 6, 2) := by decide +kernel
theorem dX3_reckon_43 : decode cX3_reckon 43 = .ok (.iload 5, 2) := by decide +kernel
theorem dX3_reckon_45 : decode cX3_reckon 45 = .ok (.ifCond .eq 9, 3) := by decide +kernel
theorem dX3_reckon_48 : decode cX3_reckon 48 = .ok (.iload 5, 2) := by decide +kernel
theorem dX3_reckon_50 : decode cX3_reckon 50 = .ok (.iconst 1, 1) := by decide +kernel
theorem dX3_reckon_51 : decode cX3_reckon 51 = .ok (.if_icmp .ne 42, 3) := by decide +kernel
theorem dX3_reckon_54 : decode cX3_reckon 54 = .ok (.iload_n 3, 1) := by decide +kernel
theorem dX3_reckon_55 : decode cX3_reckon 55 = .ok (.aload_n 0, 1) := by decide +kernel
theorem dX3_reckon_56 : decode cX3_reckon 56 = .ok (.getfield 21, 3) := by decide +kernel
theorem dX3_reckon_59 : decode cX3_reckon 59 = .ok (.arraylength, 1) := by decide +kernel
theorem dX3_reckon_60 : decode cX3_reckon 60 = .ok (.if_icmp .lt 5, 3) := by decide +kernel
theorem dX3_reckon_63 : decode cX3_reckon 63 = .ok (.iconst 0, 1) := by decide +kernel
theorem dX3_reckon_64 : decode cX3_reckon 64 = .ok (.ireturn, 1) := by decide +kernel
theorem dX3_reckon_65 : decode cX3_reckon 65 = .ok (.aload_n 0, 1) := by decide +kernel
theorem dX3_reckon_66 : decode cX3_reckon 66 = .ok (.getfield 21, 3) := by decide +kernel
theorem dX3_reckon_69 : decode cX3_reckon 69 = .ok (.iload_n 3, 1) := by decide +kernel
theorem dX3_reckon_70 : decode cX3_reckon 70 = .ok (.iload 5, 2) := by decide +kernel
theorem dX3_reckon_72 : decode cX3_reckon 72 = .ok (.ifCond .ne 8, 3) := by decide +kernel
theorem dX3_reckon_75 : decode cX3_reckon 75 = .ok (.iload 6, 2) := by decide +kernel
theorem dX3_reckon_77 : decode cX3_reckon 77 = .ok (.goto 9, 3) := by decide +kernel
theorem dX3_reckon_80 : decode cX3_reckon 80 = .ok (.aload_n 0, 1) := by decide +kernel
theorem dX3_reckon_81 : decode cX3_reckon 81 = .ok (.iload 6, 2) := by decide +kernel
theorem dX3_reckon_83 : decode cX3_reckon 83 = .ok (.invokevirtual 72, 3) := by decide +kernel
theorem dX3_reckon_86 : decode cX3_reckon 86 = .ok (.iastore, 1) := by decide +kernel
theorem dX3_reckon_87 : decode cX3_reckon 87 = .ok (.iinc 3 1, 3) := by decide +kernel
theorem dX3_reckon_90 : decode cX3_reckon 90 = .ok (.goto 105, 3) := by decide +kernel
theorem dX3_reckon_93 : decode cX3_reckon 93 = .ok (.iload 5, 2) := by decide +kernel
theorem dX3_reckon_95 : decode cX3_reckon 95 = .ok (.iconst 2, 1) := by decide +kernel
theorem dX3_reckon_96 : decode cX3_reckon 96 = .ok (.if_icmp .eq 9, 3) := by decide +kernel
theorem dX3_reckon_99 : decode cX3_reckon 99 = .ok (.iload 5, 2) := by decide +kernel
theorem dX3_reckon_101 : decode cX3_reckon 101 = .ok (.iconst 3, 1) := by decide +kernel
theorem dX3_reckon_102 : decode cX3_reckon 102 = .ok (.if_icmp .ne 56, 3) := by decide +kernel
theorem dX3_reckon_105 : decode cX3_reckon 105 = .ok (.iload_n 3, 1) := by decide +kernel
theorem dX3_reckon_106 : decode cX3_reckon 106 = .ok (.iconst 1, 1) := by decide +kernel
theorem dX3_reckon_107 : decode cX3_reckon 107 = .ok (.if_icmp .ge 5, 3) := by decide +kernel
theorem dX3_reckon_110 : decode cX3_reckon 110 = .ok (.iconst 0, 1) := by decide +kernel
theorem dX3_reckon_111 : decode cX3_reckon 111 = .ok (.ireturn, 1) := by decide +kernel
theorem dX3_reckon_112 : decode cX3_reckon 112 = .ok (.aload_n 0, 1) := by decide +kernel
theorem dX3_reckon_113 : decode cX3_reckon 113 = .ok (.getfield 21, 3) := by decide +kernel
theorem dX3_reckon_116 : decode cX3_reckon 116 = .ok (.iload_n 3, 1) := by decide +kernel
theorem dX3_reckon_117 : decode cX3_reckon 117 = .ok (.iconst 1, 1) := by decide +kernel
theorem dX3_reckon_118 : decode cX3_reckon 118 = .ok (.isub, 1) := by decide +kernel
theorem dX3_reckon_119 : decode cX3_reckon 119 = .ok (.iaload, 1) := by decide +kernel
theorem dX3_reckon_120 : decode cX3_reckon 120 = .ok (.istore 7, 2) := by decide +kernel
theorem dX3_reckon_122 : decode cX3_reckon 122 = .ok (.aload_n 0, 1) := by decide +kernel
theorem dX3_reckon_123 : decode cX3_reckon 123 = .ok (.getfield 21, 3) := by decide +kernel
theorem dX3_reckon_126 : decode cX3_reckon 126 = .ok (.iload_n 3, 1) := by decide +kernel
theorem dX3_reckon_127 : decode cX3_reckon 127 = .ok (.iconst 1, 1) := by decide +kernel
theorem dX3_reckon_128 : decode cX3_reckon 128 = .ok (.isub, 1) := by decide +kernel
theorem dX3_reckon_129 : decode cX3_reckon 129 = .ok (.iload 5, 2) := by decide +kernel
theorem dX3_reckon_131 : decode cX3_reckon 131 = .ok (.iconst 2, 1) := by decide +kernel
theorem dX3_reckon_132 : decode cX3_reckon 132 = .ok (.if_icmp .ne 9, 3) := by decide +kernel
theorem dX3_reckon_135 : decode cX3_reckon 135 = .ok (.iload 7, 2) := by decide +kernel
theorem dX3_reckon_137 : decode cX3_reckon 137 = .ok (.ineg, 1) := by decide +kernel
theorem dX3_reckon_138 : decode cX3_reckon 138 = .ok (.goto 16, 3) := by decide +kernel
theorem dX3_reckon_141 : decode cX3_reckon 141 = .ok (.iload 7, 2) := by decide +kernel
theorem dX3_reckon_143 : decode cX3_reckon 143 = .ok (.ifCond .ne 7, 3) := by decide +kernel
theorem dX3_reckon_146 : decode cX3_reckon 146 = .ok (.iconst 1, 1) := by decide +kernel
theorem dX3_reckon_147 : decode cX3_reckon 147 = .ok (.goto 4, 3) := by decide +kernel
theorem dX3_reckon_150 : decode cX3_reckon 150 = .ok (.iconst 0, 1) := by decide +kernel
theorem dX3_reckon_151 : decode cX3_reckon 151 = .ok (.invokestatic 75, 3) := by decide +kernel
theorem dX3_reckon_154 : decode cX3_reckon 154 = .ok (.iastore, 1) := by decide +kernel
theorem dX3_reckon_155 : decode cX3_reckon 155 = .ok (.goto 40, 3) := by decide +kernel
theorem dX3_reckon_158 : decode cX3_reckon 158 = .ok (.iload_n 3, 1) := by decide +kernel
theorem dX3_reckon_159 : decode cX3_reckon 159 = .ok (.iconst 2, 1) := by decide +kernel
theorem dX3_reckon_160 : decode cX3_reckon 160 = .ok (.if_icmp .ge 5, 3) := by decide +kernel
theorem dX3_reckon_163 : decode cX3_reckon 163 = .ok (.iconst 0, 1) := by decide +kernel
theorem dX3_reckon_164 : decode cX3_reckon 164 = .ok (.ireturn, 1) := by decide +kernel
theorem dX3_reckon_165 : decode cX3_reckon 165 = .ok (.iinc 3 (-1), 3) := by decide +kernel
theorem dX3_reckon_168 : decode cX3_reckon 168 = .ok (.aload_n 0, 1) := by decide +kernel
theorem dX3_reckon_169 : decode cX3_reckon 169 = .ok (.getfield 21, 3) := by decide +kernel
theorem dX3_reckon_172 : decode cX3_reckon 172 = .ok (.iload_n 3, 1) := by decide +kernel
theorem dX3_reckon_173 : decode cX3_reckon 173 = .ok (.iconst 1, 1) := by decide +kernel
theorem dX3_reckon_174 : decode cX3_reckon 174 = .ok (.isub, 1) := by decide +kernel
theorem dX3_reckon_175 : decode cX3_reckon 175 = .ok (.iload 5, 2) := by decide +kernel
theorem dX3_reckon_177 : decode cX3_reckon 177 = .ok (.aload_n 0, 1) := by decide +kernel
theorem dX3_reckon_178 : decode cX3_reckon 178 = .ok (.getfield 21, 3) := by decide +kernel
theorem dX3_reckon_181 : decode cX3_reckon 181 = .ok (.iload_n 3, 1) := by decide +kernel
theorem dX3_reckon_182 : decode cX3_reckon 182 = .ok (.iconst 1, 1) := by decide +kernel
theorem dX3_reckon_183 : decode cX3_reckon 183 = .ok (.isub, 1) := by decide +kernel
theorem dX3_reckon_184 : decode cX3_reckon 184 = .ok (.iaload, 1) := by decide +kernel
theorem dX3_reckon_185 : decode cX3_reckon 185 = .ok (.aload_n 0, 1) := by decide +kernel
theorem dX3_reckon_186 : decode cX3_reckon 186 = .ok (.getfield 21, 3) := by decide +kernel
theorem dX3_reckon_189 : decode cX3_reckon 189 = .ok (.iload_n 3, 1) := by decide +kernel
theorem dX3_reckon_190 : decode cX3_reckon 190 = .ok (.iaload, 1) := by decide +kernel
theorem dX3_reckon_191 : decode cX3_reckon 191 = .ok (.invokestatic 79, 3) := by decide +kernel
theorem dX3_reckon_194 : decode cX3_reckon 194 = .ok (.iastore, 1) := by decide +kernel
theorem dX3_reckon_195 : decode cX3_reckon 195 = .ok (.iinc 4 1, 3) := by decide +kernel
theorem dX3_reckon_198 : decode cX3_reckon 198 = .ok (.goto (-189), 3) := by decide +kernel
theorem dX3_reckon_201 : decode cX3_reckon 201 = .ok (.iload_n 3, 1) := by decide +kernel
theorem dX3_reckon_202 : decode cX3_reckon 202 = .ok (.ifCond .le 14, 3) := by decide +kernel
theorem dX3_reckon_205 : decode cX3_reckon 205 = .ok (.aload_n 0, 1) := by decide +kernel
theorem dX3_reckon_206 : decode cX3_reckon 206 = .ok (.getfield 21, 3) := by decide +kernel
theorem dX3_reckon_209 : decode cX3_reckon 209 = .ok (.iload_n 3, 1) := by decide +kernel
theorem dX3_reckon_210 : decode cX3_reckon 210 = .ok (.iconst 1, 1) := by decide +kernel
theorem dX3_reckon_211 : decode cX3_reckon 211 = .ok (.isub, 1) := by decide +kernel
theorem dX3_reckon_212 : decode cX3_reckon 212 = .ok (.iaload, 1) := by decide +kernel
theorem dX3_reckon_213 : decode cX3_reckon 213 = .ok (.goto 4, 3) := by decide +kernel
theorem dX3_reckon_216 : decode cX3_reckon 216 = .ok (.iconst 0, 1) := by decide +kernel
theorem dX3_reckon_217 : decode cX3_reckon 217 = .ok (.ireturn, 1) := by decide +kernel
theorem dX3_nameOf_0 : decode cX3_nameOf 0 = .ok (.iload_n 1, 1) := by decide +kernel
theorem dX3_nameOf_1 : decode cX3_nameOf 1 = .ok (.ifCond .lt 21, 3) := by decide +kernel
theorem dX3_nameOf_4 : decode cX3_nameOf 4 = .ok (.iload_n 1, 1) := by decide +kernel
theorem dX3_nameOf_5 : decode cX3_nameOf 5 = .ok (.aload_n 0, 1) := by decide +kernel
theorem dX3_nameOf_6 : decode cX3_nameOf 6 = .ok (.getfield 17, 3) := by decide +kernel
theorem dX3_nameOf_9 : decode cX3_nameOf 9 = .ok (.arraylength, 1) := by decide +kernel
theorem dX3_nameOf_10 : decode cX3_nameOf 10 = .ok (.if_icmp .ge 12, 3) := by decide +kernel
theorem dX3_nameOf_13 : decode cX3_nameOf 13 = .ok (.aload_n 0, 1) := by decide +kernel
theorem dX3_nameOf_14 : decode cX3_nameOf 14 = .ok (.getfield 17, 3) := by decide +kernel
theorem dX3_nameOf_17 : decode cX3_nameOf 17 = .ok (.iload_n 1, 1) := by decide +kernel
theorem dX3_nameOf_18 : decode cX3_nameOf 18 = .ok (.iaload, 1) := by decide +kernel
theorem dX3_nameOf_19 : decode cX3_nameOf 19 = .ok (.goto 4, 3) := by decide +kernel
theorem dX3_nameOf_22 : decode cX3_nameOf 22 = .ok (.iconst 0, 1) := by decide +kernel
theorem dX3_nameOf_23 : decode cX3_nameOf 23 = .ok (.ireturn, 1) := by decide +kernel
theorem dX3_joined_0 : decode cX3_joined 0 = .ok (.iload_n 0, 1) := by decide +kernel
theorem dX3_joined_1 : decode cX3_joined 1 = .ok (.tableswitch 96 4 9 #[39, 43, 47, 51, 65, 79], 39) := by decide +kernel
theorem dX3_joined_40 : decode cX3_joined 40 = .ok (.iload_n 1, 1) := by decide +kernel
theorem dX3_joined_41 : decode cX3_joined 41 = .ok (.iload_n 2, 1) := by decide +kernel
theorem dX3_joined_42 : decode cX3_joined 42 = .ok (.iadd, 1) := by decide +kernel
theorem dX3_joined_43 : decode cX3_joined 43 = .ok (.ireturn, 1) := by decide +kernel
theorem dX3_joined_44 : decode cX3_joined 44 = .ok (.iload_n 1, 1) := by decide +kernel
theorem dX3_joined_45 : decode cX3_joined 45 = .ok (.iload_n 2, 1) := by decide +kernel
theorem dX3_joined_46 : decode cX3_joined 46 = .ok (.isub, 1) := by decide +kernel
theorem dX3_joined_47 : decode cX3_joined 47 = .ok (.ireturn, 1) := by decide +kernel
theorem dX3_joined_48 : decode cX3_joined 48 = .ok (.iload_n 1, 1) := by decide +kernel
theorem dX3_joined_49 : decode cX3_joined 49 = .ok (.iload_n 2, 1) := by decide +kernel
theorem dX3_joined_50 : decode cX3_joined 50 = .ok (.imul, 1) := by decide +kernel
theorem dX3_joined_51 : decode cX3_joined 51 = .ok (.ireturn, 1) := by decide +kernel
theorem dX3_joined_52 : decode cX3_joined 52 = .ok (.iload_n 1, 1) := by decide +kernel
theorem dX3_joined_53 : decode cX3_joined 53 = .ok (.iload_n 2, 1) := by decide +kernel
theorem dX3_joined_54 : decode cX3_joined 54 = .ok (.if_icmp .ge 7, 3) := by decide +kernel
theorem dX3_joined_57 : decode cX3_joined 57 = .ok (.iconst 1, 1) := by decide +kernel
theorem dX3_joined_58 : decode cX3_joined 58 = .ok (.goto 4, 3) := by decide +kernel
theorem dX3_joined_61 : decode cX3_joined 61 = .ok (.iconst 0, 1) := by decide +kernel
theorem dX3_joined_62 : decode cX3_joined 62 = .ok (.invokestatic 75, 3) := by decide +kernel
theorem dX3_joined_65 : decode cX3_joined 65 = .ok (.ireturn, 1) := by decide +kernel
theorem dX3_joined_66 : decode cX3_joined 66 = .ok (.iload_n 1, 1) := by decide +kernel
theorem dX3_joined_67 : decode cX3_joined 67 = .ok (.iload_n 2, 1) := by decide +kernel
theorem dX3_joined_68 : decode cX3_joined 68 = .ok (.if_icmp .ne 7, 3) := by decide +kernel
theorem dX3_joined_71 : decode cX3_joined 71 = .ok (.iconst 1, 1) := by decide +kernel
theorem dX3_joined_72 : decode cX3_joined 72 = .ok (.goto 4, 3) := by decide +kernel
theorem dX3_joined_75 : decode cX3_joined 75 = .ok (.iconst 0, 1) := by decide +kernel
theorem dX3_joined_76 : decode cX3_joined 76 = .ok (.invokestatic 75, 3) := by decide +kernel
theorem dX3_joined_79 : decode cX3_joined 79 = .ok (.ireturn, 1) := by decide +kernel
theorem dX3_joined_80 : decode cX3_joined 80 = .ok (.iload_n 1, 1) := by decide +kernel
theorem dX3_joined_81 : decode cX3_joined 81 = .ok (.ifCond .eq 11, 3) := by decide +kernel
theorem dX3_joined_84 : decode cX3_joined 84 = .ok (.iload_n 2, 1) := by decide +kernel
theorem dX3_joined_85 : decode cX3_joined 85 = .ok (.ifCond .eq 7, 3) := by decide +kernel
theorem dX3_joined_88 : decode cX3_joined 88 = .ok (.iconst 1, 1) := by decide +kernel
theorem dX3_joined_89 : decode cX3_joined 89 = .ok (.goto 4, 3) := by decide +kernel
theorem dX3_joined_92 : decode cX3_joined 92 = .ok (.iconst 0, 1) := by decide +kernel
theorem dX3_joined_93 : decode cX3_joined 93 = .ok (.invokestatic 75, 3) := by decide +kernel
theorem dX3_joined_96 : decode cX3_joined 96 = .ok (.ireturn, 1) := by decide +kernel
theorem dX3_joined_97 : decode cX3_joined 97 = .ok (.iload_n 1, 1) := by decide +kernel
theorem dX3_joined_98 : decode cX3_joined 98 = .ok (.ifCond .ne 7, 3) := by decide +kernel
theorem dX3_joined_101 : decode cX3_joined 101 = .ok (.iload_n 2, 1) := by decide +kernel
theorem dX3_joined_102 : decode cX3_joined 102 = .ok (.ifCond .eq 7, 3) := by decide +kernel
theorem dX3_joined_105 : decode cX3_joined 105 = .ok (.iconst 1, 1) := by decide +kernel
theorem dX3_joined_106 : decode cX3_joined 106 = .ok (.goto 4, 3) := by decide +kernel
theorem dX3_joined_109 : decode cX3_joined 109 = .ok (.iconst 0, 1) := by decide +kernel
theorem dX3_joined_110 : decode cX3_joined 110 = .ok (.invokestatic 75, 3) := by decide +kernel
theorem dX3_joined_113 : decode cX3_joined 113 = .ok (.ireturn, 1) := by decide +kernel
theorem dX3_truth_0 : decode cX3_truth 0 = .ok (.iload_n 0, 1) := by decide +kernel
theorem dX3_truth_1 : decode cX3_truth 1 = .ok (.ifCond .eq 7, 3) := by decide +kernel
theorem dX3_truth_4 : decode cX3_truth 4 = .ok (.iconst 1, 1) := by decide +kernel
theorem dX3_truth_5 : decode cX3_truth 5 = .ok (.goto 4, 3) := by decide +kernel
theorem dX3_truth_8 : decode cX3_truth 8 = .ok (.iconst 0, 1) := by decide +kernel
theorem dX3_truth_9 : decode cX3_truth 9 = .ok (.ireturn, 1) := by decide +kernel
theorem dX4_init_0 : decode cX4_init 0 = .ok (.aload_n 0, 1) := by decide +kernel
theorem dX4_init_1 : decode cX4_init 1 = .ok (.invokespecial 3, 3) := by decide +kernel
theorem dX4_init_4 : decode cX4_init 4 = .ok (.aload_n 0, 1) := by decide +kernel
theorem dX4_init_5 : decode cX4_init 5 = .ok (.bipush 40, 2) := by decide +kernel
theorem dX4_init_7 : decode cX4_init 7 = .ok (.newarray .int, 2) := by decide +kernel
theorem dX4_init_9 : decode cX4_init 9 = .ok (.putfield 9, 3) := by decide +kernel
theorem dX4_init_12 : decode cX4_init 12 = .ok (.aload_n 0, 1) := by decide +kernel
theorem dX4_init_13 : decode cX4_init 13 = .ok (.iconst (-1), 1) := by decide +kernel
theorem dX4_init_14 : decode cX4_init 14 = .ok (.putfield 15, 3) := by decide +kernel
theorem dX4_init_17 : decode cX4_init 17 = .ok (.return_, 1) := by decide +kernel
theorem dX4_isMissing_0 : decode cX4_isMissing 0 = .ok (.aload_n 0, 1) := by decide +kernel
theorem dX4_isMissing_1 : decode cX4_isMissing 1 = .ok (.getfield 15, 3) := by decide +kernel
theorem dX4_isMissing_4 : decode cX4_isMissing 4 = .ok (.iconst (-1), 1) := by decide +kernel
theorem dX4_isMissing_5 : decode cX4_isMissing 5 = .ok (.if_icmp .ne 7, 3) := by decide +kernel
theorem dX4_isMissing_8 : decode cX4_isMissing 8 = .ok (.iconst 1, 1) := by decide +kernel
theorem dX4_isMissing_9 : decode cX4_isMissing 9 = .ok (.goto 4, 3) := by decide +kernel
theorem dX4_isMissing_12 : decode cX4_isMissing 12 = .ok (.iconst 0, 1) := by decide +kernel
theorem dX4_isMissing_13 : decode cX4_isMissing 13 = .ok (.ireturn, 1) := by decide +kernel
theorem dX4_has_0 : decode cX4_has 0 = .ok (.iload_n 1, 1) := by decide +kernel
theorem dX4_has_1 : decode cX4_has 1 = .ok (.ifCond .lt 15, 3) := by decide +kernel
theorem dX4_has_4 : decode cX4_has 4 = .ok (.iload_n 1, 1) := by decide +kernel
theorem dX4_has_5 : decode cX4_has 5 = .ok (.aload_n 0, 1) := by decide +kernel
theorem dX4_has_6 : decode cX4_has 6 = .ok (.getfield 19, 3) := by decide +kernel
theorem dX4_has_9 : decode cX4_has 9 = .ok (.if_icmp .ge 7, 3) := by decide +kernel
theorem dX4_has_12 : decode cX4_has 12 = .ok (.iconst 1, 1) := by decide +kernel
theorem dX4_has_13 : decode cX4_has 13 = .ok (.goto 4, 3) := by decide +kernel
theorem dX4_has_16 : decode cX4_has 16 = .ok (.iconst 0, 1) := by decide +kernel
theorem dX4_has_17 : decode cX4_has 17 = .ok (.ireturn, 1) := by decide +kernel
theorem dX4_hasRun_0 : decode cX4_hasRun 0 = .ok (.iload_n 1, 1) := by decide +kernel
theorem dX4_hasRun_1 : decode cX4_hasRun 1 = .ok (.ifCond .lt 29, 3) := by decide +kernel
theorem dX4_hasRun_4 : decode cX4_hasRun 4 = .ok (.iload_n 2, 1) := by decide +kernel
theorem dX4_hasRun_5 : decode cX4_hasRun 5 = .ok (.ifCond .lt 25, 3) := by decide +kernel
theorem dX4_hasRun_8 : decode cX4_hasRun 8 = .ok (.iload_n 1, 1) := by decide +kernel
theorem dX4_hasRun_9 : decode cX4_hasRun 9 = .ok (.aload_n 0, 1) := by decide +kernel
theorem dX4_hasRun_10 : decode cX4_hasRun 10 = .ok (.getfield 19, 3) := by decide +kernel
theorem dX4_hasRun_13 : decode cX4_hasRun 13 = .ok (.if_icmp .gt 17, 3) := by decide +kernel
theorem dX4_hasRun_16 : decode cX4_hasRun 16 = .ok (.iload_n 2, 1) := by decide +kernel
theorem dX4_hasRun_17 : decode cX4_hasRun 17 = .ok (.aload_n 0, 1) := by decide +kernel
theorem dX4_hasRun_18 : decode cX4_hasRun 18 = .ok (.getfield 19, 3) := by decide +kernel
theorem dX4_hasRun_21 : decode cX4_hasRun 21 = .ok (.iload_n 1, 1) := by decide +kernel
theorem dX4_hasRun_22 : decode cX4_hasRun 22 = .ok (.isub, 1) := by decide +kernel
theorem dX4_hasRun_23 : decode cX4_hasRun 23 = .ok (.if_icmp .gt 7, 3) := by decide +kernel
theorem dX4_hasRun_26 : decode cX4_hasRun 26 = .ok (.iconst 1, 1) := by decide +kernel
theorem dX4_hasRun_27 : decode cX4_hasRun 27 = .ok (.goto 4, 3) := by decide +kernel
theorem dX4_hasRun_30 : decode cX4_hasRun 30 = .ok (.iconst 0, 1) := by decide +kernel
theorem dX4_hasRun_31 : decode cX4_hasRun 31 = .ok (.ireturn, 1) := by decide +kernel
theorem dX4_become_0 : decode cX4_become 0 = .ok (.aload_n 0, 1) := by decide +kernel
theorem dX4_become_1 : decode cX4_become 1 = .ok (.getfield 9, 3) := by decide +kernel
theorem dX4_become_4 : decode cX4_become 4 = .ok (.iconst 0, 1) := by decide +kernel
theorem dX4_become_5 : decode cX4_become 5 = .ok (.invokestatic 22, 3) := by decide +kernel
theorem dX4_become_8 : decode cX4_become 8 = .ok (.aload_n 0, 1) := by decide +kernel
theorem dX4_become_9 : decode cX4_become 9 = .ok (.iload_n 1, 1) := by decide +kernel
theorem dX4_become_10 : decode cX4_become 10 = .ok (.putfield 15, 3) := by decide +kernel
theorem dX4_become_13 : decode cX4_become 13 = .ok (.aload_n 0, 1) := by decide +kernel
theorem dX4_become_14 : decode cX4_become 14 = .ok (.iload_n 2, 1) := by decide +kernel
theorem dX4_become_15 : decode cX4_become 15 = .ok (.putfield 19, 3) := by decide +kernel
theorem dX4_become_18 : decode cX4_become 18 = .ok (.return_, 1) := by decide +kernel
theorem dX4_put_0 : decode cX4_put 0 = .ok (.aload_n 0, 1) := by decide +kernel
theorem dX4_put_1 : decode cX4_put 1 = .ok (.getfield 15, 3) := by decide +kernel
theorem dX4_put_4 : decode cX4_put 4 = .ok (.ifCond .ne 14, 3) := by decide +kernel
theorem dX4_put_7 : decode cX4_put 7 = .ok (.aload_n 0, 1) := by decide +kernel
theorem dX4_put_8 : decode cX4_put 8 = .ok (.getfield 9, 3) := by decide +kernel
theorem dX4_put_11 : decode cX4_put 11 = .ok (.iload_n 1, 1) := by decide +kernel
theorem dX4_put_12 : decode cX4_put 12 = .ok (.iload_n 2, 1) := by decide +kernel
theorem dX4_put_13 : decode cX4_put 13 = .ok (.i2b, 1) := by decide +kernel
theorem dX4_put_14 : decode cX4_put 14 = .ok (.iastore, 1) := by decide +kernel
theorem dX4_put_15 : decode cX4_put 15 = .ok (.goto 23, 3) := by decide +kernel
theorem dX4_put_18 : decode cX4_put 18 = .ok (.aload_n 0, 1) := by decide +kernel
theorem dX4_put_19 : decode cX4_put 19 = .ok (.getfield 9, 3) := by decide +kernel
theorem dX4_put_22 : decode cX4_put 22 = .ok (.iload_n 1, 1) := by decide +kernel
theorem dX4_put_23 : decode cX4_put 23 = .ok (.aload_n 0, 1) := by decide +kernel
theorem dX4_put_24 : decode cX4_put 24 = .ok (.getfield 15, 3) := by decide +kernel
theorem dX4_put_27 : decode cX4_put 27 = .ok (.iconst 1, 1) := by decide +kernel
theorem dX4_put_28 : decode cX4_put 28 = .ok (.if_icmp .ne 8, 3) := by decide +kernel
theorem dX4_put_31 : decode cX4_put 31 = .ok (.iload_n 2, 1) := by decide +kernel
theorem dX4_put_32 : decode cX4_put 32 = .ok (.i2s, 1) := by decide +kernel
theorem dX4_put_33 : decode cX4_put 33 = .ok (.goto 4, 3) := by decide +kernel
theorem dX4_put_36 : decode cX4_put 36 = .ok (.iload_n 2, 1) := by decide +kernel
theorem dX4_put_37 : decode cX4_put 37 = .ok (.iastore, 1) := by decide +kernel
theorem dX4_put_38 : decode cX4_put 38 = .ok (.return_, 1) := by decide +kernel
theorem dX5_init_0 : decode cX5_init 0 = .ok (.aload_n 0, 1) := by decide +kernel
theorem dX5_init_1 : decode cX5_init 1 = .ok (.invokespecial 3, 3) := by decide +kernel
theorem dX5_init_4 : decode cX5_init 4 = .ok (.aload_n 0, 1) := by decide +kernel
theorem dX5_init_5 : decode cX5_init 5 = .ok (.sipush 160, 3) := by decide +kernel
theorem dX5_init_8 : decode cX5_init 8 = .ok (.newarray .int, 2) := by decide +kernel
theorem dX5_init_10 : decode cX5_init 10 = .ok (.putfield 9, 3) := by decide +kernel
theorem dX5_init_13 : decode cX5_init 13 = .ok (.aload_n 0, 1) := by decide +kernel
theorem dX5_init_14 : decode cX5_init 14 = .ok (.sipush 161, 3) := by decide +kernel
theorem dX5_init_17 : decode cX5_init 17 = .ok (.newarray .int, 2) := by decide +kernel
theorem dX5_init_19 : decode cX5_init 19 = .ok (.putfield 15, 3) := by decide +kernel
theorem dX5_init_22 : decode cX5_init 22 = .ok (.aload_n 0, 1) := by decide +kernel
theorem dX5_init_23 : decode cX5_init 23 = .ok (.sipush 161, 3) := by decide +kernel
theorem dX5_init_26 : decode cX5_init 26 = .ok (.newarray .int, 2) := by decide +kernel
theorem dX5_init_28 : decode cX5_init 28 = .ok (.putfield 18, 3) := by decide +kernel
theorem dX5_init_31 : decode cX5_init 31 = .ok (.aload_n 0, 1) := by decide +kernel
theorem dX5_init_32 : decode cX5_init 32 = .ok (.sipush 161, 3) := by decide +kernel
theorem dX5_init_35 : decode cX5_init 35 = .ok (.newarray .int, 2) := by decide +kernel
theorem dX5_init_37 : decode cX5_init 37 = .ok (.putfield 21, 3) := by decide +kernel
theorem dX5_init_40 : decode cX5_init 40 = .ok (.return_, 1) := by decide +kernel
theorem dX5_put_0 : decode cX5_put 0 = .ok (.aload_n 0, 1) := by decide +kernel
theorem dX5_put_1 : decode cX5_put 1 = .ok (.getfield 24, 3) := by decide +kernel
theorem dX5_put_4 : decode cX5_put 4 = .ok (.sipush 160, 3) := by decide +kernel
theorem dX5_put_7 : decode cX5_put 7 = .ok (.if_icmp .lt 5, 3) := by decide +kernel
theorem dX5_put_10 : decode cX5_put 10 = .ok (.iconst 0, 1) := by decide +kernel
theorem dX5_put_11 : decode cX5_put 11 = .ok (.ireturn, 1) := by decide +kernel
theorem dX5_put_12 : decode cX5_put 12 = .ok (.aload_n 0, 1) := by decide +kernel
theorem dX5_put_13 : decode cX5_put 13 = .ok (.getfield 9, 3) := by decide +kernel
theorem dX5_put_16 : decode cX5_put 16 = .ok (.aload_n 0, 1) := by decide +kernel
theorem dX5_put_17 : decode cX5_put 17 = .ok (.getfield 24, 3) := by decide +kernel
theorem dX5_put_20 : decode cX5_put 20 = .ok (.iload_n 1, 1) := by decide +kernel
theorem dX5_put_21 : decode cX5_put 21 = .ok (.iastore, 1) := by decide +kernel
theorem dX5_put_22 : decode cX5_put 22 = .ok (.aload_n 0, 1) := by decide +kernel
theorem dX5_put_23 : decode cX5_put 23 = .ok (.dup, 1) := by decide +kernel
theorem dX5_put_24 : decode cX5_put 24 = .ok (.getfield 24, 3) := by decide +kernel
theorem dX5_put_27 : decode cX5_put 27 = .ok (.iconst 1, 1) := by decide +kernel
theorem dX5_put_28 : decode cX5_put 28 = .ok (.iadd, 1) := by decide +kernel
theorem dX5_put_29 : decode cX5_put 29 = .ok (.putfield 24, 3) := by decide +kernel
theorem dX5_put_32 : decode cX5_put 32 = .ok (.iconst 1, 1) := by decide +kernel
theorem dX5_put_33 : decode cX5_put 33 = .ok (.ireturn, 1) := by decide +kernel
theorem dX5_empty_0 : decode cX5_empty 0 = .ok (.aload_n 0, 1) := by decide +kernel
theorem dX5_empty_1 : decode cX5_empty 1 = .ok (.iconst 0, 1) := by decide +kernel
theorem dX5_empty_2 : decode cX5_empty 2 = .ok (.putfield 24, 3) := by decide +kernel
theorem dX5_empty_5 : decode cX5_empty 5 = .ok (.return_, 1) := by decide +kernel
theorem dX5_cut_0 : decode cX5_cut 0 = .ok (.aload_n 0, 1) := by decide +kernel
theorem dX5_cut_1 : decode cX5_cut 1 = .ok (.iconst 0, 1) := by decide +kernel
theorem dX5_cut_2 : decode cX5_cut 2 = .ok (.putfield 28, 3) := by decide +kernel
theorem dX5_cut_5 : decode cX5_cut 5 = .ok (.iconst 0, 1) := by decide +kernel
theorem dX5_cut_6 : decode cX5_cut 6 = .ok (.istore_n 1, 1) := by decide +kernel
theorem dX5_cut_7 : decode cX5_cut 7 = .ok (.aload_n 0, 1) := by decide +kernel
theorem dX5_cut_8 : decode cX5_cut 8 = .ok (.iconst 0, 1) := by decide +kernel
theorem dX5_cut_9 : decode cX5_cut 9 = .ok (.putfield 31, 3) := by decide +kernel
theorem dX5_cut_12 : decode cX5_cut 12 = .ok (.aload_n 0, 1) := by decide +kernel
theorem dX5_cut_13 : decode cX5_cut 13 = .ok (.getfield 31, 3) := by decide +kernel
theorem dX5_cut_16 : decode cX5_cut 16 = .ok (.sipush 160, 3) := by decide +kernel
theorem dX5_cut_19 : decode cX5_cut 19 = .ok (.if_icmp .gt 69, 3) := by decide +kernel
theorem dX5_cut_22 : decode cX5_cut 22 = .ok (.iload_n 1, 1) := by decide +kernel
theorem dX5_cut_23 : decode cX5_cut 23 = .ok (.iconst (-1), 1) := by decide +kernel
theorem dX5_cut_24 : decode cX5_cut 24 = .ok (.if_icmp .eq 64, 3) := by decide +kernel
theorem dX5_cut_27 : decode cX5_cut 27 = .ok (.iload_n 1, 1) := by decide +kernel
theorem dX5_cut_28 : decode cX5_cut 28 = .ok (.bipush (-2), 2) := by decide +kernel
theorem dX5_cut_30 : decode cX5_cut 30 = .ok (.if_icmp .eq 58, 3) := by decide +kernel
theorem dX5_cut_33 : decode cX5_cut 33 = .ok (.aload_n 0, 1) := by decide +kernel
theorem dX5_cut_34 : decode cX5_cut 34 = .ok (.invokevirtual 34, 3) := by decide +kernel
theorem dX5_cut_37 : decode cX5_cut 37 = .ok (.aload_n 0, 1) := by decide +kernel
theorem dX5_cut_38 : decode cX5_cut 38 = .ok (.getfield 21, 3) := by decide +kernel
theorem dX5_cut_41 : decode cX5_cut 41 = .ok (.aload_n 0, 1) := by decide +kernel
theorem dX5_cut_42 : decode cX5_cut 42 = .ok (.getfield 31, 3) := by decide +kernel
theorem dX5_cut_45 : decode cX5_cut 45 = .ok (.aload_n 0, 1) := by decide +kernel
theorem dX5_cut_46 : decode cX5_cut 46 = .ok (.getfield 28, 3) := by decide +kernel
theorem dX5_cut_49 : decode cX5_cut 49 = .ok (.iastore, 1) := by decide +kernel
theorem dX5_cut_50 : decode cX5_cut 50 = .ok (.aload_n 0, 1) := by decide +kernel
theorem dX5_cut_51 : decode cX5_cut 51 = .ok (.getfield 18, 3) := by decide +kernel
theorem dX5_cut_54 : decode cX5_cut 54 = .ok (.aload_n 0, 1) := by decide +kernel
theorem dX5_cut_55 : decode cX5_cut 55 = .ok (.getfield 31, 3) := by decide +kernel
theorem dX5_cut_58 : decode cX5_cut 58 = .ok (.iconst 0, 1) := by decide +kernel
theorem dX5_cut_59 : decode cX5_cut 59 = .ok (.iastore, 1) := by decide +kernel
theorem dX5_cut_60 : decode cX5_cut 60 = .ok (.aload_n 0, 1) := by decide +kernel
theorem dX5_cut_61 : decode cX5_cut 61 = .ok (.invokevirtual 37, 3) := by decide +kernel
theorem dX5_cut_64 : decode cX5_cut 64 = .ok (.istore_n 1, 1) := by decide +kernel
theorem dX5_cut_65 : decode cX5_cut 65 = .ok (.aload_n 0, 1) := by decide +kernel
theorem dX5_cut_66 : decode cX5_cut 66 = .ok (.getfield 15, 3) := by decide +kernel
theorem dX5_cut_69 : decode cX5_cut 69 = .ok (.aload_n 0, 1) := by decide +kernel
theorem dX5_cut_70 : decode cX5_cut 70 = .ok (.getfield 31, 3) := by decide +kernel
theorem dX5_cut_73 : decode cX5_cut 73 = .ok (.iload_n 1, 1) := by decide +kernel
theorem dX5_cut_74 : decode cX5_cut 74 = .ok (.iastore, 1) := by decide +kernel
theorem dX5_cut_75 : decode cX5_cut 75 = .ok (.aload_n 0, 1) := by decide +kernel
theorem dX5_cut_76 : decode cX5_cut 76 = .ok (.dup, 1) := by decide +kernel
theorem dX5_cut_77 : decode cX5_cut 77 = .ok (.getfield 31, 3) := by decide +kernel
theorem dX5_cut_80 : decode cX5_cut 80 = .ok (.iconst 1, 1) := by decide +kernel
theorem dX5_cut_81 : decode cX5_cut 81 = .ok (.iadd, 1) := by decide +kernel
theorem dX5_cut_82 : decode cX5_cut 82 = .ok (.putfield 31, 3) := by decide +kernel
theorem dX5_cut_85 : decode cX5_cut 85 = .ok (.goto (-73), 3) := by decide +kernel
theorem dX5_cut_88 : decode cX5_cut 88 = .ok (.return_, 1) := by decide +kernel
theorem dX5_skipBlanks_0 : decode cX5_skipBlanks 0 = .ok (.aload_n 0, 1) := by decide +kernel
theorem dX5_skipBlanks_1 : decode cX5_skipBlanks 1 = .ok (.getfield 28, 3) := by decide +kernel
theorem dX5_skipBlanks_4 : decode cX5_skipBlanks 4 = .ok (.aload_n 0, 1) := by decide +kernel
theorem dX5_skipBlanks_5 : decode cX5_skipBlanks 5 = .ok (.getfield 24, 3) := by decide +kernel
theorem dX5_skipBlanks_8 : decode cX5_skipBlanks 8 = .ok (.if_icmp .ge 44, 3) := by decide +kernel
theorem dX5_skipBlanks_11 : decode cX5_skipBlanks 11 = .ok (.aload_n 0, 1) := by decide +kernel
theorem dX5_skipBlanks_12 : decode cX5_skipBlanks 12 = .ok (.getfield 9, 3) := by decide +kernel
theorem dX5_skipBlanks_15 : decode cX5_skipBlanks 15 = .ok (.aload_n 0, 1) := by decide +kernel
theorem dX5_skipBlanks_16 : decode cX5_skipBlanks 16 = .ok (.getfield 28, 3) := by decide +kernel
theorem dX5_skipBlanks_19 : decode cX5_skipBlanks 19 = .ok (.iaload, 1) := by decide +kernel
theorem dX5_skipBlanks_20 : decode cX5_skipBlanks 20 = .ok (.bipush 32, 2) := by decide +kernel
theorem dX5_skipBlanks_22 : decode cX5_skipBlanks 22 = .ok (.if_icmp .eq 17, 3) := by decide +kernel
theorem dX5_skipBlanks_25 : decode cX5_skipBlanks 25 = .ok (.aload_n 0, 1) := by decide +kernel
theorem dX5_skipBlanks_26 : decode cX5_skipBlanks 26 = .ok (.getfield 9, 3) := by decide +kernel
theorem dX5_skipBlanks_29 : decode cX5_skipBlanks 29 = .ok (.aload_n 0, 1) := by decide +kernel
theorem dX5_skipBlanks_30 : decode cX5_skipBlanks 30 = .ok (.getfield 28, 3) := by decide +kernel
theorem dX5_skipBlanks_33 : decode cX5_skipBlanks 33 = .ok (.iaload, 1) := by decide +kernel
theorem dX5_skipBlanks_34 : decode cX5_skipBlanks 34 = .ok (.bipush 10, 2) := by decide +kernel
theorem dX5_skipBlanks_36 : decode cX5_skipBlanks 36 = .ok (.if_icmp .ne 16, 3) := by decide +kernel
theorem dX5_skipBlanks_39 : decode cX5_skipBlanks 39 = .ok (.aload_n 0, 1) := by decide +kernel
theorem dX5_skipBlanks_40 : decode cX5_skipBlanks 40 = .ok (.dup, 1) := by decide +kernel
theorem dX5_skipBlanks_41 : decode cX5_skipBlanks 41 = .ok (.getfield 28, 3) := by decide +kernel
theorem dX5_skipBlanks_44 : decode cX5_skipBlanks 44 = .ok (.iconst 1, 1) := by decide +kernel
theorem dX5_skipBlanks_45 : decode cX5_skipBlanks 45 = .ok (.iadd, 1) := by decide +kernel
theorem dX5_skipBlanks_46 : decode cX5_skipBlanks 46 = .ok (.putfield 28, 3) := by decide +kernel
theorem dX5_skipBlanks_49 : decode cX5_skipBlanks 49 = .ok (.goto (-49), 3) := by decide +kernel
theorem dX5_skipBlanks_52 : decode cX5_skipBlanks 52 = .ok (.return_, 1) := by decide +kernel
theorem dX5_cutOne_0 : decode cX5_cutOne 0 = .ok (.aload_n 0, 1) := by decide +kernel
theorem dX5_cutOne_1 : decode cX5_cutOne 1 = .ok (.getfield 28, 3) := by decide +kernel
theorem dX5_cutOne_4 : decode cX5_cutOne 4 = .ok (.aload_n 0, 1) := by decide +kernel
theorem dX5_cutOne_5 : decode cX5_cutOne 5 = .ok (.getfield 24, 3) := by decide +kernel
theorem dX5_cutOne_8 : decode cX5_cutOne 8 = .ok (.if_icmp .lt 5, 3) := by decide +kernel
theorem dX5_cutOne_11 : decode cX5_cutOne 11 = .ok (.iconst (-1), 1) := by decide +kernel
theorem dX5_cutOne_12 : decode cX5_cutOne 12 = .ok (.ireturn, 1) := by decide +kernel
theorem dX5_cutOne_13 : decode cX5_cutOne 13 = .ok (.aload_n 0, 1) := by decide +kernel
theorem dX5_cutOne_14 : decode cX5_cutOne 14 = .ok (.getfield 9, 3) := by decide +kernel
theorem dX5_cutOne_17 : decode cX5_cutOne 17 = .ok (.aload_n 0, 1) := by decide +kernel
theorem dX5_cutOne_18 : decode cX5_cutOne 18 = .ok (.getfield 28, 3) := by decide +kernel
theorem dX5_cutOne_21 : decode cX5_cutOne 21 = .ok (.iaload, 1) := by decide +kernel
theorem dX5_cutOne_22 : decode cX5_cutOne 22 = .ok (.invokestatic 41, 3) := by decide +kernel
theorem dX5_cutOne_25 : decode cX5_cutOne 25 = .ok (.ifCond .eq 8, 3) := by decide +kernel
theorem dX5_cutOne_28 : decode cX5_cutOne 28 = .ok (.aload_n 0, 1) := by decide +kernel
theorem dX5_cutOne_29 : decode cX5_cutOne 29 = .ok (.invokevirtual 45, 3) := by decide +kernel
theorem dX5_cutOne_32 : decode cX5_cutOne 32 = .ok (.ireturn, 1) := by decide +kernel
theorem dX5_cutOne_33 : decode cX5_cutOne 33 = .ok (.aload_n 0, 1) := by decide +kernel
theorem dX5_cutOne_34 : decode cX5_cutOne 34 = .ok (.getfield 9, 3) := by decide +kernel
theorem dX5_cutOne_37 : decode cX5_cutOne 37 = .ok (.aload_n 0, 1) := by decide +kernel
theorem dX5_cutOne_38 : decode cX5_cutOne 38 = .ok (.getfield 28, 3) := by decide +kernel
theorem dX5_cutOne_41 : decode cX5_cutOne 41 = .ok (.iaload, 1) := by decide +kernel
theorem dX5_cutOne_42 : decode cX5_cutOne 42 = .ok (.invokestatic 48, 3) := by decide +kernel
theorem dX5_cutOne_45 : decode cX5_cutOne 45 = .ok (.ifCond .eq 8, 3) := by decide +kernel
theorem dX5_cutOne_48 : decode cX5_cutOne 48 = .ok (.aload_n 0, 1) := by decide +kernel
theorem dX5_cutOne_49 : decode cX5_cutOne 49 = .ok (.invokevirtual 51, 3) := by decide +kernel
theorem dX5_cutOne_52 : decode cX5_cutOne 52 = .ok (.ireturn, 1) := by decide +kernel
theorem dX5_cutOne_53 : decode cX5_cutOne 53 = .ok (.aload_n 0, 1) := by decide +kernel
theorem dX5_cutOne_54 : decode cX5_cutOne 54 = .ok (.getfield 9, 3) := by decide +kernel
theorem dX5_cutOne_57 : decode cX5_cutOne 57 = .ok (.aload_n 0, 1) := by decide +kernel
theorem dX5_cutOne_58 : decode cX5_cutOne 58 = .ok (.getfield 28, 3) := by decide +kernel
theorem dX5_cutOne_61 : decode cX5_cutOne 61 = .ok (.iaload, 1) := by decide +kernel
theorem dX5_cutOne_62 : decode cX5_cutOne 62 = .ok (.istore_n 1, 1) := by decide +kernel
theorem dX5_cutOne_63 : decode cX5_cutOne 63 = .ok (.aload_n 0, 1) := by decide +kernel
theorem dX5_cutOne_64 : decode cX5_cutOne 64 = .ok (.dup, 1) := by decide +kernel
theorem dX5_cutOne_65 : decode cX5_cutOne 65 = .ok (.getfield 28, 3) := by decide +kernel
theorem dX5_cutOne_68 : decode cX5_cutOne 68 = .ok (.iconst 1, 1) := by decide +kernel
theorem dX5_cutOne_69 : decode cX5_cutOne 69 = .ok (.iadd, 1) := by decide +kernel
theorem dX5_cutOne_70 : decode cX5_cutOne 70 = .ok (.putfield 28, 3) := by decide +kernel
theorem dX5_cutOne_73 : decode cX5_cutOne 73 = .ok (.iload_n 1, 1) := by decide +kernel
theorem dX5_cutOne_74 : decode cX5_cutOne 74 = .ok (.invokestatic 54, 3) := by decide +kernel
theorem dX5_cutOne_77 : decode cX5_cutOne 77 = .ok (.ifCond .eq 7, 3) := by decide +kernel
theorem dX5_cutOne_80 : decode cX5_cutOne 80 = .ok (.iload_n 1, 1) := by decide +kernel
theorem dX5_cutOne_81 : decode cX5_cutOne 81 = .ok (.goto 5, 3) := by decide +kernel
theorem dX5_cutOne_84 : decode cX5_cutOne 84 = .ok (.bipush (-2), 2) := by decide +kernel
theorem dX5_cutOne_86 : decode cX5_cutOne 86 = .ok (.ireturn, 1) := by decide +kernel
theorem dX5_cutNumber_0 : decode cX5_cutNumber 0 = .ok (.aload_n 0, 1) := by decide +kernel
theorem dX5_cutNumber_1 : decode cX5_cutNumber 1 = .ok (.getfield 28, 3) := by decide +kernel
theorem dX5_cutNumber_4 : decode cX5_cutNumber 4 = .ok (.istore_n 1, 1) := by decide +kernel
theorem dX5_cutNumber_5 : decode cX5_cutNumber 5 = .ok (.iconst 0, 1) := by decide +kernel
theorem dX5_cutNumber_6 : decode cX5_cutNumber 6 = .ok (.istore_n 2, 1) := by decide +kernel
theorem dX5_cutNumber_7 : decode cX5_cutNumber 7 = .ok (.aload_n 0, 1) := by decide +kernel
theorem dX5_cutNumber_8 : decode cX5_cutNumber 8 = .ok (.getfield 28, 3) := by decide +kernel
theorem dX5_cutNumber_11 : decode cX5_cutNumber 11 = .ok (.aload_n 0, 1) := by decide +kernel
theorem dX5_cutNumber_12 : decode cX5_cutNumber 12 = .ok (.getfield 24, 3) := by decide +kernel
theorem dX5_cutNumber_15 : decode cX5_cutNumber 15 = .ok (.if_icmp .ge 49, 3) := by decide +kernel
theorem dX5_cutNumber_18 : decode cX5_cutNumber 18 = .ok (.aload_n 0, 1) := by decide +kernel
theorem dX5_cutNumber_19 : decode cX5_cutNumber 19 = .ok (.getfield 9, 3) := by decide +kernel
theorem dX5_cutNumber_22 : decode cX5_cutNumber 22 = .ok (.aload_n 0, 1) := by decide +kernel
theorem dX5_cutNumber_23 : decode cX5_cutNumber 23 = .ok (.getfield 28, 3) := by decide +kernel
theorem dX5_cutNumber_26 : decode cX5_cutNumber 26 = .ok (.iaload, 1) := by decide +kernel
theorem dX5_cutNumber_27 : decode cX5_cutNumber 27 = .ok (.invokestatic 48, 3) := by decide +kernel
theorem dX5_cutNumber_30 : decode cX5_cutNumber 30 = .ok (.ifCond .eq 34, 3) := by decide +kernel
theorem dX5_cutNumber_33 : decode cX5_cutNumber 33 = .ok (.iload_n 2, 1) := by decide +kernel
theorem dX5_cutNumber_34 : decode cX5_cutNumber 34 = .ok (.bipush 10, 2) := by decide +kernel
theorem dX5_cutNumber_36 : decode cX5_cutNumber 36 = .ok (.imul, 1) := by decide +kernel
theorem dX5_cutNumber_37 : decode cX5_cutNumber 37 = .ok (.aload_n 0, 1) := by decide +kernel
theorem dX5_cutNumber_38 : decode cX5_cutNumber 38 = .ok (.getfield 9, 3) := by decide +kernel
theorem dX5_cutNumber_41 : decode cX5_cutNumber 41 = .ok (.aload_n 0, 1) := by decide +kernel
theorem dX5_cutNumber_42 : decode cX5_cutNumber 42 = .ok (.getfield 28, 3) := by decide +kernel
theorem dX5_cutNumber_45 : decode cX5_cutNumber 45 = .ok (.iaload, 1) := by decide +kernel
theorem dX5_cutNumber_46 : decode cX5_cutNumber 46 = .ok (.iadd, 1) := by decide +kernel
theorem dX5_cutNumber_47 : decode cX5_cutNumber 47 = .ok (.bipush 48, 2) := by decide +kernel
theorem dX5_cutNumber_49 : decode cX5_cutNumber 49 = .ok (.isub, 1) := by decide +kernel
theorem dX5_cutNumber_50 : decode cX5_cutNumber 50 = .ok (.istore_n 2, 1) := by decide +kernel
theorem dX5_cutNumber_51 : decode cX5_cutNumber 51 = .ok (.aload_n 0, 1) := by decide +kernel
theorem dX5_cutNumber_52 : decode cX5_cutNumber 52 = .ok (.dup, 1) := by decide +kernel
theorem dX5_cutNumber_53 : decode cX5_cutNumber 53 = .ok (.getfield 28, 3) := by decide +kernel
theorem dX5_cutNumber_56 : decode cX5_cutNumber 56 = .ok (.iconst 1, 1) := by decide +kernel
theorem dX5_cutNumber_57 : decode cX5_cutNumber 57 = .ok (.iadd, 1) := by decide +kernel
theorem dX5_cutNumber_58 : decode cX5_cutNumber 58 = .ok (.putfield 28, 3) := by decide +kernel
theorem dX5_cutNumber_61 : decode cX5_cutNumber 61 = .ok (.goto (-54), 3) := by decide +kernel
theorem dX5_cutNumber_64 : decode cX5_cutNumber 64 = .ok (.aload_n 0, 1) := by decide +kernel
theorem dX5_cutNumber_65 : decode cX5_cutNumber 65 = .ok (.getfield 18, 3) := by decide +kernel
theorem dX5_cutNumber_68 : decode cX5_cutNumber 68 = .ok (.aload_n 0, 1) := by decide +kernel
theorem dX5_cutNumber_69 : decode cX5_cutNumber 69 = .ok (.getfield 31, 3) := by decide +kernel
theorem dX5_cutNumber_72 : decode cX5_cutNumber 72 = .ok (.iload_n 2, 1) := by decide +kernel
theorem dX5_cutNumber_73 : decode cX5_cutNumber 73 = .ok (.iastore, 1) := by decide +kernel
theorem dX5_cutNumber_74 : decode cX5_cutNumber 74 = .ok (.aload_n 0, 1) := by decide +kernel
theorem dX5_cutNumber_75 : decode cX5_cutNumber 75 = .ok (.getfield 28, 3) := by decide +kernel
theorem dX5_cutNumber_78 : decode cX5_cutNumber 78 = .ok (.iload_n 1, 1) := by decide +kernel
theorem dX5_cutNumber_79 : decode cX5_cutNumber 79 = .ok (.isub, 1) := by decide +kernel
theorem dX5_cutNumber_80 : decode cX5_cutNumber 80 = .ok (.iconst 4, 1) := by decide +kernel
theorem dX5_cutNumber_81 : decode cX5_cutNumber 81 = .ok (.if_icmp .gt 7, 3) := by decide +kernel
theorem dX5_cutNumber_84 : decode cX5_cutNumber 84 = .ok (.iconst 1, 1) := by decide +kernel
theorem dX5_cutNumber_85 : decode cX5_cutNumber 85 = .ok (.goto 5, 3) := by decide +kernel
theorem dX5_cutNumber_88 : decode cX5_cutNumber 88 = .ok (.bipush (-2), 2) := by decide +kernel
theorem dX5_cutNumber_90 : decode cX5_cutNumber 90 = .ok (.ireturn, 1) := by decide +kernel
theorem dX5_cutWord_0 : decode cX5_cutWord 0 = .ok (.aload_n 0, 1) := by decide +kernel
theorem dX5_cutWord_1 : decode cX5_cutWord 1 = .ok (.getfield 28, 3) := by decide +kernel
theorem dX5_cutWord_4 : decode cX5_cutWord 4 = .ok (.istore_n 1, 1) := by decide +kernel
theorem dX5_cutWord_5 : decode cX5_cutWord 5 = .ok (.aload_n 0, 1) := by decide +kernel
theorem dX5_cutWord_6 : decode cX5_cutWord 6 = .ok (.getfield 28, 3) := by decide +kernel
theorem dX5_cutWord_9 : decode cX5_cutWord 9 = .ok (.aload_n 0, 1) := by decide +kernel
theorem dX5_cutWord_10 : decode cX5_cutWord 10 = .ok (.getfield 24, 3) := by decide +kernel
theorem dX5_cutWord_13 : decode cX5_cutWord 13 = .ok (.if_icmp .ge 31, 3) := by decide +kernel
theorem dX5_cutWord_16 : decode cX5_cutWord 16 = .ok (.aload_n 0, 1) := by decide +kernel
theorem dX5_cutWord_17 : decode cX5_cutWord 17 = .ok (.getfield 9, 3) := by decide +kernel
theorem dX5_cutWord_20 : decode cX5_cutWord 20 = .ok (.aload_n 0, 1) := by decide +kernel
theorem dX5_cutWord_21 : decode cX5_cutWord 21 = .ok (.getfield 28, 3) := by decide +kernel
theorem dX5_cutWord_24 : decode cX5_cutWord 24 = .ok (.iaload, 1) := by decide +kernel
theorem dX5_cutWord_25 : decode cX5_cutWord 25 = .ok (.invokestatic 41, 3) := by decide +kernel
theorem dX5_cutWord_28 : decode cX5_cutWord 28 = .ok (.ifCond .eq 16, 3) := by decide +kernel
theorem dX5_cutWord_31 : decode cX5_cutWord 31 = .ok (.aload_n 0, 1) := by decide +kernel
theorem dX5_cutWord_32 : decode cX5_cutWord 32 = .ok (.dup, 1) := by decide +kernel
theorem dX5_cutWord_33 : decode cX5_cutWord 33 = .ok (.getfield 28, 3) := by decide +kernel
theorem dX5_cutWord_36 : decode cX5_cutWord 36 = .ok (.iconst 1, 1) := by decide +kernel
theorem dX5_cutWord_37 : decode cX5_cutWord 37 = .ok (.iadd, 1) := by decide +kernel
theorem dX5_cutWord_38 : decode cX5_cutWord 38 = .ok (.putfield 28, 3) := by decide +kernel
theorem dX5_cutWord_41 : decode cX5_cutWord 41 = .ok (.goto (-36), 3) := by decide +kernel
theorem dX5_cutWord_44 : decode cX5_cutWord 44 = .ok (.iconst 0, 1) := by decide +kernel
theorem dX5_cutWord_45 : decode cX5_cutWord 45 = .ok (.istore_n 2, 1) := by decide +kernel
theorem dX5_cutWord_46 : decode cX5_cutWord 46 = .ok (.iload_n 2, 1) := by decide +kernel
theorem dX5_cutWord_47 : decode cX5_cutWord 47 = .ok (.bipush 12, 2) := by decide +kernel
theorem dX5_cutWord_49 : decode cX5_cutWord 49 = .ok (.if_icmp .ge 48, 3) := by decide +kernel
theorem dX5_cutWord_52 : decode cX5_cutWord 52 = .ok (.aload_n 0, 1) := by decide +kernel
theorem dX5_cutWord_53 : decode cX5_cutWord 53 = .ok (.iload_n 2, 1) := by decide +kernel
theorem dX5_cutWord_54 : decode cX5_cutWord 54 = .ok (.invokestatic 57, 3) := by decide +kernel
theorem dX5_cutWord_57 : decode cX5_cutWord 57 = .ok (.iload_n 1, 1) := by decide +kernel
theorem dX5_cutWord_58 : decode cX5_cutWord 58 = .ok (.invokevirtual 61, 3) := by decide +kernel
theorem dX5_cutWord_61 : decode cX5_cutWord 61 = .ok (.ifCond .eq 30, 3) := by decide +kernel
theorem dX5_cutWord_64 : decode cX5_cutWord 64 = .ok (.aload_n 0, 1) := by decide +kernel
theorem dX5_cutWord_65 : decode cX5_cutWord 65 = .ok (.getfield 18, 3) := by decide +kernel
theorem dX5_cutWord_68 : decode cX5_cutWord 68 = .ok (.aload_n 0, 1) := by decide +kernel
theorem dX5_cutWord_69 : decode cX5_cutWord 69 = .ok (.getfield 31, 3) := by decide +kernel
theorem dX5_cutWord_72 : decode cX5_cutWord 72 = .ok (.iload_n 2, 1) := by decide +kernel
theorem dX5_cutWord_73 : decode cX5_cutWord 73 = .ok (.iastore, 1) := by decide +kernel
theorem dX5_cutWord_74 : decode cX5_cutWord 74 = .ok (.iload_n 2, 1) := by decide +kernel
theorem dX5_cutWord_75 : decode cX5_cutWord 75 = .ok (.bipush 6, 2) := by decide +kernel
theorem dX5_cutWord_77 : decode cX5_cutWord 77 = .ok (.if_icmp .ge 7, 3) := by decide +kernel
theorem dX5_cutWord_80 : decode cX5_cutWord 80 = .ok (.iconst 2, 1) := by decide +kernel
theorem dX5_cutWord_81 : decode cX5_cutWord 81 = .ok (.goto 9, 3) := by decide +kernel
theorem dX5_cutWord_84 : decode cX5_cutWord 84 = .ok (.iconst 3, 1) := by decide +kernel
theorem dX5_cutWord_85 : decode cX5_cutWord 85 = .ok (.iload_n 2, 1) := by decide +kernel
theorem dX5_cutWord_86 : decode cX5_cutWord 86 = .ok (.iadd, 1) := by decide +kernel
theorem dX5_cutWord_87 : decode cX5_cutWord 87 = .ok (.bipush 6, 2) := by decide +kernel
theorem dX5_cutWord_89 : decode cX5_cutWord 89 = .ok (.isub, 1) := by decide +kernel
theorem dX5_cutWord_90 : decode cX5_cutWord 90 = .ok (.ireturn, 1) := by decide +kernel
theorem dX5_cutWord_91 : decode cX5_cutWord 91 = .ok (.iinc 2 1, 3) := by decide +kernel
theorem dX5_cutWord_94 : decode cX5_cutWord 94 = .ok (.goto (-48), 3) := by decide +kernel
theorem dX5_cutWord_97 : decode cX5_cutWord 97 = .ok (.bipush (-2), 2) := by decide +kernel
theorem dX5_cutWord_99 : decode cX5_cutWord 99 = .ok (.ireturn, 1) := by decide +kernel
theorem dX5_stands_0 : decode cX5_stands 0 = .ok (.aload_n 0, 1) := by decide +kernel
theorem dX5_stands_1 : decode cX5_stands 1 = .ok (.getfield 28, 3) := by decide +kernel
theorem dX5_stands_4 : decode cX5_stands 4 = .ok (.iload_n 2, 1) := by decide +kernel
theorem dX5_stands_5 : decode cX5_stands 5 = .ok (.isub, 1) := by decide +kernel
theorem dX5_stands_6 : decode cX5_stands 6 = .ok (.aload_n 1, 1) := by decide +kernel
theorem dX5_stands_7 : decode cX5_stands 7 = .ok (.invokevirtual 65, 3) := by decide +kernel
theorem dX5_stands_10 : decode cX5_stands 10 = .ok (.if_icmp .eq 5, 3) := by decide +kernel
theorem dX5_stands_13 : decode cX5_stands 13 = .ok (.iconst 0, 1) := by decide +kernel
theorem dX5_stands_14 : decode cX5_stands 14 = .ok (.ireturn, 1) := by decide +kernel
theorem dX5_stands_15 : decode cX5_stands 15 = .ok (.iconst 0, 1) := by decide +kernel
theorem dX5_stands_16 : decode cX5_stands 16 = .ok (.istore_n 3, 1) := by decide +kernel
theorem dX5_stands_17 : decode cX5_stands 17 = .ok (.iload_n 3, 1) := by decide +kernel
theorem dX5_stands_18 : decode cX5_stands 18 = .ok (.aload_n 1, 1) := by decide +kernel
theorem dX5_stands_19 : decode cX5_stands 19 = .ok (.invokevirtual 65, 3) := by decide +kernel
theorem dX5_stands_22 : decode cX5_stands 22 = .ok (.if_icmp .ge 27, 3) := by decide +kernel
theorem dX5_stands_25 : decode cX5_stands 25 = .ok (.aload_n 0, 1) := by decide +kernel
theorem dX5_stands_26 : decode cX5_stands 26 = .ok (.getfield 9, 3) := by decide +kernel
theorem dX5_stands_29 : decode cX5_stands 29 = .ok (.iload_n 2, 1) := by decide +kernel
theorem dX5_stands_30 : decode cX5_stands 30 = .ok (.iload_n 3, 1) := by decide +kernel
theorem dX5_stands_31 : decode cX5_stands 31 = .ok (.iadd, 1) := by decide +kernel
theorem dX5_stands_32 : decode cX5_stands 32 = .ok (.iaload, 1) := by decide +kernel
theorem dX5_stands_33 : decode cX5_stands 33 = .ok (.aload_n 1, 1) := by decide +kernel
theorem dX5_stands_34 : decode cX5_stands 34 = .ok (.iload_n 3, 1) := by decide +kernel
theorem dX5_stands_35 : decode cX5_stands 35 = .ok (.invokevirtual 70, 3) := by decide +kernel
theorem dX5_stands_38 : decode cX5_stands 38 = .ok (.if_icmp .eq 5, 3) := by decide +kernel
theorem dX5_stands_41 : decode cX5_stands 41 = .ok (.iconst 0, 1) := by decide +kernel
theorem dX5_stands_42 : decode cX5_stands 42 = .ok (.ireturn, 1) := by decide +kernel
theorem dX5_stands_43 : decode cX5_stands 43 = .ok (.iinc 3 1, 3) := by decide +kernel
theorem dX5_stands_46 : decode cX5_stands 46 = .ok (.goto (-29), 3) := by decide +kernel
theorem dX5_stands_49 : decode cX5_stands 49 = .ok (.iconst 1, 1) := by decide +kernel
theorem dX5_stands_50 : decode cX5_stands 50 = .ok (.ireturn, 1) := by decide +kernel
theorem dX5_isLetter_0 : decode cX5_isLetter 0 = .ok (.iload_n 0, 1) := by decide +kernel
theorem dX5_isLetter_1 : decode cX5_isLetter 1 = .ok (.bipush 97, 2) := by decide +kernel
theorem dX5_isLetter_3 : decode cX5_isLetter 3 = .ok (.if_icmp .lt 13, 3) := by decide +kernel
theorem dX5_isLetter_6 : decode cX5_isLetter 6 = .ok (.iload_n 0, 1) := by decide +kernel
theorem dX5_isLetter_7 : decode cX5_isLetter 7 = .ok (.bipush 122, 2) := by decide +kernel
theorem dX5_isLetter_9 : decode cX5_isLetter 9 = .ok (.if_icmp .gt 7, 3) := by decide +kernel
theorem dX5_isLetter_12 : decode cX5_isLetter 12 = .ok (.iconst 1, 1) := by decide +kernel
theorem dX5_isLetter_13 : decode cX5_isLetter 13 = .ok (.goto 4, 3) := by decide +kernel
theorem dX5_isLetter_16 : decode cX5_isLetter 16 = .ok (.iconst 0, 1) := by decide +kernel
theorem dX5_isLetter_17 : decode cX5_isLetter 17 = .ok (.ireturn, 1) := by decide +kernel
theorem dX5_isDigit_0 : decode cX5_isDigit 0 = .ok (.iload_n 0, 1) := by decide +kernel
theorem dX5_isDigit_1 : decode cX5_isDigit 1 = .ok (.bipush 48, 2) := by decide +kernel
theorem dX5_isDigit_3 : decode cX5_isDigit 3 = .ok (.if_icmp .lt 13, 3) := by decide +kernel
theorem dX5_isDigit_6 : decode cX5_isDigit 6 = .ok (.iload_n 0, 1) := by decide +kernel
theorem dX5_isDigit_7 : decode cX5_isDigit 7 = .ok (.bipush 57, 2) := by decide +kernel
theorem dX5_isDigit_9 : decode cX5_isDigit 9 = .ok (.if_icmp .gt 7, 3) := by decide +kernel
theorem dX5_isDigit_12 : decode cX5_isDigit 12 = .ok (.iconst 1, 1) := by decide +kernel
theorem dX5_isDigit_13 : decode cX5_isDigit 13 = .ok (.goto 4, 3) := by decide +kernel
theorem dX5_isDigit_16 : decode cX5_isDigit 16 = .ok (.iconst 0, 1) := by decide +kernel
theorem dX5_isDigit_17 : decode cX5_isDigit 17 = .ok (.ireturn, 1) := by decide +kernel
theorem dX5_isSign_0 : decode cX5_isSign 0 = .ok (.iload_n 0, 1) := by decide +kernel
theorem dX5_isSign_1 : decode cX5_isSign 1 = .ok (.tableswitch 105 40 61 #[103, 103, 103, 103, 105, 103, 105, 105, 105, 105, 105, 105, 105, 105, 105, 105, 105, 105, 105, 103, 103, 103], 103) := by decide +kernel
theorem dX5_isSign_104 : decode cX5_isSign 104 = .ok (.iconst 1, 1) := by decide +kernel
theorem dX5_isSign_105 : decode cX5_isSign 105 = .ok (.ireturn, 1) := by decide +kernel
theorem dX5_isSign_106 : decode cX5_isSign 106 = .ok (.iconst 0, 1) := by decide +kernel
theorem dX5_isSign_107 : decode cX5_isSign 107 = .ok (.ireturn, 1) := by decide +kernel
theorem dX5_spelling_0 : decode cX5_spelling 0 = .ok (.iload_n 0, 1) := by decide +kernel
theorem dX5_spelling_1 : decode cX5_spelling 1 = .ok (.tableswitch 92 0 10 #[59, 62, 65, 68, 71, 74, 77, 80, 83, 86, 89], 59) := by decide +kernel
theorem dX5_spelling_60 : decode cX5_spelling 60 = .ok (.ldc 74, 2) := by decide +kernel
theorem dX5_spelling_62 : decode cX5_spelling 62 = .ok (.areturn, 1) := by decide +kernel
theorem dX5_spelling_63 : decode cX5_spelling 63 = .ok (.ldc 76, 2) := by decide +kernel
theorem dX5_spelling_65 : decode cX5_spelling 65 = .ok (.areturn, 1) := by decide +kernel
theorem dX5_spelling_66 : decode cX5_spelling 66 = .ok (.ldc 78, 2) := by decide +kernel
theorem dX5_spelling_68 : decode cX5_spelling 68 = .ok (.areturn, 1) := by decide +kernel
theorem dX5_spelling_69 : decode cX5_spelling 69 = .ok (.ldc 80, 2) := by decide +kernel
theorem dX5_spelling_71 : decode cX5_spelling 71 = .ok (.areturn, 1) := by decide +kernel
theorem dX5_spelling_72 : decode cX5_spelling 72 = .ok (.ldc 82, 2) := by decide +kernel
theorem dX5_spelling_74 : decode cX5_spelling 74 = .ok (.areturn, 1) := by decide +kernel
theorem dX5_spelling_75 : decode cX5_spelling 75 = .ok (.ldc 84, 2) := by decide +kernel
theorem dX5_spelling_77 : decode cX5_spelling 77 = .ok (.areturn, 1) := by decide +kernel
theorem dX5_spelling_78 : decode cX5_spelling 78 = .ok (.ldc 86, 2) := by decide +kernel
theorem dX5_spelling_80 : decode cX5_spelling 80 = .ok (.areturn, 1) := by decide +kernel
theorem dX5_spelling_81 : decode cX5_spelling 81 = .ok (.ldc 88, 2) := by decide +kernel
theorem dX5_spelling_83 : decode cX5_spelling 83 = .ok (.areturn, 1) := by decide +kernel
theorem dX5_spelling_84 : decode cX5_spelling 84 = .ok (.ldc 90, 2) := by decide +kernel
theorem dX5_spelling_86 : decode cX5_spelling 86 = .ok (.areturn, 1) := by decide +kernel
theorem dX5_spelling_87 : decode cX5_spelling 87 = .ok (.ldc 92, 2) := by decide +kernel
theorem dX5_spelling_89 : decode cX5_spelling 89 = .ok (.areturn, 1) := by decide +kernel
theorem dX5_spelling_90 : decode cX5_spelling 90 = .ok (.ldc 94, 2) := by decide +kernel
theorem dX5_spelling_92 : decode cX5_spelling 92 = .ok (.areturn, 1) := by decide +kernel
theorem dX5_spelling_93 : decode cX5_spelling 93 = .ok (.ldc 96, 2) := by decide +kernel
theorem dX5_spelling_95 : decode cX5_spelling 95 = .ok (.areturn, 1) := by decide +kernel
theorem dX6_init_0 : decode cX6_init 0 = .ok (.aload_n 0, 1) := by decide +kernel
theorem dX6_init_1 : decode cX6_init 1 = .ok (.invokespecial 1, 3) := by decide +kernel
theorem dX6_init_4 : decode cX6_init 4 = .ok (.aload_n 0, 1) := by decide +kernel
theorem dX6_init_5 : decode cX6_init 5 = .ok (.aload_n 1, 1) := by decide +kernel
theorem dX6_init_6 : decode cX6_init 6 = .ok (.putfield 7, 3) := by decide +kernel
theorem dX6_init_9 : decode cX6_init 9 = .ok (.aload_n 0, 1) := by decide +kernel
theorem dX6_init_10 : decode cX6_init 10 = .ok (.aload_n 2, 1) := by decide +kernel
theorem dX6_init_11 : decode cX6_init 11 = .ok (.putfield 13, 3) := by decide +kernel
theorem dX6_init_14 : decode cX6_init 14 = .ok (.return_, 1) := by decide +kernel
theorem dX6_start_0 : decode cX6_start 0 = .ok (.iload_n 1, 1) := by decide +kernel
theorem dX6_start_1 : decode cX6_start 1 = .ok (.ifCond .le 23, 3) := by decide +kernel
theorem dX6_start_4 : decode cX6_start 4 = .ok (.iload_n 1, 1) := by decide +kernel
theorem dX6_start_5 : decode cX6_start 5 = .ok (.aload_n 0, 1) := by decide +kernel
theorem dX6_start_6 : decode cX6_start 6 = .ok (.getfield 13, 3) := by decide +kernel
theorem dX6_start_9 : decode cX6_start 9 = .ok (.arraylength, 1) := by decide +kernel
theorem dX6_start_10 : decode cX6_start 10 = .ok (.if_icmp .ge 14, 3) := by decide +kernel
theorem dX6_start_13 : decode cX6_start 13 = .ok (.aload_n 0, 1) := by decide +kernel
theorem dX6_start_14 : decode cX6_start 14 = .ok (.getfield 13, 3) := by decide +kernel
theorem dX6_start_17 : decode cX6_start 17 = .ok (.iload_n 1, 1) := by decide +kernel
theorem dX6_start_18 : decode cX6_start 18 = .ok (.iconst 1, 1) := by decide +kernel
theorem dX6_start_19 : decode cX6_start 19 = .ok (.isub, 1) := by decide +kernel
theorem dX6_start_20 : decode cX6_start 20 = .ok (.iaload, 1) := by decide +kernel
theorem dX6_start_21 : decode cX6_start 21 = .ok (.goto 4, 3) := by decide +kernel
theorem dX6_start_24 : decode cX6_start 24 = .ok (.iconst 0, 1) := by decide +kernel
theorem dX6_start_25 : decode cX6_start 25 = .ok (.ireturn, 1) := by decide +kernel
theorem dX6_end_0 : decode cX6_end 0 = .ok (.iload_n 1, 1) := by decide +kernel
theorem dX6_end_1 : decode cX6_end 1 = .ok (.ifCond .lt 21, 3) := by decide +kernel
theorem dX6_end_4 : decode cX6_end 4 = .ok (.iload_n 1, 1) := by decide +kernel
theorem dX6_end_5 : decode cX6_end 5 = .ok (.aload_n 0, 1) := by decide +kernel
theorem dX6_end_6 : decode cX6_end 6 = .ok (.getfield 13, 3) := by decide +kernel
theorem dX6_end_9 : decode cX6_end 9 = .ok (.arraylength, 1) := by decide +kernel
theorem dX6_end_10 : decode cX6_end 10 = .ok (.if_icmp .ge 12, 3) := by decide +kernel
theorem dX6_end_13 : decode cX6_end 13 = .ok (.aload_n 0, 1) := by decide +kernel
theorem dX6_end_14 : decode cX6_end 14 = .ok (.getfield 13, 3) := by decide +kernel
theorem dX6_end_17 : decode cX6_end 17 = .ok (.iload_n 1, 1) := by decide +kernel
theorem dX6_end_18 : decode cX6_end 18 = .ok (.iaload, 1) := by decide +kernel
theorem dX6_end_19 : decode cX6_end 19 = .ok (.goto 4, 3) := by decide +kernel
theorem dX6_end_22 : decode cX6_end 22 = .ok (.iconst 0, 1) := by decide +kernel
theorem dX6_end_23 : decode cX6_end 23 = .ok (.ireturn, 1) := by decide +kernel
theorem dX7_init_0 : decode cX7_init 0 = .ok (.aload_n 0, 1) := by decide +kernel
theorem dX7_init_1 : decode cX7_init 1 = .ok (.invokespecial 3, 3) := by decide +kernel
theorem dX7_init_4 : decode cX7_init 4 = .ok (.aload_n 0, 1) := by decide +kernel
theorem dX7_init_5 : decode cX7_init 5 = .ok (.bipush 6, 2) := by decide +kernel
theorem dX7_init_7 : decode cX7_init 7 = .ok (.newarray .int, 2) := by decide +kernel
theorem dX7_init_9 : decode cX7_init 9 = .ok (.putfield 9, 3) := by decide +kernel
theorem dX7_init_12 : decode cX7_init 12 = .ok (.aload_n 0, 1) := by decide +kernel
theorem dX7_init_13 : decode cX7_init 13 = .ok (.sipush 192, 3) := by decide +kernel
theorem dX7_init_16 : decode cX7_init 16 = .ok (.newarray .int, 2) := by decide +kernel
theorem dX7_init_18 : decode cX7_init 18 = .ok (.putfield 15, 3) := by decide +kernel
theorem dX7_init_21 : decode cX7_init 21 = .ok (.aload_n 0, 1) := by decide +kernel
theorem dX7_init_22 : decode cX7_init 22 = .ok (.sipush 192, 3) := by decide +kernel
theorem dX7_init_25 : decode cX7_init 25 = .ok (.newarray .int, 2) := by decide +kernel
theorem dX7_init_27 : decode cX7_init 27 = .ok (.putfield 18, 3) := by decide +kernel
theorem dX7_init_30 : decode cX7_init 30 = .ok (.return_, 1) := by decide +kernel
theorem dX7_reach_0 : decode cX7_reach 0 = .ok (.aload_n 0, 1) := by decide +kernel
theorem dX7_reach_1 : decode cX7_reach 1 = .ok (.getfield 9, 3) := by decide +kernel
theorem dX7_reach_4 : decode cX7_reach 4 = .ok (.bipush 32, 2) := by decide +kernel
theorem dX7_reach_6 : decode cX7_reach 6 = .ok (.invokestatic 21, 3) := by decide +kernel
theorem dX7_reach_9 : decode cX7_reach 9 = .ok (.aload_n 0, 1) := by decide +kernel
theorem dX7_reach_10 : decode cX7_reach 10 = .ok (.getfield 9, 3) := by decide +kernel
theorem dX7_reach_13 : decode cX7_reach 13 = .ok (.iload_n 2, 1) := by decide +kernel
theorem dX7_reach_14 : decode cX7_reach 14 = .ok (.bipush 32, 2) := by decide +kernel
theorem dX7_reach_16 : decode cX7_reach 16 = .ok (.idiv, 1) := by decide +kernel
theorem dX7_reach_17 : decode cX7_reach 17 = .ok (.iload_n 2, 1) := by decide +kernel
theorem dX7_reach_18 : decode cX7_reach 18 = .ok (.bipush 32, 2) := by decide +kernel
theorem dX7_reach_20 : decode cX7_reach 20 = .ok (.irem, 1) := by decide +kernel
theorem dX7_reach_21 : decode cX7_reach 21 = .ok (.iastore, 1) := by decide +kernel
theorem dX7_reach_22 : decode cX7_reach 22 = .ok (.iconst 1, 1) := by decide +kernel
theorem dX7_reach_23 : decode cX7_reach 23 = .ok (.istore 5, 2) := by decide +kernel
theorem dX7_reach_25 : decode cX7_reach 25 = .ok (.iconst 0, 1) := by decide +kernel
theorem dX7_reach_26 : decode cX7_reach 26 = .ok (.istore 6, 2) := by decide +kernel
theorem dX7_reach_28 : decode cX7_reach 28 = .ok (.iload 6, 2) := by decide +kernel
theorem dX7_reach_30 : decode cX7_reach 30 = .ok (.sipush 192, 3) := by decide +kernel
theorem dX7_reach_33 : decode cX7_reach 33 = .ok (.if_icmp .gt 24, 3) := by decide +kernel
theorem dX7_reach_36 : decode cX7_reach 36 = .ok (.iload 5, 2) := by decide +kernel
theorem dX7_reach_38 : decode cX7_reach 38 = .ok (.ifCond .eq 19, 3) := by decide +kernel
theorem dX7_reach_41 : decode cX7_reach 41 = .ok (.aload_n 0, 1) := by decide +kernel
theorem dX7_reach_42 : decode cX7_reach 42 = .ok (.aload_n 1, 1) := by decide +kernel
theorem dX7_reach_43 : decode cX7_reach 43 = .ok (.iload_n 3, 1) := by decide +kernel
theorem dX7_reach_44 : decode cX7_reach 44 = .ok (.iload 4, 2) := by decide +kernel
theorem dX7_reach_46 : decode cX7_reach 46 = .ok (.invokevirtual 27, 3) := by decide +kernel
theorem dX7_reach_49 : decode cX7_reach 49 = .ok (.istore 5, 2) := by decide +kernel
theorem dX7_reach_51 : decode cX7_reach 51 = .ok (.iinc 6 1, 3) := by decide +kernel
theorem dX7_reach_54 : decode cX7_reach 54 = .ok (.goto (-26), 3) := by decide +kernel
theorem dX7_reach_57 : decode cX7_reach 57 = .ok (.return_, 1) := by decide +kernel
theorem dX7_comes_0 : decode cX7_comes 0 = .ok (.aload_n 0, 1) := by decide +kernel
theorem dX7_comes_1 : decode cX7_comes 1 = .ok (.aload_n 1, 1) := by decide +kernel
theorem dX7_comes_2 : decode cX7_comes 2 = .ok (.iload_n 2, 1) := by decide +kernel
theorem dX7_comes_3 : decode cX7_comes 3 = .ok (.iload 4, 2) := by decide +kernel
theorem dX7_comes_5 : decode cX7_comes 5 = .ok (.iload 5, 2) := by decide +kernel
theorem dX7_comes_7 : decode cX7_comes 7 = .ok (.invokevirtual 31, 3) := by decide +kernel
theorem dX7_comes_10 : decode cX7_comes 10 = .ok (.aload_n 0, 1) := by decide +kernel
theorem dX7_comes_11 : decode cX7_comes 11 = .ok (.getfield 9, 3) := by decide +kernel
theorem dX7_comes_14 : decode cX7_comes 14 = .ok (.iload_n 3, 1) := by decide +kernel
theorem dX7_comes_15 : decode cX7_comes 15 = .ok (.bipush 32, 2) := by decide +kernel
theorem dX7_comes_17 : decode cX7_comes 17 = .ok (.idiv, 1) := by decide +kernel
theorem dX7_comes_18 : decode cX7_comes 18 = .ok (.iaload, 1) := by decide +kernel
theorem dX7_comes_19 : decode cX7_comes 19 = .ok (.iload_n 3, 1) := by decide +kernel
theorem dX7_comes_20 : decode cX7_comes 20 = .ok (.bipush 32, 2) := by decide +kernel
theorem dX7_comes_22 : decode cX7_comes 22 = .ok (.irem, 1) := by decide +kernel
theorem dX7_comes_23 : decode cX7_comes 23 = .ok (.if_icmp .gt 7, 3) := by decide +kernel
theorem dX7_comes_26 : decode cX7_comes 26 = .ok (.iconst 1, 1) := by decide +kernel
theorem dX7_comes_27 : decode cX7_comes 27 = .ok (.goto 4, 3) := by decide +kernel
theorem dX7_comes_30 : decode cX7_comes 30 = .ok (.iconst 0, 1) := by decide +kernel
theorem dX7_comes_31 : decode cX7_comes 31 = .ok (.ireturn, 1) := by decide +kernel
theorem dX7_passAll_0 : decode cX7_passAll 0 = .ok (.iconst 0, 1) := by decide +kernel
theorem dX7_passAll_1 : decode cX7_passAll 1 = .ok (.istore 4, 2) := by decide +kernel
theorem dX7_passAll_3 : decode cX7_passAll 3 = .ok (.iconst 0, 1) := by decide +kernel
theorem dX7_passAll_4 : decode cX7_passAll 4 = .ok (.istore 5, 2) := by decide +kernel
theorem dX7_passAll_6 : decode cX7_passAll 6 = .ok (.iload 5, 2) := by decide +kernel
theorem dX7_passAll_8 : decode cX7_passAll 8 = .ok (.aload_n 1, 1) := by decide +kernel
theorem dX7_passAll_9 : decode cX7_passAll 9 = .ok (.getfield 35, 3) := by decide +kernel
theorem dX7_passAll_12 : decode cX7_passAll 12 = .ok (.if_icmp .ge 75, 3) := by decide +kernel
theorem dX7_passAll_15 : decode cX7_passAll 15 = .ok (.aload_n 1, 1) := by decide +kernel
theorem dX7_passAll_16 : decode cX7_passAll 16 = .ok (.getfield 41, 3) := by decide +kernel
theorem dX7_passAll_19 : decode cX7_passAll 19 = .ok (.iload 5, 2) := by decide +kernel
theorem dX7_passAll_21 : decode cX7_passAll 21 = .ok (.aaload, 1) := by decide +kernel
theorem dX7_passAll_22 : decode cX7_passAll 22 = .ok (.astore 6, 2) := by decide +kernel
theorem dX7_passAll_24 : decode cX7_passAll 24 = .ok (.iload_n 3, 1) := by decide +kernel
theorem dX7_passAll_25 : decode cX7_passAll 25 = .ok (.iload 5, 2) := by decide +kernel
theorem dX7_passAll_27 : decode cX7_passAll 27 = .ok (.ishr, 1) := by decide +kernel
theorem dX7_passAll_28 : decode cX7_passAll 28 = .ok (.iconst 1, 1) := by decide +kernel
theorem dX7_passAll_29 : decode cX7_passAll 29 = .ok (.iand, 1) := by decide +kernel
theorem dX7_passAll_30 : decode cX7_passAll 30 = .ok (.ifCond .ne 51, 3) := by decide +kernel
theorem dX7_passAll_33 : decode cX7_passAll 33 = .ok (.aload 6, 2) := by decide +kernel
theorem dX7_passAll_35 : decode cX7_passAll 35 = .ok (.aload_n 0, 1) := by decide +kernel
theorem dX7_passAll_36 : decode cX7_passAll 36 = .ok (.getfield 9, 3) := by decide +kernel
theorem dX7_passAll_39 : decode cX7_passAll 39 = .ok (.aload 6, 2) := by decide +kernel
theorem dX7_passAll_41 : decode cX7_passAll 41 = .ok (.getfield 45, 3) := by decide +kernel
theorem dX7_passAll_44 : decode cX7_passAll 44 = .ok (.iaload, 1) := by decide +kernel
theorem dX7_passAll_45 : decode cX7_passAll 45 = .ok (.iload_n 2, 1) := by decide +kernel
theorem dX7_passAll_46 : decode cX7_passAll 46 = .ok (.invokevirtual 50, 3) := by decide +kernel
theorem dX7_passAll_49 : decode cX7_passAll 49 = .ok (.istore 7, 2) := by decide +kernel
theorem dX7_passAll_51 : decode cX7_passAll 51 = .ok (.iload 7, 2) := by decide +kernel
theorem dX7_passAll_53 : decode cX7_passAll 53 = .ok (.aload_n 0, 1) := by decide +kernel
theorem dX7_passAll_54 : decode cX7_passAll 54 = .ok (.getfield 9, 3) := by decide +kernel
theorem dX7_passAll_57 : decode cX7_passAll 57 = .ok (.aload 6, 2) := by decide +kernel
theorem dX7_passAll_59 : decode cX7_passAll 59 = .ok (.invokevirtual 54, 3) := by decide +kernel
theorem dX7_passAll_62 : decode cX7_passAll 62 = .ok (.iaload, 1) := by decide +kernel
theorem dX7_passAll_63 : decode cX7_passAll 63 = .ok (.if_icmp .ge 18, 3) := by decide +kernel
theorem dX7_passAll_66 : decode cX7_passAll 66 = .ok (.aload_n 0, 1) := by decide +kernel
theorem dX7_passAll_67 : decode cX7_passAll 67 = .ok (.getfield 9, 3) := by decide +kernel
theorem dX7_passAll_70 : decode cX7_passAll 70 = .ok (.aload 6, 2) := by decide +kernel
theorem dX7_passAll_72 : decode cX7_passAll 72 = .ok (.invokevirtual 54, 3) := by decide +kernel
theorem dX7_passAll_75 : decode cX7_passAll 75 = .ok (.iload 7, 2) := by decide +kernel
theorem dX7_passAll_77 : decode cX7_passAll 77 = .ok (.iastore, 1) := by decide +kernel
theorem dX7_passAll_78 : decode cX7_passAll 78 = .ok (.iconst 1, 1) := by decide +kernel
theorem dX7_passAll_79 : decode cX7_passAll 79 = .ok (.istore 4, 2) := by decide +kernel
theorem dX7_passAll_81 : decode cX7_passAll 81 = .ok (.iinc 5 1, 3) := by decide +kernel
theorem dX7_passAll_84 : decode cX7_passAll 84 = .ok (.goto (-78), 3) := by decide +kernel
theorem dX7_passAll_87 : decode cX7_passAll 87 = .ok (.iload 4, 2) := by decide +kernel
theorem dX7_passAll_89 : decode cX7_passAll 89 = .ok (.ireturn, 1) := by decide +kernel
theorem dX7_search_0 : decode cX7_search 0 = .ok (.aload_n 0, 1) := by decide +kernel
theorem dX7_search_1 : decode cX7_search 1 = .ok (.getfield 15, 3) := by decide +kernel
theorem dX7_search_4 : decode cX7_search 4 = .ok (.ldc 58, 2) := by decide +kernel
theorem dX7_search_6 : decode cX7_search 6 = .ok (.invokestatic 21, 3) := by decide +kernel
theorem dX7_search_9 : decode cX7_search 9 = .ok (.aload_n 0, 1) := by decide +kernel
theorem dX7_search_10 : decode cX7_search 10 = .ok (.getfield 18, 3) := by decide +kernel
theorem dX7_search_13 : decode cX7_search 13 = .ok (.iconst 0, 1) := by decide +kernel
theorem dX7_search_14 : decode cX7_search 14 = .ok (.invokestatic 21, 3) := by decide +kernel
theorem dX7_search_17 : decode cX7_search 17 = .ok (.aload_n 0, 1) := by decide +kernel
theorem dX7_search_18 : decode cX7_search 18 = .ok (.getfield 15, 3) := by decide +kernel
theorem dX7_search_21 : decode cX7_search 21 = .ok (.iload_n 3, 1) := by decide +kernel
theorem dX7_search_22 : decode cX7_search 22 = .ok (.iconst 0, 1) := by decide +kernel
theorem dX7_search_23 : decode cX7_search 23 = .ok (.iastore, 1) := by decide +kernel
theorem dX7_search_24 : decode cX7_search 24 = .ok (.iconst 0, 1) := by decide +kernel
theorem dX7_search_25 : decode cX7_search 25 = .ok (.istore 5, 2) := by decide +kernel
theorem dX7_search_27 : decode cX7_search 27 = .ok (.iload 5, 2) := by decide +kernel
theorem dX7_search_29 : decode cX7_search 29 = .ok (.sipush 192, 3) := by decide +kernel
theorem dX7_search_32 : decode cX7_search 32 = .ok (.if_icmp .ge 40, 3) := by decide +kernel
theorem dX7_search_35 : decode cX7_search 35 = .ok (.aload_n 0, 1) := by decide +kernel
theorem dX7_search_36 : decode cX7_search 36 = .ok (.invokevirtual 59, 3) := by decide +kernel
theorem dX7_search_39 : decode cX7_search 39 = .ok (.istore 6, 2) := by decide +kernel
theorem dX7_search_41 : decode cX7_search 41 = .ok (.iload 6, 2) := by decide +kernel
theorem dX7_search_43 : decode cX7_search 43 = .ok (.iconst (-1), 1) := by decide +kernel
theorem dX7_search_44 : decode cX7_search 44 = .ok (.if_icmp .ne 4, 3) := by decide +kernel
theorem dX7_search_47 : decode cX7_search 47 = .ok (.return_, 1) := by decide +kernel
theorem dX7_search_48 : decode cX7_search 48 = .ok (.aload_n 0, 1) := by decide +kernel
theorem dX7_search_49 : decode cX7_search 49 = .ok (.getfield 18, 3) := by decide +kernel
theorem dX7_search_52 : decode cX7_search 52 = .ok (.iload 6, 2) := by decide +kernel
theorem dX7_search_54 : decode cX7_search 54 = .ok (.iconst 1, 1) := by decide +kernel
theorem dX7_search_55 : decode cX7_search 55 = .ok (.iastore, 1) := by decide +kernel
theorem dX7_search_56 : decode cX7_search 56 = .ok (.aload_n 0, 1) := by decide +kernel
theorem dX7_search_57 : decode cX7_search 57 = .ok (.aload_n 1, 1) := by decide +kernel
theorem dX7_search_58 : decode cX7_search 58 = .ok (.aload_n 2, 1) := by decide +kernel
theorem dX7_search_59 : decode cX7_search 59 = .ok (.iload 6, 2) := by decide +kernel
theorem dX7_search_61 : decode cX7_search 61 = .ok (.iload 4, 2) := by decide +kernel
theorem dX7_search_63 : decode cX7_search 63 = .ok (.invokevirtual 62, 3) := by decide +kernel
theorem dX7_search_66 : decode cX7_search 66 = .ok (.iinc 5 1, 3) := by decide +kernel
theorem dX7_search_69 : decode cX7_search 69 = .ok (.goto (-42), 3) := by decide +kernel
theorem dX7_search_72 : decode cX7_search 72 = .ok (.return_, 1) := by decide +kernel
theorem dX7_nearest_0 : decode cX7_nearest 0 = .ok (.iconst (-1), 1) := by decide +kernel
theorem dX7_nearest_1 : decode cX7_nearest 1 = .ok (.istore_n 1, 1) := by decide +kernel
theorem dX7_nearest_2 : decode cX7_nearest 2 = .ok (.ldc 58, 2) := by decide +kernel
theorem dX7_nearest_4 : decode cX7_nearest 4 = .ok (.istore_n 2, 1) := by decide +kernel
theorem dX7_nearest_5 : decode cX7_nearest 5 = .ok (.iconst 0, 1) := by decide +kernel
theorem dX7_nearest_6 : decode cX7_nearest 6 = .ok (.istore_n 3, 1) := by decide +kernel
theorem dX7_nearest_7 : decode cX7_nearest 7 = .ok (.iload_n 3, 1) := by decide +kernel
theorem dX7_nearest_8 : decode cX7_nearest 8 = .ok (.sipush 192, 3) := by decide +kernel
theorem dX7_nearest_11 : decode cX7_nearest 11 = .ok (.if_icmp .ge 37, 3) := by decide +kernel
theorem dX7_nearest_14 : decode cX7_nearest 14 = .ok (.aload_n 0, 1) := by decide +kernel
theorem dX7_nearest_15 : decode cX7_nearest 15 = .ok (.getfield 18, 3) := by decide +kernel
theorem dX7_nearest_18 : decode cX7_nearest 18 = .ok (.iload_n 3, 1) := by decide +kernel
theorem dX7_nearest_19 : decode cX7_nearest 19 = .ok (.iaload, 1) := by decide +kernel
theorem dX7_nearest_20 : decode cX7_nearest 20 = .ok (.ifCond .ne 22, 3) := by decide +kernel
theorem dX7_nearest_23 : decode cX7_nearest 23 = .ok (.aload_n 0, 1) := by decide +kernel
theorem dX7_nearest_24 : decode cX7_nearest 24 = .ok (.getfield 15, 3) := by decide +kernel
theorem dX7_nearest_27 : decode cX7_nearest 27 = .ok (.iload_n 3, 1) := by decide +kernel
theorem dX7_nearest_28 : decode cX7_nearest 28 = .ok (.iaload, 1) := by decide +kernel
theorem dX7_nearest_29 : decode cX7_nearest 29 = .ok (.iload_n 2, 1) := by decide +kernel
theorem dX7_nearest_30 : decode cX7_nearest 30 = .ok (.if_icmp .ge 12, 3) := by decide +kernel
theorem dX7_nearest_33 : decode cX7_nearest 33 = .ok (.aload_n 0, 1) := by decide +kernel
theorem dX7_nearest_34 : decode cX7_nearest 34 = .ok (.getfield 15, 3) := by decide +kernel
theorem dX7_nearest_37 : decode cX7_nearest 37 = .ok (.iload_n 3, 1) := by decide +kernel
theorem dX7_nearest_38 : decode cX7_nearest 38 = .ok (.iaload, 1) := by decide +kernel
theorem dX7_nearest_39 : decode cX7_nearest 39 = .ok (.istore_n 2, 1) := by decide +kernel
theorem dX7_nearest_40 : decode cX7_nearest 40 = .ok (.iload_n 3, 1) := by decide +kernel
theorem dX7_nearest_41 : decode cX7_nearest 41 = .ok (.istore_n 1, 1) := by decide +kernel
theorem dX7_nearest_42 : decode cX7_nearest 42 = .ok (.iinc 3 1, 3) := by decide +kernel
theorem dX7_nearest_45 : decode cX7_nearest 45 = .ok (.goto (-38), 3) := by decide +kernel
theorem dX7_nearest_48 : decode cX7_nearest 48 = .ok (.iload_n 1, 1) := by decide +kernel
theorem dX7_nearest_49 : decode cX7_nearest 49 = .ok (.ireturn, 1) := by decide +kernel
theorem dX7_leave_0 : decode cX7_leave 0 = .ok (.iload_n 3, 1) := by decide +kernel
theorem dX7_leave_1 : decode cX7_leave 1 = .ok (.bipush 32, 2) := by decide +kernel
theorem dX7_leave_3 : decode cX7_leave 3 = .ok (.idiv, 1) := by decide +kernel
theorem dX7_leave_4 : decode cX7_leave 4 = .ok (.istore 5, 2) := by decide +kernel
theorem dX7_leave_6 : decode cX7_leave 6 = .ok (.iload_n 3, 1) := by decide +kernel
theorem dX7_leave_7 : decode cX7_leave 7 = .ok (.bipush 32, 2) := by decide +kernel
theorem dX7_leave_9 : decode cX7_leave 9 = .ok (.irem, 1) := by decide +kernel
theorem dX7_leave_10 : decode cX7_leave 10 = .ok (.istore 6, 2) := by decide +kernel
theorem dX7_leave_12 : decode cX7_leave 12 = .ok (.iload 6, 2) := by decide +kernel
theorem dX7_leave_14 : decode cX7_leave 14 = .ok (.iconst 1, 1) := by decide +kernel
theorem dX7_leave_15 : decode cX7_leave 15 = .ok (.iadd, 1) := by decide +kernel
theorem dX7_leave_16 : decode cX7_leave 16 = .ok (.bipush 32, 2) := by decide +kernel
theorem dX7_leave_18 : decode cX7_leave 18 = .ok (.if_icmp .ge 18, 3) := by decide +kernel
theorem dX7_leave_21 : decode cX7_leave 21 = .ok (.aload_n 0, 1) := by decide +kernel
theorem dX7_leave_22 : decode cX7_leave 22 = .ok (.iload_n 3, 1) := by decide +kernel
theorem dX7_leave_23 : decode cX7_leave 23 = .ok (.iconst 1, 1) := by decide +kernel
theorem dX7_leave_24 : decode cX7_leave 24 = .ok (.iadd, 1) := by decide +kernel
theorem dX7_leave_25 : decode cX7_leave 25 = .ok (.aload_n 0, 1) := by decide +kernel
theorem dX7_leave_26 : decode cX7_leave 26 = .ok (.getfield 15, 3) := by decide +kernel
theorem dX7_leave_29 : decode cX7_leave 29 = .ok (.iload_n 3, 1) := by decide +kernel
theorem dX7_leave_30 : decode cX7_leave 30 = .ok (.iaload, 1) := by decide +kernel
theorem dX7_leave_31 : decode cX7_leave 31 = .ok (.iconst 1, 1) := by decide +kernel
theorem dX7_leave_32 : decode cX7_leave 32 = .ok (.iadd, 1) := by decide +kernel
theorem dX7_leave_33 : decode cX7_leave 33 = .ok (.invokevirtual 66, 3) := by decide +kernel
theorem dX7_leave_36 : decode cX7_leave 36 = .ok (.iconst 0, 1) := by decide +kernel
theorem dX7_leave_37 : decode cX7_leave 37 = .ok (.istore 7, 2) := by decide +kernel
theorem dX7_leave_39 : decode cX7_leave 39 = .ok (.iload 7, 2) := by decide +kernel
theorem dX7_leave_41 : decode cX7_leave 41 = .ok (.aload_n 1, 1) := by decide +kernel
theorem dX7_leave_42 : decode cX7_leave 42 = .ok (.getfield 35, 3) := by decide +kernel
theorem dX7_leave_45 : decode cX7_leave 45 = .ok (.if_icmp .ge 98, 3) := by decide +kernel
theorem dX7_leave_48 : decode cX7_leave 48 = .ok (.aload_n 1, 1) := by decide +kernel
theorem dX7_leave_49 : decode cX7_leave 49 = .ok (.getfield 41, 3) := by decide +kernel
theorem dX7_leave_52 : decode cX7_leave 52 = .ok (.iload 7, 2) := by decide +kernel
theorem dX7_leave_54 : decode cX7_leave 54 = .ok (.aaload, 1) := by decide +kernel
theorem dX7_leave_55 : decode cX7_leave 55 = .ok (.astore 8, 2) := by decide +kernel
theorem dX7_leave_57 : decode cX7_leave 57 = .ok (.aload 8, 2) := by decide +kernel
theorem dX7_leave_59 : decode cX7_leave 59 = .ok (.getfield 45, 3) := by decide +kernel
theorem dX7_leave_62 : decode cX7_leave 62 = .ok (.iload 5, 2) := by decide +kernel
theorem dX7_leave_64 : decode cX7_leave 64 = .ok (.if_icmp .ne 73, 3) := by decide +kernel
theorem dX7_leave_67 : decode cX7_leave 67 = .ok (.aload 8, 2) := by decide +kernel
theorem dX7_leave_69 : decode cX7_leave 69 = .ok (.iload 6, 2) := by decide +kernel
theorem dX7_leave_71 : decode cX7_leave 71 = .ok (.iload 4, 2) := by decide +kernel
theorem dX7_leave_73 : decode cX7_leave 73 = .ok (.invokevirtual 70, 3) := by decide +kernel
theorem dX7_leave_76 : decode cX7_leave 76 = .ok (.ifCond .eq 61, 3) := by decide +kernel
theorem dX7_leave_79 : decode cX7_leave 79 = .ok (.aload_n 2, 1) := by decide +kernel
theorem dX7_leave_80 : decode cX7_leave 80 = .ok (.ifnonnull 9, 3) := by decide +kernel
theorem dX7_leave_83 : decode cX7_leave 83 = .ok (.sipush 1000, 3) := by decide +kernel
theorem dX7_leave_86 : decode cX7_leave 86 = .ok (.goto 20, 3) := by decide +kernel
theorem dX7_leave_89 : decode cX7_leave 89 = .ok (.aload_n 2, 1) := by decide +kernel
theorem dX7_leave_90 : decode cX7_leave 90 = .ok (.aload_n 1, 1) := by decide +kernel
theorem dX7_leave_91 : decode cX7_leave 91 = .ok (.getfield 74, 3) := by decide +kernel
theorem dX7_leave_94 : decode cX7_leave 94 = .ok (.iconst 0, 1) := by decide +kernel
theorem dX7_leave_95 : decode cX7_leave 95 = .ok (.aload 8, 2) := by decide +kernel
theorem dX7_leave_97 : decode cX7_leave 97 = .ok (.iload 6, 2) := by decide +kernel
theorem dX7_leave_99 : decode cX7_leave 99 = .ok (.aload_n 1, 1) := by decide +kernel
theorem dX7_leave_100 : decode cX7_leave 100 = .ok (.getfield 77, 3) := by decide +kernel
theorem dX7_leave_103 : decode cX7_leave 103 = .ok (.invokevirtual 80, 3) := by decide +kernel
theorem dX7_leave_106 : decode cX7_leave 106 = .ok (.istore 9, 2) := by decide +kernel
theorem dX7_leave_108 : decode cX7_leave 108 = .ok (.aload_n 0, 1) := by decide +kernel
theorem dX7_leave_109 : decode cX7_leave 109 = .ok (.aload 8, 2) := by decide +kernel
theorem dX7_leave_111 : decode cX7_leave 111 = .ok (.invokevirtual 54, 3) := by decide +kernel
theorem dX7_leave_114 : decode cX7_leave 114 = .ok (.bipush 32, 2) := by decide +kernel
theorem dX7_leave_116 : decode cX7_leave 116 = .ok (.imul, 1) := by decide +kernel
theorem dX7_leave_117 : decode cX7_leave 117 = .ok (.aload 8, 2) := by decide +kernel
theorem dX7_leave_119 : decode cX7_leave 119 = .ok (.iload 6, 2) := by decide +kernel
theorem dX7_leave_121 : decode cX7_leave 121 = .ok (.invokevirtual 86, 3) := by decide +kernel
theorem dX7_leave_124 : decode cX7_leave 124 = .ok (.iadd, 1) := by decide +kernel
theorem dX7_leave_125 : decode cX7_leave 125 = .ok (.aload_n 0, 1) := by decide +kernel
theorem dX7_leave_126 : decode cX7_leave 126 = .ok (.getfield 15, 3) := by decide +kernel
theorem dX7_leave_129 : decode cX7_leave 129 = .ok (.iload_n 3, 1) := by decide +kernel
theorem dX7_leave_130 : decode cX7_leave 130 = .ok (.iaload, 1) := by decide +kernel
theorem dX7_leave_131 : decode cX7_leave 131 = .ok (.iload 9, 2) := by decide +kernel
theorem dX7_leave_133 : decode cX7_leave 133 = .ok (.iadd, 1) := by decide +kernel
theorem dX7_leave_134 : decode cX7_leave 134 = .ok (.invokevirtual 66, 3) := by decide +kernel
theorem dX7_leave_137 : decode cX7_leave 137 = .ok (.iinc 7 1, 3) := by decide +kernel
theorem dX7_leave_140 : decode cX7_leave 140 = .ok (.goto (-101), 3) := by decide +kernel
theorem dX7_leave_143 : decode cX7_leave 143 = .ok (.return_, 1) := by decide +kernel
theorem dX7_shorten_0 : decode cX7_shorten 0 = .ok (.iload_n 2, 1) := by decide +kernel
theorem dX7_shorten_1 : decode cX7_shorten 1 = .ok (.aload_n 0, 1) := by decide +kernel
theorem dX7_shorten_2 : decode cX7_shorten 2 = .ok (.getfield 15, 3) := by decide +kernel
theorem dX7_shorten_5 : decode cX7_shorten 5 = .ok (.iload_n 1, 1) := by decide +kernel
theorem dX7_shorten_6 : decode cX7_shorten 6 = .ok (.iaload, 1) := by decide +kernel
theorem dX7_shorten_7 : decode cX7_shorten 7 = .ok (.if_icmp .ge 10, 3) := by decide +kernel
theorem dX7_shorten_10 : decode cX7_shorten 10 = .ok (.aload_n 0, 1) := by decide +kernel
theorem dX7_shorten_11 : decode cX7_shorten 11 = .ok (.getfield 15, 3) := by decide +kernel
theorem dX7_shorten_14 : decode cX7_shorten 14 = .ok (.iload_n 1, 1) := by decide +kernel
theorem dX7_shorten_15 : decode cX7_shorten 15 = .ok (.iload_n 2, 1) := by decide +kernel
theorem dX7_shorten_16 : decode cX7_shorten 16 = .ok (.iastore, 1) := by decide +kernel
theorem dX7_shorten_17 : decode cX7_shorten 17 = .ok (.return_, 1) := by decide +kernel
theorem dX7_fewestBackTo_0 : decode cX7_fewestBackTo 0 = .ok (.ldc 58, 2) := by decide +kernel
theorem dX7_fewestBackTo_2 : decode cX7_fewestBackTo 2 = .ok (.istore 4, 2) := by decide +kernel
theorem dX7_fewestBackTo_4 : decode cX7_fewestBackTo 4 = .ok (.iload_n 2, 1) := by decide +kernel
theorem dX7_fewestBackTo_5 : decode cX7_fewestBackTo 5 = .ok (.bipush 32, 2) := by decide +kernel
theorem dX7_fewestBackTo_7 : decode cX7_fewestBackTo 7 = .ok (.irem, 1) := by decide +kernel
theorem dX7_fewestBackTo_8 : decode cX7_fewestBackTo 8 = .ok (.ifCond .le 30, 3) := by decide +kernel
theorem dX7_fewestBackTo_11 : decode cX7_fewestBackTo 11 = .ok (.aload_n 0, 1) := by decide +kernel
theorem dX7_fewestBackTo_12 : decode cX7_fewestBackTo 12 = .ok (.getfield 15, 3) := by decide +kernel
theorem dX7_fewestBackTo_15 : decode cX7_fewestBackTo 15 = .ok (.iload_n 2, 1) := by decide +kernel
theorem dX7_fewestBackTo_16 : decode cX7_fewestBackTo 16 = .ok (.iconst 1, 1) := by decide +kernel
theorem dX7_fewestBackTo_17 : decode cX7_fewestBackTo 17 = .ok (.isub, 1) := by decide +kernel
theorem dX7_fewestBackTo_18 : decode cX7_fewestBackTo 18 = .ok (.iaload, 1) := by decide +kernel
theorem dX7_fewestBackTo_19 : decode cX7_fewestBackTo 19 = .ok (.ldc 58, 2) := by decide +kernel
theorem dX7_fewestBackTo_21 : decode cX7_fewestBackTo 21 = .ok (.if_icmp .ge 17, 3) := by decide +kernel
theorem dX7_fewestBackTo_24 : decode cX7_fewestBackTo 24 = .ok (.aload_n 0, 1) := by decide +kernel
theorem dX7_fewestBackTo_25 : decode cX7_fewestBackTo 25 = .ok (.getfield 15, 3) := by decide +kernel
theorem dX7_fewestBackTo_28 : decode cX7_fewestBackTo 28 = .ok (.iload_n 2, 1) := by decide +kernel
theorem dX7_fewestBackTo_29 : decode cX7_fewestBackTo 29 = .ok (.iconst 1, 1) := by decide +kernel
theorem dX7_fewestBackTo_30 : decode cX7_fewestBackTo 30 = .ok (.isub, 1) := by decide +kernel
theorem dX7_fewestBackTo_31 : decode cX7_fewestBackTo 31 = .ok (.iaload, 1) := by decide +kernel
theorem dX7_fewestBackTo_32 : decode cX7_fewestBackTo 32 = .ok (.sipush 1000, 3) := by decide +kernel
theorem dX7_fewestBackTo_35 : decode cX7_fewestBackTo 35 = .ok (.idiv, 1) := by decide +kernel
theorem dX7_fewestBackTo_36 : decode cX7_fewestBackTo 36 = .ok (.istore 4, 2) := by decide +kernel
theorem dX7_fewestBackTo_38 : decode cX7_fewestBackTo 38 = .ok (.iconst 0, 1) := by decide +kernel
theorem dX7_fewestBackTo_39 : decode cX7_fewestBackTo 39 = .ok (.istore 5, 2) := by decide +kernel
theorem dX7_fewestBackTo_41 : decode cX7_fewestBackTo 41 = .ok (.iload 5, 2) := by decide +kernel
theorem dX7_fewestBackTo_43 : decode cX7_fewestBackTo 43 = .ok (.aload_n 1, 1) := by decide +kernel
theorem dX7_fewestBackTo_44 : decode cX7_fewestBackTo 44 = .ok (.getfield 35, 3) := by decide +kernel
theorem dX7_fewestBackTo_47 : decode cX7_fewestBackTo 47 = .ok (.if_icmp .ge 105, 3) := by decide +kernel
theorem dX7_fewestBackTo_50 : decode cX7_fewestBackTo 50 = .ok (.aload_n 1, 1) := by decide +kernel
theorem dX7_fewestBackTo_51 : decode cX7_fewestBackTo 51 = .ok (.getfield 41, 3) := by decide +kernel
theorem dX7_fewestBackTo_54 : decode cX7_fewestBackTo 54 = .ok (.iload 5, 2) := by decide +kernel
theorem dX7_fewestBackTo_56 : decode cX7_fewestBackTo 56 = .ok (.aaload, 1) := by decide +kernel
theorem dX7_fewestBackTo_57 : decode cX7_fewestBackTo 57 = .ok (.astore 6, 2) := by decide +kernel
theorem dX7_fewestBackTo_59 : decode cX7_fewestBackTo 59 = .ok (.iconst 0, 1) := by decide +kernel
theorem dX7_fewestBackTo_60 : decode cX7_fewestBackTo 60 = .ok (.istore 7, 2) := by decide +kernel
theorem dX7_fewestBackTo_62 : decode cX7_fewestBackTo 62 = .ok (.iload 7, 2) := by decide +kernel
theorem dX7_fewestBackTo_64 : decode cX7_fewestBackTo 64 = .ok (.bipush 32, 2) := by decide +kernel
theorem dX7_fewestBackTo_66 : decode cX7_fewestBackTo 66 = .ok (.if_icmp .ge 80, 3) := by decide +kernel
theorem dX7_fewestBackTo_69 : decode cX7_fewestBackTo 69 = .ok (.aload_n 0, 1) := by decide +kernel
theorem dX7_fewestBackTo_70 : decode cX7_fewestBackTo 70 = .ok (.getfield 15, 3) := by decide +kernel
theorem dX7_fewestBackTo_73 : decode cX7_fewestBackTo 73 = .ok (.aload 6, 2) := by decide +kernel
theorem dX7_fewestBackTo_75 : decode cX7_fewestBackTo 75 = .ok (.getfield 45, 3) := by decide +kernel
theorem dX7_fewestBackTo_78 : decode cX7_fewestBackTo 78 = .ok (.bipush 32, 2) := by decide +kernel
theorem dX7_fewestBackTo_80 : decode cX7_fewestBackTo 80 = .ok (.imul, 1) := by decide +kernel
theorem dX7_fewestBackTo_81 : decode cX7_fewestBackTo 81 = .ok (.iload 7, 2) := by decide +kernel
theorem dX7_fewestBackTo_83 : decode cX7_fewestBackTo 83 = .ok (.iadd, 1) := by decide +kernel
theorem dX7_fewestBackTo_84 : decode cX7_fewestBackTo 84 = .ok (.iaload, 1) := by decide +kernel
theorem dX7_fewestBackTo_85 : decode cX7_fewestBackTo 85 = .ok (.istore 8, 2) := by decide +kernel
theorem dX7_fewestBackTo_87 : decode cX7_fewestBackTo 87 = .ok (.iload 8, 2) := by decide +kernel
theorem dX7_fewestBackTo_89 : decode cX7_fewestBackTo 89 = .ok (.ldc 58, 2) := by decide +kernel
theorem dX7_fewestBackTo_91 : decode cX7_fewestBackTo 91 = .ok (.if_icmp .ge 49, 3) := by decide +kernel
theorem dX7_fewestBackTo_94 : decode cX7_fewestBackTo 94 = .ok (.aload 6, 2) := by decide +kernel
theorem dX7_fewestBackTo_96 : decode cX7_fewestBackTo 96 = .ok (.iload 7, 2) := by decide +kernel
theorem dX7_fewestBackTo_98 : decode cX7_fewestBackTo 98 = .ok (.iload_n 3, 1) := by decide +kernel
theorem dX7_fewestBackTo_99 : decode cX7_fewestBackTo 99 = .ok (.invokevirtual 70, 3) := by decide +kernel
theorem dX7_fewestBackTo_102 : decode cX7_fewestBackTo 102 = .ok (.ifCond .eq 38, 3) := by decide +kernel
theorem dX7_fewestBackTo_105 : decode cX7_fewestBackTo 105 = .ok (.aload 6, 2) := by decide +kernel
theorem dX7_fewestBackTo_107 : decode cX7_fewestBackTo 107 = .ok (.invokevirtual 54, 3) := by decide +kernel
theorem dX7_fewestBackTo_110 : decode cX7_fewestBackTo 110 = .ok (.bipush 32, 2) := by decide +kernel
theorem dX7_fewestBackTo_112 : decode cX7_fewestBackTo 112 = .ok (.imul, 1) := by decide +kernel
theorem dX7_fewestBackTo_113 : decode cX7_fewestBackTo 113 = .ok (.aload 6, 2) := by decide +kernel
theorem dX7_fewestBackTo_115 : decode cX7_fewestBackTo 115 = .ok (.iload 7, 2) := by decide +kernel
theorem dX7_fewestBackTo_117 : decode cX7_fewestBackTo 117 = .ok (.invokevirtual 86, 3) := by decide +kernel
theorem dX7_fewestBackTo_120 : decode cX7_fewestBackTo 120 = .ok (.iadd, 1) := by decide +kernel
theorem dX7_fewestBackTo_121 : decode cX7_fewestBackTo 121 = .ok (.iload_n 2, 1) := by decide +kernel
theorem dX7_fewestBackTo_122 : decode cX7_fewestBackTo 122 = .ok (.if_icmp .ne 18, 3) := by decide +kernel
theorem dX7_fewestBackTo_125 : decode cX7_fewestBackTo 125 = .ok (.iload 4, 2) := by decide +kernel
theorem dX7_fewestBackTo_127 : decode cX7_fewestBackTo 127 = .ok (.iload 8, 2) := by decide +kernel
theorem dX7_fewestBackTo_129 : decode cX7_fewestBackTo 129 = .ok (.sipush 1000, 3) := by decide +kernel
theorem dX7_fewestBackTo_132 : decode cX7_fewestBackTo 132 = .ok (.idiv, 1) := by decide +kernel
theorem dX7_fewestBackTo_133 : decode cX7_fewestBackTo 133 = .ok (.iconst 1, 1) := by decide +kernel
theorem dX7_fewestBackTo_134 : decode cX7_fewestBackTo 134 = .ok (.iadd, 1) := by decide +kernel
theorem dX7_fewestBackTo_135 : decode cX7_fewestBackTo 135 = .ok (.invokestatic 90, 3) := by decide +kernel
theorem dX7_fewestBackTo_138 : decode cX7_fewestBackTo 138 = .ok (.istore 4, 2) := by decide +kernel
theorem dX7_fewestBackTo_140 : decode cX7_fewestBackTo 140 = .ok (.iinc 7 1, 3) := by decide +kernel
theorem dX7_fewestBackTo_143 : decode cX7_fewestBackTo 143 = .ok (.goto (-81), 3) := by decide +kernel
theorem dX7_fewestBackTo_146 : decode cX7_fewestBackTo 146 = .ok (.iinc 5 1, 3) := by decide +kernel
theorem dX7_fewestBackTo_149 : decode cX7_fewestBackTo 149 = .ok (.goto (-108), 3) := by decide +kernel
theorem dX7_fewestBackTo_152 : decode cX7_fewestBackTo 152 = .ok (.iload 4, 2) := by decide +kernel
theorem dX7_fewestBackTo_154 : decode cX7_fewestBackTo 154 = .ok (.ireturn, 1) := by decide +kernel
theorem dX8_init_0 : decode cX8_init 0 = .ok (.aload_n 0, 1) := by decide +kernel
theorem dX8_init_1 : decode cX8_init 1 = .ok (.invokespecial 3, 3) := by decide +kernel
theorem dX8_init_4 : decode cX8_init 4 = .ok (.aload_n 0, 1) := by decide +kernel
theorem dX8_init_5 : decode cX8_init 5 = .ok (.new 9, 3) := by decide +kernel
theorem dX8_init_8 : decode cX8_init 8 = .ok (.dup, 1) := by decide +kernel
theorem dX8_init_9 : decode cX8_init 9 = .ok (.invokespecial 11, 3) := by decide +kernel
theorem dX8_init_12 : decode cX8_init 12 = .ok (.putfield 12, 3) := by decide +kernel
theorem dX8_init_15 : decode cX8_init 15 = .ok (.aload_n 0, 1) := by decide +kernel
theorem dX8_init_16 : decode cX8_init 16 = .ok (.new 9, 3) := by decide +kernel
theorem dX8_init_19 : decode cX8_init 19 = .ok (.dup, 1) := by decide +kernel
theorem dX8_init_20 : decode cX8_init 20 = .ok (.invokespecial 11, 3) := by decide +kernel
theorem dX8_init_23 : decode cX8_init 23 = .ok (.putfield 16, 3) := by decide +kernel
theorem dX8_init_26 : decode cX8_init 26 = .ok (.aload_n 0, 1) := by decide +kernel
theorem dX8_init_27 : decode cX8_init 27 = .ok (.new 19, 3) := by decide +kernel
theorem dX8_init_30 : decode cX8_init 30 = .ok (.dup, 1) := by decide +kernel
theorem dX8_init_31 : decode cX8_init 31 = .ok (.invokespecial 21, 3) := by decide +kernel
theorem dX8_init_34 : decode cX8_init 34 = .ok (.putfield 22, 3) := by decide +kernel
theorem dX8_init_37 : decode cX8_init 37 = .ok (.aload_n 0, 1) := by decide +kernel
theorem dX8_init_38 : decode cX8_init 38 = .ok (.new 26, 3) := by decide +kernel
theorem dX8_init_41 : decode cX8_init 41 = .ok (.dup, 1) := by decide +kernel
theorem dX8_init_42 : decode cX8_init 42 = .ok (.invokespecial 28, 3) := by decide +kernel
theorem dX8_init_45 : decode cX8_init 45 = .ok (.putfield 29, 3) := by decide +kernel
theorem dX8_init_48 : decode cX8_init 48 = .ok (.aload_n 0, 1) := by decide +kernel
theorem dX8_init_49 : decode cX8_init 49 = .ok (.new 33, 3) := by decide +kernel
theorem dX8_init_52 : decode cX8_init 52 = .ok (.dup, 1) := by decide +kernel
theorem dX8_init_53 : decode cX8_init 53 = .ok (.invokespecial 35, 3) := by decide +kernel
theorem dX8_init_56 : decode cX8_init 56 = .ok (.putfield 36, 3) := by decide +kernel
theorem dX8_init_59 : decode cX8_init 59 = .ok (.aload_n 0, 1) := by decide +kernel
theorem dX8_init_60 : decode cX8_init 60 = .ok (.new 40, 3) := by decide +kernel
theorem dX8_init_63 : decode cX8_init 63 = .ok (.dup, 1) := by decide +kernel
theorem dX8_init_64 : decode cX8_init 64 = .ok (.invokespecial 42, 3) := by decide +kernel
theorem dX8_init_67 : decode cX8_init 67 = .ok (.putfield 43, 3) := by decide +kernel
theorem dX8_init_70 : decode cX8_init 70 = .ok (.aload_n 0, 1) := by decide +kernel
theorem dX8_init_71 : decode cX8_init 71 = .ok (.iconst 4, 1) := by decide +kernel
theorem dX8_init_72 : decode cX8_init 72 = .ok (.anewarray 47, 3) := by decide +kernel
theorem dX8_init_75 : decode cX8_init 75 = .ok (.putfield 49, 3) := by decide +kernel
theorem dX8_init_78 : decode cX8_init 78 = .ok (.aload_n 0, 1) := by decide +kernel
theorem dX8_init_79 : decode cX8_init 79 = .ok (.new 53, 3) := by decide +kernel
theorem dX8_init_82 : decode cX8_init 82 = .ok (.dup, 1) := by decide +kernel
theorem dX8_init_83 : decode cX8_init 83 = .ok (.iconst 0, 1) := by decide +kernel
theorem dX8_init_84 : decode cX8_init 84 = .ok (.invokespecial 55, 3) := by decide +kernel
theorem dX8_init_87 : decode cX8_init 87 = .ok (.putfield 58, 3) := by decide +kernel
theorem dX8_init_90 : decode cX8_init 90 = .ok (.aload_n 0, 1) := by decide +kernel
theorem dX8_init_91 : decode cX8_init 91 = .ok (.bipush 32, 2) := by decide +kernel
theorem dX8_init_93 : decode cX8_init 93 = .ok (.newarray .int, 2) := by decide +kernel
theorem dX8_init_95 : decode cX8_init 95 = .ok (.putfield 62, 3) := by decide +kernel
theorem dX8_init_98 : decode cX8_init 98 = .ok (.aload_n 0, 1) := by decide +kernel
theorem dX8_init_99 : decode cX8_init 99 = .ok (.bipush 32, 2) := by decide +kernel
theorem dX8_init_101 : decode cX8_init 101 = .ok (.newarray .int, 2) := by decide +kernel
theorem dX8_init_103 : decode cX8_init 103 = .ok (.putfield 66, 3) := by decide +kernel
theorem dX8_init_106 : decode cX8_init 106 = .ok (.aload_n 0, 1) := by decide +kernel
theorem dX8_init_107 : decode cX8_init 107 = .ok (.bipush 8, 2) := by decide +kernel
theorem dX8_init_109 : decode cX8_init 109 = .ok (.newarray .int, 2) := by decide +kernel
theorem dX8_init_111 : decode cX8_init 111 = .ok (.putfield 69, 3) := by decide +kernel
theorem dX8_init_114 : decode cX8_init 114 = .ok (.iconst 0, 1) := by decide +kernel
theorem dX8_init_115 : decode cX8_init 115 = .ok (.istore_n 1, 1) := by decide +kernel
theorem dX8_init_116 : decode cX8_init 116 = .ok (.iload_n 1, 1) := by decide +kernel
theorem dX8_init_117 : decode cX8_init 117 = .ok (.iconst 4, 1) := by decide +kernel
theorem dX8_init_118 : decode cX8_init 118 = .ok (.if_icmp .ge 22, 3) := by decide +kernel
theorem dX8_init_121 : decode cX8_init 121 = .ok (.aload_n 0, 1) := by decide +kernel
theorem dX8_init_122 : decode cX8_init 122 = .ok (.getfield 49, 3) := by decide +kernel
theorem dX8_init_125 : decode cX8_init 125 = .ok (.iload_n 1, 1) := by decide +kernel
theorem dX8_init_126 : decode cX8_init 126 = .ok (.new 47, 3) := by decide +kernel
theorem dX8_init_129 : decode cX8_init 129 = .ok (.dup, 1) := by decide +kernel
theorem dX8_init_130 : decode cX8_init 130 = .ok (.invokespecial 72, 3) := by decide +kernel
theorem dX8_init_133 : decode cX8_init 133 = .ok (.aastore, 1) := by decide +kernel
theorem dX8_init_134 : decode cX8_init 134 = .ok (.iinc 1 1, 3) := by decide +kernel
theorem dX8_init_137 : decode cX8_init 137 = .ok (.goto (-21), 3) := by decide +kernel
theorem dX8_init_140 : decode cX8_init 140 = .ok (.iconst 0, 1) := by decide +kernel
theorem dX8_init_141 : decode cX8_init 141 = .ok (.istore_n 1, 1) := by decide +kernel
theorem dX8_init_142 : decode cX8_init 142 = .ok (.iload_n 1, 1) := by decide +kernel
theorem dX8_init_143 : decode cX8_init 143 = .ok (.ldc 73, 2) := by decide +kernel
theorem dX8_init_145 : decode cX8_init 145 = .ok (.invokevirtual 75, 3) := by decide +kernel
theorem dX8_init_148 : decode cX8_init 148 = .ok (.if_icmp .ge 23, 3) := by decide +kernel
theorem dX8_init_151 : decode cX8_init 151 = .ok (.aload_n 0, 1) := by decide +kernel
theorem dX8_init_152 : decode cX8_init 152 = .ok (.getfield 22, 3) := by decide +kernel
theorem dX8_init_155 : decode cX8_init 155 = .ok (.ldc 73, 2) := by decide +kernel
theorem dX8_init_157 : decode cX8_init 157 = .ok (.iload_n 1, 1) := by decide +kernel
theorem dX8_init_158 : decode cX8_init 158 = .ok (.invokevirtual 81, 3) := by decide +kernel
theorem dX8_init_161 : decode cX8_init 161 = .ok (.invokevirtual 85, 3) := by decide +kernel
theorem dX8_init_164 : decode cX8_init 164 = .ok (.pop, 1) := by decide +kernel
theorem dX8_init_165 : decode cX8_init 165 = .ok (.iinc 1 1, 3) := by decide +kernel
theorem dX8_init_168 : decode cX8_init 168 = .ok (.goto (-26), 3) := by decide +kernel
theorem dX8_init_171 : decode cX8_init 171 = .ok (.aload_n 0, 1) := by decide +kernel
theorem dX8_init_172 : decode cX8_init 172 = .ok (.getfield 36, 3) := by decide +kernel
theorem dX8_init_175 : decode cX8_init 175 = .ok (.aload_n 0, 1) := by decide +kernel
theorem dX8_init_176 : decode cX8_init 176 = .ok (.getfield 29, 3) := by decide +kernel
theorem dX8_init_179 : decode cX8_init 179 = .ok (.aload_n 0, 1) := by decide +kernel
theorem dX8_init_180 : decode cX8_init 180 = .ok (.getfield 22, 3) := by decide +kernel
theorem dX8_init_183 : decode cX8_init 183 = .ok (.invokevirtual 89, 3) := by decide +kernel
theorem dX8_init_186 : decode cX8_init 186 = .ok (.invokevirtual 93, 3) := by decide +kernel
theorem dX8_init_189 : decode cX8_init 189 = .ok (.pop, 1) := by decide +kernel
theorem dX8_init_190 : decode cX8_init 190 = .ok (.aload_n 0, 1) := by decide +kernel
theorem dX8_init_191 : decode cX8_init 191 = .ok (.getfield 22, 3) := by decide +kernel
theorem dX8_init_194 : decode cX8_init 194 = .ok (.invokevirtual 97, 3) := by decide +kernel
theorem dX8_init_197 : decode cX8_init 197 = .ok (.return_, 1) := by decide +kernel
theorem dX8_set_0 : decode cX8_set 0 = .ok (.aload_n 0, 1) := by decide +kernel
theorem dX8_set_1 : decode cX8_set 1 = .ok (.iload_n 2, 1) := by decide +kernel
theorem dX8_set_2 : decode cX8_set 2 = .ok (.iload_n 1, 1) := by decide +kernel
theorem dX8_set_3 : decode cX8_set 3 = .ok (.invokevirtual 100, 3) := by decide +kernel
theorem dX8_set_6 : decode cX8_set 6 = .ok (.istore 4, 2) := by decide +kernel
theorem dX8_set_8 : decode cX8_set 8 = .ok (.iload 4, 2) := by decide +kernel
theorem dX8_set_10 : decode cX8_set 10 = .ok (.bipush (-100), 2) := by decide +kernel
theorem dX8_set_12 : decode cX8_set 12 = .ok (.if_icmp .eq 11, 3) := by decide +kernel
theorem dX8_set_15 : decode cX8_set 15 = .ok (.iload_n 1, 1) := by decide +kernel
theorem dX8_set_16 : decode cX8_set 16 = .ok (.iload_n 3, 1) := by decide +kernel
theorem dX8_set_17 : decode cX8_set 17 = .ok (.invokestatic 104, 3) := by decide +kernel
theorem dX8_set_20 : decode cX8_set 20 = .ok (.ifCond .ne 6, 3) := by decide +kernel
theorem dX8_set_23 : decode cX8_set 23 = .ok (.bipush (-100), 2) := by decide +kernel
theorem dX8_set_25 : decode cX8_set 25 = .ok (.ireturn, 1) := by decide +kernel
theorem dX8_set_26 : decode cX8_set 26 = .ok (.iload_n 1, 1) := by decide +kernel
theorem dX8_set_27 : decode cX8_set 27 = .ok (.ifCond .ne 16, 3) := by decide +kernel
theorem dX8_set_30 : decode cX8_set 30 = .ok (.aload_n 0, 1) := by decide +kernel
theorem dX8_set_31 : decode cX8_set 31 = .ok (.getfield 12, 3) := by decide +kernel
theorem dX8_set_34 : decode cX8_set 34 = .ok (.getfield 108, 3) := by decide +kernel
theorem dX8_set_37 : decode cX8_set 37 = .ok (.iload_n 2, 1) := by decide +kernel
theorem dX8_set_38 : decode cX8_set 38 = .ok (.iload_n 3, 1) := by decide +kernel
theorem dX8_set_39 : decode cX8_set 39 = .ok (.iastore, 1) := by decide +kernel
theorem dX8_set_40 : decode cX8_set 40 = .ok (.goto 17, 3) := by decide +kernel
theorem dX8_set_43 : decode cX8_set 43 = .ok (.aload_n 0, 1) := by decide +kernel
theorem dX8_set_44 : decode cX8_set 44 = .ok (.getfield 12, 3) := by decide +kernel
theorem dX8_set_47 : decode cX8_set 47 = .ok (.getfield 111, 3) := by decide +kernel
theorem dX8_set_50 : decode cX8_set 50 = .ok (.iload_n 2, 1) := by decide +kernel
theorem dX8_set_51 : decode cX8_set 51 = .ok (.aaload, 1) := by decide +kernel
theorem dX8_set_52 : decode cX8_set 52 = .ok (.iload_n 1, 1) := by decide +kernel
theorem dX8_set_53 : decode cX8_set 53 = .ok (.iload_n 3, 1) := by decide +kernel
theorem dX8_set_54 : decode cX8_set 54 = .ok (.invokevirtual 115, 3) := by decide +kernel
theorem dX8_set_57 : decode cX8_set 57 = .ok (.iload 4, 2) := by decide +kernel
theorem dX8_set_59 : decode cX8_set 59 = .ok (.ireturn, 1) := by decide +kernel
theorem dX8_pane_0 : decode cX8_pane 0 = .ok (.iload_n 2, 1) := by decide +kernel
theorem dX8_pane_1 : decode cX8_pane 1 = .ok (.bipush 100, 2) := by decide +kernel
theorem dX8_pane_3 : decode cX8_pane 3 = .ok (.idiv, 1) := by decide +kernel
theorem dX8_pane_4 : decode cX8_pane 4 = .ok (.istore 4, 2) := by decide +kernel
theorem dX8_pane_6 : decode cX8_pane 6 = .ok (.iload_n 2, 1) := by decide +kernel
theorem dX8_pane_7 : decode cX8_pane 7 = .ok (.bipush 100, 2) := by decide +kernel
theorem dX8_pane_9 : decode cX8_pane 9 = .ok (.irem, 1) := by decide +kernel
theorem dX8_pane_10 : decode cX8_pane 10 = .ok (.bipush 9, 2) := by decide +kernel
theorem dX8_pane_12 : decode cX8_pane 12 = .ok (.isub, 1) := by decide +kernel
theorem dX8_pane_13 : decode cX8_pane 13 = .ok (.istore 5, 2) := by decide +kernel
theorem dX8_pane_15 : decode cX8_pane 15 = .ok (.iload_n 3, 1) := by decide +kernel
theorem dX8_pane_16 : decode cX8_pane 16 = .ok (.bipush 10, 2) := by decide +kernel
theorem dX8_pane_18 : decode cX8_pane 18 = .ok (.idiv, 1) := by decide +kernel
theorem dX8_pane_19 : decode cX8_pane 19 = .ok (.istore 6, 2) := by decide +kernel
theorem dX8_pane_21 : decode cX8_pane 21 = .ok (.iload_n 3, 1) := by decide +kernel
theorem dX8_pane_22 : decode cX8_pane 22 = .ok (.bipush 10, 2) := by decide +kernel
theorem dX8_pane_24 : decode cX8_pane 24 = .ok (.irem, 1) := by decide +kernel
theorem dX8_pane_25 : decode cX8_pane 25 = .ok (.istore 7, 2) := by decide +kernel
theorem dX8_pane_27 : decode cX8_pane 27 = .ok (.iload_n 1, 1) := by decide +kernel
theorem dX8_pane_28 : decode cX8_pane 28 = .ok (.invokestatic 119, 3) := by decide +kernel
theorem dX8_pane_31 : decode cX8_pane 31 = .ok (.ifCond .eq 25, 3) := by decide +kernel
theorem dX8_pane_34 : decode cX8_pane 34 = .ok (.iload_n 2, 1) := by decide +kernel
theorem dX8_pane_35 : decode cX8_pane 35 = .ok (.ifCond .lt 21, 3) := by decide +kernel
theorem dX8_pane_38 : decode cX8_pane 38 = .ok (.iconst 1, 1) := by decide +kernel
theorem dX8_pane_39 : decode cX8_pane 39 = .ok (.iload 4, 2) := by decide +kernel
theorem dX8_pane_41 : decode cX8_pane 41 = .ok (.invokestatic 104, 3) := by decide +kernel
theorem dX8_pane_44 : decode cX8_pane 44 = .ok (.ifCond .eq 12, 3) := by decide +kernel
theorem dX8_pane_47 : decode cX8_pane 47 = .ok (.iconst 2, 1) := by decide +kernel
theorem dX8_pane_48 : decode cX8_pane 48 = .ok (.iload 5, 2) := by decide +kernel
theorem dX8_pane_50 : decode cX8_pane 50 = .ok (.invokestatic 104, 3) := by decide +kernel
theorem dX8_pane_53 : decode cX8_pane 53 = .ok (.ifCond .ne 6, 3) := by decide +kernel
theorem dX8_pane_56 : decode cX8_pane 56 = .ok (.bipush (-2), 2) := by decide +kernel
theorem dX8_pane_58 : decode cX8_pane 58 = .ok (.ireturn, 1) := by decide +kernel
theorem dX8_pane_59 : decode cX8_pane 59 = .ok (.iload_n 3, 1) := by decide +kernel
theorem dX8_pane_60 : decode cX8_pane 60 = .ok (.ifCond .lt 19, 3) := by decide +kernel
theorem dX8_pane_63 : decode cX8_pane 63 = .ok (.iload 6, 2) := by decide +kernel
theorem dX8_pane_65 : decode cX8_pane 65 = .ok (.invokestatic 122, 3) := by decide +kernel
theorem dX8_pane_68 : decode cX8_pane 68 = .ok (.ifCond .eq 11, 3) := by decide +kernel
theorem dX8_pane_71 : decode cX8_pane 71 = .ok (.iload 7, 2) := by decide +kernel
theorem dX8_pane_73 : decode cX8_pane 73 = .ok (.invokestatic 122, 3) := by decide +kernel
theorem dX8_pane_76 : decode cX8_pane 76 = .ok (.ifCond .ne 6, 3) := by decide +kernel
theorem dX8_pane_79 : decode cX8_pane 79 = .ok (.bipush (-2), 2) := by decide +kernel
theorem dX8_pane_81 : decode cX8_pane 81 = .ok (.ireturn, 1) := by decide +kernel
theorem dX8_pane_82 : decode cX8_pane 82 = .ok (.aload_n 0, 1) := by decide +kernel
theorem dX8_pane_83 : decode cX8_pane 83 = .ok (.getfield 12, 3) := by decide +kernel
theorem dX8_pane_86 : decode cX8_pane 86 = .ok (.getfield 125, 3) := by decide +kernel
theorem dX8_pane_89 : decode cX8_pane 89 = .ok (.bipush 8, 2) := by decide +kernel
theorem dX8_pane_91 : decode cX8_pane 91 = .ok (.if_icmp .lt 6, 3) := by decide +kernel
theorem dX8_pane_94 : decode cX8_pane 94 = .ok (.bipush (-4), 2) := by decide +kernel
theorem dX8_pane_96 : decode cX8_pane 96 = .ok (.ireturn, 1) := by decide +kernel
theorem dX8_pane_97 : decode cX8_pane 97 = .ok (.aload_n 0, 1) := by decide +kernel
theorem dX8_pane_98 : decode cX8_pane 98 = .ok (.getfield 12, 3) := by decide +kernel
theorem dX8_pane_101 : decode cX8_pane 101 = .ok (.getfield 111, 3) := by decide +kernel
theorem dX8_pane_104 : decode cX8_pane 104 = .ok (.aload_n 0, 1) := by decide +kernel
theorem dX8_pane_105 : decode cX8_pane 105 = .ok (.getfield 12, 3) := by decide +kernel
theorem dX8_pane_108 : decode cX8_pane 108 = .ok (.getfield 125, 3) := by decide +kernel
theorem dX8_pane_111 : decode cX8_pane 111 = .ok (.aaload, 1) := by decide +kernel
theorem dX8_pane_112 : decode cX8_pane 112 = .ok (.astore 8, 2) := by decide +kernel
theorem dX8_pane_114 : decode cX8_pane 114 = .ok (.aload 8, 2) := by decide +kernel
theorem dX8_pane_116 : decode cX8_pane 116 = .ok (.iload_n 1, 1) := by decide +kernel
theorem dX8_pane_117 : decode cX8_pane 117 = .ok (.putfield 129, 3) := by decide +kernel
theorem dX8_pane_120 : decode cX8_pane 120 = .ok (.aload 8, 2) := by decide +kernel
theorem dX8_pane_122 : decode cX8_pane 122 = .ok (.iload 4, 2) := by decide +kernel
theorem dX8_pane_124 : decode cX8_pane 124 = .ok (.putfield 132, 3) := by decide +kernel
theorem dX8_pane_127 : decode cX8_pane 127 = .ok (.aload 8, 2) := by decide +kernel
theorem dX8_pane_129 : decode cX8_pane 129 = .ok (.iload 5, 2) := by decide +kernel
theorem dX8_pane_131 : decode cX8_pane 131 = .ok (.putfield 135, 3) := by decide +kernel
theorem dX8_pane_134 : decode cX8_pane 134 = .ok (.aload 8, 2) := by decide +kernel
theorem dX8_pane_136 : decode cX8_pane 136 = .ok (.iload 6, 2) := by decide +kernel
theorem dX8_pane_138 : decode cX8_pane 138 = .ok (.putfield 138, 3) := by decide +kernel
theorem dX8_pane_141 : decode cX8_pane 141 = .ok (.aload 8, 2) := by decide +kernel
theorem dX8_pane_143 : decode cX8_pane 143 = .ok (.iload 7, 2) := by decide +kernel
theorem dX8_pane_145 : decode cX8_pane 145 = .ok (.putfield 141, 3) := by decide +kernel
theorem dX8_pane_148 : decode cX8_pane 148 = .ok (.aload_n 0, 1) := by decide +kernel
theorem dX8_pane_149 : decode cX8_pane 149 = .ok (.getfield 12, 3) := by decide +kernel
theorem dX8_pane_152 : decode cX8_pane 152 = .ok (.dup, 1) := by decide +kernel
theorem dX8_pane_153 : decode cX8_pane 153 = .ok (.getfield 125, 3) := by decide +kernel
theorem dX8_pane_156 : decode cX8_pane 156 = .ok (.iconst 1, 1) := by decide +kernel
theorem dX8_pane_157 : decode cX8_pane 157 = .ok (.iadd, 1) := by decide +kernel
theorem dX8_pane_158 : decode cX8_pane 158 = .ok (.putfield 125, 3) := by decide +kernel
theorem dX8_pane_161 : decode cX8_pane 161 = .ok (.aload 8, 2) := by decide +kernel
theorem dX8_pane_163 : decode cX8_pane 163 = .ok (.getfield 144, 3) := by decide +kernel
theorem dX8_pane_166 : decode cX8_pane 166 = .ok (.ireturn, 1) := by decide +kernel
theorem dX8_told_0 : decode cX8_told 0 = .ok (.iload_n 2, 1) := by decide +kernel
theorem dX8_told_1 : decode cX8_told 1 = .ok (.ifCond .ne 25, 3) := by decide +kernel
theorem dX8_told_4 : decode cX8_told 4 = .ok (.iload_n 1, 1) := by decide +kernel
theorem dX8_told_5 : decode cX8_told 5 = .ok (.invokestatic 147, 3) := by decide +kernel
theorem dX8_told_8 : decode cX8_told 8 = .ok (.ifCond .eq 15, 3) := by decide +kernel
theorem dX8_told_11 : decode cX8_told 11 = .ok (.aload_n 0, 1) := by decide +kernel
theorem dX8_told_12 : decode cX8_told 12 = .ok (.getfield 12, 3) := by decide +kernel
theorem dX8_told_15 : decode cX8_told 15 = .ok (.getfield 108, 3) := by decide +kernel
theorem dX8_told_18 : decode cX8_told 18 = .ok (.iload_n 1, 1) := by decide +kernel
theorem dX8_told_19 : decode cX8_told 19 = .ok (.iaload, 1) := by decide +kernel
theorem dX8_told_20 : decode cX8_told 20 = .ok (.goto 5, 3) := by decide +kernel
theorem dX8_told_23 : decode cX8_told 23 = .ok (.bipush (-100), 2) := by decide +kernel
theorem dX8_told_25 : decode cX8_told 25 = .ok (.ireturn, 1) := by decide +kernel
theorem dX8_told_26 : decode cX8_told 26 = .ok (.aload_n 0, 1) := by decide +kernel
theorem dX8_told_27 : decode cX8_told 27 = .ok (.getfield 12, 3) := by decide +kernel
theorem dX8_told_30 : decode cX8_told 30 = .ok (.iload_n 1, 1) := by decide +kernel
theorem dX8_told_31 : decode cX8_told 31 = .ok (.invokevirtual 150, 3) := by decide +kernel
theorem dX8_told_34 : decode cX8_told 34 = .ok (.ifCond .eq 19, 3) := by decide +kernel
theorem dX8_told_37 : decode cX8_told 37 = .ok (.aload_n 0, 1) := by decide +kernel
theorem dX8_told_38 : decode cX8_told 38 = .ok (.getfield 12, 3) := by decide +kernel
theorem dX8_told_41 : decode cX8_told 41 = .ok (.getfield 111, 3) := by decide +kernel
theorem dX8_told_44 : decode cX8_told 44 = .ok (.iload_n 1, 1) := by decide +kernel
theorem dX8_told_45 : decode cX8_told 45 = .ok (.aaload, 1) := by decide +kernel
theorem dX8_told_46 : decode cX8_told 46 = .ok (.iload_n 2, 1) := by decide +kernel
theorem dX8_told_47 : decode cX8_told 47 = .ok (.invokevirtual 153, 3) := by decide +kernel
theorem dX8_told_50 : decode cX8_told 50 = .ok (.goto 5, 3) := by decide +kernel
theorem dX8_told_53 : decode cX8_told 53 = .ok (.bipush (-100), 2) := by decide +kernel
theorem dX8_told_55 : decode cX8_told 55 = .ok (.ireturn, 1) := by decide +kernel
theorem dX8_gives_0 : decode cX8_gives 0 = .ok (.aload_n 0, 1) := by decide +kernel
theorem dX8_gives_1 : decode cX8_gives 1 = .ok (.getfield 12, 3) := by decide +kernel
theorem dX8_gives_4 : decode cX8_gives 4 = .ok (.iload_n 1, 1) := by decide +kernel
theorem dX8_gives_5 : decode cX8_gives 5 = .ok (.invokevirtual 150, 3) := by decide +kernel
theorem dX8_gives_8 : decode cX8_gives 8 = .ok (.ifCond .eq 22, 3) := by decide +kernel
theorem dX8_gives_11 : decode cX8_gives 11 = .ok (.iload_n 2, 1) := by decide +kernel
theorem dX8_gives_12 : decode cX8_gives 12 = .ok (.invokestatic 147, 3) := by decide +kernel
theorem dX8_gives_15 : decode cX8_gives 15 = .ok (.ifCond .eq 15, 3) := by decide +kernel
theorem dX8_gives_18 : decode cX8_gives 18 = .ok (.iload_n 3, 1) := by decide +kernel
theorem dX8_gives_19 : decode cX8_gives 19 = .ok (.iconst (-1), 1) := by decide +kernel
theorem dX8_gives_20 : decode cX8_gives 20 = .ok (.if_icmp .eq 14, 3) := by decide +kernel
theorem dX8_gives_23 : decode cX8_gives 23 = .ok (.iload_n 3, 1) := by decide +kernel
theorem dX8_gives_24 : decode cX8_gives 24 = .ok (.invokestatic 157, 3) := by decide +kernel
theorem dX8_gives_27 : decode cX8_gives 27 = .ok (.ifCond .ne 7, 3) := by decide +kernel
theorem dX8_gives_30 : decode cX8_gives 30 = .ok (.sipush (-1000), 3) := by decide +kernel
theorem dX8_gives_33 : decode cX8_gives 33 = .ok (.ireturn, 1) := by decide +kernel
theorem dX8_gives_34 : decode cX8_gives 34 = .ok (.aload_n 0, 1) := by decide +kernel
theorem dX8_gives_35 : decode cX8_gives 35 = .ok (.getfield 12, 3) := by decide +kernel
theorem dX8_gives_38 : decode cX8_gives 38 = .ok (.getfield 111, 3) := by decide +kernel
theorem dX8_gives_41 : decode cX8_gives 41 = .ok (.iload_n 1, 1) := by decide +kernel
theorem dX8_gives_42 : decode cX8_gives 42 = .ok (.aaload, 1) := by decide +kernel
theorem dX8_gives_43 : decode cX8_gives 43 = .ok (.astore 4, 2) := by decide +kernel
theorem dX8_gives_45 : decode cX8_gives 45 = .ok (.iload_n 3, 1) := by decide +kernel
theorem dX8_gives_46 : decode cX8_gives 46 = .ok (.iconst (-1), 1) := by decide +kernel
theorem dX8_gives_47 : decode cX8_gives 47 = .ok (.if_icmp .ne 10, 3) := by decide +kernel
theorem dX8_gives_50 : decode cX8_gives 50 = .ok (.aload 4, 2) := by decide +kernel
theorem dX8_gives_52 : decode cX8_gives 52 = .ok (.iload_n 2, 1) := by decide +kernel
theorem dX8_gives_53 : decode cX8_gives 53 = .ok (.invokevirtual 160, 3) := by decide +kernel
theorem dX8_gives_56 : decode cX8_gives 56 = .ok (.ireturn, 1) := by decide +kernel
theorem dX8_gives_57 : decode cX8_gives 57 = .ok (.aload 4, 2) := by decide +kernel
theorem dX8_gives_59 : decode cX8_gives 59 = .ok (.iload_n 2, 1) := by decide +kernel
theorem dX8_gives_60 : decode cX8_gives 60 = .ok (.iload_n 3, 1) := by decide +kernel
theorem dX8_gives_61 : decode cX8_gives 61 = .ok (.invokevirtual 163, 3) := by decide +kernel
theorem dX8_gives_64 : decode cX8_gives 64 = .ok (.ifCond .eq 7, 3) := by decide +kernel
theorem dX8_gives_67 : decode cX8_gives 67 = .ok (.iconst 1, 1) := by decide +kernel
theorem dX8_gives_68 : decode cX8_gives 68 = .ok (.goto 4, 3) := by decide +kernel
theorem dX8_gives_71 : decode cX8_gives 71 = .ok (.iconst 0, 1) := by decide +kernel
theorem dX8_gives_72 : decode cX8_gives 72 = .ok (.ireturn, 1) := by decide +kernel
theorem dX8_feed_0 : decode cX8_feed 0 = .ok (.iload_n 1, 1) := by decide +kernel
theorem dX8_feed_1 : decode cX8_feed 1 = .ok (.ifCond .lt 10, 3) := by decide +kernel
theorem dX8_feed_4 : decode cX8_feed 4 = .ok (.iload_n 1, 1) := by decide +kernel
theorem dX8_feed_5 : decode cX8_feed 5 = .ok (.sipush 255, 3) := by decide +kernel
theorem dX8_feed_8 : decode cX8_feed 8 = .ok (.if_icmp .le 6, 3) := by decide +kernel
theorem dX8_feed_11 : decode cX8_feed 11 = .ok (.bipush (-2), 2) := by decide +kernel
theorem dX8_feed_13 : decode cX8_feed 13 = .ok (.ireturn, 1) := by decide +kernel
theorem dX8_feed_14 : decode cX8_feed 14 = .ok (.aload_n 0, 1) := by decide +kernel
theorem dX8_feed_15 : decode cX8_feed 15 = .ok (.getfield 22, 3) := by decide +kernel
theorem dX8_feed_18 : decode cX8_feed 18 = .ok (.iload_n 1, 1) := by decide +kernel
theorem dX8_feed_19 : decode cX8_feed 19 = .ok (.invokevirtual 85, 3) := by decide +kernel
theorem dX8_feed_22 : decode cX8_feed 22 = .ok (.ifCond .eq 13, 3) := by decide +kernel
theorem dX8_feed_25 : decode cX8_feed 25 = .ok (.aload_n 0, 1) := by decide +kernel
theorem dX8_feed_26 : decode cX8_feed 26 = .ok (.getfield 22, 3) := by decide +kernel
theorem dX8_feed_29 : decode cX8_feed 29 = .ok (.getfield 166, 3) := by decide +kernel
theorem dX8_feed_32 : decode cX8_feed 32 = .ok (.goto 5, 3) := by decide +kernel
theorem dX8_feed_35 : decode cX8_feed 35 = .ok (.bipush (-4), 2) := by decide +kernel
theorem dX8_feed_37 : decode cX8_feed 37 = .ok (.ireturn, 1) := by decide +kernel
theorem dX8_text_0 : decode cX8_text 0 = .ok (.aload_n 0, 1) := by decide +kernel
theorem dX8_text_1 : decode cX8_text 1 = .ok (.getfield 36, 3) := by decide +kernel
theorem dX8_text_4 : decode cX8_text 4 = .ok (.getfield 167, 3) := by decide +kernel
theorem dX8_text_7 : decode cX8_text 7 = .ok (.bipush 6, 2) := by decide +kernel
theorem dX8_text_9 : decode cX8_text 9 = .ok (.if_icmp .lt 6, 3) := by decide +kernel
theorem dX8_text_12 : decode cX8_text 12 = .ok (.bipush (-4), 2) := by decide +kernel
theorem dX8_text_14 : decode cX8_text 14 = .ok (.ireturn, 1) := by decide +kernel
theorem dX8_text_15 : decode cX8_text 15 = .ok (.aload_n 0, 1) := by decide +kernel
theorem dX8_text_16 : decode cX8_text 16 = .ok (.getfield 29, 3) := by decide +kernel
theorem dX8_text_19 : decode cX8_text 19 = .ok (.aload_n 0, 1) := by decide +kernel
theorem dX8_text_20 : decode cX8_text 20 = .ok (.getfield 22, 3) := by decide +kernel
theorem dX8_text_23 : decode cX8_text 23 = .ok (.invokevirtual 89, 3) := by decide +kernel
theorem dX8_text_26 : decode cX8_text 26 = .ok (.astore_n 1, 1) := by decide +kernel
theorem dX8_text_27 : decode cX8_text 27 = .ok (.aload_n 0, 1) := by decide +kernel
theorem dX8_text_28 : decode cX8_text 28 = .ok (.getfield 22, 3) := by decide +kernel
theorem dX8_text_31 : decode cX8_text 31 = .ok (.invokevirtual 97, 3) := by decide +kernel
theorem dX8_text_34 : decode cX8_text 34 = .ok (.aload_n 1, 1) := by decide +kernel
theorem dX8_text_35 : decode cX8_text 35 = .ok (.ifnonnull 16, 3) := by decide +kernel
theorem dX8_text_38 : decode cX8_text 38 = .ok (.bipush (-100), 2) := by decide +kernel
theorem dX8_text_40 : decode cX8_text 40 = .ok (.aload_n 0, 1) := by decide +kernel
theorem dX8_text_41 : decode cX8_text 41 = .ok (.getfield 29, 3) := by decide +kernel
theorem dX8_text_44 : decode cX8_text 44 = .ok (.getfield 168, 3) := by decide +kernel
theorem dX8_text_47 : decode cX8_text 47 = .ok (.isub, 1) := by decide +kernel
theorem dX8_text_48 : decode cX8_text 48 = .ok (.goto 11, 3) := by decide +kernel
theorem dX8_text_51 : decode cX8_text 51 = .ok (.aload_n 0, 1) := by decide +kernel
theorem dX8_text_52 : decode cX8_text 52 = .ok (.getfield 36, 3) := by decide +kernel
theorem dX8_text_55 : decode cX8_text 55 = .ok (.aload_n 1, 1) := by decide +kernel
theorem dX8_text_56 : decode cX8_text 56 = .ok (.invokevirtual 93, 3) := by decide +kernel
theorem dX8_text_59 : decode cX8_text 59 = .ok (.ireturn, 1) := by decide +kernel
theorem dX8_force_0 : decode cX8_force 0 = .ok (.iload_n 1, 1) := by decide +kernel
theorem dX8_force_1 : decode cX8_force 1 = .ok (.ifCond .lt 14, 3) := by decide +kernel
theorem dX8_force_4 : decode cX8_force 4 = .ok (.iload_n 1, 1) := by decide +kernel
theorem dX8_force_5 : decode cX8_force 5 = .ok (.aload_n 0, 1) := by decide +kernel
theorem dX8_force_6 : decode cX8_force 6 = .ok (.getfield 36, 3) := by decide +kernel
theorem dX8_force_9 : decode cX8_force 9 = .ok (.getfield 167, 3) := by decide +kernel
theorem dX8_force_12 : decode cX8_force 12 = .ok (.if_icmp .lt 6, 3) := by decide +kernel
theorem dX8_force_15 : decode cX8_force 15 = .ok (.bipush (-2), 2) := by decide +kernel
theorem dX8_force_17 : decode cX8_force 17 = .ok (.ireturn, 1) := by decide +kernel
theorem dX8_force_18 : decode cX8_force 18 = .ok (.aload_n 0, 1) := by decide +kernel
theorem dX8_force_19 : decode cX8_force 19 = .ok (.getfield 12, 3) := by decide +kernel
theorem dX8_force_22 : decode cX8_force 22 = .ok (.getfield 171, 3) := by decide +kernel
theorem dX8_force_25 : decode cX8_force 25 = .ok (.istore_n 2, 1) := by decide +kernel
theorem dX8_force_26 : decode cX8_force 26 = .ok (.aload_n 0, 1) := by decide +kernel
theorem dX8_force_27 : decode cX8_force 27 = .ok (.getfield 12, 3) := by decide +kernel
theorem dX8_force_30 : decode cX8_force 30 = .ok (.iload_n 1, 1) := by decide +kernel
theorem dX8_force_31 : decode cX8_force 31 = .ok (.putfield 171, 3) := by decide +kernel
theorem dX8_force_34 : decode cX8_force 34 = .ok (.iload_n 2, 1) := by decide +kernel
theorem dX8_force_35 : decode cX8_force 35 = .ok (.ireturn, 1) := by decide +kernel
theorem dX8_panes_0 : decode cX8_panes 0 = .ok (.iload_n 1, 1) := by decide +kernel
theorem dX8_panes_1 : decode cX8_panes 1 = .ok (.invokestatic 174, 3) := by decide +kernel
theorem dX8_panes_4 : decode cX8_panes 4 = .ok (.ifCond .eq 28, 3) := by decide +kernel
theorem dX8_panes_7 : decode cX8_panes 7 = .ok (.iload_n 2, 1) := by decide +kernel
theorem dX8_panes_8 : decode cX8_panes 8 = .ok (.invokestatic 174, 3) := by decide +kernel
theorem dX8_panes_11 : decode cX8_panes 11 = .ok (.ifCond .eq 21, 3) := by decide +kernel
theorem dX8_panes_14 : decode cX8_panes 14 = .ok (.iload_n 3, 1) := by decide +kernel
theorem dX8_panes_15 : decode cX8_panes 15 = .ok (.invokestatic 157, 3) := by decide +kernel
theorem dX8_panes_18 : decode cX8_panes 18 = .ok (.ifCond .eq 14, 3) := by decide +kernel
theorem dX8_panes_21 : decode cX8_panes 21 = .ok (.iload 4, 2) := by decide +kernel
theorem dX8_panes_23 : decode cX8_panes 23 = .ok (.ifCond .lt 9, 3) := by decide +kernel
theorem dX8_panes_26 : decode cX8_panes 26 = .ok (.iload 4, 2) := by decide +kernel
theorem dX8_panes_28 : decode cX8_panes 28 = .ok (.iconst 1, 1) := by decide +kernel
theorem dX8_panes_29 : decode cX8_panes 29 = .ok (.if_icmp .le 6, 3) := by decide +kernel
theorem dX8_panes_32 : decode cX8_panes 32 = .ok (.bipush (-2), 2) := by decide +kernel
theorem dX8_panes_34 : decode cX8_panes 34 = .ok (.ireturn, 1) := by decide +kernel
theorem dX8_panes_35 : decode cX8_panes 35 = .ok (.aload_n 0, 1) := by decide +kernel
theorem dX8_panes_36 : decode cX8_panes 36 = .ok (.getfield 43, 3) := by decide +kernel
theorem dX8_panes_39 : decode cX8_panes 39 = .ok (.aload_n 0, 1) := by decide +kernel
theorem dX8_panes_40 : decode cX8_panes 40 = .ok (.getfield 12, 3) := by decide +kernel
theorem dX8_panes_43 : decode cX8_panes 43 = .ok (.aconst_null, 1) := by decide +kernel
theorem dX8_panes_44 : decode cX8_panes 44 = .ok (.iload_n 1, 1) := by decide +kernel
theorem dX8_panes_45 : decode cX8_panes 45 = .ok (.iload_n 3, 1) := by decide +kernel
theorem dX8_panes_46 : decode cX8_panes 46 = .ok (.invokevirtual 177, 3) := by decide +kernel
theorem dX8_panes_49 : decode cX8_panes 49 = .ok (.aload_n 0, 1) := by decide +kernel
theorem dX8_panes_50 : decode cX8_panes 50 = .ok (.getfield 43, 3) := by decide +kernel
theorem dX8_panes_53 : decode cX8_panes 53 = .ok (.getfield 181, 3) := by decide +kernel
theorem dX8_panes_56 : decode cX8_panes 56 = .ok (.iload_n 2, 1) := by decide +kernel
theorem dX8_panes_57 : decode cX8_panes 57 = .ok (.iaload, 1) := by decide +kernel
theorem dX8_panes_58 : decode cX8_panes 58 = .ok (.istore 5, 2) := by decide +kernel
theorem dX8_panes_60 : decode cX8_panes 60 = .ok (.iload 5, 2) := by decide +kernel
theorem dX8_panes_62 : decode cX8_panes 62 = .ok (.ldc 184, 2) := by decide +kernel
theorem dX8_panes_64 : decode cX8_panes 64 = .ok (.if_icmp .lt 5, 3) := by decide +kernel
theorem dX8_panes_67 : decode cX8_panes 67 = .ok (.iconst (-1), 1) := by decide +kernel
theorem dX8_panes_68 : decode cX8_panes 68 = .ok (.ireturn, 1) := by decide +kernel
theorem dX8_panes_69 : decode cX8_panes 69 = .ok (.iload 4, 2) := by decide +kernel
theorem dX8_panes_71 : decode cX8_panes 71 = .ok (.ifCond .ne 12, 3) := by decide +kernel
theorem dX8_panes_74 : decode cX8_panes 74 = .ok (.iload 5, 2) := by decide +kernel
theorem dX8_panes_76 : decode cX8_panes 76 = .ok (.sipush 1000, 3) := by decide +kernel
theorem dX8_panes_79 : decode cX8_panes 79 = .ok (.idiv, 1) := by decide +kernel
theorem dX8_panes_80 : decode cX8_panes 80 = .ok (.goto 9, 3) := by decide +kernel
theorem dX8_panes_83 : decode cX8_panes 83 = .ok (.iload 5, 2) := by decide +kernel
theorem dX8_panes_85 : decode cX8_panes 85 = .ok (.sipush 1000, 3) := by decide +kernel
theorem dX8_panes_88 : decode cX8_panes 88 = .ok (.irem, 1) := by decide +kernel
theorem dX8_panes_89 : decode cX8_panes 89 = .ok (.ireturn, 1) := by decide +kernel
theorem dX8_cost_0 : decode cX8_cost 0 = .ok (.iload_n 1, 1) := by decide +kernel
theorem dX8_cost_1 : decode cX8_cost 1 = .ok (.invokestatic 174, 3) := by decide +kernel
theorem dX8_cost_4 : decode cX8_cost 4 = .ok (.ifCond .eq 17, 3) := by decide +kernel
theorem dX8_cost_7 : decode cX8_cost 7 = .ok (.iload_n 2, 1) := by decide +kernel
theorem dX8_cost_8 : decode cX8_cost 8 = .ok (.invokestatic 174, 3) := by decide +kernel
theorem dX8_cost_11 : decode cX8_cost 11 = .ok (.ifCond .eq 10, 3) := by decide +kernel
theorem dX8_cost_14 : decode cX8_cost 14 = .ok (.iload_n 3, 1) := by decide +kernel
theorem dX8_cost_15 : decode cX8_cost 15 = .ok (.invokestatic 157, 3) := by decide +kernel
theorem dX8_cost_18 : decode cX8_cost 18 = .ok (.ifCond .ne 6, 3) := by decide +kernel
theorem dX8_cost_21 : decode cX8_cost 21 = .ok (.bipush (-2), 2) := by decide +kernel
theorem dX8_cost_23 : decode cX8_cost 23 = .ok (.ireturn, 1) := by decide +kernel
theorem dX8_cost_24 : decode cX8_cost 24 = .ok (.aload_n 0, 1) := by decide +kernel
theorem dX8_cost_25 : decode cX8_cost 25 = .ok (.getfield 43, 3) := by decide +kernel
theorem dX8_cost_28 : decode cX8_cost 28 = .ok (.aload_n 0, 1) := by decide +kernel
theorem dX8_cost_29 : decode cX8_cost 29 = .ok (.getfield 12, 3) := by decide +kernel
theorem dX8_cost_32 : decode cX8_cost 32 = .ok (.aload_n 0, 1) := by decide +kernel
theorem dX8_cost_33 : decode cX8_cost 33 = .ok (.getfield 36, 3) := by decide +kernel
theorem dX8_cost_36 : decode cX8_cost 36 = .ok (.iload_n 1, 1) := by decide +kernel
theorem dX8_cost_37 : decode cX8_cost 37 = .ok (.iload_n 3, 1) := by decide +kernel
theorem dX8_cost_38 : decode cX8_cost 38 = .ok (.invokevirtual 177, 3) := by decide +kernel
theorem dX8_cost_41 : decode cX8_cost 41 = .ok (.aload_n 0, 1) := by decide +kernel
theorem dX8_cost_42 : decode cX8_cost 42 = .ok (.getfield 43, 3) := by decide +kernel
theorem dX8_cost_45 : decode cX8_cost 45 = .ok (.getfield 181, 3) := by decide +kernel
theorem dX8_cost_48 : decode cX8_cost 48 = .ok (.iload_n 2, 1) := by decide +kernel
theorem dX8_cost_49 : decode cX8_cost 49 = .ok (.iaload, 1) := by decide +kernel
theorem dX8_cost_50 : decode cX8_cost 50 = .ok (.ldc 184, 2) := by decide +kernel
theorem dX8_cost_52 : decode cX8_cost 52 = .ok (.if_icmp .lt 7, 3) := by decide +kernel
theorem dX8_cost_55 : decode cX8_cost 55 = .ok (.iconst (-1), 1) := by decide +kernel
theorem dX8_cost_56 : decode cX8_cost 56 = .ok (.goto 12, 3) := by decide +kernel
theorem dX8_cost_59 : decode cX8_cost 59 = .ok (.aload_n 0, 1) := by decide +kernel
theorem dX8_cost_60 : decode cX8_cost 60 = .ok (.getfield 43, 3) := by decide +kernel
theorem dX8_cost_63 : decode cX8_cost 63 = .ok (.getfield 181, 3) := by decide +kernel
theorem dX8_cost_66 : decode cX8_cost 66 = .ok (.iload_n 2, 1) := by decide +kernel
theorem dX8_cost_67 : decode cX8_cost 67 = .ok (.iaload, 1) := by decide +kernel
theorem dX8_cost_68 : decode cX8_cost 68 = .ok (.ireturn, 1) := by decide +kernel
theorem dX8_earliest_0 : decode cX8_earliest 0 = .ok (.iload_n 1, 1) := by decide +kernel
theorem dX8_earliest_1 : decode cX8_earliest 1 = .ok (.invokestatic 174, 3) := by decide +kernel
theorem dX8_earliest_4 : decode cX8_earliest 4 = .ok (.ifCond .eq 17, 3) := by decide +kernel
theorem dX8_earliest_7 : decode cX8_earliest 7 = .ok (.iload_n 2, 1) := by decide +kernel
theorem dX8_earliest_8 : decode cX8_earliest 8 = .ok (.invokestatic 122, 3) := by decide +kernel
theorem dX8_earliest_11 : decode cX8_earliest 11 = .ok (.ifCond .eq 10, 3) := by decide +kernel
theorem dX8_earliest_14 : decode cX8_earliest 14 = .ok (.iload_n 3, 1) := by decide +kernel
theorem dX8_earliest_15 : decode cX8_earliest 15 = .ok (.invokestatic 157, 3) := by decide +kernel
theorem dX8_earliest_18 : decode cX8_earliest 18 = .ok (.ifCond .ne 6, 3) := by decide +kernel
theorem dX8_earliest_21 : decode cX8_earliest 21 = .ok (.bipush (-2), 2) := by decide +kernel
theorem dX8_earliest_23 : decode cX8_earliest 23 = .ok (.ireturn, 1) := by decide +kernel
theorem dX8_earliest_24 : decode cX8_earliest 24 = .ok (.aload_n 0, 1) := by decide +kernel
theorem dX8_earliest_25 : decode cX8_earliest 25 = .ok (.getfield 43, 3) := by decide +kernel
theorem dX8_earliest_28 : decode cX8_earliest 28 = .ok (.aload_n 0, 1) := by decide +kernel
theorem dX8_earliest_29 : decode cX8_earliest 29 = .ok (.getfield 12, 3) := by decide +kernel
theorem dX8_earliest_32 : decode cX8_earliest 32 = .ok (.iload_n 1, 1) := by decide +kernel
theorem dX8_earliest_33 : decode cX8_earliest 33 = .ok (.iload_n 3, 1) := by decide +kernel
theorem dX8_earliest_34 : decode cX8_earliest 34 = .ok (.iconst 0, 1) := by decide +kernel
theorem dX8_earliest_35 : decode cX8_earliest 35 = .ok (.invokevirtual 185, 3) := by decide +kernel
theorem dX8_earliest_38 : decode cX8_earliest 38 = .ok (.aload_n 0, 1) := by decide +kernel
theorem dX8_earliest_39 : decode cX8_earliest 39 = .ok (.getfield 43, 3) := by decide +kernel
theorem dX8_earliest_42 : decode cX8_earliest 42 = .ok (.getfield 189, 3) := by decide +kernel
theorem dX8_earliest_45 : decode cX8_earliest 45 = .ok (.iload_n 2, 1) := by decide +kernel
theorem dX8_earliest_46 : decode cX8_earliest 46 = .ok (.iaload, 1) := by decide +kernel
theorem dX8_earliest_47 : decode cX8_earliest 47 = .ok (.bipush 32, 2) := by decide +kernel
theorem dX8_earliest_49 : decode cX8_earliest 49 = .ok (.if_icmp .ge 15, 3) := by decide +kernel
theorem dX8_earliest_52 : decode cX8_earliest 52 = .ok (.aload_n 0, 1) := by decide +kernel
theorem dX8_earliest_53 : decode cX8_earliest 53 = .ok (.getfield 43, 3) := by decide +kernel
theorem dX8_earliest_56 : decode cX8_earliest 56 = .ok (.getfield 189, 3) := by decide +kernel
theorem dX8_earliest_59 : decode cX8_earliest 59 = .ok (.iload_n 2, 1) := by decide +kernel
theorem dX8_earliest_60 : decode cX8_earliest 60 = .ok (.iaload, 1) := by decide +kernel
theorem dX8_earliest_61 : decode cX8_earliest 61 = .ok (.goto 4, 3) := by decide +kernel
theorem dX8_earliest_64 : decode cX8_earliest 64 = .ok (.iconst (-1), 1) := by decide +kernel
theorem dX8_earliest_65 : decode cX8_earliest 65 = .ok (.ireturn, 1) := by decide +kernel
theorem dX8_loop_0 : decode cX8_loop 0 = .ok (.iload_n 1, 1) := by decide +kernel
theorem dX8_loop_1 : decode cX8_loop 1 = .ok (.invokestatic 174, 3) := by decide +kernel
theorem dX8_loop_4 : decode cX8_loop 4 = .ok (.ifCond .eq 10, 3) := by decide +kernel
theorem dX8_loop_7 : decode cX8_loop 7 = .ok (.iload_n 2, 1) := by decide +kernel
theorem dX8_loop_8 : decode cX8_loop 8 = .ok (.invokestatic 157, 3) := by decide +kernel
theorem dX8_loop_11 : decode cX8_loop 11 = .ok (.ifCond .ne 6, 3) := by decide +kernel
theorem dX8_loop_14 : decode cX8_loop 14 = .ok (.bipush (-2), 2) := by decide +kernel
theorem dX8_loop_16 : decode cX8_loop 16 = .ok (.ireturn, 1) := by decide +kernel
theorem dX8_loop_17 : decode cX8_loop 17 = .ok (.aload_n 0, 1) := by decide +kernel
theorem dX8_loop_18 : decode cX8_loop 18 = .ok (.getfield 43, 3) := by decide +kernel
theorem dX8_loop_21 : decode cX8_loop 21 = .ok (.aload_n 0, 1) := by decide +kernel
theorem dX8_loop_22 : decode cX8_loop 22 = .ok (.getfield 12, 3) := by decide +kernel
theorem dX8_loop_25 : decode cX8_loop 25 = .ok (.aconst_null, 1) := by decide +kernel
theorem dX8_loop_26 : decode cX8_loop 26 = .ok (.iload_n 1, 1) := by decide +kernel
theorem dX8_loop_27 : decode cX8_loop 27 = .ok (.iload_n 2, 1) := by decide +kernel
theorem dX8_loop_28 : decode cX8_loop 28 = .ok (.invokevirtual 177, 3) := by decide +kernel
theorem dX8_loop_31 : decode cX8_loop 31 = .ok (.aload_n 0, 1) := by decide +kernel
theorem dX8_loop_32 : decode cX8_loop 32 = .ok (.getfield 43, 3) := by decide +kernel
theorem dX8_loop_35 : decode cX8_loop 35 = .ok (.aload_n 0, 1) := by decide +kernel
theorem dX8_loop_36 : decode cX8_loop 36 = .ok (.getfield 12, 3) := by decide +kernel
theorem dX8_loop_39 : decode cX8_loop 39 = .ok (.iload_n 1, 1) := by decide +kernel
theorem dX8_loop_40 : decode cX8_loop 40 = .ok (.iload_n 2, 1) := by decide +kernel
theorem dX8_loop_41 : decode cX8_loop 41 = .ok (.invokevirtual 192, 3) := by decide +kernel
theorem dX8_loop_44 : decode cX8_loop 44 = .ok (.istore_n 3, 1) := by decide +kernel
theorem dX8_loop_45 : decode cX8_loop 45 = .ok (.iload_n 3, 1) := by decide +kernel
theorem dX8_loop_46 : decode cX8_loop 46 = .ok (.ldc 184, 2) := by decide +kernel
theorem dX8_loop_48 : decode cX8_loop 48 = .ok (.if_icmp .lt 7, 3) := by decide +kernel
theorem dX8_loop_51 : decode cX8_loop 51 = .ok (.iconst (-1), 1) := by decide +kernel
theorem dX8_loop_52 : decode cX8_loop 52 = .ok (.goto 4, 3) := by decide +kernel
theorem dX8_loop_55 : decode cX8_loop 55 = .ok (.iload_n 3, 1) := by decide +kernel
theorem dX8_loop_56 : decode cX8_loop 56 = .ok (.ireturn, 1) := by decide +kernel
theorem dX8_spots_0 : decode cX8_spots 0 = .ok (.iload_n 1, 1) := by decide +kernel
theorem dX8_spots_1 : decode cX8_spots 1 = .ok (.invokestatic 174, 3) := by decide +kernel
theorem dX8_spots_4 : decode cX8_spots 4 = .ok (.ifCond .eq 10, 3) := by decide +kernel
theorem dX8_spots_7 : decode cX8_spots 7 = .ok (.iload_n 2, 1) := by decide +kernel
theorem dX8_spots_8 : decode cX8_spots 8 = .ok (.invokestatic 157, 3) := by decide +kernel
theorem dX8_spots_11 : decode cX8_spots 11 = .ok (.ifCond .ne 6, 3) := by decide +kernel
theorem dX8_spots_14 : decode cX8_spots 14 = .ok (.bipush (-2), 2) := by decide +kernel
theorem dX8_spots_16 : decode cX8_spots 16 = .ok (.ireturn, 1) := by decide +kernel
theorem dX8_spots_17 : decode cX8_spots 17 = .ok (.aload_n 0, 1) := by decide +kernel
theorem dX8_spots_18 : decode cX8_spots 18 = .ok (.getfield 43, 3) := by decide +kernel
theorem dX8_spots_21 : decode cX8_spots 21 = .ok (.aload_n 0, 1) := by decide +kernel
theorem dX8_spots_22 : decode cX8_spots 22 = .ok (.getfield 12, 3) := by decide +kernel
theorem dX8_spots_25 : decode cX8_spots 25 = .ok (.iload_n 1, 1) := by decide +kernel
theorem dX8_spots_26 : decode cX8_spots 26 = .ok (.iload_n 2, 1) := by decide +kernel
theorem dX8_spots_27 : decode cX8_spots 27 = .ok (.iconst 0, 1) := by decide +kernel
theorem dX8_spots_28 : decode cX8_spots 28 = .ok (.invokevirtual 185, 3) := by decide +kernel
theorem dX8_spots_31 : decode cX8_spots 31 = .ok (.iconst 0, 1) := by decide +kernel
theorem dX8_spots_32 : decode cX8_spots 32 = .ok (.istore_n 3, 1) := by decide +kernel
theorem dX8_spots_33 : decode cX8_spots 33 = .ok (.iconst 0, 1) := by decide +kernel
theorem dX8_spots_34 : decode cX8_spots 34 = .ok (.istore 4, 2) := by decide +kernel
theorem dX8_spots_36 : decode cX8_spots 36 = .ok (.iload 4, 2) := by decide +kernel
theorem dX8_spots_38 : decode cX8_spots 38 = .ok (.bipush 6, 2) := by decide +kernel
theorem dX8_spots_40 : decode cX8_spots 40 = .ok (.if_icmp .ge 25, 3) := by decide +kernel
theorem dX8_spots_43 : decode cX8_spots 43 = .ok (.iload_n 3, 1) := by decide +kernel
theorem dX8_spots_44 : decode cX8_spots 44 = .ok (.bipush 32, 2) := by decide +kernel
theorem dX8_spots_46 : decode cX8_spots 46 = .ok (.aload_n 0, 1) := by decide +kernel
theorem dX8_spots_47 : decode cX8_spots 47 = .ok (.getfield 43, 3) := by decide +kernel
theorem dX8_spots_50 : decode cX8_spots 50 = .ok (.getfield 189, 3) := by decide +kernel
theorem dX8_spots_53 : decode cX8_spots 53 = .ok (.iload 4, 2) := by decide +kernel
theorem dX8_spots_55 : decode cX8_spots 55 = .ok (.iaload, 1) := by decide +kernel
theorem dX8_spots_56 : decode cX8_spots 56 = .ok (.isub, 1) := by decide +kernel
theorem dX8_spots_57 : decode cX8_spots 57 = .ok (.iadd, 1) := by decide +kernel
theorem dX8_spots_58 : decode cX8_spots 58 = .ok (.istore_n 3, 1) := by decide +kernel
theorem dX8_spots_59 : decode cX8_spots 59 = .ok (.iinc 4 1, 3) := by decide +kernel
theorem dX8_spots_62 : decode cX8_spots 62 = .ok (.goto (-26), 3) := by decide +kernel
theorem dX8_spots_65 : decode cX8_spots 65 = .ok (.iload_n 3, 1) := by decide +kernel
theorem dX8_spots_66 : decode cX8_spots 66 = .ok (.ireturn, 1) := by decide +kernel
theorem dX8_brick_0 : decode cX8_brick 0 = .ok (.iload_n 1, 1) := by decide +kernel
theorem dX8_brick_1 : decode cX8_brick 1 = .ok (.invokestatic 174, 3) := by decide +kernel
theorem dX8_brick_4 : decode cX8_brick 4 = .ok (.ifCond .eq 28, 3) := by decide +kernel
theorem dX8_brick_7 : decode cX8_brick 7 = .ok (.iload_n 2, 1) := by decide +kernel
theorem dX8_brick_8 : decode cX8_brick 8 = .ok (.invokestatic 174, 3) := by decide +kernel
theorem dX8_brick_11 : decode cX8_brick 11 = .ok (.ifCond .eq 21, 3) := by decide +kernel
theorem dX8_brick_14 : decode cX8_brick 14 = .ok (.iload_n 3, 1) := by decide +kernel
theorem dX8_brick_15 : decode cX8_brick 15 = .ok (.invokestatic 157, 3) := by decide +kernel
theorem dX8_brick_18 : decode cX8_brick 18 = .ok (.ifCond .eq 14, 3) := by decide +kernel
theorem dX8_brick_21 : decode cX8_brick 21 = .ok (.iload 4, 2) := by decide +kernel
theorem dX8_brick_23 : decode cX8_brick 23 = .ok (.ifCond .lt 9, 3) := by decide +kernel
theorem dX8_brick_26 : decode cX8_brick 26 = .ok (.iload 4, 2) := by decide +kernel
theorem dX8_brick_28 : decode cX8_brick 28 = .ok (.iconst 1, 1) := by decide +kernel
theorem dX8_brick_29 : decode cX8_brick 29 = .ok (.if_icmp .le 6, 3) := by decide +kernel
theorem dX8_brick_32 : decode cX8_brick 32 = .ok (.bipush (-2), 2) := by decide +kernel
theorem dX8_brick_34 : decode cX8_brick 34 = .ok (.ireturn, 1) := by decide +kernel
theorem dX8_brick_35 : decode cX8_brick 35 = .ok (.iload 4, 2) := by decide +kernel
theorem dX8_brick_37 : decode cX8_brick 37 = .ok (.ifCond .ne 13, 3) := by decide +kernel
theorem dX8_brick_40 : decode cX8_brick 40 = .ok (.aload_n 0, 1) := by decide +kernel
theorem dX8_brick_41 : decode cX8_brick 41 = .ok (.iload_n 1, 1) := by decide +kernel
theorem dX8_brick_42 : decode cX8_brick 42 = .ok (.iload_n 2, 1) := by decide +kernel
theorem dX8_brick_43 : decode cX8_brick 43 = .ok (.iload_n 3, 1) := by decide +kernel
theorem dX8_brick_44 : decode cX8_brick 44 = .ok (.invokevirtual 196, 3) := by decide +kernel
theorem dX8_brick_47 : decode cX8_brick 47 = .ok (.goto 10, 3) := by decide +kernel
theorem dX8_brick_50 : decode cX8_brick 50 = .ok (.aload_n 0, 1) := by decide +kernel
theorem dX8_brick_51 : decode cX8_brick 51 = .ok (.iload_n 1, 1) := by decide +kernel
theorem dX8_brick_52 : decode cX8_brick 52 = .ok (.iload_n 2, 1) := by decide +kernel
theorem dX8_brick_53 : decode cX8_brick 53 = .ok (.iload_n 3, 1) := by decide +kernel
theorem dX8_brick_54 : decode cX8_brick 54 = .ok (.invokevirtual 200, 3) := by decide +kernel
theorem dX8_brick_57 : decode cX8_brick 57 = .ok (.ireturn, 1) := by decide +kernel
theorem dX8_seen_0 : decode cX8_seen 0 = .ok (.aload_n 0, 1) := by decide +kernel
theorem dX8_seen_1 : decode cX8_seen 1 = .ok (.iload_n 1, 1) := by decide +kernel
theorem dX8_seen_2 : decode cX8_seen 2 = .ok (.iload_n 2, 1) := by decide +kernel
theorem dX8_seen_3 : decode cX8_seen 3 = .ok (.iload_n 3, 1) := by decide +kernel
theorem dX8_seen_4 : decode cX8_seen 4 = .ok (.iload 4, 2) := by decide +kernel
theorem dX8_seen_6 : decode cX8_seen 6 = .ok (.iconst 2, 1) := by decide +kernel
theorem dX8_seen_7 : decode cX8_seen 7 = .ok (.invokevirtual 203, 3) := by decide +kernel
theorem dX8_seen_10 : decode cX8_seen 10 = .ok (.istore 5, 2) := by decide +kernel
theorem dX8_seen_12 : decode cX8_seen 12 = .ok (.iload 5, 2) := by decide +kernel
theorem dX8_seen_14 : decode cX8_seen 14 = .ok (.ifCond .eq 6, 3) := by decide +kernel
theorem dX8_seen_17 : decode cX8_seen 17 = .ok (.iload 5, 2) := by decide +kernel
theorem dX8_seen_19 : decode cX8_seen 19 = .ok (.ireturn, 1) := by decide +kernel
theorem dX8_seen_20 : decode cX8_seen 20 = .ok (.aload_n 0, 1) := by decide +kernel
theorem dX8_seen_21 : decode cX8_seen 21 = .ok (.getfield 49, 3) := by decide +kernel
theorem dX8_seen_24 : decode cX8_seen 24 = .ok (.iload_n 1, 1) := by decide +kernel
theorem dX8_seen_25 : decode cX8_seen 25 = .ok (.aaload, 1) := by decide +kernel
theorem dX8_seen_26 : decode cX8_seen 26 = .ok (.astore 6, 2) := by decide +kernel
theorem dX8_seen_28 : decode cX8_seen 28 = .ok (.aload_n 0, 1) := by decide +kernel
theorem dX8_seen_29 : decode cX8_seen 29 = .ok (.getfield 12, 3) := by decide +kernel
theorem dX8_seen_32 : decode cX8_seen 32 = .ok (.getfield 111, 3) := by decide +kernel
theorem dX8_seen_35 : decode cX8_seen 35 = .ok (.iload_n 2, 1) := by decide +kernel
theorem dX8_seen_36 : decode cX8_seen 36 = .ok (.aaload, 1) := by decide +kernel
theorem dX8_seen_37 : decode cX8_seen 37 = .ok (.astore 7, 2) := by decide +kernel
theorem dX8_seen_39 : decode cX8_seen 39 = .ok (.iload 4, 2) := by decide +kernel
theorem dX8_seen_41 : decode cX8_seen 41 = .ok (.ifCond .ne 13, 3) := by decide +kernel
theorem dX8_seen_44 : decode cX8_seen 44 = .ok (.aload_n 0, 1) := by decide +kernel
theorem dX8_seen_45 : decode cX8_seen 45 = .ok (.aload 6, 2) := by decide +kernel
theorem dX8_seen_47 : decode cX8_seen 47 = .ok (.aload 7, 2) := by decide +kernel
theorem dX8_seen_49 : decode cX8_seen 49 = .ok (.iload_n 3, 1) := by decide +kernel
theorem dX8_seen_50 : decode cX8_seen 50 = .ok (.invokevirtual 207, 3) := by decide +kernel
theorem dX8_seen_53 : decode cX8_seen 53 = .ok (.ireturn, 1) := by decide +kernel
theorem dX8_seen_54 : decode cX8_seen 54 = .ok (.iload 4, 2) := by decide +kernel
theorem dX8_seen_56 : decode cX8_seen 56 = .ok (.iconst 1, 1) := by decide +kernel
theorem dX8_seen_57 : decode cX8_seen 57 = .ok (.if_icmp .ne 15, 3) := by decide +kernel
theorem dX8_seen_60 : decode cX8_seen 60 = .ok (.aload_n 0, 1) := by decide +kernel
theorem dX8_seen_61 : decode cX8_seen 61 = .ok (.aload 6, 2) := by decide +kernel
theorem dX8_seen_63 : decode cX8_seen 63 = .ok (.aload 7, 2) := by decide +kernel
theorem dX8_seen_65 : decode cX8_seen 65 = .ok (.iload_n 3, 1) := by decide +kernel
theorem dX8_seen_66 : decode cX8_seen 66 = .ok (.invokevirtual 211, 3) := by decide +kernel
theorem dX8_seen_69 : decode cX8_seen 69 = .ok (.goto 12, 3) := by decide +kernel
theorem dX8_seen_72 : decode cX8_seen 72 = .ok (.aload_n 0, 1) := by decide +kernel
theorem dX8_seen_73 : decode cX8_seen 73 = .ok (.aload 6, 2) := by decide +kernel
theorem dX8_seen_75 : decode cX8_seen 75 = .ok (.aload 7, 2) := by decide +kernel
theorem dX8_seen_77 : decode cX8_seen 77 = .ok (.iload_n 3, 1) := by decide +kernel
theorem dX8_seen_78 : decode cX8_seen 78 = .ok (.invokevirtual 214, 3) := by decide +kernel
theorem dX8_seen_81 : decode cX8_seen 81 = .ok (.ireturn, 1) := by decide +kernel
theorem dX8_lookNext_0 : decode cX8_lookNext 0 = .ok (.aload_n 0, 1) := by decide +kernel
theorem dX8_lookNext_1 : decode cX8_lookNext 1 = .ok (.iload_n 1, 1) := by decide +kernel
theorem dX8_lookNext_2 : decode cX8_lookNext 2 = .ok (.iload_n 2, 1) := by decide +kernel
theorem dX8_lookNext_3 : decode cX8_lookNext 3 = .ok (.iload_n 3, 1) := by decide +kernel
theorem dX8_lookNext_4 : decode cX8_lookNext 4 = .ok (.iload 4, 2) := by decide +kernel
theorem dX8_lookNext_6 : decode cX8_lookNext 6 = .ok (.iconst 1, 1) := by decide +kernel
theorem dX8_lookNext_7 : decode cX8_lookNext 7 = .ok (.invokevirtual 203, 3) := by decide +kernel
theorem dX8_lookNext_10 : decode cX8_lookNext 10 = .ok (.istore 5, 2) := by decide +kernel
theorem dX8_lookNext_12 : decode cX8_lookNext 12 = .ok (.iload 5, 2) := by decide +kernel
theorem dX8_lookNext_14 : decode cX8_lookNext 14 = .ok (.ifCond .eq 6, 3) := by decide +kernel
theorem dX8_lookNext_17 : decode cX8_lookNext 17 = .ok (.iload 5, 2) := by decide +kernel
theorem dX8_lookNext_19 : decode cX8_lookNext 19 = .ok (.ireturn, 1) := by decide +kernel
theorem dX8_lookNext_20 : decode cX8_lookNext 20 = .ok (.aload_n 0, 1) := by decide +kernel
theorem dX8_lookNext_21 : decode cX8_lookNext 21 = .ok (.getfield 12, 3) := by decide +kernel
theorem dX8_lookNext_24 : decode cX8_lookNext 24 = .ok (.getfield 111, 3) := by decide +kernel
theorem dX8_lookNext_27 : decode cX8_lookNext 27 = .ok (.iload_n 2, 1) := by decide +kernel
theorem dX8_lookNext_28 : decode cX8_lookNext 28 = .ok (.aaload, 1) := by decide +kernel
theorem dX8_lookNext_29 : decode cX8_lookNext 29 = .ok (.astore 6, 2) := by decide +kernel
theorem dX8_lookNext_31 : decode cX8_lookNext 31 = .ok (.aload_n 0, 1) := by decide +kernel
theorem dX8_lookNext_32 : decode cX8_lookNext 32 = .ok (.aload_n 0, 1) := by decide +kernel
theorem dX8_lookNext_33 : decode cX8_lookNext 33 = .ok (.getfield 49, 3) := by decide +kernel
theorem dX8_lookNext_36 : decode cX8_lookNext 36 = .ok (.iload_n 1, 1) := by decide +kernel
theorem dX8_lookNext_37 : decode cX8_lookNext 37 = .ok (.aaload, 1) := by decide +kernel
theorem dX8_lookNext_38 : decode cX8_lookNext 38 = .ok (.aload 6, 2) := by decide +kernel
theorem dX8_lookNext_40 : decode cX8_lookNext 40 = .ok (.iload_n 3, 1) := by decide +kernel
theorem dX8_lookNext_41 : decode cX8_lookNext 41 = .ok (.invokevirtual 211, 3) := by decide +kernel
theorem dX8_lookNext_44 : decode cX8_lookNext 44 = .ok (.istore 7, 2) := by decide +kernel
theorem dX8_lookNext_46 : decode cX8_lookNext 46 = .ok (.iconst 0, 1) := by decide +kernel
theorem dX8_lookNext_47 : decode cX8_lookNext 47 = .ok (.istore 8, 2) := by decide +kernel
theorem dX8_lookNext_49 : decode cX8_lookNext 49 = .ok (.iconst 0, 1) := by decide +kernel
theorem dX8_lookNext_50 : decode cX8_lookNext 50 = .ok (.istore 9, 2) := by decide +kernel
theorem dX8_lookNext_52 : decode cX8_lookNext 52 = .ok (.iconst 0, 1) := by decide +kernel
theorem dX8_lookNext_53 : decode cX8_lookNext 53 = .ok (.istore 10, 2) := by decide +kernel
theorem dX8_lookNext_55 : decode cX8_lookNext 55 = .ok (.iload 10, 2) := by decide +kernel
theorem dX8_lookNext_57 : decode cX8_lookNext 57 = .ok (.bipush 32, 2) := by decide +kernel
theorem dX8_lookNext_59 : decode cX8_lookNext 59 = .ok (.if_icmp .ge 36, 3) := by decide +kernel
theorem dX8_lookNext_62 : decode cX8_lookNext 62 = .ok (.aload_n 0, 1) := by decide +kernel
theorem dX8_lookNext_63 : decode cX8_lookNext 63 = .ok (.aload 6, 2) := by decide +kernel
theorem dX8_lookNext_65 : decode cX8_lookNext 65 = .ok (.iload 7, 2) := by decide +kernel
theorem dX8_lookNext_67 : decode cX8_lookNext 67 = .ok (.iload 10, 2) := by decide +kernel
theorem dX8_lookNext_69 : decode cX8_lookNext 69 = .ok (.invokevirtual 217, 3) := by decide +kernel
theorem dX8_lookNext_72 : decode cX8_lookNext 72 = .ok (.istore 11, 2) := by decide +kernel
theorem dX8_lookNext_74 : decode cX8_lookNext 74 = .ok (.iload 11, 2) := by decide +kernel
theorem dX8_lookNext_76 : decode cX8_lookNext 76 = .ok (.iload 9, 2) := by decide +kernel
theorem dX8_lookNext_78 : decode cX8_lookNext 78 = .ok (.if_icmp .le 11, 3) := by decide +kernel
theorem dX8_lookNext_81 : decode cX8_lookNext 81 = .ok (.iload 11, 2) := by decide +kernel
theorem dX8_lookNext_83 : decode cX8_lookNext 83 = .ok (.istore 9, 2) := by decide +kernel
theorem dX8_lookNext_85 : decode cX8_lookNext 85 = .ok (.iload 10, 2) := by decide +kernel
theorem dX8_lookNext_87 : decode cX8_lookNext 87 = .ok (.istore 8, 2) := by decide +kernel
theorem dX8_lookNext_89 : decode cX8_lookNext 89 = .ok (.iinc 10 1, 3) := by decide +kernel
theorem dX8_lookNext_92 : decode cX8_lookNext 92 = .ok (.goto (-37), 3) := by decide +kernel
theorem dX8_lookNext_95 : decode cX8_lookNext 95 = .ok (.iload 4, 2) := by decide +kernel
theorem dX8_lookNext_97 : decode cX8_lookNext 97 = .ok (.ifCond .ne 8, 3) := by decide +kernel
theorem dX8_lookNext_100 : decode cX8_lookNext 100 = .ok (.iload 8, 2) := by decide +kernel
theorem dX8_lookNext_102 : decode cX8_lookNext 102 = .ok (.goto 5, 3) := by decide +kernel
theorem dX8_lookNext_105 : decode cX8_lookNext 105 = .ok (.iload 9, 2) := by decide +kernel
theorem dX8_lookNext_107 : decode cX8_lookNext 107 = .ok (.ireturn, 1) := by decide +kernel
theorem dX8_film_0 : decode cX8_film 0 = .ok (.iload_n 1, 1) := by decide +kernel
theorem dX8_film_1 : decode cX8_film 1 = .ok (.invokestatic 221, 3) := by decide +kernel
theorem dX8_film_4 : decode cX8_film 4 = .ok (.ifCond .eq 33, 3) := by decide +kernel
theorem dX8_film_7 : decode cX8_film 7 = .ok (.aload_n 0, 1) := by decide +kernel
theorem dX8_film_8 : decode cX8_film 8 = .ok (.getfield 12, 3) := by decide +kernel
theorem dX8_film_11 : decode cX8_film 11 = .ok (.iload_n 2, 1) := by decide +kernel
theorem dX8_film_12 : decode cX8_film 12 = .ok (.invokevirtual 150, 3) := by decide +kernel
theorem dX8_film_15 : decode cX8_film 15 = .ok (.ifCond .eq 22, 3) := by decide +kernel
theorem dX8_film_18 : decode cX8_film 18 = .ok (.iload_n 3, 1) := by decide +kernel
theorem dX8_film_19 : decode cX8_film 19 = .ok (.invokestatic 147, 3) := by decide +kernel
theorem dX8_film_22 : decode cX8_film 22 = .ok (.ifCond .eq 15, 3) := by decide +kernel
theorem dX8_film_25 : decode cX8_film 25 = .ok (.iload 4, 2) := by decide +kernel
theorem dX8_film_27 : decode cX8_film 27 = .ok (.ifCond .lt 10, 3) := by decide +kernel
theorem dX8_film_30 : decode cX8_film 30 = .ok (.iload 4, 2) := by decide +kernel
theorem dX8_film_32 : decode cX8_film 32 = .ok (.bipush 10, 2) := by decide +kernel
theorem dX8_film_34 : decode cX8_film 34 = .ok (.if_icmp .le 6, 3) := by decide +kernel
theorem dX8_film_37 : decode cX8_film 37 = .ok (.bipush (-2), 2) := by decide +kernel
theorem dX8_film_39 : decode cX8_film 39 = .ok (.ireturn, 1) := by decide +kernel
theorem dX8_film_40 : decode cX8_film 40 = .ok (.aload_n 0, 1) := by decide +kernel
theorem dX8_film_41 : decode cX8_film 41 = .ok (.getfield 49, 3) := by decide +kernel
theorem dX8_film_44 : decode cX8_film 44 = .ok (.iload_n 1, 1) := by decide +kernel
theorem dX8_film_45 : decode cX8_film 45 = .ok (.aaload, 1) := by decide +kernel
theorem dX8_film_46 : decode cX8_film 46 = .ok (.astore 5, 2) := by decide +kernel
theorem dX8_film_48 : decode cX8_film 48 = .ok (.aload 5, 2) := by decide +kernel
theorem dX8_film_50 : decode cX8_film 50 = .ok (.iconst 0, 1) := by decide +kernel
theorem dX8_film_51 : decode cX8_film 51 = .ok (.iload 4, 2) := by decide +kernel
theorem dX8_film_53 : decode cX8_film 53 = .ok (.invokevirtual 224, 3) := by decide +kernel
theorem dX8_film_56 : decode cX8_film 56 = .ok (.iconst 0, 1) := by decide +kernel
theorem dX8_film_57 : decode cX8_film 57 = .ok (.istore 6, 2) := by decide +kernel
theorem dX8_film_59 : decode cX8_film 59 = .ok (.iload 6, 2) := by decide +kernel
theorem dX8_film_61 : decode cX8_film 61 = .ok (.iload 4, 2) := by decide +kernel
theorem dX8_film_63 : decode cX8_film 63 = .ok (.if_icmp .ge 36, 3) := by decide +kernel
theorem dX8_film_66 : decode cX8_film 66 = .ok (.aload 5, 2) := by decide +kernel
theorem dX8_film_68 : decode cX8_film 68 = .ok (.iload 6, 2) := by decide +kernel
theorem dX8_film_70 : decode cX8_film 70 = .ok (.aload_n 0, 1) := by decide +kernel
theorem dX8_film_71 : decode cX8_film 71 = .ok (.getfield 12, 3) := by decide +kernel
theorem dX8_film_74 : decode cX8_film 74 = .ok (.aload_n 0, 1) := by decide +kernel
theorem dX8_film_75 : decode cX8_film 75 = .ok (.getfield 12, 3) := by decide +kernel
theorem dX8_film_78 : decode cX8_film 78 = .ok (.getfield 111, 3) := by decide +kernel
theorem dX8_film_81 : decode cX8_film 81 = .ok (.iload_n 2, 1) := by decide +kernel
theorem dX8_film_82 : decode cX8_film 82 = .ok (.aaload, 1) := by decide +kernel
theorem dX8_film_83 : decode cX8_film 83 = .ok (.iload_n 3, 1) := by decide +kernel
theorem dX8_film_84 : decode cX8_film 84 = .ok (.iload 6, 2) := by decide +kernel
theorem dX8_film_86 : decode cX8_film 86 = .ok (.iadd, 1) := by decide +kernel
theorem dX8_film_87 : decode cX8_film 87 = .ok (.invokevirtual 227, 3) := by decide +kernel
theorem dX8_film_90 : decode cX8_film 90 = .ok (.invokevirtual 231, 3) := by decide +kernel
theorem dX8_film_93 : decode cX8_film 93 = .ok (.iinc 6 1, 3) := by decide +kernel
theorem dX8_film_96 : decode cX8_film 96 = .ok (.goto (-37), 3) := by decide +kernel
theorem dX8_film_99 : decode cX8_film 99 = .ok (.iload 4, 2) := by decide +kernel
theorem dX8_film_101 : decode cX8_film 101 = .ok (.ireturn, 1) := by decide +kernel
theorem dX8_water_0 : decode cX8_water 0 = .ok (.iload_n 1, 1) := by decide +kernel
theorem dX8_water_1 : decode cX8_water 1 = .ok (.invokestatic 122, 3) := by decide +kernel
theorem dX8_water_4 : decode cX8_water 4 = .ok (.ifCond .eq 10, 3) := by decide +kernel
theorem dX8_water_7 : decode cX8_water 7 = .ok (.iload_n 2, 1) := by decide +kernel
theorem dX8_water_8 : decode cX8_water 8 = .ok (.invokestatic 147, 3) := by decide +kernel
theorem dX8_water_11 : decode cX8_water 11 = .ok (.ifCond .ne 6, 3) := by decide +kernel
theorem dX8_water_14 : decode cX8_water 14 = .ok (.bipush (-2), 2) := by decide +kernel
theorem dX8_water_16 : decode cX8_water 16 = .ok (.ireturn, 1) := by decide +kernel
theorem dX8_water_17 : decode cX8_water 17 = .ok (.aload_n 0, 1) := by decide +kernel
theorem dX8_water_18 : decode cX8_water 18 = .ok (.iload_n 1, 1) := by decide +kernel
theorem dX8_water_19 : decode cX8_water 19 = .ok (.aload_n 0, 1) := by decide +kernel
theorem dX8_water_20 : decode cX8_water 20 = .ok (.getfield 12, 3) := by decide +kernel
theorem dX8_water_23 : decode cX8_water 23 = .ok (.getfield 108, 3) := by decide +kernel
theorem dX8_water_26 : decode cX8_water 26 = .ok (.invokevirtual 233, 3) := by decide +kernel
theorem dX8_water_29 : decode cX8_water 29 = .ok (.pop, 1) := by decide +kernel
theorem dX8_water_30 : decode cX8_water 30 = .ok (.aload_n 0, 1) := by decide +kernel
theorem dX8_water_31 : decode cX8_water 31 = .ok (.getfield 62, 3) := by decide +kernel
theorem dX8_water_34 : decode cX8_water 34 = .ok (.iload_n 2, 1) := by decide +kernel
theorem dX8_water_35 : decode cX8_water 35 = .ok (.iaload, 1) := by decide +kernel
theorem dX8_water_36 : decode cX8_water 36 = .ok (.ireturn, 1) := by decide +kernel
theorem dX8_wettest_0 : decode cX8_wettest 0 = .ok (.iload_n 1, 1) := by decide +kernel
theorem dX8_wettest_1 : decode cX8_wettest 1 = .ok (.invokestatic 122, 3) := by decide +kernel
theorem dX8_wettest_4 : decode cX8_wettest 4 = .ok (.ifCond .eq 12, 3) := by decide +kernel
theorem dX8_wettest_7 : decode cX8_wettest 7 = .ok (.iload_n 2, 1) := by decide +kernel
theorem dX8_wettest_8 : decode cX8_wettest 8 = .ok (.ifCond .lt 8, 3) := by decide +kernel
theorem dX8_wettest_11 : decode cX8_wettest 11 = .ok (.iload_n 2, 1) := by decide +kernel
theorem dX8_wettest_12 : decode cX8_wettest 12 = .ok (.iconst 1, 1) := by decide +kernel
theorem dX8_wettest_13 : decode cX8_wettest 13 = .ok (.if_icmp .le 6, 3) := by decide +kernel
theorem dX8_wettest_16 : decode cX8_wettest 16 = .ok (.bipush (-2), 2) := by decide +kernel
theorem dX8_wettest_18 : decode cX8_wettest 18 = .ok (.ireturn, 1) := by decide +kernel
theorem dX8_wettest_19 : decode cX8_wettest 19 = .ok (.aload_n 0, 1) := by decide +kernel
theorem dX8_wettest_20 : decode cX8_wettest 20 = .ok (.iload_n 1, 1) := by decide +kernel
theorem dX8_wettest_21 : decode cX8_wettest 21 = .ok (.aload_n 0, 1) := by decide +kernel
theorem dX8_wettest_22 : decode cX8_wettest 22 = .ok (.getfield 12, 3) := by decide +kernel
theorem dX8_wettest_25 : decode cX8_wettest 25 = .ok (.getfield 108, 3) := by decide +kernel
theorem dX8_wettest_28 : decode cX8_wettest 28 = .ok (.invokevirtual 233, 3) := by decide +kernel
theorem dX8_wettest_31 : decode cX8_wettest 31 = .ok (.istore_n 3, 1) := by decide +kernel
theorem dX8_wettest_32 : decode cX8_wettest 32 = .ok (.iload_n 2, 1) := by decide +kernel
theorem dX8_wettest_33 : decode cX8_wettest 33 = .ok (.iconst 1, 1) := by decide +kernel
theorem dX8_wettest_34 : decode cX8_wettest 34 = .ok (.if_icmp .ne 5, 3) := by decide +kernel
theorem dX8_wettest_37 : decode cX8_wettest 37 = .ok (.iload_n 3, 1) := by decide +kernel
theorem dX8_wettest_38 : decode cX8_wettest 38 = .ok (.ireturn, 1) := by decide +kernel
theorem dX8_wettest_39 : decode cX8_wettest 39 = .ok (.iconst 0, 1) := by decide +kernel
theorem dX8_wettest_40 : decode cX8_wettest 40 = .ok (.istore 4, 2) := by decide +kernel
theorem dX8_wettest_42 : decode cX8_wettest 42 = .ok (.iconst 1, 1) := by decide +kernel
theorem dX8_wettest_43 : decode cX8_wettest 43 = .ok (.istore 5, 2) := by decide +kernel
theorem dX8_wettest_45 : decode cX8_wettest 45 = .ok (.iload 5, 2) := by decide +kernel
theorem dX8_wettest_47 : decode cX8_wettest 47 = .ok (.bipush 32, 2) := by decide +kernel
theorem dX8_wettest_49 : decode cX8_wettest 49 = .ok (.if_icmp .ge 30, 3) := by decide +kernel
theorem dX8_wettest_52 : decode cX8_wettest 52 = .ok (.aload_n 0, 1) := by decide +kernel
theorem dX8_wettest_53 : decode cX8_wettest 53 = .ok (.getfield 62, 3) := by decide +kernel
theorem dX8_wettest_56 : decode cX8_wettest 56 = .ok (.iload 5, 2) := by decide +kernel
theorem dX8_wettest_58 : decode cX8_wettest 58 = .ok (.iaload, 1) := by decide +kernel
theorem dX8_wettest_59 : decode cX8_wettest 59 = .ok (.aload_n 0, 1) := by decide +kernel
theorem dX8_wettest_60 : decode cX8_wettest 60 = .ok (.getfield 62, 3) := by decide +kernel
theorem dX8_wettest_63 : decode cX8_wettest 63 = .ok (.iload 4, 2) := by decide +kernel
theorem dX8_wettest_65 : decode cX8_wettest 65 = .ok (.iaload, 1) := by decide +kernel
theorem dX8_wettest_66 : decode cX8_wettest 66 = .ok (.if_icmp .le 7, 3) := by decide +kernel
theorem dX8_wettest_69 : decode cX8_wettest 69 = .ok (.iload 5, 2) := by decide +kernel
theorem dX8_wettest_71 : decode cX8_wettest 71 = .ok (.istore 4, 2) := by decide +kernel
theorem dX8_wettest_73 : decode cX8_wettest 73 = .ok (.iinc 5 1, 3) := by decide +kernel
theorem dX8_wettest_76 : decode cX8_wettest 76 = .ok (.goto (-31), 3) := by decide +kernel
theorem dX8_wettest_79 : decode cX8_wettest 79 = .ok (.iload 4, 2) := by decide +kernel
theorem dX8_wettest_81 : decode cX8_wettest 81 = .ok (.ireturn, 1) := by decide +kernel
theorem dX8_views_0 : decode cX8_views 0 = .ok (.iload_n 1, 1) := by decide +kernel
theorem dX8_views_1 : decode cX8_views 1 = .ok (.invokestatic 147, 3) := by decide +kernel
theorem dX8_views_4 : decode cX8_views 4 = .ok (.ifCond .eq 21, 3) := by decide +kernel
theorem dX8_views_7 : decode cX8_views 7 = .ok (.iload_n 2, 1) := by decide +kernel
theorem dX8_views_8 : decode cX8_views 8 = .ok (.ifCond .lt 17, 3) := by decide +kernel
theorem dX8_views_11 : decode cX8_views 11 = .ok (.iload_n 2, 1) := by decide +kernel
theorem dX8_views_12 : decode cX8_views 12 = .ok (.iconst 4, 1) := by decide +kernel
theorem dX8_views_13 : decode cX8_views 13 = .ok (.if_icmp .gt 12, 3) := by decide +kernel
theorem dX8_views_16 : decode cX8_views 16 = .ok (.iload_n 3, 1) := by decide +kernel
theorem dX8_views_17 : decode cX8_views 17 = .ok (.ifCond .lt 8, 3) := by decide +kernel
theorem dX8_views_20 : decode cX8_views 20 = .ok (.iload_n 3, 1) := by decide +kernel
theorem dX8_views_21 : decode cX8_views 21 = .ok (.iconst 1, 1) := by decide +kernel
theorem dX8_views_22 : decode cX8_views 22 = .ok (.if_icmp .le 6, 3) := by decide +kernel
theorem dX8_views_25 : decode cX8_views 25 = .ok (.bipush (-2), 2) := by decide +kernel
theorem dX8_views_27 : decode cX8_views 27 = .ok (.ireturn, 1) := by decide +kernel
theorem dX8_views_28 : decode cX8_views 28 = .ok (.aload_n 0, 1) := by decide +kernel
theorem dX8_views_29 : decode cX8_views 29 = .ok (.iload_n 1, 1) := by decide +kernel
theorem dX8_views_30 : decode cX8_views 30 = .ok (.invokevirtual 237, 3) := by decide +kernel
theorem dX8_views_33 : decode cX8_views 33 = .ok (.iconst (-1), 1) := by decide +kernel
theorem dX8_views_34 : decode cX8_views 34 = .ok (.istore 4, 2) := by decide +kernel
theorem dX8_views_36 : decode cX8_views 36 = .ok (.iconst 0, 1) := by decide +kernel
theorem dX8_views_37 : decode cX8_views 37 = .ok (.istore 5, 2) := by decide +kernel
theorem dX8_views_39 : decode cX8_views 39 = .ok (.sipush 255, 3) := by decide +kernel
theorem dX8_views_42 : decode cX8_views 42 = .ok (.istore 6, 2) := by decide +kernel
theorem dX8_views_44 : decode cX8_views 44 = .ok (.iload 6, 2) := by decide +kernel
theorem dX8_views_46 : decode cX8_views 46 = .ok (.ifCond .lt 45, 3) := by decide +kernel
theorem dX8_views_49 : decode cX8_views 49 = .ok (.iload 6, 2) := by decide +kernel
theorem dX8_views_51 : decode cX8_views 51 = .ok (.invokestatic 240, 3) := by decide +kernel
theorem dX8_views_54 : decode cX8_views 54 = .ok (.iload_n 2, 1) := by decide +kernel
theorem dX8_views_55 : decode cX8_views 55 = .ok (.if_icmp .ne 12, 3) := by decide +kernel
theorem dX8_views_58 : decode cX8_views 58 = .ok (.aload_n 0, 1) := by decide +kernel
theorem dX8_views_59 : decode cX8_views 59 = .ok (.iload 6, 2) := by decide +kernel
theorem dX8_views_61 : decode cX8_views 61 = .ok (.invokevirtual 245, 3) := by decide +kernel
theorem dX8_views_64 : decode cX8_views 64 = .ok (.goto 4, 3) := by decide +kernel
theorem dX8_views_67 : decode cX8_views 67 = .ok (.iconst (-1), 1) := by decide +kernel
theorem dX8_views_68 : decode cX8_views 68 = .ok (.istore 7, 2) := by decide +kernel
theorem dX8_views_70 : decode cX8_views 70 = .ok (.iload 7, 2) := by decide +kernel
theorem dX8_views_72 : decode cX8_views 72 = .ok (.iload 4, 2) := by decide +kernel
theorem dX8_views_74 : decode cX8_views 74 = .ok (.if_icmp .le 11, 3) := by decide +kernel
theorem dX8_views_77 : decode cX8_views 77 = .ok (.iload 7, 2) := by decide +kernel
theorem dX8_views_79 : decode cX8_views 79 = .ok (.istore 4, 2) := by decide +kernel
theorem dX8_views_81 : decode cX8_views 81 = .ok (.iload 6, 2) := by decide +kernel
theorem dX8_views_83 : decode cX8_views 83 = .ok (.istore 5, 2) := by decide +kernel
theorem dX8_views_85 : decode cX8_views 85 = .ok (.iinc 6 (-1), 3) := by decide +kernel
theorem dX8_views_88 : decode cX8_views 88 = .ok (.goto (-44), 3) := by decide +kernel
theorem dX8_views_91 : decode cX8_views 91 = .ok (.iload_n 3, 1) := by decide +kernel
theorem dX8_views_92 : decode cX8_views 92 = .ok (.ifCond .eq 9, 3) := by decide +kernel
theorem dX8_views_95 : decode cX8_views 95 = .ok (.iload 4, 2) := by decide +kernel
theorem dX8_views_97 : decode cX8_views 97 = .ok (.iconst (-1), 1) := by decide +kernel
theorem dX8_views_98 : decode cX8_views 98 = .ok (.if_icmp .ne 8, 3) := by decide +kernel
theorem dX8_views_101 : decode cX8_views 101 = .ok (.iload 4, 2) := by decide +kernel
theorem dX8_views_103 : decode cX8_views 103 = .ok (.goto 8, 3) := by decide +kernel
theorem dX8_views_106 : decode cX8_views 106 = .ok (.iload 5, 2) := by decide +kernel
theorem dX8_views_108 : decode cX8_views 108 = .ok (.invokestatic 248, 3) := by decide +kernel
theorem dX8_views_111 : decode cX8_views 111 = .ok (.ireturn, 1) := by decide +kernel
theorem dX8_drawn_0 : decode cX8_drawn 0 = .ok (.iload_n 1, 1) := by decide +kernel
theorem dX8_drawn_1 : decode cX8_drawn 1 = .ok (.invokestatic 122, 3) := by decide +kernel
theorem dX8_drawn_4 : decode cX8_drawn 4 = .ok (.ifCond .ne 6, 3) := by decide +kernel
theorem dX8_drawn_7 : decode cX8_drawn 7 = .ok (.bipush (-2), 2) := by decide +kernel
theorem dX8_drawn_9 : decode cX8_drawn 9 = .ok (.ireturn, 1) := by decide +kernel
theorem dX8_drawn_10 : decode cX8_drawn 10 = .ok (.aload_n 0, 1) := by decide +kernel
theorem dX8_drawn_11 : decode cX8_drawn 11 = .ok (.iload_n 1, 1) := by decide +kernel
theorem dX8_drawn_12 : decode cX8_drawn 12 = .ok (.iload_n 2, 1) := by decide +kernel
theorem dX8_drawn_13 : decode cX8_drawn 13 = .ok (.invokevirtual 251, 3) := by decide +kernel
theorem dX8_drawn_16 : decode cX8_drawn 16 = .ok (.ireturn, 1) := by decide +kernel
theorem dX8_chance_0 : decode cX8_chance 0 = .ok (.iload_n 1, 1) := by decide +kernel
theorem dX8_chance_1 : decode cX8_chance 1 = .ok (.invokestatic 122, 3) := by decide +kernel
theorem dX8_chance_4 : decode cX8_chance 4 = .ok (.ifCond .eq 14, 3) := by decide +kernel
theorem dX8_chance_7 : decode cX8_chance 7 = .ok (.iload_n 3, 1) := by decide +kernel
theorem dX8_chance_8 : decode cX8_chance 8 = .ok (.iconst 1, 1) := by decide +kernel
theorem dX8_chance_9 : decode cX8_chance 9 = .ok (.if_icmp .lt 9, 3) := by decide +kernel
theorem dX8_chance_12 : decode cX8_chance 12 = .ok (.iload_n 3, 1) := by decide +kernel
theorem dX8_chance_13 : decode cX8_chance 13 = .ok (.bipush 20, 2) := by decide +kernel
theorem dX8_chance_15 : decode cX8_chance 15 = .ok (.if_icmp .le 7, 3) := by decide +kernel
theorem dX8_chance_18 : decode cX8_chance 18 = .ok (.ldc2_w 254, 3) := by decide +kernel
theorem dX8_chance_21 : decode cX8_chance 21 = .ok (.lreturn, 1) := by decide +kernel
theorem dX8_chance_22 : decode cX8_chance 22 = .ok (.iload 4, 2) := by decide +kernel
theorem dX8_chance_24 : decode cX8_chance 24 = .ok (.ifCond .lt 22, 3) := by decide +kernel
theorem dX8_chance_27 : decode cX8_chance 27 = .ok (.iload 4, 2) := by decide +kernel
theorem dX8_chance_29 : decode cX8_chance 29 = .ok (.ldc_w 256, 3) := by decide +kernel
theorem dX8_chance_32 : decode cX8_chance 32 = .ok (.if_icmp .gt 14, 3) := by decide +kernel
theorem dX8_chance_35 : decode cX8_chance 35 = .ok (.iload 5, 2) := by decide +kernel
theorem dX8_chance_37 : decode cX8_chance 37 = .ok (.ifCond .lt 9, 3) := by decide +kernel
theorem dX8_chance_40 : decode cX8_chance 40 = .ok (.iload 5, 2) := by decide +kernel
theorem dX8_chance_42 : decode cX8_chance 42 = .ok (.iconst 1, 1) := by decide +kernel
theorem dX8_chance_43 : decode cX8_chance 43 = .ok (.if_icmp .le 7, 3) := by decide +kernel
theorem dX8_chance_46 : decode cX8_chance 46 = .ok (.ldc2_w 254, 3) := by decide +kernel
theorem dX8_chance_49 : decode cX8_chance 49 = .ok (.lreturn, 1) := by decide +kernel
theorem dX8_chance_50 : decode cX8_chance 50 = .ok (.iconst 0, 1) := by decide +kernel
theorem dX8_chance_51 : decode cX8_chance 51 = .ok (.istore 6, 2) := by decide +kernel
theorem dX8_chance_53 : decode cX8_chance 53 = .ok (.iconst 0, 1) := by decide +kernel
theorem dX8_chance_54 : decode cX8_chance 54 = .ok (.istore 7, 2) := by decide +kernel
theorem dX8_chance_56 : decode cX8_chance 56 = .ok (.iload 7, 2) := by decide +kernel
theorem dX8_chance_58 : decode cX8_chance 58 = .ok (.iload_n 3, 1) := by decide +kernel
theorem dX8_chance_59 : decode cX8_chance 59 = .ok (.if_icmp .ge 26, 3) := by decide +kernel
theorem dX8_chance_62 : decode cX8_chance 62 = .ok (.aload_n 0, 1) := by decide +kernel
theorem dX8_chance_63 : decode cX8_chance 63 = .ok (.iload_n 1, 1) := by decide +kernel
theorem dX8_chance_64 : decode cX8_chance 64 = .ok (.iload_n 2, 1) := by decide +kernel
theorem dX8_chance_65 : decode cX8_chance 65 = .ok (.iload 7, 2) := by decide +kernel
theorem dX8_chance_67 : decode cX8_chance 67 = .ok (.iadd, 1) := by decide +kernel
theorem dX8_chance_68 : decode cX8_chance 68 = .ok (.invokevirtual 251, 3) := by decide +kernel
theorem dX8_chance_71 : decode cX8_chance 71 = .ok (.iload 4, 2) := by decide +kernel
theorem dX8_chance_73 : decode cX8_chance 73 = .ok (.if_icmp .gt 6, 3) := by decide +kernel
theorem dX8_chance_76 : decode cX8_chance 76 = .ok (.iinc 6 1, 3) := by decide +kernel
theorem dX8_chance_79 : decode cX8_chance 79 = .ok (.iinc 7 1, 3) := by decide +kernel
theorem dX8_chance_82 : decode cX8_chance 82 = .ok (.goto (-26), 3) := by decide +kernel
theorem dX8_chance_85 : decode cX8_chance 85 = .ok (.iload_n 3, 1) := by decide +kernel
theorem dX8_chance_86 : decode cX8_chance 86 = .ok (.iload 6, 2) := by decide +kernel
theorem dX8_chance_88 : decode cX8_chance 88 = .ok (.invokestatic 257, 3) := by decide +kernel
theorem dX8_chance_91 : decode cX8_chance 91 = .ok (.istore 7, 2) := by decide +kernel
theorem dX8_chance_93 : decode cX8_chance 93 = .ok (.iload 5, 2) := by decide +kernel
theorem dX8_chance_95 : decode cX8_chance 95 = .ok (.ifCond .ne 8, 3) := by decide +kernel
theorem dX8_chance_98 : decode cX8_chance 98 = .ok (.iload 6, 2) := by decide +kernel
theorem dX8_chance_100 : decode cX8_chance 100 = .ok (.goto 4, 3) := by decide +kernel
theorem dX8_chance_103 : decode cX8_chance 103 = .ok (.iload_n 3, 1) := by decide +kernel
theorem dX8_chance_104 : decode cX8_chance 104 = .ok (.iload 7, 2) := by decide +kernel
theorem dX8_chance_106 : decode cX8_chance 106 = .ok (.idiv, 1) := by decide +kernel
theorem dX8_chance_107 : decode cX8_chance 107 = .ok (.i2l, 1) := by decide +kernel
theorem dX8_chance_108 : decode cX8_chance 108 = .ok (.lreturn, 1) := by decide +kernel
theorem dX8_image_0 : decode cX8_image 0 = .ok (.aload_n 0, 1) := by decide +kernel
theorem dX8_image_1 : decode cX8_image 1 = .ok (.getfield 16, 3) := by decide +kernel
theorem dX8_image_4 : decode cX8_image 4 = .ok (.aload_n 0, 1) := by decide +kernel
theorem dX8_image_5 : decode cX8_image 5 = .ok (.getfield 12, 3) := by decide +kernel
theorem dX8_image_8 : decode cX8_image 8 = .ok (.invokevirtual 260, 3) := by decide +kernel
theorem dX8_image_11 : decode cX8_image 11 = .ok (.aload_n 0, 1) := by decide +kernel
theorem dX8_image_12 : decode cX8_image 12 = .ok (.iconst 1, 1) := by decide +kernel
theorem dX8_image_13 : decode cX8_image 13 = .ok (.putfield 263, 3) := by decide +kernel
theorem dX8_image_16 : decode cX8_image 16 = .ok (.aload_n 0, 1) := by decide +kernel
theorem dX8_image_17 : decode cX8_image 17 = .ok (.getfield 16, 3) := by decide +kernel
theorem dX8_image_20 : decode cX8_image 20 = .ok (.getfield 125, 3) := by decide +kernel
theorem dX8_image_23 : decode cX8_image 23 = .ok (.ireturn, 1) := by decide +kernel
theorem dX8_back_0 : decode cX8_back 0 = .ok (.aload_n 0, 1) := by decide +kernel
theorem dX8_back_1 : decode cX8_back 1 = .ok (.getfield 263, 3) := by decide +kernel
theorem dX8_back_4 : decode cX8_back 4 = .ok (.ifCond .ne 6, 3) := by decide +kernel
theorem dX8_back_7 : decode cX8_back 7 = .ok (.bipush (-3), 2) := by decide +kernel
theorem dX8_back_9 : decode cX8_back 9 = .ok (.ireturn, 1) := by decide +kernel
theorem dX8_back_10 : decode cX8_back 10 = .ok (.aload_n 0, 1) := by decide +kernel
theorem dX8_back_11 : decode cX8_back 11 = .ok (.getfield 12, 3) := by decide +kernel
theorem dX8_back_14 : decode cX8_back 14 = .ok (.aload_n 0, 1) := by decide +kernel
theorem dX8_back_15 : decode cX8_back 15 = .ok (.getfield 16, 3) := by decide +kernel
theorem dX8_back_18 : decode cX8_back 18 = .ok (.invokevirtual 260, 3) := by decide +kernel
theorem dX8_back_21 : decode cX8_back 21 = .ok (.aload_n 0, 1) := by decide +kernel
theorem dX8_back_22 : decode cX8_back 22 = .ok (.getfield 12, 3) := by decide +kernel
theorem dX8_back_25 : decode cX8_back 25 = .ok (.getfield 125, 3) := by decide +kernel
theorem dX8_back_28 : decode cX8_back 28 = .ok (.ireturn, 1) := by decide +kernel
theorem dX8_count_0 : decode cX8_count 0 = .ok (.iload_n 1, 1) := by decide +kernel
theorem dX8_count_1 : decode cX8_count 1 = .ok (.tableswitch 75 0 4 #[35, 43, 51, 59, 67], 35) := by decide +kernel
theorem dX8_count_36 : decode cX8_count 36 = .ok (.aload_n 0, 1) := by decide +kernel
theorem dX8_count_37 : decode cX8_count 37 = .ok (.getfield 12, 3) := by decide +kernel
theorem dX8_count_40 : decode cX8_count 40 = .ok (.getfield 125, 3) := by decide +kernel
theorem dX8_count_43 : decode cX8_count 43 = .ok (.ireturn, 1) := by decide +kernel
theorem dX8_count_44 : decode cX8_count 44 = .ok (.aload_n 0, 1) := by decide +kernel
theorem dX8_count_45 : decode cX8_count 45 = .ok (.getfield 36, 3) := by decide +kernel
theorem dX8_count_48 : decode cX8_count 48 = .ok (.getfield 167, 3) := by decide +kernel
theorem dX8_count_51 : decode cX8_count 51 = .ok (.ireturn, 1) := by decide +kernel
theorem dX8_count_52 : decode cX8_count 52 = .ok (.aload_n 0, 1) := by decide +kernel
theorem dX8_count_53 : decode cX8_count 53 = .ok (.getfield 22, 3) := by decide +kernel
theorem dX8_count_56 : decode cX8_count 56 = .ok (.getfield 166, 3) := by decide +kernel
theorem dX8_count_59 : decode cX8_count 59 = .ok (.ireturn, 1) := by decide +kernel
theorem dX8_count_60 : decode cX8_count 60 = .ok (.aload_n 0, 1) := by decide +kernel
theorem dX8_count_61 : decode cX8_count 61 = .ok (.getfield 12, 3) := by decide +kernel
theorem dX8_count_64 : decode cX8_count 64 = .ok (.getfield 171, 3) := by decide +kernel
theorem dX8_count_67 : decode cX8_count 67 = .ok (.ireturn, 1) := by decide +kernel
theorem dX8_count_68 : decode cX8_count 68 = .ok (.aload_n 0, 1) := by decide +kernel
theorem dX8_count_69 : decode cX8_count 69 = .ok (.getfield 12, 3) := by decide +kernel
theorem dX8_count_72 : decode cX8_count 72 = .ok (.invokevirtual 267, 3) := by decide +kernel
theorem dX8_count_75 : decode cX8_count 75 = .ok (.ireturn, 1) := by decide +kernel
theorem dX8_count_76 : decode cX8_count 76 = .ok (.bipush (-2), 2) := by decide +kernel
theorem dX8_count_78 : decode cX8_count 78 = .ok (.ireturn, 1) := by decide +kernel
theorem dX8_sheet_0 : decode cX8_sheet 0 = .ok (.iload_n 1, 1) := by decide +kernel
theorem dX8_sheet_1 : decode cX8_sheet 1 = .ok (.invokestatic 221, 3) := by decide +kernel
theorem dX8_sheet_4 : decode cX8_sheet 4 = .ok (.ifCond .eq 15, 3) := by decide +kernel
theorem dX8_sheet_7 : decode cX8_sheet 7 = .ok (.iload_n 2, 1) := by decide +kernel
theorem dX8_sheet_8 : decode cX8_sheet 8 = .ok (.iconst (-1), 1) := by decide +kernel
theorem dX8_sheet_9 : decode cX8_sheet 9 = .ok (.if_icmp .eq 13, 3) := by decide +kernel
theorem dX8_sheet_12 : decode cX8_sheet 12 = .ok (.iload_n 2, 1) := by decide +kernel
theorem dX8_sheet_13 : decode cX8_sheet 13 = .ok (.invokestatic 270, 3) := by decide +kernel
theorem dX8_sheet_16 : decode cX8_sheet 16 = .ok (.ifCond .ne 6, 3) := by decide +kernel
theorem dX8_sheet_19 : decode cX8_sheet 19 = .ok (.bipush (-2), 2) := by decide +kernel
theorem dX8_sheet_21 : decode cX8_sheet 21 = .ok (.ireturn, 1) := by decide +kernel
theorem dX8_sheet_22 : decode cX8_sheet 22 = .ok (.iload_n 2, 1) := by decide +kernel
theorem dX8_sheet_23 : decode cX8_sheet 23 = .ok (.iconst (-1), 1) := by decide +kernel
theorem dX8_sheet_24 : decode cX8_sheet 24 = .ok (.if_icmp .ne 16, 3) := by decide +kernel
theorem dX8_sheet_27 : decode cX8_sheet 27 = .ok (.aload_n 0, 1) := by decide +kernel
theorem dX8_sheet_28 : decode cX8_sheet 28 = .ok (.getfield 49, 3) := by decide +kernel
theorem dX8_sheet_31 : decode cX8_sheet 31 = .ok (.iload_n 1, 1) := by decide +kernel
theorem dX8_sheet_32 : decode cX8_sheet 32 = .ok (.aaload, 1) := by decide +kernel
theorem dX8_sheet_33 : decode cX8_sheet 33 = .ok (.iconst (-1), 1) := by decide +kernel
theorem dX8_sheet_34 : decode cX8_sheet 34 = .ok (.iconst 0, 1) := by decide +kernel
theorem dX8_sheet_35 : decode cX8_sheet 35 = .ok (.invokevirtual 224, 3) := by decide +kernel
theorem dX8_sheet_38 : decode cX8_sheet 38 = .ok (.iconst 1, 1) := by decide +kernel
theorem dX8_sheet_39 : decode cX8_sheet 39 = .ok (.ireturn, 1) := by decide +kernel
theorem dX8_sheet_40 : decode cX8_sheet 40 = .ok (.iload_n 3, 1) := by decide +kernel
theorem dX8_sheet_41 : decode cX8_sheet 41 = .ok (.bipush 40, 2) := by decide +kernel
theorem dX8_sheet_43 : decode cX8_sheet 43 = .ok (.if_icmp .le 6, 3) := by decide +kernel
theorem dX8_sheet_46 : decode cX8_sheet 46 = .ok (.bipush (-2), 2) := by decide +kernel
theorem dX8_sheet_48 : decode cX8_sheet 48 = .ok (.ireturn, 1) := by decide +kernel
theorem dX8_sheet_49 : decode cX8_sheet 49 = .ok (.iload_n 3, 1) := by decide +kernel
theorem dX8_sheet_50 : decode cX8_sheet 50 = .ok (.ifCond .ge 6, 3) := by decide +kernel
theorem dX8_sheet_53 : decode cX8_sheet 53 = .ok (.bipush (-14), 2) := by decide +kernel
theorem dX8_sheet_55 : decode cX8_sheet 55 = .ok (.ireturn, 1) := by decide +kernel
theorem dX8_sheet_56 : decode cX8_sheet 56 = .ok (.aload_n 0, 1) := by decide +kernel
theorem dX8_sheet_57 : decode cX8_sheet 57 = .ok (.getfield 49, 3) := by decide +kernel
theorem dX8_sheet_60 : decode cX8_sheet 60 = .ok (.iload_n 1, 1) := by decide +kernel
theorem dX8_sheet_61 : decode cX8_sheet 61 = .ok (.aaload, 1) := by decide +kernel
theorem dX8_sheet_62 : decode cX8_sheet 62 = .ok (.iload_n 2, 1) := by decide +kernel
theorem dX8_sheet_63 : decode cX8_sheet 63 = .ok (.iload_n 3, 1) := by decide +kernel
theorem dX8_sheet_64 : decode cX8_sheet 64 = .ok (.invokevirtual 224, 3) := by decide +kernel
theorem dX8_sheet_67 : decode cX8_sheet 67 = .ok (.iconst 1, 1) := by decide +kernel
theorem dX8_sheet_68 : decode cX8_sheet 68 = .ok (.ireturn, 1) := by decide +kernel
theorem dX8_cell_0 : decode cX8_cell 0 = .ok (.iload_n 1, 1) := by decide +kernel
theorem dX8_cell_1 : decode cX8_cell 1 = .ok (.invokestatic 221, 3) := by decide +kernel
theorem dX8_cell_4 : decode cX8_cell 4 = .ok (.ifCond .ne 6, 3) := by decide +kernel
theorem dX8_cell_7 : decode cX8_cell 7 = .ok (.bipush (-2), 2) := by decide +kernel
theorem dX8_cell_9 : decode cX8_cell 9 = .ok (.ireturn, 1) := by decide +kernel
theorem dX8_cell_10 : decode cX8_cell 10 = .ok (.aload_n 0, 1) := by decide +kernel
theorem dX8_cell_11 : decode cX8_cell 11 = .ok (.getfield 49, 3) := by decide +kernel
theorem dX8_cell_14 : decode cX8_cell 14 = .ok (.iload_n 1, 1) := by decide +kernel
theorem dX8_cell_15 : decode cX8_cell 15 = .ok (.aaload, 1) := by decide +kernel
theorem dX8_cell_16 : decode cX8_cell 16 = .ok (.astore 4, 2) := by decide +kernel
theorem dX8_cell_18 : decode cX8_cell 18 = .ok (.aload 4, 2) := by decide +kernel
theorem dX8_cell_20 : decode cX8_cell 20 = .ok (.invokevirtual 273, 3) := by decide +kernel
theorem dX8_cell_23 : decode cX8_cell 23 = .ok (.ifCond .eq 6, 3) := by decide +kernel
theorem dX8_cell_26 : decode cX8_cell 26 = .ok (.bipush (-11), 2) := by decide +kernel
theorem dX8_cell_28 : decode cX8_cell 28 = .ok (.ireturn, 1) := by decide +kernel
theorem dX8_cell_29 : decode cX8_cell 29 = .ok (.aload 4, 2) := by decide +kernel
theorem dX8_cell_31 : decode cX8_cell 31 = .ok (.iload_n 2, 1) := by decide +kernel
theorem dX8_cell_32 : decode cX8_cell 32 = .ok (.invokevirtual 277, 3) := by decide +kernel
theorem dX8_cell_35 : decode cX8_cell 35 = .ok (.ifCond .ne 6, 3) := by decide +kernel
theorem dX8_cell_38 : decode cX8_cell 38 = .ok (.bipush (-12), 2) := by decide +kernel
theorem dX8_cell_40 : decode cX8_cell 40 = .ok (.ireturn, 1) := by decide +kernel
theorem dX8_cell_41 : decode cX8_cell 41 = .ok (.aload 4, 2) := by decide +kernel
theorem dX8_cell_43 : decode cX8_cell 43 = .ok (.iload_n 2, 1) := by decide +kernel
theorem dX8_cell_44 : decode cX8_cell 44 = .ok (.iload_n 3, 1) := by decide +kernel
theorem dX8_cell_45 : decode cX8_cell 45 = .ok (.invokevirtual 231, 3) := by decide +kernel
theorem dX8_cell_48 : decode cX8_cell 48 = .ok (.iconst 1, 1) := by decide +kernel
theorem dX8_cell_49 : decode cX8_cell 49 = .ok (.ireturn, 1) := by decide +kernel
theorem dX8_copy_0 : decode cX8_copy 0 = .ok (.iload_n 1, 1) := by decide +kernel
theorem dX8_copy_1 : decode cX8_copy 1 = .ok (.invokestatic 221, 3) := by decide +kernel
theorem dX8_copy_4 : decode cX8_copy 4 = .ok (.ifCond .eq 10, 3) := by decide +kernel
theorem dX8_copy_7 : decode cX8_copy 7 = .ok (.iload_n 3, 1) := by decide +kernel
theorem dX8_copy_8 : decode cX8_copy 8 = .ok (.invokestatic 221, 3) := by decide +kernel
theorem dX8_copy_11 : decode cX8_copy 11 = .ok (.ifCond .ne 6, 3) := by decide +kernel
theorem dX8_copy_14 : decode cX8_copy 14 = .ok (.bipush (-2), 2) := by decide +kernel
theorem dX8_copy_16 : decode cX8_copy 16 = .ok (.ireturn, 1) := by decide +kernel
theorem dX8_copy_17 : decode cX8_copy 17 = .ok (.aload_n 0, 1) := by decide +kernel
theorem dX8_copy_18 : decode cX8_copy 18 = .ok (.getfield 49, 3) := by decide +kernel
theorem dX8_copy_21 : decode cX8_copy 21 = .ok (.iload_n 1, 1) := by decide +kernel
theorem dX8_copy_22 : decode cX8_copy 22 = .ok (.aaload, 1) := by decide +kernel
theorem dX8_copy_23 : decode cX8_copy 23 = .ok (.astore 6, 2) := by decide +kernel
theorem dX8_copy_25 : decode cX8_copy 25 = .ok (.aload_n 0, 1) := by decide +kernel
theorem dX8_copy_26 : decode cX8_copy 26 = .ok (.getfield 49, 3) := by decide +kernel
theorem dX8_copy_29 : decode cX8_copy 29 = .ok (.iload_n 3, 1) := by decide +kernel
theorem dX8_copy_30 : decode cX8_copy 30 = .ok (.aaload, 1) := by decide +kernel
theorem dX8_copy_31 : decode cX8_copy 31 = .ok (.astore 7, 2) := by decide +kernel
theorem dX8_copy_33 : decode cX8_copy 33 = .ok (.aload 6, 2) := by decide +kernel
theorem dX8_copy_35 : decode cX8_copy 35 = .ok (.invokevirtual 273, 3) := by decide +kernel
theorem dX8_copy_38 : decode cX8_copy 38 = .ok (.ifCond .ne 11, 3) := by decide +kernel
theorem dX8_copy_41 : decode cX8_copy 41 = .ok (.aload 7, 2) := by decide +kernel
theorem dX8_copy_43 : decode cX8_copy 43 = .ok (.invokevirtual 273, 3) := by decide +kernel
theorem dX8_copy_46 : decode cX8_copy 46 = .ok (.ifCond .eq 6, 3) := by decide +kernel
theorem dX8_copy_49 : decode cX8_copy 49 = .ok (.bipush (-11), 2) := by decide +kernel
theorem dX8_copy_51 : decode cX8_copy 51 = .ok (.ireturn, 1) := by decide +kernel
theorem dX8_copy_52 : decode cX8_copy 52 = .ok (.aload 6, 2) := by decide +kernel
theorem dX8_copy_54 : decode cX8_copy 54 = .ok (.getfield 278, 3) := by decide +kernel
theorem dX8_copy_57 : decode cX8_copy 57 = .ok (.aload 7, 2) := by decide +kernel
theorem dX8_copy_59 : decode cX8_copy 59 = .ok (.getfield 278, 3) := by decide +kernel
theorem dX8_copy_62 : decode cX8_copy 62 = .ok (.if_icmp .eq 6, 3) := by decide +kernel
theorem dX8_copy_65 : decode cX8_copy 65 = .ok (.bipush (-13), 2) := by decide +kernel
theorem dX8_copy_67 : decode cX8_copy 67 = .ok (.ireturn, 1) := by decide +kernel
theorem dX8_copy_68 : decode cX8_copy 68 = .ok (.aload 6, 2) := by decide +kernel
theorem dX8_copy_70 : decode cX8_copy 70 = .ok (.iload_n 2, 1) := by decide +kernel
theorem dX8_copy_71 : decode cX8_copy 71 = .ok (.iload 5, 2) := by decide +kernel
theorem dX8_copy_73 : decode cX8_copy 73 = .ok (.invokevirtual 281, 3) := by decide +kernel
theorem dX8_copy_76 : decode cX8_copy 76 = .ok (.ifCond .eq 15, 3) := by decide +kernel
theorem dX8_copy_79 : decode cX8_copy 79 = .ok (.aload 7, 2) := by decide +kernel
theorem dX8_copy_81 : decode cX8_copy 81 = .ok (.iload 4, 2) := by decide +kernel
theorem dX8_copy_83 : decode cX8_copy 83 = .ok (.iload 5, 2) := by decide +kernel
theorem dX8_copy_85 : decode cX8_copy 85 = .ok (.invokevirtual 281, 3) := by decide +kernel
theorem dX8_copy_88 : decode cX8_copy 88 = .ok (.ifCond .ne 6, 3) := by decide +kernel
theorem dX8_copy_91 : decode cX8_copy 91 = .ok (.bipush (-12), 2) := by decide +kernel
theorem dX8_copy_93 : decode cX8_copy 93 = .ok (.ireturn, 1) := by decide +kernel
theorem dX8_copy_94 : decode cX8_copy 94 = .ok (.aload 6, 2) := by decide +kernel
theorem dX8_copy_96 : decode cX8_copy 96 = .ok (.getfield 284, 3) := by decide +kernel
theorem dX8_copy_99 : decode cX8_copy 99 = .ok (.iload_n 2, 1) := by decide +kernel
theorem dX8_copy_100 : decode cX8_copy 100 = .ok (.aload 7, 2) := by decide +kernel
theorem dX8_copy_102 : decode cX8_copy 102 = .ok (.getfield 284, 3) := by decide +kernel
theorem dX8_copy_105 : decode cX8_copy 105 = .ok (.iload 4, 2) := by decide +kernel
theorem dX8_copy_107 : decode cX8_copy 107 = .ok (.iload 5, 2) := by decide +kernel
theorem dX8_copy_109 : decode cX8_copy 109 = .ok (.invokestatic 287, 3) := by decide +kernel
theorem dX8_copy_112 : decode cX8_copy 112 = .ok (.iload 5, 2) := by decide +kernel
theorem dX8_copy_114 : decode cX8_copy 114 = .ok (.ireturn, 1) := by decide +kernel
theorem dX8_weathers_0 : decode cX8_weathers 0 = .ok (.iload_n 1, 1) := by decide +kernel
theorem dX8_weathers_1 : decode cX8_weathers 1 = .ok (.invokestatic 221, 3) := by decide +kernel
theorem dX8_weathers_4 : decode cX8_weathers 4 = .ok (.ifCond .eq 22, 3) := by decide +kernel
theorem dX8_weathers_7 : decode cX8_weathers 7 = .ok (.iload_n 2, 1) := by decide +kernel
theorem dX8_weathers_8 : decode cX8_weathers 8 = .ok (.invokestatic 270, 3) := by decide +kernel
theorem dX8_weathers_11 : decode cX8_weathers 11 = .ok (.ifCond .eq 15, 3) := by decide +kernel
theorem dX8_weathers_14 : decode cX8_weathers 14 = .ok (.iload 4, 2) := by decide +kernel
theorem dX8_weathers_16 : decode cX8_weathers 16 = .ok (.ifCond .lt 10, 3) := by decide +kernel
theorem dX8_weathers_19 : decode cX8_weathers 19 = .ok (.iload 4, 2) := by decide +kernel
theorem dX8_weathers_21 : decode cX8_weathers 21 = .ok (.bipush 20, 2) := by decide +kernel
theorem dX8_weathers_23 : decode cX8_weathers 23 = .ok (.if_icmp .le 6, 3) := by decide +kernel
theorem dX8_weathers_26 : decode cX8_weathers 26 = .ok (.bipush (-2), 2) := by decide +kernel
theorem dX8_weathers_28 : decode cX8_weathers 28 = .ok (.ireturn, 1) := by decide +kernel
theorem dX8_weathers_29 : decode cX8_weathers 29 = .ok (.aload_n 0, 1) := by decide +kernel
theorem dX8_weathers_30 : decode cX8_weathers 30 = .ok (.getfield 49, 3) := by decide +kernel
theorem dX8_weathers_33 : decode cX8_weathers 33 = .ok (.iload_n 1, 1) := by decide +kernel
theorem dX8_weathers_34 : decode cX8_weathers 34 = .ok (.aaload, 1) := by decide +kernel
theorem dX8_weathers_35 : decode cX8_weathers 35 = .ok (.astore 5, 2) := by decide +kernel
theorem dX8_weathers_37 : decode cX8_weathers 37 = .ok (.aload 5, 2) := by decide +kernel
theorem dX8_weathers_39 : decode cX8_weathers 39 = .ok (.invokevirtual 273, 3) := by decide +kernel
theorem dX8_weathers_42 : decode cX8_weathers 42 = .ok (.ifCond .ne 15, 3) := by decide +kernel
theorem dX8_weathers_45 : decode cX8_weathers 45 = .ok (.aload 5, 2) := by decide +kernel
theorem dX8_weathers_47 : decode cX8_weathers 47 = .ok (.getfield 278, 3) := by decide +kernel
theorem dX8_weathers_50 : decode cX8_weathers 50 = .ok (.iload_n 2, 1) := by decide +kernel
theorem dX8_weathers_51 : decode cX8_weathers 51 = .ok (.if_icmp .eq 6, 3) := by decide +kernel
theorem dX8_weathers_54 : decode cX8_weathers 54 = .ok (.bipush (-13), 2) := by decide +kernel
theorem dX8_weathers_56 : decode cX8_weathers 56 = .ok (.ireturn, 1) := by decide +kernel
theorem dX8_weathers_57 : decode cX8_weathers 57 = .ok (.aload 5, 2) := by decide +kernel
theorem dX8_weathers_59 : decode cX8_weathers 59 = .ok (.invokevirtual 273, 3) := by decide +kernel
theorem dX8_weathers_62 : decode cX8_weathers 62 = .ok (.ifCond .eq 6, 3) := by decide +kernel
theorem dX8_weathers_65 : decode cX8_weathers 65 = .ok (.bipush (-11), 2) := by decide +kernel
theorem dX8_weathers_67 : decode cX8_weathers 67 = .ok (.ireturn, 1) := by decide +kernel
theorem dX8_weathers_68 : decode cX8_weathers 68 = .ok (.iconst 0, 1) := by decide +kernel
theorem dX8_weathers_69 : decode cX8_weathers 69 = .ok (.istore 6, 2) := by decide +kernel
theorem dX8_weathers_71 : decode cX8_weathers 71 = .ok (.iconst 0, 1) := by decide +kernel
theorem dX8_weathers_72 : decode cX8_weathers 72 = .ok (.istore 7, 2) := by decide +kernel
theorem dX8_weathers_74 : decode cX8_weathers 74 = .ok (.iload 7, 2) := by decide +kernel
theorem dX8_weathers_76 : decode cX8_weathers 76 = .ok (.iload 4, 2) := by decide +kernel
theorem dX8_weathers_78 : decode cX8_weathers 78 = .ok (.if_icmp .ge 73, 3) := by decide +kernel
theorem dX8_weathers_81 : decode cX8_weathers 81 = .ok (.iload_n 3, 1) := by decide +kernel
theorem dX8_weathers_82 : decode cX8_weathers 82 = .ok (.iconst 2, 1) := by decide +kernel
theorem dX8_weathers_83 : decode cX8_weathers 83 = .ok (.iload 7, 2) := by decide +kernel
theorem dX8_weathers_85 : decode cX8_weathers 85 = .ok (.imul, 1) := by decide +kernel
theorem dX8_weathers_86 : decode cX8_weathers 86 = .ok (.iadd, 1) := by decide +kernel
theorem dX8_weathers_87 : decode cX8_weathers 87 = .ok (.istore 8, 2) := by decide +kernel
theorem dX8_weathers_89 : decode cX8_weathers 89 = .ok (.aload 5, 2) := by decide +kernel
theorem dX8_weathers_91 : decode cX8_weathers 91 = .ok (.iload 8, 2) := by decide +kernel
theorem dX8_weathers_93 : decode cX8_weathers 93 = .ok (.invokevirtual 277, 3) := by decide +kernel
theorem dX8_weathers_96 : decode cX8_weathers 96 = .ok (.ifCond .eq 15, 3) := by decide +kernel
theorem dX8_weathers_99 : decode cX8_weathers 99 = .ok (.aload 5, 2) := by decide +kernel
theorem dX8_weathers_101 : decode cX8_weathers 101 = .ok (.iload 8, 2) := by decide +kernel
theorem dX8_weathers_103 : decode cX8_weathers 103 = .ok (.iconst 1, 1) := by decide +kernel
theorem dX8_weathers_104 : decode cX8_weathers 104 = .ok (.iadd, 1) := by decide +kernel
theorem dX8_weathers_105 : decode cX8_weathers 105 = .ok (.invokevirtual 277, 3) := by decide +kernel
theorem dX8_weathers_108 : decode cX8_weathers 108 = .ok (.ifCond .ne 6, 3) := by decide +kernel
theorem dX8_weathers_111 : decode cX8_weathers 111 = .ok (.bipush (-12), 2) := by decide +kernel
theorem dX8_weathers_113 : decode cX8_weathers 113 = .ok (.ireturn, 1) := by decide +kernel
theorem dX8_weathers_114 : decode cX8_weathers 114 = .ok (.aload_n 0, 1) := by decide +kernel
theorem dX8_weathers_115 : decode cX8_weathers 115 = .ok (.iconst 0, 1) := by decide +kernel
theorem dX8_weathers_116 : decode cX8_weathers 116 = .ok (.aload 5, 2) := by decide +kernel
theorem dX8_weathers_118 : decode cX8_weathers 118 = .ok (.getfield 284, 3) := by decide +kernel
theorem dX8_weathers_121 : decode cX8_weathers 121 = .ok (.iload 8, 2) := by decide +kernel
theorem dX8_weathers_123 : decode cX8_weathers 123 = .ok (.iaload, 1) := by decide +kernel
theorem dX8_weathers_124 : decode cX8_weathers 124 = .ok (.aload 5, 2) := by decide +kernel
theorem dX8_weathers_126 : decode cX8_weathers 126 = .ok (.getfield 284, 3) := by decide +kernel
theorem dX8_weathers_129 : decode cX8_weathers 129 = .ok (.iload 8, 2) := by decide +kernel
theorem dX8_weathers_131 : decode cX8_weathers 131 = .ok (.iconst 1, 1) := by decide +kernel
theorem dX8_weathers_132 : decode cX8_weathers 132 = .ok (.iadd, 1) := by decide +kernel
theorem dX8_weathers_133 : decode cX8_weathers 133 = .ok (.iaload, 1) := by decide +kernel
theorem dX8_weathers_134 : decode cX8_weathers 134 = .ok (.invokevirtual 293, 3) := by decide +kernel
theorem dX8_weathers_137 : decode cX8_weathers 137 = .ok (.bipush (-100), 2) := by decide +kernel
theorem dX8_weathers_139 : decode cX8_weathers 139 = .ok (.if_icmp .eq 6, 3) := by decide +kernel
theorem dX8_weathers_142 : decode cX8_weathers 142 = .ok (.iinc 6 1, 3) := by decide +kernel
theorem dX8_weathers_145 : decode cX8_weathers 145 = .ok (.iinc 7 1, 3) := by decide +kernel
theorem dX8_weathers_148 : decode cX8_weathers 148 = .ok (.goto (-74), 3) := by decide +kernel
theorem dX8_weathers_151 : decode cX8_weathers 151 = .ok (.iload 6, 2) := by decide +kernel
theorem dX8_weathers_153 : decode cX8_weathers 153 = .ok (.ireturn, 1) := by decide +kernel
theorem dX8_taken_0 : decode cX8_taken 0 = .ok (.iload_n 2, 1) := by decide +kernel
theorem dX8_taken_1 : decode cX8_taken 1 = .ok (.invokestatic 119, 3) := by decide +kernel
theorem dX8_taken_4 : decode cX8_taken 4 = .ok (.ifCond .ne 6, 3) := by decide +kernel
theorem dX8_taken_7 : decode cX8_taken 7 = .ok (.bipush (-2), 2) := by decide +kernel
theorem dX8_taken_9 : decode cX8_taken 9 = .ok (.ireturn, 1) := by decide +kernel
theorem dX8_taken_10 : decode cX8_taken 10 = .ok (.aload_n 0, 1) := by decide +kernel
theorem dX8_taken_11 : decode cX8_taken 11 = .ok (.getfield 12, 3) := by decide +kernel
theorem dX8_taken_14 : decode cX8_taken 14 = .ok (.iload_n 1, 1) := by decide +kernel
theorem dX8_taken_15 : decode cX8_taken 15 = .ok (.invokevirtual 150, 3) := by decide +kernel
theorem dX8_taken_18 : decode cX8_taken 18 = .ok (.ifCond .ne 6, 3) := by decide +kernel
theorem dX8_taken_21 : decode cX8_taken 21 = .ok (.bipush (-11), 2) := by decide +kernel
theorem dX8_taken_23 : decode cX8_taken 23 = .ok (.ireturn, 1) := by decide +kernel
theorem dX8_taken_24 : decode cX8_taken 24 = .ok (.aload_n 0, 1) := by decide +kernel
theorem dX8_taken_25 : decode cX8_taken 25 = .ok (.getfield 12, 3) := by decide +kernel
theorem dX8_taken_28 : decode cX8_taken 28 = .ok (.getfield 111, 3) := by decide +kernel
theorem dX8_taken_31 : decode cX8_taken 31 = .ok (.iload_n 1, 1) := by decide +kernel
theorem dX8_taken_32 : decode cX8_taken 32 = .ok (.aaload, 1) := by decide +kernel
theorem dX8_taken_33 : decode cX8_taken 33 = .ok (.astore_n 3, 1) := by decide +kernel
theorem dX8_taken_34 : decode cX8_taken 34 = .ok (.aload_n 3, 1) := by decide +kernel
theorem dX8_taken_35 : decode cX8_taken 35 = .ok (.getfield 129, 3) := by decide +kernel
theorem dX8_taken_38 : decode cX8_taken 38 = .ok (.iload_n 2, 1) := by decide +kernel
theorem dX8_taken_39 : decode cX8_taken 39 = .ok (.invokestatic 296, 3) := by decide +kernel
theorem dX8_taken_42 : decode cX8_taken 42 = .ok (.ifCond .eq 10, 3) := by decide +kernel
theorem dX8_taken_45 : decode cX8_taken 45 = .ok (.aload_n 3, 1) := by decide +kernel
theorem dX8_taken_46 : decode cX8_taken 46 = .ok (.getfield 132, 3) := by decide +kernel
theorem dX8_taken_49 : decode cX8_taken 49 = .ok (.goto 5, 3) := by decide +kernel
theorem dX8_taken_52 : decode cX8_taken 52 = .ok (.bipush (-13), 2) := by decide +kernel
theorem dX8_taken_54 : decode cX8_taken 54 = .ok (.ireturn, 1) := by decide +kernel
theorem dX8_isRoom_0 : decode cX8_isRoom 0 = .ok (.iload_n 0, 1) := by decide +kernel
theorem dX8_isRoom_1 : decode cX8_isRoom 1 = .ok (.ifCond .lt 13, 3) := by decide +kernel
theorem dX8_isRoom_4 : decode cX8_isRoom 4 = .ok (.iload_n 0, 1) := by decide +kernel
theorem dX8_isRoom_5 : decode cX8_isRoom 5 = .ok (.bipush 6, 2) := by decide +kernel
theorem dX8_isRoom_7 : decode cX8_isRoom 7 = .ok (.if_icmp .ge 7, 3) := by decide +kernel
theorem dX8_isRoom_10 : decode cX8_isRoom 10 = .ok (.iconst 1, 1) := by decide +kernel
theorem dX8_isRoom_11 : decode cX8_isRoom 11 = .ok (.goto 4, 3) := by decide +kernel
theorem dX8_isRoom_14 : decode cX8_isRoom 14 = .ok (.iconst 0, 1) := by decide +kernel
theorem dX8_isRoom_15 : decode cX8_isRoom 15 = .ok (.ireturn, 1) := by decide +kernel
theorem dX8_isDay_0 : decode cX8_isDay 0 = .ok (.iload_n 0, 1) := by decide +kernel
theorem dX8_isDay_1 : decode cX8_isDay 1 = .ok (.ifCond .lt 13, 3) := by decide +kernel
theorem dX8_isDay_4 : decode cX8_isDay 4 = .ok (.iload_n 0, 1) := by decide +kernel
theorem dX8_isDay_5 : decode cX8_isDay 5 = .ok (.bipush 32, 2) := by decide +kernel
theorem dX8_isDay_7 : decode cX8_isDay 7 = .ok (.if_icmp .ge 7, 3) := by decide +kernel
theorem dX8_isDay_10 : decode cX8_isDay 10 = .ok (.iconst 1, 1) := by decide +kernel
theorem dX8_isDay_11 : decode cX8_isDay 11 = .ok (.goto 4, 3) := by decide +kernel
theorem dX8_isDay_14 : decode cX8_isDay 14 = .ok (.iconst 0, 1) := by decide +kernel
theorem dX8_isDay_15 : decode cX8_isDay 15 = .ok (.ireturn, 1) := by decide +kernel
theorem dX8_isSpot_0 : decode cX8_isSpot 0 = .ok (.iload_n 0, 1) := by decide +kernel
theorem dX8_isSpot_1 : decode cX8_isSpot 1 = .ok (.ifCond .lt 14, 3) := by decide +kernel
theorem dX8_isSpot_4 : decode cX8_isSpot 4 = .ok (.iload_n 0, 1) := by decide +kernel
theorem dX8_isSpot_5 : decode cX8_isSpot 5 = .ok (.sipush 192, 3) := by decide +kernel
theorem dX8_isSpot_8 : decode cX8_isSpot 8 = .ok (.if_icmp .ge 7, 3) := by decide +kernel
theorem dX8_isSpot_11 : decode cX8_isSpot 11 = .ok (.iconst 1, 1) := by decide +kernel
theorem dX8_isSpot_12 : decode cX8_isSpot 12 = .ok (.goto 4, 3) := by decide +kernel
theorem dX8_isSpot_15 : decode cX8_isSpot 15 = .ok (.iconst 0, 1) := by decide +kernel
theorem dX8_isSpot_16 : decode cX8_isSpot 16 = .ok (.ireturn, 1) := by decide +kernel
theorem dX8_isSort_0 : decode cX8_isSort 0 = .ok (.iload_n 0, 1) := by decide +kernel
theorem dX8_isSort_1 : decode cX8_isSort 1 = .ok (.ifCond .lt 12, 3) := by decide +kernel
theorem dX8_isSort_4 : decode cX8_isSort 4 = .ok (.iload_n 0, 1) := by decide +kernel
theorem dX8_isSort_5 : decode cX8_isSort 5 = .ok (.iconst 2, 1) := by decide +kernel
theorem dX8_isSort_6 : decode cX8_isSort 6 = .ok (.if_icmp .gt 7, 3) := by decide +kernel
theorem dX8_isSort_9 : decode cX8_isSort 9 = .ok (.iconst 1, 1) := by decide +kernel
theorem dX8_isSort_10 : decode cX8_isSort 10 = .ok (.goto 4, 3) := by decide +kernel
theorem dX8_isSort_13 : decode cX8_isSort 13 = .ok (.iconst 0, 1) := by decide +kernel
theorem dX8_isSort_14 : decode cX8_isSort 14 = .ok (.ireturn, 1) := by decide +kernel
theorem dX8_isKind_0 : decode cX8_isKind 0 = .ok (.iload_n 0, 1) := by decide +kernel
theorem dX8_isKind_1 : decode cX8_isKind 1 = .ok (.ifCond .lt 12, 3) := by decide +kernel
theorem dX8_isKind_4 : decode cX8_isKind 4 = .ok (.iload_n 0, 1) := by decide +kernel
theorem dX8_isKind_5 : decode cX8_isKind 5 = .ok (.iconst 5, 1) := by decide +kernel
theorem dX8_isKind_6 : decode cX8_isKind 6 = .ok (.if_icmp .gt 7, 3) := by decide +kernel
theorem dX8_isKind_9 : decode cX8_isKind 9 = .ok (.iconst 1, 1) := by decide +kernel
theorem dX8_isKind_10 : decode cX8_isKind 10 = .ok (.goto 4, 3) := by decide +kernel
theorem dX8_isKind_13 : decode cX8_isKind 13 = .ok (.iconst 0, 1) := by decide +kernel
theorem dX8_isKind_14 : decode cX8_isKind 14 = .ok (.ireturn, 1) := by decide +kernel
theorem dX8_isSheet_0 : decode cX8_isSheet 0 = .ok (.iload_n 0, 1) := by decide +kernel
theorem dX8_isSheet_1 : decode cX8_isSheet 1 = .ok (.ifCond .lt 12, 3) := by decide +kernel
theorem dX8_isSheet_4 : decode cX8_isSheet 4 = .ok (.iload_n 0, 1) := by decide +kernel
theorem dX8_isSheet_5 : decode cX8_isSheet 5 = .ok (.iconst 4, 1) := by decide +kernel
theorem dX8_isSheet_6 : decode cX8_isSheet 6 = .ok (.if_icmp .ge 7, 3) := by decide +kernel
theorem dX8_isSheet_9 : decode cX8_isSheet 9 = .ok (.iconst 1, 1) := by decide +kernel
theorem dX8_isSheet_10 : decode cX8_isSheet 10 = .ok (.goto 4, 3) := by decide +kernel
theorem dX8_isSheet_13 : decode cX8_isSheet 13 = .ok (.iconst 0, 1) := by decide +kernel
theorem dX8_isSheet_14 : decode cX8_isSheet 14 = .ok (.ireturn, 1) := by decide +kernel
theorem dX8_isRowSort_0 : decode cX8_isRowSort 0 = .ok (.iload_n 0, 1) := by decide +kernel
theorem dX8_isRowSort_1 : decode cX8_isRowSort 1 = .ok (.ifCond .lt 12, 3) := by decide +kernel
theorem dX8_isRowSort_4 : decode cX8_isRowSort 4 = .ok (.iload_n 0, 1) := by decide +kernel
theorem dX8_isRowSort_5 : decode cX8_isRowSort 5 = .ok (.iconst 2, 1) := by decide +kernel
theorem dX8_isRowSort_6 : decode cX8_isRowSort 6 = .ok (.if_icmp .gt 7, 3) := by decide +kernel
theorem dX8_isRowSort_9 : decode cX8_isRowSort 9 = .ok (.iconst 1, 1) := by decide +kernel
theorem dX8_isRowSort_10 : decode cX8_isRowSort 10 = .ok (.goto 4, 3) := by decide +kernel
theorem dX8_isRowSort_13 : decode cX8_isRowSort 13 = .ok (.iconst 0, 1) := by decide +kernel
theorem dX8_isRowSort_14 : decode cX8_isRowSort 14 = .ok (.ireturn, 1) := by decide +kernel
theorem dX8_fits_0 : decode cX8_fits 0 = .ok (.iload_n 0, 1) := by decide +kernel
theorem dX8_fits_1 : decode cX8_fits 1 = .ok (.tableswitch 90 0 4 #[35, 51, 67, 85, 85], 35) := by decide +kernel
theorem dX8_fits_36 : decode cX8_fits 36 = .ok (.iload_n 1, 1) := by decide +kernel
theorem dX8_fits_37 : decode cX8_fits 37 = .ok (.ifCond .lt 13, 3) := by decide +kernel
theorem dX8_fits_40 : decode cX8_fits 40 = .ok (.iload_n 1, 1) := by decide +kernel
theorem dX8_fits_41 : decode cX8_fits 41 = .ok (.bipush 9, 2) := by decide +kernel
theorem dX8_fits_43 : decode cX8_fits 43 = .ok (.if_icmp .gt 7, 3) := by decide +kernel
theorem dX8_fits_46 : decode cX8_fits 46 = .ok (.iconst 1, 1) := by decide +kernel
theorem dX8_fits_47 : decode cX8_fits 47 = .ok (.goto 4, 3) := by decide +kernel
theorem dX8_fits_50 : decode cX8_fits 50 = .ok (.iconst 0, 1) := by decide +kernel
theorem dX8_fits_51 : decode cX8_fits 51 = .ok (.ireturn, 1) := by decide +kernel
theorem dX8_fits_52 : decode cX8_fits 52 = .ok (.iload_n 1, 1) := by decide +kernel
theorem dX8_fits_53 : decode cX8_fits 53 = .ok (.ifCond .lt 13, 3) := by decide +kernel
theorem dX8_fits_56 : decode cX8_fits 56 = .ok (.iload_n 1, 1) := by decide +kernel
theorem dX8_fits_57 : decode cX8_fits 57 = .ok (.bipush 9, 2) := by decide +kernel
theorem dX8_fits_59 : decode cX8_fits 59 = .ok (.if_icmp .gt 7, 3) := by decide +kernel
theorem dX8_fits_62 : decode cX8_fits 62 = .ok (.iconst 1, 1) := by decide +kernel
theorem dX8_fits_63 : decode cX8_fits 63 = .ok (.goto 4, 3) := by decide +kernel
theorem dX8_fits_66 : decode cX8_fits 66 = .ok (.iconst 0, 1) := by decide +kernel
theorem dX8_fits_67 : decode cX8_fits 67 = .ok (.ireturn, 1) := by decide +kernel
theorem dX8_fits_68 : decode cX8_fits 68 = .ok (.iload_n 1, 1) := by decide +kernel
theorem dX8_fits_69 : decode cX8_fits 69 = .ok (.bipush (-9), 2) := by decide +kernel
theorem dX8_fits_71 : decode cX8_fits 71 = .ok (.if_icmp .lt 13, 3) := by decide +kernel
theorem dX8_fits_74 : decode cX8_fits 74 = .ok (.iload_n 1, 1) := by decide +kernel
theorem dX8_fits_75 : decode cX8_fits 75 = .ok (.bipush 9, 2) := by decide +kernel
theorem dX8_fits_77 : decode cX8_fits 77 = .ok (.if_icmp .gt 7, 3) := by decide +kernel
theorem dX8_fits_80 : decode cX8_fits 80 = .ok (.iconst 1, 1) := by decide +kernel
theorem dX8_fits_81 : decode cX8_fits 81 = .ok (.goto 4, 3) := by decide +kernel
theorem dX8_fits_84 : decode cX8_fits 84 = .ok (.iconst 0, 1) := by decide +kernel
theorem dX8_fits_85 : decode cX8_fits 85 = .ok (.ireturn, 1) := by decide +kernel
theorem dX8_fits_86 : decode cX8_fits 86 = .ok (.iload_n 1, 1) := by decide +kernel
theorem dX8_fits_87 : decode cX8_fits 87 = .ok (.invokestatic 122, 3) := by decide +kernel
theorem dX8_fits_90 : decode cX8_fits 90 = .ok (.ireturn, 1) := by decide +kernel
theorem dX8_fits_91 : decode cX8_fits 91 = .ok (.iconst 0, 1) := by decide +kernel
theorem dX8_fits_92 : decode cX8_fits 92 = .ok (.ireturn, 1) := by decide +kernel
theorem dX8_isUnder_0 : decode cX8_isUnder 0 = .ok (.iload_n 0, 1) := by decide +kernel
theorem dX8_isUnder_1 : decode cX8_isUnder 1 = .ok (.istore_n 2, 1) := by decide +kernel
theorem dX8_isUnder_2 : decode cX8_isUnder 2 = .ok (.iconst 0, 1) := by decide +kernel
theorem dX8_isUnder_3 : decode cX8_isUnder 3 = .ok (.istore_n 3, 1) := by decide +kernel
theorem dX8_isUnder_4 : decode cX8_isUnder 4 = .ok (.iload_n 3, 1) := by decide +kernel
theorem dX8_isUnder_5 : decode cX8_isUnder 5 = .ok (.getstatic 299, 3) := by decide +kernel
theorem dX8_isUnder_8 : decode cX8_isUnder 8 = .ok (.arraylength, 1) := by decide +kernel
theorem dX8_isUnder_9 : decode cX8_isUnder 9 = .ok (.if_icmp .ge 29, 3) := by decide +kernel
theorem dX8_isUnder_12 : decode cX8_isUnder 12 = .ok (.iload_n 2, 1) := by decide +kernel
theorem dX8_isUnder_13 : decode cX8_isUnder 13 = .ok (.invokestatic 119, 3) := by decide +kernel
theorem dX8_isUnder_16 : decode cX8_isUnder 16 = .ok (.ifCond .eq 22, 3) := by decide +kernel
theorem dX8_isUnder_19 : decode cX8_isUnder 19 = .ok (.iload_n 2, 1) := by decide +kernel
theorem dX8_isUnder_20 : decode cX8_isUnder 20 = .ok (.iload_n 1, 1) := by decide +kernel
theorem dX8_isUnder_21 : decode cX8_isUnder 21 = .ok (.if_icmp .ne 5, 3) := by decide +kernel
theorem dX8_isUnder_24 : decode cX8_isUnder 24 = .ok (.iconst 1, 1) := by decide +kernel
theorem dX8_isUnder_25 : decode cX8_isUnder 25 = .ok (.ireturn, 1) := by decide +kernel
theorem dX8_isUnder_26 : decode cX8_isUnder 26 = .ok (.getstatic 299, 3) := by decide +kernel
theorem dX8_isUnder_29 : decode cX8_isUnder 29 = .ok (.iload_n 2, 1) := by decide +kernel
theorem dX8_isUnder_30 : decode cX8_isUnder 30 = .ok (.iaload, 1) := by decide +kernel
theorem dX8_isUnder_31 : decode cX8_isUnder 31 = .ok (.istore_n 2, 1) := by decide +kernel
theorem dX8_isUnder_32 : decode cX8_isUnder 32 = .ok (.iinc 3 1, 3) := by decide +kernel
theorem dX8_isUnder_35 : decode cX8_isUnder 35 = .ok (.goto (-31), 3) := by decide +kernel
theorem dX8_isUnder_38 : decode cX8_isUnder 38 = .ok (.iconst 0, 1) := by decide +kernel
theorem dX8_isUnder_39 : decode cX8_isUnder 39 = .ok (.ireturn, 1) := by decide +kernel
theorem dX8_fewestToBrick_0 : decode cX8_fewestToBrick 0 = .ok (.iconst 1, 1) := by decide +kernel
theorem dX8_fewestToBrick_1 : decode cX8_fewestToBrick 1 = .ok (.aload_n 0, 1) := by decide +kernel
theorem dX8_fewestToBrick_2 : decode cX8_fewestToBrick 2 = .ok (.getfield 12, 3) := by decide +kernel
theorem dX8_fewestToBrick_5 : decode cX8_fewestToBrick 5 = .ok (.getfield 125, 3) := by decide +kernel
theorem dX8_fewestToBrick_8 : decode cX8_fewestToBrick 8 = .ok (.ishl, 1) := by decide +kernel
theorem dX8_fewestToBrick_9 : decode cX8_fewestToBrick 9 = .ok (.istore 4, 2) := by decide +kernel
theorem dX8_fewestToBrick_11 : decode cX8_fewestToBrick 11 = .ok (.aload_n 0, 1) := by decide +kernel
theorem dX8_fewestToBrick_12 : decode cX8_fewestToBrick 12 = .ok (.getfield 43, 3) := by decide +kernel
theorem dX8_fewestToBrick_15 : decode cX8_fewestToBrick 15 = .ok (.aload_n 0, 1) := by decide +kernel
theorem dX8_fewestToBrick_16 : decode cX8_fewestToBrick 16 = .ok (.getfield 12, 3) := by decide +kernel
theorem dX8_fewestToBrick_19 : decode cX8_fewestToBrick 19 = .ok (.iload_n 1, 1) := by decide +kernel
theorem dX8_fewestToBrick_20 : decode cX8_fewestToBrick 20 = .ok (.iload_n 2, 1) := by decide +kernel
theorem dX8_fewestToBrick_21 : decode cX8_fewestToBrick 21 = .ok (.iload_n 3, 1) := by decide +kernel
theorem dX8_fewestToBrick_22 : decode cX8_fewestToBrick 22 = .ok (.iload 4, 2) := by decide +kernel
theorem dX8_fewestToBrick_24 : decode cX8_fewestToBrick 24 = .ok (.iconst 1, 1) := by decide +kernel
theorem dX8_fewestToBrick_25 : decode cX8_fewestToBrick 25 = .ok (.isub, 1) := by decide +kernel
theorem dX8_fewestToBrick_26 : decode cX8_fewestToBrick 26 = .ok (.invokevirtual 302, 3) := by decide +kernel
theorem dX8_fewestToBrick_29 : decode cX8_fewestToBrick 29 = .ok (.ifCond .eq 5, 3) := by decide +kernel
theorem dX8_fewestToBrick_32 : decode cX8_fewestToBrick 32 = .ok (.iconst (-1), 1) := by decide +kernel
theorem dX8_fewestToBrick_33 : decode cX8_fewestToBrick 33 = .ok (.ireturn, 1) := by decide +kernel
theorem dX8_fewestToBrick_34 : decode cX8_fewestToBrick 34 = .ok (.iconst 0, 1) := by decide +kernel
theorem dX8_fewestToBrick_35 : decode cX8_fewestToBrick 35 = .ok (.istore 5, 2) := by decide +kernel
theorem dX8_fewestToBrick_37 : decode cX8_fewestToBrick 37 = .ok (.iload 5, 2) := by decide +kernel
theorem dX8_fewestToBrick_39 : decode cX8_fewestToBrick 39 = .ok (.aload_n 0, 1) := by decide +kernel
theorem dX8_fewestToBrick_40 : decode cX8_fewestToBrick 40 = .ok (.getfield 12, 3) := by decide +kernel
theorem dX8_fewestToBrick_43 : decode cX8_fewestToBrick 43 = .ok (.getfield 125, 3) := by decide +kernel
theorem dX8_fewestToBrick_46 : decode cX8_fewestToBrick 46 = .ok (.if_icmp .gt 57, 3) := by decide +kernel
theorem dX8_fewestToBrick_49 : decode cX8_fewestToBrick 49 = .ok (.iconst 0, 1) := by decide +kernel
theorem dX8_fewestToBrick_50 : decode cX8_fewestToBrick 50 = .ok (.istore 6, 2) := by decide +kernel
theorem dX8_fewestToBrick_52 : decode cX8_fewestToBrick 52 = .ok (.iload 6, 2) := by decide +kernel
theorem dX8_fewestToBrick_54 : decode cX8_fewestToBrick 54 = .ok (.iload 4, 2) := by decide +kernel
theorem dX8_fewestToBrick_56 : decode cX8_fewestToBrick 56 = .ok (.if_icmp .ge 41, 3) := by decide +kernel
theorem dX8_fewestToBrick_59 : decode cX8_fewestToBrick 59 = .ok (.iload 6, 2) := by decide +kernel
theorem dX8_fewestToBrick_61 : decode cX8_fewestToBrick 61 = .ok (.invokestatic 240, 3) := by decide +kernel
theorem dX8_fewestToBrick_64 : decode cX8_fewestToBrick 64 = .ok (.iload 5, 2) := by decide +kernel
theorem dX8_fewestToBrick_66 : decode cX8_fewestToBrick 66 = .ok (.if_icmp .ne 25, 3) := by decide +kernel
theorem dX8_fewestToBrick_69 : decode cX8_fewestToBrick 69 = .ok (.aload_n 0, 1) := by decide +kernel
theorem dX8_fewestToBrick_70 : decode cX8_fewestToBrick 70 = .ok (.getfield 43, 3) := by decide +kernel
theorem dX8_fewestToBrick_73 : decode cX8_fewestToBrick 73 = .ok (.aload_n 0, 1) := by decide +kernel
theorem dX8_fewestToBrick_74 : decode cX8_fewestToBrick 74 = .ok (.getfield 12, 3) := by decide +kernel
theorem dX8_fewestToBrick_77 : decode cX8_fewestToBrick 77 = .ok (.iload_n 1, 1) := by decide +kernel
theorem dX8_fewestToBrick_78 : decode cX8_fewestToBrick 78 = .ok (.iload_n 2, 1) := by decide +kernel
theorem dX8_fewestToBrick_79 : decode cX8_fewestToBrick 79 = .ok (.iload_n 3, 1) := by decide +kernel
theorem dX8_fewestToBrick_80 : decode cX8_fewestToBrick 80 = .ok (.iload 6, 2) := by decide +kernel
theorem dX8_fewestToBrick_82 : decode cX8_fewestToBrick 82 = .ok (.invokevirtual 302, 3) := by decide +kernel
theorem dX8_fewestToBrick_85 : decode cX8_fewestToBrick 85 = .ok (.ifCond .ne 6, 3) := by decide +kernel
theorem dX8_fewestToBrick_88 : decode cX8_fewestToBrick 88 = .ok (.iload 6, 2) := by decide +kernel
theorem dX8_fewestToBrick_90 : decode cX8_fewestToBrick 90 = .ok (.ireturn, 1) := by decide +kernel
theorem dX8_fewestToBrick_91 : decode cX8_fewestToBrick 91 = .ok (.iinc 6 1, 3) := by decide +kernel
theorem dX8_fewestToBrick_94 : decode cX8_fewestToBrick 94 = .ok (.goto (-42), 3) := by decide +kernel
theorem dX8_fewestToBrick_97 : decode cX8_fewestToBrick 97 = .ok (.iinc 5 1, 3) := by decide +kernel
theorem dX8_fewestToBrick_100 : decode cX8_fewestToBrick 100 = .ok (.goto (-63), 3) := by decide +kernel
theorem dX8_fewestToBrick_103 : decode cX8_fewestToBrick 103 = .ok (.iconst (-1), 1) := by decide +kernel
theorem dX8_fewestToBrick_104 : decode cX8_fewestToBrick 104 = .ok (.ireturn, 1) := by decide +kernel
theorem dX8_neededAlone_0 : decode cX8_neededAlone 0 = .ok (.iconst 0, 1) := by decide +kernel
theorem dX8_neededAlone_1 : decode cX8_neededAlone 1 = .ok (.istore 4, 2) := by decide +kernel
theorem dX8_neededAlone_3 : decode cX8_neededAlone 3 = .ok (.iconst 0, 1) := by decide +kernel
theorem dX8_neededAlone_4 : decode cX8_neededAlone 4 = .ok (.istore 5, 2) := by decide +kernel
theorem dX8_neededAlone_6 : decode cX8_neededAlone 6 = .ok (.iload 5, 2) := by decide +kernel
theorem dX8_neededAlone_8 : decode cX8_neededAlone 8 = .ok (.aload_n 0, 1) := by decide +kernel
theorem dX8_neededAlone_9 : decode cX8_neededAlone 9 = .ok (.getfield 12, 3) := by decide +kernel
theorem dX8_neededAlone_12 : decode cX8_neededAlone 12 = .ok (.getfield 125, 3) := by decide +kernel
theorem dX8_neededAlone_15 : decode cX8_neededAlone 15 = .ok (.if_icmp .ge 39, 3) := by decide +kernel
theorem dX8_neededAlone_18 : decode cX8_neededAlone 18 = .ok (.aload_n 0, 1) := by decide +kernel
theorem dX8_neededAlone_19 : decode cX8_neededAlone 19 = .ok (.getfield 43, 3) := by decide +kernel
theorem dX8_neededAlone_22 : decode cX8_neededAlone 22 = .ok (.aload_n 0, 1) := by decide +kernel
theorem dX8_neededAlone_23 : decode cX8_neededAlone 23 = .ok (.getfield 12, 3) := by decide +kernel
theorem dX8_neededAlone_26 : decode cX8_neededAlone 26 = .ok (.iload_n 1, 1) := by decide +kernel
theorem dX8_neededAlone_27 : decode cX8_neededAlone 27 = .ok (.iload_n 2, 1) := by decide +kernel
theorem dX8_neededAlone_28 : decode cX8_neededAlone 28 = .ok (.iload_n 3, 1) := by decide +kernel
theorem dX8_neededAlone_29 : decode cX8_neededAlone 29 = .ok (.iconst 1, 1) := by decide +kernel
theorem dX8_neededAlone_30 : decode cX8_neededAlone 30 = .ok (.iload 5, 2) := by decide +kernel
theorem dX8_neededAlone_32 : decode cX8_neededAlone 32 = .ok (.ishl, 1) := by decide +kernel
theorem dX8_neededAlone_33 : decode cX8_neededAlone 33 = .ok (.invokevirtual 302, 3) := by decide +kernel
theorem dX8_neededAlone_36 : decode cX8_neededAlone 36 = .ok (.ifCond .ne 12, 3) := by decide +kernel
theorem dX8_neededAlone_39 : decode cX8_neededAlone 39 = .ok (.iload 4, 2) := by decide +kernel
theorem dX8_neededAlone_41 : decode cX8_neededAlone 41 = .ok (.iconst 1, 1) := by decide +kernel
theorem dX8_neededAlone_42 : decode cX8_neededAlone 42 = .ok (.iload 5, 2) := by decide +kernel
theorem dX8_neededAlone_44 : decode cX8_neededAlone 44 = .ok (.ishl, 1) := by decide +kernel
theorem dX8_neededAlone_45 : decode cX8_neededAlone 45 = .ok (.ior, 1) := by decide +kernel
theorem dX8_neededAlone_46 : decode cX8_neededAlone 46 = .ok (.istore 4, 2) := by decide +kernel
theorem dX8_neededAlone_48 : decode cX8_neededAlone 48 = .ok (.iinc 5 1, 3) := by decide +kernel
theorem dX8_neededAlone_51 : decode cX8_neededAlone 51 = .ok (.goto (-45), 3) := by decide +kernel
theorem dX8_neededAlone_54 : decode cX8_neededAlone 54 = .ok (.iload 4, 2) := by decide +kernel
theorem dX8_neededAlone_56 : decode cX8_neededAlone 56 = .ok (.ireturn, 1) := by decide +kernel
theorem dX8_refusalOfLook_0 : decode cX8_refusalOfLook 0 = .ok (.iload_n 1, 1) := by decide +kernel
theorem dX8_refusalOfLook_1 : decode cX8_refusalOfLook 1 = .ok (.invokestatic 221, 3) := by decide +kernel
theorem dX8_refusalOfLook_4 : decode cX8_refusalOfLook 4 = .ok (.ifCond .eq 33, 3) := by decide +kernel
theorem dX8_refusalOfLook_7 : decode cX8_refusalOfLook 7 = .ok (.aload_n 0, 1) := by decide +kernel
theorem dX8_refusalOfLook_8 : decode cX8_refusalOfLook 8 = .ok (.getfield 12, 3) := by decide +kernel
theorem dX8_refusalOfLook_11 : decode cX8_refusalOfLook 11 = .ok (.iload_n 2, 1) := by decide +kernel
theorem dX8_refusalOfLook_12 : decode cX8_refusalOfLook 12 = .ok (.invokevirtual 150, 3) := by decide +kernel
theorem dX8_refusalOfLook_15 : decode cX8_refusalOfLook 15 = .ok (.ifCond .eq 22, 3) := by decide +kernel
theorem dX8_refusalOfLook_18 : decode cX8_refusalOfLook 18 = .ok (.iload_n 3, 1) := by decide +kernel
theorem dX8_refusalOfLook_19 : decode cX8_refusalOfLook 19 = .ok (.invokestatic 147, 3) := by decide +kernel
theorem dX8_refusalOfLook_22 : decode cX8_refusalOfLook 22 = .ok (.ifCond .eq 15, 3) := by decide +kernel
theorem dX8_refusalOfLook_25 : decode cX8_refusalOfLook 25 = .ok (.iload 4, 2) := by decide +kernel
theorem dX8_refusalOfLook_27 : decode cX8_refusalOfLook 27 = .ok (.ifCond .lt 10, 3) := by decide +kernel
theorem dX8_refusalOfLook_30 : decode cX8_refusalOfLook 30 = .ok (.iload 4, 2) := by decide +kernel
theorem dX8_refusalOfLook_32 : decode cX8_refusalOfLook 32 = .ok (.iload 5, 2) := by decide +kernel
theorem dX8_refusalOfLook_34 : decode cX8_refusalOfLook 34 = .ok (.if_icmp .le 6, 3) := by decide +kernel
theorem dX8_refusalOfLook_37 : decode cX8_refusalOfLook 37 = .ok (.bipush (-2), 2) := by decide +kernel
theorem dX8_refusalOfLook_39 : decode cX8_refusalOfLook 39 = .ok (.ireturn, 1) := by decide +kernel
theorem dX8_refusalOfLook_40 : decode cX8_refusalOfLook 40 = .ok (.aload_n 0, 1) := by decide +kernel
theorem dX8_refusalOfLook_41 : decode cX8_refusalOfLook 41 = .ok (.getfield 49, 3) := by decide +kernel
theorem dX8_refusalOfLook_44 : decode cX8_refusalOfLook 44 = .ok (.iload_n 1, 1) := by decide +kernel
theorem dX8_refusalOfLook_45 : decode cX8_refusalOfLook 45 = .ok (.aaload, 1) := by decide +kernel
theorem dX8_refusalOfLook_46 : decode cX8_refusalOfLook 46 = .ok (.invokevirtual 273, 3) := by decide +kernel
theorem dX8_refusalOfLook_49 : decode cX8_refusalOfLook 49 = .ok (.ifCond .eq 6, 3) := by decide +kernel
theorem dX8_refusalOfLook_52 : decode cX8_refusalOfLook 52 = .ok (.bipush (-11), 2) := by decide +kernel
theorem dX8_refusalOfLook_54 : decode cX8_refusalOfLook 54 = .ok (.ireturn, 1) := by decide +kernel
theorem dX8_refusalOfLook_55 : decode cX8_refusalOfLook 55 = .ok (.aload_n 0, 1) := by decide +kernel
theorem dX8_refusalOfLook_56 : decode cX8_refusalOfLook 56 = .ok (.getfield 49, 3) := by decide +kernel
theorem dX8_refusalOfLook_59 : decode cX8_refusalOfLook 59 = .ok (.iload_n 1, 1) := by decide +kernel
theorem dX8_refusalOfLook_60 : decode cX8_refusalOfLook 60 = .ok (.aaload, 1) := by decide +kernel
theorem dX8_refusalOfLook_61 : decode cX8_refusalOfLook 61 = .ok (.getfield 306, 3) := by decide +kernel
theorem dX8_refusalOfLook_64 : decode cX8_refusalOfLook 64 = .ok (.bipush 10, 2) := by decide +kernel
theorem dX8_refusalOfLook_66 : decode cX8_refusalOfLook 66 = .ok (.if_icmp .le 8, 3) := by decide +kernel
theorem dX8_refusalOfLook_69 : decode cX8_refusalOfLook 69 = .ok (.bipush (-2), 2) := by decide +kernel
theorem dX8_refusalOfLook_71 : decode cX8_refusalOfLook 71 = .ok (.goto 4, 3) := by decide +kernel
theorem dX8_refusalOfLook_74 : decode cX8_refusalOfLook 74 = .ok (.iconst 0, 1) := by decide +kernel
theorem dX8_refusalOfLook_75 : decode cX8_refusalOfLook 75 = .ok (.ireturn, 1) := by decide +kernel
theorem dX8_firstOther_0 : decode cX8_firstOther 0 = .ok (.iconst 0, 1) := by decide +kernel
theorem dX8_firstOther_1 : decode cX8_firstOther 1 = .ok (.istore 4, 2) := by decide +kernel
theorem dX8_firstOther_3 : decode cX8_firstOther 3 = .ok (.iload 4, 2) := by decide +kernel
theorem dX8_firstOther_5 : decode cX8_firstOther 5 = .ok (.aload_n 1, 1) := by decide +kernel
theorem dX8_firstOther_6 : decode cX8_firstOther 6 = .ok (.getfield 306, 3) := by decide +kernel
theorem dX8_firstOther_9 : decode cX8_firstOther 9 = .ok (.if_icmp .ge 34, 3) := by decide +kernel
theorem dX8_firstOther_12 : decode cX8_firstOther 12 = .ok (.aload_n 1, 1) := by decide +kernel
theorem dX8_firstOther_13 : decode cX8_firstOther 13 = .ok (.getfield 284, 3) := by decide +kernel
theorem dX8_firstOther_16 : decode cX8_firstOther 16 = .ok (.iload 4, 2) := by decide +kernel
theorem dX8_firstOther_18 : decode cX8_firstOther 18 = .ok (.iaload, 1) := by decide +kernel
theorem dX8_firstOther_19 : decode cX8_firstOther 19 = .ok (.aload_n 0, 1) := by decide +kernel
theorem dX8_firstOther_20 : decode cX8_firstOther 20 = .ok (.getfield 12, 3) := by decide +kernel
theorem dX8_firstOther_23 : decode cX8_firstOther 23 = .ok (.aload_n 2, 1) := by decide +kernel
theorem dX8_firstOther_24 : decode cX8_firstOther 24 = .ok (.iload_n 3, 1) := by decide +kernel
theorem dX8_firstOther_25 : decode cX8_firstOther 25 = .ok (.iload 4, 2) := by decide +kernel
theorem dX8_firstOther_27 : decode cX8_firstOther 27 = .ok (.iadd, 1) := by decide +kernel
theorem dX8_firstOther_28 : decode cX8_firstOther 28 = .ok (.invokevirtual 227, 3) := by decide +kernel
theorem dX8_firstOther_31 : decode cX8_firstOther 31 = .ok (.if_icmp .eq 6, 3) := by decide +kernel
theorem dX8_firstOther_34 : decode cX8_firstOther 34 = .ok (.iload 4, 2) := by decide +kernel
theorem dX8_firstOther_36 : decode cX8_firstOther 36 = .ok (.ireturn, 1) := by decide +kernel
theorem dX8_firstOther_37 : decode cX8_firstOther 37 = .ok (.iinc 4 1, 3) := by decide +kernel
theorem dX8_firstOther_40 : decode cX8_firstOther 40 = .ok (.goto (-37), 3) := by decide +kernel
theorem dX8_firstOther_43 : decode cX8_firstOther 43 = .ok (.iconst (-1), 1) := by decide +kernel
theorem dX8_firstOther_44 : decode cX8_firstOther 44 = .ok (.ireturn, 1) := by decide +kernel
theorem dX8_fittingShifts_0 : decode cX8_fittingShifts 0 = .ok (.iconst 0, 1) := by decide +kernel
theorem dX8_fittingShifts_1 : decode cX8_fittingShifts 1 = .ok (.istore 4, 2) := by decide +kernel
theorem dX8_fittingShifts_3 : decode cX8_fittingShifts 3 = .ok (.aload_n 0, 1) := by decide +kernel
theorem dX8_fittingShifts_4 : decode cX8_fittingShifts 4 = .ok (.getfield 58, 3) := by decide +kernel
theorem dX8_fittingShifts_7 : decode cX8_fittingShifts 7 = .ok (.aload_n 2, 1) := by decide +kernel
theorem dX8_fittingShifts_8 : decode cX8_fittingShifts 8 = .ok (.invokevirtual 307, 3) := by decide +kernel
theorem dX8_fittingShifts_11 : decode cX8_fittingShifts 11 = .ok (.iconst 0, 1) := by decide +kernel
theorem dX8_fittingShifts_12 : decode cX8_fittingShifts 12 = .ok (.istore 5, 2) := by decide +kernel
theorem dX8_fittingShifts_14 : decode cX8_fittingShifts 14 = .ok (.iload 5, 2) := by decide +kernel
theorem dX8_fittingShifts_16 : decode cX8_fittingShifts 16 = .ok (.bipush 18, 2) := by decide +kernel
theorem dX8_fittingShifts_18 : decode cX8_fittingShifts 18 = .ok (.if_icmp .gt 44, 3) := by decide +kernel
theorem dX8_fittingShifts_21 : decode cX8_fittingShifts 21 = .ok (.aload_n 0, 1) := by decide +kernel
theorem dX8_fittingShifts_22 : decode cX8_fittingShifts 22 = .ok (.getfield 58, 3) := by decide +kernel
theorem dX8_fittingShifts_25 : decode cX8_fittingShifts 25 = .ok (.iload 5, 2) := by decide +kernel
theorem dX8_fittingShifts_27 : decode cX8_fittingShifts 27 = .ok (.bipush 9, 2) := by decide +kernel
theorem dX8_fittingShifts_29 : decode cX8_fittingShifts 29 = .ok (.isub, 1) := by decide +kernel
theorem dX8_fittingShifts_30 : decode cX8_fittingShifts 30 = .ok (.putfield 135, 3) := by decide +kernel
theorem dX8_fittingShifts_33 : decode cX8_fittingShifts 33 = .ok (.aload_n 0, 1) := by decide +kernel
theorem dX8_fittingShifts_34 : decode cX8_fittingShifts 34 = .ok (.aload_n 1, 1) := by decide +kernel
theorem dX8_fittingShifts_35 : decode cX8_fittingShifts 35 = .ok (.aload_n 0, 1) := by decide +kernel
theorem dX8_fittingShifts_36 : decode cX8_fittingShifts 36 = .ok (.getfield 58, 3) := by decide +kernel
theorem dX8_fittingShifts_39 : decode cX8_fittingShifts 39 = .ok (.iload_n 3, 1) := by decide +kernel
theorem dX8_fittingShifts_40 : decode cX8_fittingShifts 40 = .ok (.invokevirtual 207, 3) := by decide +kernel
theorem dX8_fittingShifts_43 : decode cX8_fittingShifts 43 = .ok (.iconst (-1), 1) := by decide +kernel
theorem dX8_fittingShifts_44 : decode cX8_fittingShifts 44 = .ok (.if_icmp .ne 12, 3) := by decide +kernel
theorem dX8_fittingShifts_47 : decode cX8_fittingShifts 47 = .ok (.iload 4, 2) := by decide +kernel
theorem dX8_fittingShifts_49 : decode cX8_fittingShifts 49 = .ok (.iconst 1, 1) := by decide +kernel
theorem dX8_fittingShifts_50 : decode cX8_fittingShifts 50 = .ok (.iload 5, 2) := by decide +kernel
theorem dX8_fittingShifts_52 : decode cX8_fittingShifts 52 = .ok (.ishl, 1) := by decide +kernel
theorem dX8_fittingShifts_53 : decode cX8_fittingShifts 53 = .ok (.ior, 1) := by decide +kernel
theorem dX8_fittingShifts_54 : decode cX8_fittingShifts 54 = .ok (.istore 4, 2) := by decide +kernel
theorem dX8_fittingShifts_56 : decode cX8_fittingShifts 56 = .ok (.iinc 5 1, 3) := by decide +kernel
theorem dX8_fittingShifts_59 : decode cX8_fittingShifts 59 = .ok (.goto (-45), 3) := by decide +kernel
theorem dX8_fittingShifts_62 : decode cX8_fittingShifts 62 = .ok (.iload 4, 2) := by decide +kernel
theorem dX8_fittingShifts_64 : decode cX8_fittingShifts 64 = .ok (.ireturn, 1) := by decide +kernel
theorem dX8_fittingKinds_0 : decode cX8_fittingKinds 0 = .ok (.iconst 0, 1) := by decide +kernel
theorem dX8_fittingKinds_1 : decode cX8_fittingKinds 1 = .ok (.istore 4, 2) := by decide +kernel
theorem dX8_fittingKinds_3 : decode cX8_fittingKinds 3 = .ok (.aload_n 0, 1) := by decide +kernel
theorem dX8_fittingKinds_4 : decode cX8_fittingKinds 4 = .ok (.getfield 58, 3) := by decide +kernel
theorem dX8_fittingKinds_7 : decode cX8_fittingKinds 7 = .ok (.aload_n 2, 1) := by decide +kernel
theorem dX8_fittingKinds_8 : decode cX8_fittingKinds 8 = .ok (.invokevirtual 307, 3) := by decide +kernel
theorem dX8_fittingKinds_11 : decode cX8_fittingKinds 11 = .ok (.iconst 0, 1) := by decide +kernel
theorem dX8_fittingKinds_12 : decode cX8_fittingKinds 12 = .ok (.istore 5, 2) := by decide +kernel
theorem dX8_fittingKinds_14 : decode cX8_fittingKinds 14 = .ok (.iload 5, 2) := by decide +kernel
theorem dX8_fittingKinds_16 : decode cX8_fittingKinds 16 = .ok (.iconst 5, 1) := by decide +kernel
theorem dX8_fittingKinds_17 : decode cX8_fittingKinds 17 = .ok (.if_icmp .gt 41, 3) := by decide +kernel
theorem dX8_fittingKinds_20 : decode cX8_fittingKinds 20 = .ok (.aload_n 0, 1) := by decide +kernel
theorem dX8_fittingKinds_21 : decode cX8_fittingKinds 21 = .ok (.getfield 58, 3) := by decide +kernel
theorem dX8_fittingKinds_24 : decode cX8_fittingKinds 24 = .ok (.iload 5, 2) := by decide +kernel
theorem dX8_fittingKinds_26 : decode cX8_fittingKinds 26 = .ok (.putfield 129, 3) := by decide +kernel
theorem dX8_fittingKinds_29 : decode cX8_fittingKinds 29 = .ok (.aload_n 0, 1) := by decide +kernel
theorem dX8_fittingKinds_30 : decode cX8_fittingKinds 30 = .ok (.aload_n 1, 1) := by decide +kernel
theorem dX8_fittingKinds_31 : decode cX8_fittingKinds 31 = .ok (.aload_n 0, 1) := by decide +kernel
theorem dX8_fittingKinds_32 : decode cX8_fittingKinds 32 = .ok (.getfield 58, 3) := by decide +kernel
theorem dX8_fittingKinds_35 : decode cX8_fittingKinds 35 = .ok (.iload_n 3, 1) := by decide +kernel
theorem dX8_fittingKinds_36 : decode cX8_fittingKinds 36 = .ok (.invokevirtual 207, 3) := by decide +kernel
theorem dX8_fittingKinds_39 : decode cX8_fittingKinds 39 = .ok (.iconst (-1), 1) := by decide +kernel
theorem dX8_fittingKinds_40 : decode cX8_fittingKinds 40 = .ok (.if_icmp .ne 12, 3) := by decide +kernel
theorem dX8_fittingKinds_43 : decode cX8_fittingKinds 43 = .ok (.iload 4, 2) := by decide +kernel
theorem dX8_fittingKinds_45 : decode cX8_fittingKinds 45 = .ok (.iconst 1, 1) := by decide +kernel
theorem dX8_fittingKinds_46 : decode cX8_fittingKinds 46 = .ok (.iload 5, 2) := by decide +kernel
theorem dX8_fittingKinds_48 : decode cX8_fittingKinds 48 = .ok (.ishl, 1) := by decide +kernel
theorem dX8_fittingKinds_49 : decode cX8_fittingKinds 49 = .ok (.ior, 1) := by decide +kernel
theorem dX8_fittingKinds_50 : decode cX8_fittingKinds 50 = .ok (.istore 4, 2) := by decide +kernel
theorem dX8_fittingKinds_52 : decode cX8_fittingKinds 52 = .ok (.iinc 5 1, 3) := by decide +kernel
theorem dX8_fittingKinds_55 : decode cX8_fittingKinds 55 = .ok (.goto (-41), 3) := by decide +kernel
theorem dX8_fittingKinds_58 : decode cX8_fittingKinds 58 = .ok (.iload 4, 2) := by decide +kernel
theorem dX8_fittingKinds_60 : decode cX8_fittingKinds 60 = .ok (.ireturn, 1) := by decide +kernel
theorem dX8_unlikeShown_0 : decode cX8_unlikeShown 0 = .ok (.iconst 0, 1) := by decide +kernel
theorem dX8_unlikeShown_1 : decode cX8_unlikeShown 1 = .ok (.istore 4, 2) := by decide +kernel
theorem dX8_unlikeShown_3 : decode cX8_unlikeShown 3 = .ok (.aload_n 0, 1) := by decide +kernel
theorem dX8_unlikeShown_4 : decode cX8_unlikeShown 4 = .ok (.getfield 58, 3) := by decide +kernel
theorem dX8_unlikeShown_7 : decode cX8_unlikeShown 7 = .ok (.aload_n 1, 1) := by decide +kernel
theorem dX8_unlikeShown_8 : decode cX8_unlikeShown 8 = .ok (.invokevirtual 307, 3) := by decide +kernel
theorem dX8_unlikeShown_11 : decode cX8_unlikeShown 11 = .ok (.iconst 0, 1) := by decide +kernel
theorem dX8_unlikeShown_12 : decode cX8_unlikeShown 12 = .ok (.istore 5, 2) := by decide +kernel
theorem dX8_unlikeShown_14 : decode cX8_unlikeShown 14 = .ok (.iload 5, 2) := by decide +kernel
theorem dX8_unlikeShown_16 : decode cX8_unlikeShown 16 = .ok (.bipush 18, 2) := by decide +kernel
theorem dX8_unlikeShown_18 : decode cX8_unlikeShown 18 = .ok (.if_icmp .gt 52, 3) := by decide +kernel
theorem dX8_unlikeShown_21 : decode cX8_unlikeShown 21 = .ok (.iload_n 2, 1) := by decide +kernel
theorem dX8_unlikeShown_22 : decode cX8_unlikeShown 22 = .ok (.iload 5, 2) := by decide +kernel
theorem dX8_unlikeShown_24 : decode cX8_unlikeShown 24 = .ok (.ishr, 1) := by decide +kernel
theorem dX8_unlikeShown_25 : decode cX8_unlikeShown 25 = .ok (.iconst 1, 1) := by decide +kernel
theorem dX8_unlikeShown_26 : decode cX8_unlikeShown 26 = .ok (.iand, 1) := by decide +kernel
theorem dX8_unlikeShown_27 : decode cX8_unlikeShown 27 = .ok (.iconst 1, 1) := by decide +kernel
theorem dX8_unlikeShown_28 : decode cX8_unlikeShown 28 = .ok (.if_icmp .ne 36, 3) := by decide +kernel
theorem dX8_unlikeShown_31 : decode cX8_unlikeShown 31 = .ok (.aload_n 0, 1) := by decide +kernel
theorem dX8_unlikeShown_32 : decode cX8_unlikeShown 32 = .ok (.getfield 58, 3) := by decide +kernel
theorem dX8_unlikeShown_35 : decode cX8_unlikeShown 35 = .ok (.iload 5, 2) := by decide +kernel
theorem dX8_unlikeShown_37 : decode cX8_unlikeShown 37 = .ok (.bipush 9, 2) := by decide +kernel
theorem dX8_unlikeShown_39 : decode cX8_unlikeShown 39 = .ok (.isub, 1) := by decide +kernel
theorem dX8_unlikeShown_40 : decode cX8_unlikeShown 40 = .ok (.putfield 135, 3) := by decide +kernel
theorem dX8_unlikeShown_43 : decode cX8_unlikeShown 43 = .ok (.iload 4, 2) := by decide +kernel
theorem dX8_unlikeShown_45 : decode cX8_unlikeShown 45 = .ok (.iconst 1, 1) := by decide +kernel
theorem dX8_unlikeShown_46 : decode cX8_unlikeShown 46 = .ok (.aload_n 0, 1) := by decide +kernel
theorem dX8_unlikeShown_47 : decode cX8_unlikeShown 47 = .ok (.getfield 12, 3) := by decide +kernel
theorem dX8_unlikeShown_50 : decode cX8_unlikeShown 50 = .ok (.aload_n 0, 1) := by decide +kernel
theorem dX8_unlikeShown_51 : decode cX8_unlikeShown 51 = .ok (.getfield 58, 3) := by decide +kernel
theorem dX8_unlikeShown_54 : decode cX8_unlikeShown 54 = .ok (.iload_n 3, 1) := by decide +kernel
theorem dX8_unlikeShown_55 : decode cX8_unlikeShown 55 = .ok (.invokevirtual 227, 3) := by decide +kernel
theorem dX8_unlikeShown_58 : decode cX8_unlikeShown 58 = .ok (.iconst 1, 1) := by decide +kernel
theorem dX8_unlikeShown_59 : decode cX8_unlikeShown 59 = .ok (.iadd, 1) := by decide +kernel
theorem dX8_unlikeShown_60 : decode cX8_unlikeShown 60 = .ok (.ishl, 1) := by decide +kernel
theorem dX8_unlikeShown_61 : decode cX8_unlikeShown 61 = .ok (.ior, 1) := by decide +kernel
theorem dX8_unlikeShown_62 : decode cX8_unlikeShown 62 = .ok (.istore 4, 2) := by decide +kernel
theorem dX8_unlikeShown_64 : decode cX8_unlikeShown 64 = .ok (.iinc 5 1, 3) := by decide +kernel
theorem dX8_unlikeShown_67 : decode cX8_unlikeShown 67 = .ok (.goto (-53), 3) := by decide +kernel
theorem dX8_unlikeShown_70 : decode cX8_unlikeShown 70 = .ok (.iload 4, 2) := by decide +kernel
theorem dX8_unlikeShown_72 : decode cX8_unlikeShown 72 = .ok (.invokestatic 240, 3) := by decide +kernel
theorem dX8_unlikeShown_75 : decode cX8_unlikeShown 75 = .ok (.ireturn, 1) := by decide +kernel
theorem dX8_flood_0 : decode cX8_flood 0 = .ok (.aload_n 0, 1) := by decide +kernel
theorem dX8_flood_1 : decode cX8_flood 1 = .ok (.getfield 62, 3) := by decide +kernel
theorem dX8_flood_4 : decode cX8_flood 4 = .ok (.iconst 0, 1) := by decide +kernel
theorem dX8_flood_5 : decode cX8_flood 5 = .ok (.invokestatic 310, 3) := by decide +kernel
theorem dX8_flood_8 : decode cX8_flood 8 = .ok (.iconst 0, 1) := by decide +kernel
theorem dX8_flood_9 : decode cX8_flood 9 = .ok (.istore_n 3, 1) := by decide +kernel
theorem dX8_flood_10 : decode cX8_flood 10 = .ok (.iconst 0, 1) := by decide +kernel
theorem dX8_flood_11 : decode cX8_flood 11 = .ok (.istore 4, 2) := by decide +kernel
theorem dX8_flood_13 : decode cX8_flood 13 = .ok (.iload 4, 2) := by decide +kernel
theorem dX8_flood_15 : decode cX8_flood 15 = .ok (.aload_n 0, 1) := by decide +kernel
theorem dX8_flood_16 : decode cX8_flood 16 = .ok (.getfield 12, 3) := by decide +kernel
theorem dX8_flood_19 : decode cX8_flood 19 = .ok (.getfield 125, 3) := by decide +kernel
theorem dX8_flood_22 : decode cX8_flood 22 = .ok (.if_icmp .ge 101, 3) := by decide +kernel
theorem dX8_flood_25 : decode cX8_flood 25 = .ok (.aload_n 0, 1) := by decide +kernel
theorem dX8_flood_26 : decode cX8_flood 26 = .ok (.getfield 12, 3) := by decide +kernel
theorem dX8_flood_29 : decode cX8_flood 29 = .ok (.getfield 111, 3) := by decide +kernel
theorem dX8_flood_32 : decode cX8_flood 32 = .ok (.iload 4, 2) := by decide +kernel
theorem dX8_flood_34 : decode cX8_flood 34 = .ok (.aaload, 1) := by decide +kernel
theorem dX8_flood_35 : decode cX8_flood 35 = .ok (.astore 5, 2) := by decide +kernel
theorem dX8_flood_37 : decode cX8_flood 37 = .ok (.iconst 0, 1) := by decide +kernel
theorem dX8_flood_38 : decode cX8_flood 38 = .ok (.istore 6, 2) := by decide +kernel
theorem dX8_flood_40 : decode cX8_flood 40 = .ok (.iload 6, 2) := by decide +kernel
theorem dX8_flood_42 : decode cX8_flood 42 = .ok (.bipush 32, 2) := by decide +kernel
theorem dX8_flood_44 : decode cX8_flood 44 = .ok (.if_icmp .ge 73, 3) := by decide +kernel
theorem dX8_flood_47 : decode cX8_flood 47 = .ok (.aload 5, 2) := by decide +kernel
theorem dX8_flood_49 : decode cX8_flood 49 = .ok (.invokevirtual 316, 3) := by decide +kernel
theorem dX8_flood_52 : decode cX8_flood 52 = .ok (.iload_n 1, 1) := by decide +kernel
theorem dX8_flood_53 : decode cX8_flood 53 = .ok (.if_icmp .ne 64, 3) := by decide +kernel
theorem dX8_flood_56 : decode cX8_flood 56 = .ok (.aload 5, 2) := by decide +kernel
theorem dX8_flood_58 : decode cX8_flood 58 = .ok (.iload 6, 2) := by decide +kernel
theorem dX8_flood_60 : decode cX8_flood 60 = .ok (.iconst 2, 1) := by decide +kernel
theorem dX8_flood_61 : decode cX8_flood 61 = .ok (.invokevirtual 163, 3) := by decide +kernel
theorem dX8_flood_64 : decode cX8_flood 64 = .ok (.ifCond .eq 47, 3) := by decide +kernel
theorem dX8_flood_67 : decode cX8_flood 67 = .ok (.aload_n 0, 1) := by decide +kernel
theorem dX8_flood_68 : decode cX8_flood 68 = .ok (.getfield 36, 3) := by decide +kernel
theorem dX8_flood_71 : decode cX8_flood 71 = .ok (.aload_n 0, 1) := by decide +kernel
theorem dX8_flood_72 : decode cX8_flood 72 = .ok (.getfield 12, 3) := by decide +kernel
theorem dX8_flood_75 : decode cX8_flood 75 = .ok (.getfield 171, 3) := by decide +kernel
theorem dX8_flood_78 : decode cX8_flood 78 = .ok (.iconst 1, 1) := by decide +kernel
theorem dX8_flood_79 : decode cX8_flood 79 = .ok (.aload 5, 2) := by decide +kernel
theorem dX8_flood_81 : decode cX8_flood 81 = .ok (.iload 6, 2) := by decide +kernel
theorem dX8_flood_83 : decode cX8_flood 83 = .ok (.aload_n 2, 1) := by decide +kernel
theorem dX8_flood_84 : decode cX8_flood 84 = .ok (.invokevirtual 319, 3) := by decide +kernel
theorem dX8_flood_87 : decode cX8_flood 87 = .ok (.istore 7, 2) := by decide +kernel
theorem dX8_flood_89 : decode cX8_flood 89 = .ok (.aload_n 0, 1) := by decide +kernel
theorem dX8_flood_90 : decode cX8_flood 90 = .ok (.getfield 62, 3) := by decide +kernel
theorem dX8_flood_93 : decode cX8_flood 93 = .ok (.aload 5, 2) := by decide +kernel
theorem dX8_flood_95 : decode cX8_flood 95 = .ok (.iload 6, 2) := by decide +kernel
theorem dX8_flood_97 : decode cX8_flood 97 = .ok (.invokevirtual 160, 3) := by decide +kernel
theorem dX8_flood_100 : decode cX8_flood 100 = .ok (.dup2, 1) := by decide +kernel
theorem dX8_flood_101 : decode cX8_flood 101 = .ok (.iaload, 1) := by decide +kernel
theorem dX8_flood_102 : decode cX8_flood 102 = .ok (.iload 7, 2) := by decide +kernel
theorem dX8_flood_104 : decode cX8_flood 104 = .ok (.iadd, 1) := by decide +kernel
theorem dX8_flood_105 : decode cX8_flood 105 = .ok (.iastore, 1) := by decide +kernel
theorem dX8_flood_106 : decode cX8_flood 106 = .ok (.iload_n 3, 1) := by decide +kernel
theorem dX8_flood_107 : decode cX8_flood 107 = .ok (.iload 7, 2) := by decide +kernel
theorem dX8_flood_109 : decode cX8_flood 109 = .ok (.iadd, 1) := by decide +kernel
theorem dX8_flood_110 : decode cX8_flood 110 = .ok (.istore_n 3, 1) := by decide +kernel
theorem dX8_flood_111 : decode cX8_flood 111 = .ok (.iinc 6 1, 3) := by decide +kernel
theorem dX8_flood_114 : decode cX8_flood 114 = .ok (.goto (-74), 3) := by decide +kernel
theorem dX8_flood_117 : decode cX8_flood 117 = .ok (.iinc 4 1, 3) := by decide +kernel
theorem dX8_flood_120 : decode cX8_flood 120 = .ok (.goto (-107), 3) := by decide +kernel
theorem dX8_flood_123 : decode cX8_flood 123 = .ok (.iload_n 3, 1) := by decide +kernel
theorem dX8_flood_124 : decode cX8_flood 124 = .ok (.ireturn, 1) := by decide +kernel
theorem dX8_drawnWater_0 : decode cX8_drawnWater 0 = .ok (.iload_n 2, 1) := by decide +kernel
theorem dX8_drawnWater_1 : decode cX8_drawnWater 1 = .ok (.istore_n 3, 1) := by decide +kernel
theorem dX8_drawnWater_2 : decode cX8_drawnWater 2 = .ok (.iconst 0, 1) := by decide +kernel
theorem dX8_drawnWater_3 : decode cX8_drawnWater 3 = .ok (.istore 4, 2) := by decide +kernel
theorem dX8_drawnWater_5 : decode cX8_drawnWater 5 = .ok (.iload 4, 2) := by decide +kernel
theorem dX8_drawnWater_7 : decode cX8_drawnWater 7 = .ok (.bipush 32, 2) := by decide +kernel
theorem dX8_drawnWater_9 : decode cX8_drawnWater 9 = .ok (.if_icmp .ge 33, 3) := by decide +kernel
theorem dX8_drawnWater_12 : decode cX8_drawnWater 12 = .ok (.iload_n 3, 1) := by decide +kernel
theorem dX8_drawnWater_13 : decode cX8_drawnWater 13 = .ok (.ldc_w 323, 3) := by decide +kernel
theorem dX8_drawnWater_16 : decode cX8_drawnWater 16 = .ok (.imul, 1) := by decide +kernel
theorem dX8_drawnWater_17 : decode cX8_drawnWater 17 = .ok (.sipush 12345, 3) := by decide +kernel
theorem dX8_drawnWater_20 : decode cX8_drawnWater 20 = .ok (.iadd, 1) := by decide +kernel
theorem dX8_drawnWater_21 : decode cX8_drawnWater 21 = .ok (.istore_n 3, 1) := by decide +kernel
theorem dX8_drawnWater_22 : decode cX8_drawnWater 22 = .ok (.aload_n 0, 1) := by decide +kernel
theorem dX8_drawnWater_23 : decode cX8_drawnWater 23 = .ok (.getfield 66, 3) := by decide +kernel
theorem dX8_drawnWater_26 : decode cX8_drawnWater 26 = .ok (.iload 4, 2) := by decide +kernel
theorem dX8_drawnWater_28 : decode cX8_drawnWater 28 = .ok (.iload_n 3, 1) := by decide +kernel
theorem dX8_drawnWater_29 : decode cX8_drawnWater 29 = .ok (.bipush 9, 2) := by decide +kernel
theorem dX8_drawnWater_31 : decode cX8_drawnWater 31 = .ok (.iushr, 1) := by decide +kernel
theorem dX8_drawnWater_32 : decode cX8_drawnWater 32 = .ok (.bipush 10, 2) := by decide +kernel
theorem dX8_drawnWater_34 : decode cX8_drawnWater 34 = .ok (.irem, 1) := by decide +kernel
theorem dX8_drawnWater_35 : decode cX8_drawnWater 35 = .ok (.iastore, 1) := by decide +kernel
theorem dX8_drawnWater_36 : decode cX8_drawnWater 36 = .ok (.iinc 4 1, 3) := by decide +kernel
theorem dX8_drawnWater_39 : decode cX8_drawnWater 39 = .ok (.goto (-34), 3) := by decide +kernel
theorem dX8_drawnWater_42 : decode cX8_drawnWater 42 = .ok (.aload_n 0, 1) := by decide +kernel
theorem dX8_drawnWater_43 : decode cX8_drawnWater 43 = .ok (.iload_n 1, 1) := by decide +kernel
theorem dX8_drawnWater_44 : decode cX8_drawnWater 44 = .ok (.aload_n 0, 1) := by decide +kernel
theorem dX8_drawnWater_45 : decode cX8_drawnWater 45 = .ok (.getfield 66, 3) := by decide +kernel
theorem dX8_drawnWater_48 : decode cX8_drawnWater 48 = .ok (.invokevirtual 233, 3) := by decide +kernel
theorem dX8_drawnWater_51 : decode cX8_drawnWater 51 = .ok (.ireturn, 1) := by decide +kernel
theorem dX8_commonDivisor_0 : decode cX8_commonDivisor 0 = .ok (.iload_n 0, 1) := by decide +kernel
theorem dX8_commonDivisor_1 : decode cX8_commonDivisor 1 = .ok (.istore_n 2, 1) := by decide +kernel
theorem dX8_commonDivisor_2 : decode cX8_commonDivisor 2 = .ok (.iload_n 1, 1) := by decide +kernel
theorem dX8_commonDivisor_3 : decode cX8_commonDivisor 3 = .ok (.istore_n 3, 1) := by decide +kernel
theorem dX8_commonDivisor_4 : decode cX8_commonDivisor 4 = .ok (.iconst 0, 1) := by decide +kernel
theorem dX8_commonDivisor_5 : decode cX8_commonDivisor 5 = .ok (.istore 4, 2) := by decide +kernel
theorem dX8_commonDivisor_7 : decode cX8_commonDivisor 7 = .ok (.iload 4, 2) := by decide +kernel
theorem dX8_commonDivisor_9 : decode cX8_commonDivisor 9 = .ok (.bipush 64, 2) := by decide +kernel
theorem dX8_commonDivisor_11 : decode cX8_commonDivisor 11 = .ok (.if_icmp .ge 23, 3) := by decide +kernel
theorem dX8_commonDivisor_14 : decode cX8_commonDivisor 14 = .ok (.iload_n 3, 1) := by decide +kernel
theorem dX8_commonDivisor_15 : decode cX8_commonDivisor 15 = .ok (.ifCond .eq 19, 3) := by decide +kernel
theorem dX8_commonDivisor_18 : decode cX8_commonDivisor 18 = .ok (.iload_n 2, 1) := by decide +kernel
theorem dX8_commonDivisor_19 : decode cX8_commonDivisor 19 = .ok (.iload_n 3, 1) := by decide +kernel
theorem dX8_commonDivisor_20 : decode cX8_commonDivisor 20 = .ok (.irem, 1) := by decide +kernel
theorem dX8_commonDivisor_21 : decode cX8_commonDivisor 21 = .ok (.istore 5, 2) := by decide +kernel
theorem dX8_commonDivisor_23 : decode cX8_commonDivisor 23 = .ok (.iload_n 3, 1) := by decide +kernel
theorem dX8_commonDivisor_24 : decode cX8_commonDivisor 24 = .ok (.istore_n 2, 1) := by decide +kernel
theorem dX8_commonDivisor_25 : decode cX8_commonDivisor 25 = .ok (.iload 5, 2) := by decide +kernel
theorem dX8_commonDivisor_27 : decode cX8_commonDivisor 27 = .ok (.istore_n 3, 1) := by decide +kernel
theorem dX8_commonDivisor_28 : decode cX8_commonDivisor 28 = .ok (.iinc 4 1, 3) := by decide +kernel
theorem dX8_commonDivisor_31 : decode cX8_commonDivisor 31 = .ok (.goto (-24), 3) := by decide +kernel
theorem dX8_commonDivisor_34 : decode cX8_commonDivisor 34 = .ok (.iload_n 2, 1) := by decide +kernel
theorem dX8_commonDivisor_35 : decode cX8_commonDivisor 35 = .ok (.iconst 1, 1) := by decide +kernel
theorem dX8_commonDivisor_36 : decode cX8_commonDivisor 36 = .ok (.if_icmp .ge 7, 3) := by decide +kernel
theorem dX8_commonDivisor_39 : decode cX8_commonDivisor 39 = .ok (.iconst 1, 1) := by decide +kernel
theorem dX8_commonDivisor_40 : decode cX8_commonDivisor 40 = .ok (.goto 4, 3) := by decide +kernel
theorem dX8_commonDivisor_43 : decode cX8_commonDivisor 43 = .ok (.iload_n 2, 1) := by decide +kernel
theorem dX8_commonDivisor_44 : decode cX8_commonDivisor 44 = .ok (.ireturn, 1) := by decide +kernel
theorem dX8_fillPrices_0 : decode cX8_fillPrices 0 = .ok (.iconst 0, 1) := by decide +kernel
theorem dX8_fillPrices_1 : decode cX8_fillPrices 1 = .ok (.istore_n 2, 1) := by decide +kernel
theorem dX8_fillPrices_2 : decode cX8_fillPrices 2 = .ok (.iload_n 2, 1) := by decide +kernel
theorem dX8_fillPrices_3 : decode cX8_fillPrices 3 = .ok (.bipush 8, 2) := by decide +kernel
theorem dX8_fillPrices_5 : decode cX8_fillPrices 5 = .ok (.if_icmp .ge 89, 3) := by decide +kernel
theorem dX8_fillPrices_8 : decode cX8_fillPrices 8 = .ok (.iload_n 2, 1) := by decide +kernel
theorem dX8_fillPrices_9 : decode cX8_fillPrices 9 = .ok (.aload_n 0, 1) := by decide +kernel
theorem dX8_fillPrices_10 : decode cX8_fillPrices 10 = .ok (.getfield 12, 3) := by decide +kernel
theorem dX8_fillPrices_13 : decode cX8_fillPrices 13 = .ok (.getfield 125, 3) := by decide +kernel
theorem dX8_fillPrices_16 : decode cX8_fillPrices 16 = .ok (.if_icmp .ge 24, 3) := by decide +kernel
theorem dX8_fillPrices_19 : decode cX8_fillPrices 19 = .ok (.aload_n 0, 1) := by decide +kernel
theorem dX8_fillPrices_20 : decode cX8_fillPrices 20 = .ok (.getfield 12, 3) := by decide +kernel
theorem dX8_fillPrices_23 : decode cX8_fillPrices 23 = .ok (.getfield 111, 3) := by decide +kernel
theorem dX8_fillPrices_26 : decode cX8_fillPrices 26 = .ok (.iload_n 2, 1) := by decide +kernel
theorem dX8_fillPrices_27 : decode cX8_fillPrices 27 = .ok (.aaload, 1) := by decide +kernel
theorem dX8_fillPrices_28 : decode cX8_fillPrices 28 = .ok (.iload_n 1, 1) := by decide +kernel
theorem dX8_fillPrices_29 : decode cX8_fillPrices 29 = .ok (.iconst 0, 1) := by decide +kernel
theorem dX8_fillPrices_30 : decode cX8_fillPrices 30 = .ok (.invokevirtual 163, 3) := by decide +kernel
theorem dX8_fillPrices_33 : decode cX8_fillPrices 33 = .ok (.ifCond .eq 7, 3) := by decide +kernel
theorem dX8_fillPrices_36 : decode cX8_fillPrices 36 = .ok (.iconst 1, 1) := by decide +kernel
theorem dX8_fillPrices_37 : decode cX8_fillPrices 37 = .ok (.goto 4, 3) := by decide +kernel
theorem dX8_fillPrices_40 : decode cX8_fillPrices 40 = .ok (.iconst 0, 1) := by decide +kernel
theorem dX8_fillPrices_41 : decode cX8_fillPrices 41 = .ok (.istore_n 3, 1) := by decide +kernel
theorem dX8_fillPrices_42 : decode cX8_fillPrices 42 = .ok (.aload_n 0, 1) := by decide +kernel
theorem dX8_fillPrices_43 : decode cX8_fillPrices 43 = .ok (.getfield 69, 3) := by decide +kernel
theorem dX8_fillPrices_46 : decode cX8_fillPrices 46 = .ok (.iload_n 2, 1) := by decide +kernel
theorem dX8_fillPrices_47 : decode cX8_fillPrices 47 = .ok (.iload_n 3, 1) := by decide +kernel
theorem dX8_fillPrices_48 : decode cX8_fillPrices 48 = .ok (.ifCond .eq 38, 3) := by decide +kernel
theorem dX8_fillPrices_51 : decode cX8_fillPrices 51 = .ok (.aload_n 0, 1) := by decide +kernel
theorem dX8_fillPrices_52 : decode cX8_fillPrices 52 = .ok (.getfield 36, 3) := by decide +kernel
theorem dX8_fillPrices_55 : decode cX8_fillPrices 55 = .ok (.aload_n 0, 1) := by decide +kernel
theorem dX8_fillPrices_56 : decode cX8_fillPrices 56 = .ok (.getfield 12, 3) := by decide +kernel
theorem dX8_fillPrices_59 : decode cX8_fillPrices 59 = .ok (.getfield 171, 3) := by decide +kernel
theorem dX8_fillPrices_62 : decode cX8_fillPrices 62 = .ok (.iconst 2, 1) := by decide +kernel
theorem dX8_fillPrices_63 : decode cX8_fillPrices 63 = .ok (.aload_n 0, 1) := by decide +kernel
theorem dX8_fillPrices_64 : decode cX8_fillPrices 64 = .ok (.getfield 12, 3) := by decide +kernel
theorem dX8_fillPrices_67 : decode cX8_fillPrices 67 = .ok (.getfield 111, 3) := by decide +kernel
theorem dX8_fillPrices_70 : decode cX8_fillPrices 70 = .ok (.iload_n 2, 1) := by decide +kernel
theorem dX8_fillPrices_71 : decode cX8_fillPrices 71 = .ok (.aaload, 1) := by decide +kernel
theorem dX8_fillPrices_72 : decode cX8_fillPrices 72 = .ok (.iload_n 1, 1) := by decide +kernel
theorem dX8_fillPrices_73 : decode cX8_fillPrices 73 = .ok (.aload_n 0, 1) := by decide +kernel
theorem dX8_fillPrices_74 : decode cX8_fillPrices 74 = .ok (.getfield 12, 3) := by decide +kernel
theorem dX8_fillPrices_77 : decode cX8_fillPrices 77 = .ok (.getfield 108, 3) := by decide +kernel
theorem dX8_fillPrices_80 : decode cX8_fillPrices 80 = .ok (.invokevirtual 319, 3) := by decide +kernel
theorem dX8_fillPrices_83 : decode cX8_fillPrices 83 = .ok (.goto 4, 3) := by decide +kernel
theorem dX8_fillPrices_86 : decode cX8_fillPrices 86 = .ok (.iconst (-1), 1) := by decide +kernel
theorem dX8_fillPrices_87 : decode cX8_fillPrices 87 = .ok (.iastore, 1) := by decide +kernel
theorem dX8_fillPrices_88 : decode cX8_fillPrices 88 = .ok (.iinc 2 1, 3) := by decide +kernel
theorem dX8_fillPrices_91 : decode cX8_fillPrices 91 = .ok (.goto (-89), 3) := by decide +kernel
theorem dX8_fillPrices_94 : decode cX8_fillPrices 94 = .ok (.return_, 1) := by decide +kernel
theorem dX8_holds_0 : decode cX8_holds 0 = .ok (.iload_n 0, 1) := by decide +kernel
theorem dX8_holds_1 : decode cX8_holds 1 = .ok (.bipush 7, 2) := by decide +kernel
theorem dX8_holds_3 : decode cX8_holds 3 = .ok (.iload_n 1, 1) := by decide +kernel
theorem dX8_holds_4 : decode cX8_holds 4 = .ok (.isub, 1) := by decide +kernel
theorem dX8_holds_5 : decode cX8_holds 5 = .ok (.ishr, 1) := by decide +kernel
theorem dX8_holds_6 : decode cX8_holds 6 = .ok (.iconst 1, 1) := by decide +kernel
theorem dX8_holds_7 : decode cX8_holds 7 = .ok (.iand, 1) := by decide +kernel
theorem dX8_holds_8 : decode cX8_holds 8 = .ok (.iconst 1, 1) := by decide +kernel
theorem dX8_holds_9 : decode cX8_holds 9 = .ok (.if_icmp .ne 7, 3) := by decide +kernel
theorem dX8_holds_12 : decode cX8_holds 12 = .ok (.iconst 1, 1) := by decide +kernel
theorem dX8_holds_13 : decode cX8_holds 13 = .ok (.goto 4, 3) := by decide +kernel
theorem dX8_holds_16 : decode cX8_holds 16 = .ok (.iconst 0, 1) := by decide +kernel
theorem dX8_holds_17 : decode cX8_holds 17 = .ok (.ireturn, 1) := by decide +kernel
theorem dX8_priceTogether_0 : decode cX8_priceTogether 0 = .ok (.iconst 0, 1) := by decide +kernel
theorem dX8_priceTogether_1 : decode cX8_priceTogether 1 = .ok (.istore_n 2, 1) := by decide +kernel
theorem dX8_priceTogether_2 : decode cX8_priceTogether 2 = .ok (.iconst 0, 1) := by decide +kernel
theorem dX8_priceTogether_3 : decode cX8_priceTogether 3 = .ok (.istore_n 3, 1) := by decide +kernel
theorem dX8_priceTogether_4 : decode cX8_priceTogether 4 = .ok (.iload_n 3, 1) := by decide +kernel
theorem dX8_priceTogether_5 : decode cX8_priceTogether 5 = .ok (.bipush 8, 2) := by decide +kernel
theorem dX8_priceTogether_7 : decode cX8_priceTogether 7 = .ok (.if_icmp .ge 38, 3) := by decide +kernel
theorem dX8_priceTogether_10 : decode cX8_priceTogether 10 = .ok (.iload_n 1, 1) := by decide +kernel
theorem dX8_priceTogether_11 : decode cX8_priceTogether 11 = .ok (.iload_n 3, 1) := by decide +kernel
theorem dX8_priceTogether_12 : decode cX8_priceTogether 12 = .ok (.invokestatic 324, 3) := by decide +kernel
theorem dX8_priceTogether_15 : decode cX8_priceTogether 15 = .ok (.ifCond .eq 24, 3) := by decide +kernel
theorem dX8_priceTogether_18 : decode cX8_priceTogether 18 = .ok (.aload_n 0, 1) := by decide +kernel
theorem dX8_priceTogether_19 : decode cX8_priceTogether 19 = .ok (.getfield 69, 3) := by decide +kernel
theorem dX8_priceTogether_22 : decode cX8_priceTogether 22 = .ok (.iload_n 3, 1) := by decide +kernel
theorem dX8_priceTogether_23 : decode cX8_priceTogether 23 = .ok (.iaload, 1) := by decide +kernel
theorem dX8_priceTogether_24 : decode cX8_priceTogether 24 = .ok (.iconst (-1), 1) := by decide +kernel
theorem dX8_priceTogether_25 : decode cX8_priceTogether 25 = .ok (.if_icmp .ne 5, 3) := by decide +kernel
theorem dX8_priceTogether_28 : decode cX8_priceTogether 28 = .ok (.iconst (-1), 1) := by decide +kernel
theorem dX8_priceTogether_29 : decode cX8_priceTogether 29 = .ok (.ireturn, 1) := by decide +kernel
theorem dX8_priceTogether_30 : decode cX8_priceTogether 30 = .ok (.iload_n 2, 1) := by decide +kernel
theorem dX8_priceTogether_31 : decode cX8_priceTogether 31 = .ok (.aload_n 0, 1) := by decide +kernel
theorem dX8_priceTogether_32 : decode cX8_priceTogether 32 = .ok (.getfield 69, 3) := by decide +kernel
theorem dX8_priceTogether_35 : decode cX8_priceTogether 35 = .ok (.iload_n 3, 1) := by decide +kernel
theorem dX8_priceTogether_36 : decode cX8_priceTogether 36 = .ok (.iaload, 1) := by decide +kernel
theorem dX8_priceTogether_37 : decode cX8_priceTogether 37 = .ok (.iadd, 1) := by decide +kernel
theorem dX8_priceTogether_38 : decode cX8_priceTogether 38 = .ok (.istore_n 2, 1) := by decide +kernel
theorem dX8_priceTogether_39 : decode cX8_priceTogether 39 = .ok (.iinc 3 1, 3) := by decide +kernel
theorem dX8_priceTogether_42 : decode cX8_priceTogether 42 = .ok (.goto (-38), 3) := by decide +kernel
theorem dX8_priceTogether_45 : decode cX8_priceTogether 45 = .ok (.iload_n 2, 1) := by decide +kernel
theorem dX8_priceTogether_46 : decode cX8_priceTogether 46 = .ok (.ireturn, 1) := by decide +kernel
theorem dX8_digitsOf_0 : decode cX8_digitsOf 0 = .ok (.iconst 0, 1) := by decide +kernel
theorem dX8_digitsOf_1 : decode cX8_digitsOf 1 = .ok (.istore_n 1, 1) := by decide +kernel
theorem dX8_digitsOf_2 : decode cX8_digitsOf 2 = .ok (.iconst 0, 1) := by decide +kernel
theorem dX8_digitsOf_3 : decode cX8_digitsOf 3 = .ok (.istore_n 2, 1) := by decide +kernel
theorem dX8_digitsOf_4 : decode cX8_digitsOf 4 = .ok (.iload_n 2, 1) := by decide +kernel
theorem dX8_digitsOf_5 : decode cX8_digitsOf 5 = .ok (.bipush 8, 2) := by decide +kernel
theorem dX8_digitsOf_7 : decode cX8_digitsOf 7 = .ok (.if_icmp .ge 26, 3) := by decide +kernel
theorem dX8_digitsOf_10 : decode cX8_digitsOf 10 = .ok (.iload_n 0, 1) := by decide +kernel
theorem dX8_digitsOf_11 : decode cX8_digitsOf 11 = .ok (.iload_n 2, 1) := by decide +kernel
theorem dX8_digitsOf_12 : decode cX8_digitsOf 12 = .ok (.invokestatic 324, 3) := by decide +kernel
theorem dX8_digitsOf_15 : decode cX8_digitsOf 15 = .ok (.ifCond .eq 12, 3) := by decide +kernel
theorem dX8_digitsOf_18 : decode cX8_digitsOf 18 = .ok (.iload_n 1, 1) := by decide +kernel
theorem dX8_digitsOf_19 : decode cX8_digitsOf 19 = .ok (.bipush 10, 2) := by decide +kernel
theorem dX8_digitsOf_21 : decode cX8_digitsOf 21 = .ok (.imul, 1) := by decide +kernel
theorem dX8_digitsOf_22 : decode cX8_digitsOf 22 = .ok (.iload_n 2, 1) := by decide +kernel
theorem dX8_digitsOf_23 : decode cX8_digitsOf 23 = .ok (.iadd, 1) := by decide +kernel
theorem dX8_digitsOf_24 : decode cX8_digitsOf 24 = .ok (.iconst 1, 1) := by decide +kernel
theorem dX8_digitsOf_25 : decode cX8_digitsOf 25 = .ok (.iadd, 1) := by decide +kernel
theorem dX8_digitsOf_26 : decode cX8_digitsOf 26 = .ok (.istore_n 1, 1) := by decide +kernel
theorem dX8_digitsOf_27 : decode cX8_digitsOf 27 = .ok (.iinc 2 1, 3) := by decide +kernel
theorem dX8_digitsOf_30 : decode cX8_digitsOf 30 = .ok (.goto (-26), 3) := by decide +kernel
theorem dX8_digitsOf_33 : decode cX8_digitsOf 33 = .ok (.iload_n 1, 1) := by decide +kernel
theorem dX8_digitsOf_34 : decode cX8_digitsOf 34 = .ok (.ireturn, 1) := by decide +kernel
theorem dJ6_bitCount_0f7a4_0 : decode cJ6_bitCount_0f7a4 0 = .ok (.iload_n 0, 1) := by decide +kernel
theorem dJ6_bitCount_0f7a4_1 : decode cJ6_bitCount_0f7a4 1 = .ok (.iload_n 0, 1) := by decide +kernel
theorem dJ6_bitCount_0f7a4_2 : decode cJ6_bitCount_0f7a4 2 = .ok (.iconst 1, 1) := by decide +kernel
theorem dJ6_bitCount_0f7a4_3 : decode cJ6_bitCount_0f7a4 3 = .ok (.iushr, 1) := by decide +kernel
theorem dJ6_bitCount_0f7a4_4 : decode cJ6_bitCount_0f7a4 4 = .ok (.ldc_w 265, 3) := by decide +kernel
theorem dJ6_bitCount_0f7a4_7 : decode cJ6_bitCount_0f7a4 7 = .ok (.iand, 1) := by decide +kernel
theorem dJ6_bitCount_0f7a4_8 : decode cJ6_bitCount_0f7a4 8 = .ok (.isub, 1) := by decide +kernel
theorem dJ6_bitCount_0f7a4_9 : decode cJ6_bitCount_0f7a4 9 = .ok (.istore_n 0, 1) := by decide +kernel
theorem dJ6_bitCount_0f7a4_10 : decode cJ6_bitCount_0f7a4 10 = .ok (.iload_n 0, 1) := by decide +kernel
theorem dJ6_bitCount_0f7a4_11 : decode cJ6_bitCount_0f7a4 11 = .ok (.ldc_w 266, 3) := by decide +kernel
theorem dJ6_bitCount_0f7a4_14 : decode cJ6_bitCount_0f7a4 14 = .ok (.iand, 1) := by decide +kernel
theorem dJ6_bitCount_0f7a4_15 : decode cJ6_bitCount_0f7a4 15 = .ok (.iload_n 0, 1) := by decide +kernel
theorem dJ6_bitCount_0f7a4_16 : decode cJ6_bitCount_0f7a4 16 = .ok (.iconst 2, 1) := by decide +kernel
theorem dJ6_bitCount_0f7a4_17 : decode cJ6_bitCount_0f7a4 17 = .ok (.iushr, 1) := by decide +kernel
theorem dJ6_bitCount_0f7a4_18 : decode cJ6_bitCount_0f7a4 18 = .ok (.ldc_w 266, 3) := by decide +kernel
theorem dJ6_bitCount_0f7a4_21 : decode cJ6_bitCount_0f7a4 21 = .ok (.iand, 1) := by decide +kernel
theorem dJ6_bitCount_0f7a4_22 : decode cJ6_bitCount_0f7a4 22 = .ok (.iadd, 1) := by decide +kernel
theorem dJ6_bitCount_0f7a4_23 : decode cJ6_bitCount_0f7a4 23 = .ok (.istore_n 0, 1) := by decide +kernel
theorem dJ6_bitCount_0f7a4_24 : decode cJ6_bitCount_0f7a4 24 = .ok (.iload_n 0, 1) := by decide +kernel
theorem dJ6_bitCount_0f7a4_25 : decode cJ6_bitCount_0f7a4 25 = .ok (.iload_n 0, 1) := by decide +kernel
theorem dJ6_bitCount_0f7a4_26 : decode cJ6_bitCount_0f7a4 26 = .ok (.iconst 4, 1) := by decide +kernel
theorem dJ6_bitCount_0f7a4_27 : decode cJ6_bitCount_0f7a4 27 = .ok (.iushr, 1) := by decide +kernel
theorem dJ6_bitCount_0f7a4_28 : decode cJ6_bitCount_0f7a4 28 = .ok (.iadd, 1) := by decide +kernel
theorem dJ6_bitCount_0f7a4_29 : decode cJ6_bitCount_0f7a4 29 = .ok (.ldc_w 267, 3) := by decide +kernel
theorem dJ6_bitCount_0f7a4_32 : decode cJ6_bitCount_0f7a4 32 = .ok (.iand, 1) := by decide +kernel
theorem dJ6_bitCount_0f7a4_33 : decode cJ6_bitCount_0f7a4 33 = .ok (.istore_n 0, 1) := by decide +kernel
theorem dJ6_bitCount_0f7a4_34 : decode cJ6_bitCount_0f7a4 34 = .ok (.iload_n 0, 1) := by decide +kernel
theorem dJ6_bitCount_0f7a4_35 : decode cJ6_bitCount_0f7a4 35 = .ok (.iload_n 0, 1) := by decide +kernel
theorem dJ6_bitCount_0f7a4_36 : decode cJ6_bitCount_0f7a4 36 = .ok (.bipush 8, 2) := by decide +kernel
theorem dJ6_bitCount_0f7a4_38 : decode cJ6_bitCount_0f7a4 38 = .ok (.iushr, 1) := by decide +kernel
theorem dJ6_bitCount_0f7a4_39 : decode cJ6_bitCount_0f7a4 39 = .ok (.iadd, 1) := by decide +kernel
theorem dJ6_bitCount_0f7a4_40 : decode cJ6_bitCount_0f7a4 40 = .ok (.istore_n 0, 1) := by decide +kernel
theorem dJ6_bitCount_0f7a4_41 : decode cJ6_bitCount_0f7a4 41 = .ok (.iload_n 0, 1) := by decide +kernel
theorem dJ6_bitCount_0f7a4_42 : decode cJ6_bitCount_0f7a4 42 = .ok (.iload_n 0, 1) := by decide +kernel
theorem dJ6_bitCount_0f7a4_43 : decode cJ6_bitCount_0f7a4 43 = .ok (.bipush 16, 2) := by decide +kernel
theorem dJ6_bitCount_0f7a4_45 : decode cJ6_bitCount_0f7a4 45 = .ok (.iushr, 1) := by decide +kernel
theorem dJ6_bitCount_0f7a4_46 : decode cJ6_bitCount_0f7a4 46 = .ok (.iadd, 1) := by decide +kernel
theorem dJ6_bitCount_0f7a4_47 : decode cJ6_bitCount_0f7a4 47 = .ok (.istore_n 0, 1) := by decide +kernel
theorem dJ6_bitCount_0f7a4_48 : decode cJ6_bitCount_0f7a4 48 = .ok (.iload_n 0, 1) := by decide +kernel
theorem dJ6_bitCount_0f7a4_49 : decode cJ6_bitCount_0f7a4 49 = .ok (.bipush 63, 2) := by decide +kernel
theorem dJ6_bitCount_0f7a4_51 : decode cJ6_bitCount_0f7a4 51 = .ok (.iand, 1) := by decide +kernel
theorem dJ6_bitCount_0f7a4_52 : decode cJ6_bitCount_0f7a4 52 = .ok (.ireturn, 1) := by decide +kernel
theorem dJ9_max_7cf53_0 : decode cJ9_max_7cf53 0 = .ok (.iload_n 0, 1) := by decide +kernel
theorem dJ9_max_7cf53_1 : decode cJ9_max_7cf53 1 = .ok (.iload_n 1, 1) := by decide +kernel
theorem dJ9_max_7cf53_2 : decode cJ9_max_7cf53 2 = .ok (.if_icmp .lt 7, 3) := by decide +kernel
theorem dJ9_max_7cf53_5 : decode cJ9_max_7cf53 5 = .ok (.iload_n 0, 1) := by decide +kernel
theorem dJ9_max_7cf53_6 : decode cJ9_max_7cf53 6 = .ok (.goto 4, 3) := by decide +kernel
theorem dJ9_max_7cf53_9 : decode cJ9_max_7cf53 9 = .ok (.iload_n 1, 1) := by decide +kernel
theorem dJ9_max_7cf53_10 : decode cJ9_max_7cf53 10 = .ok (.ireturn, 1) := by decide +kernel
theorem dJ9_min_7cf53_0 : decode cJ9_min_7cf53 0 = .ok (.iload_n 0, 1) := by decide +kernel
theorem dJ9_min_7cf53_1 : decode cJ9_min_7cf53 1 = .ok (.iload_n 1, 1) := by decide +kernel
theorem dJ9_min_7cf53_2 : decode cJ9_min_7cf53 2 = .ok (.if_icmp .gt 7, 3) := by decide +kernel
theorem dJ9_min_7cf53_5 : decode cJ9_min_7cf53 5 = .ok (.iload_n 0, 1) := by decide +kernel
theorem dJ9_min_7cf53_6 : decode cJ9_min_7cf53 6 = .ok (.goto 4, 3) := by decide +kernel
theorem dJ9_min_7cf53_9 : decode cJ9_min_7cf53 9 = .ok (.iload_n 1, 1) := by decide +kernel
theorem dJ9_min_7cf53_10 : decode cJ9_min_7cf53 10 = .ok (.ireturn, 1) := by decide +kernel
theorem dJ0_length_8abf5_0 : decode cJ0_length_8abf5 0 = .ok (.aload_n 0, 1) := by decide +kernel
theorem dJ0_length_8abf5_1 : decode cJ0_length_8abf5 1 = .ok (.getfield 9, 3) := by decide +kernel
theorem dJ0_length_8abf5_4 : decode cJ0_length_8abf5 4 = .ok (.arraylength, 1) := by decide +kernel
theorem dJ0_length_8abf5_5 : decode cJ0_length_8abf5 5 = .ok (.aload_n 0, 1) := by decide +kernel
theorem dJ0_length_8abf5_6 : decode cJ0_length_8abf5 6 = .ok (.invokevirtual 335, 3) := by decide +kernel
theorem dJ0_length_8abf5_9 : decode cJ0_length_8abf5 9 = .ok (.ishr, 1) := by decide +kernel
theorem dJ0_length_8abf5_10 : decode cJ0_length_8abf5 10 = .ok (.ireturn, 1) := by decide +kernel
theorem dJ0_charAt_5068e_0 : decode cJ0_charAt_5068e 0 = .ok (.aload_n 0, 1) := by decide +kernel
theorem dJ0_charAt_5068e_1 : decode cJ0_charAt_5068e 1 = .ok (.invokevirtual 492, 3) := by decide +kernel
theorem dJ0_charAt_5068e_4 : decode cJ0_charAt_5068e 4 = .ok (.ifCond .eq 12, 3) := by decide +kernel
theorem dJ0_charAt_5068e_7 : decode cJ0_charAt_5068e 7 = .ok (.aload_n 0, 1) := by decide +kernel
theorem dJ0_charAt_5068e_8 : decode cJ0_charAt_5068e 8 = .ok (.getfield 9, 3) := by decide +kernel
theorem dJ0_charAt_5068e_11 : decode cJ0_charAt_5068e 11 = .ok (.iload_n 1, 1) := by decide +kernel
theorem dJ0_charAt_5068e_12 : decode cJ0_charAt_5068e 12 = .ok (.invokestatic 495, 3) := by decide +kernel
theorem dJ0_charAt_5068e_15 : decode cJ0_charAt_5068e 15 = .ok (.ireturn, 1) := by decide +kernel
theorem dJ0_charAt_5068e_16 : decode cJ0_charAt_5068e 16 = .ok (.aload_n 0, 1) := by decide +kernel
theorem dJ0_charAt_5068e_17 : decode cJ0_charAt_5068e 17 = .ok (.getfield 9, 3) := by decide +kernel
theorem dJ0_charAt_5068e_20 : decode cJ0_charAt_5068e 20 = .ok (.iload_n 1, 1) := by decide +kernel
theorem dJ0_charAt_5068e_21 : decode cJ0_charAt_5068e 21 = .ok (.invokestatic 498, 3) := by decide +kernel
theorem dJ0_charAt_5068e_24 : decode cJ0_charAt_5068e 24 = .ok (.ireturn, 1) := by decide +kernel
theorem dJ0_coder_7d493_0 : decode cJ0_coder_7d493 0 = .ok (.getstatic 38, 3) := by decide +kernel
theorem dJ0_coder_7d493_3 : decode cJ0_coder_7d493 3 = .ok (.ifCond .eq 10, 3) := by decide +kernel
theorem dJ0_coder_7d493_6 : decode cJ0_coder_7d493 6 = .ok (.aload_n 0, 1) := by decide +kernel
theorem dJ0_coder_7d493_7 : decode cJ0_coder_7d493 7 = .ok (.getfield 15, 3) := by decide +kernel
theorem dJ0_coder_7d493_10 : decode cJ0_coder_7d493 10 = .ok (.goto 4, 3) := by decide +kernel
theorem dJ0_coder_7d493_13 : decode cJ0_coder_7d493 13 = .ok (.iconst 1, 1) := by decide +kernel
theorem dJ0_coder_7d493_14 : decode cJ0_coder_7d493 14 = .ok (.ireturn, 1) := by decide +kernel
theorem dJ0_isLatin1_aae02_0 : decode cJ0_isLatin1_aae02 0 = .ok (.getstatic 38, 3) := by decide +kernel
theorem dJ0_isLatin1_aae02_3 : decode cJ0_isLatin1_aae02 3 = .ok (.ifCond .eq 14, 3) := by decide +kernel
theorem dJ0_isLatin1_aae02_6 : decode cJ0_isLatin1_aae02 6 = .ok (.aload_n 0, 1) := by decide +kernel
theorem dJ0_isLatin1_aae02_7 : decode cJ0_isLatin1_aae02 7 = .ok (.getfield 15, 3) := by decide +kernel
theorem dJ0_isLatin1_aae02_10 : decode cJ0_isLatin1_aae02 10 = .ok (.ifCond .ne 7, 3) := by decide +kernel
theorem dJ0_isLatin1_aae02_13 : decode cJ0_isLatin1_aae02 13 = .ok (.iconst 1, 1) := by decide +kernel
theorem dJ0_isLatin1_aae02_14 : decode cJ0_isLatin1_aae02 14 = .ok (.goto 4, 3) := by decide +kernel
theorem dJ0_isLatin1_aae02_17 : decode cJ0_isLatin1_aae02 17 = .ok (.iconst 0, 1) := by decide +kernel
theorem dJ0_isLatin1_aae02_18 : decode cJ0_isLatin1_aae02 18 = .ok (.ireturn, 1) := by decide +kernel
theorem dJ0_checkIndex_df160_0 : decode cJ0_checkIndex_df160 0 = .ok (.iload_n 0, 1) := by decide +kernel
theorem dJ0_checkIndex_df160_1 : decode cJ0_checkIndex_df160 1 = .ok (.iload_n 1, 1) := by decide +kernel
theorem dJ0_checkIndex_df160_2 : decode cJ0_checkIndex_df160 2 = .ok (.getstatic 1053, 3) := by decide +kernel
theorem dJ0_checkIndex_df160_5 : decode cJ0_checkIndex_df160 5 = .ok (.invokestatic 1059, 3) := by decide +kernel
theorem dJ0_checkIndex_df160_8 : decode cJ0_checkIndex_df160 8 = .ok (.pop, 1) := by decide +kernel
theorem dJ0_checkIndex_df160_9 : decode cJ0_checkIndex_df160 9 = .ok (.return_, 1) := by decide +kernel
theorem dJ1_charAt_3b067_0 : decode cJ1_charAt_3b067 0 = .ok (.iload_n 1, 1) := by decide +kernel
theorem dJ1_charAt_3b067_1 : decode cJ1_charAt_3b067 1 = .ok (.aload_n 0, 1) := by decide +kernel
theorem dJ1_charAt_3b067_2 : decode cJ1_charAt_3b067 2 = .ok (.arraylength, 1) := by decide +kernel
theorem dJ1_charAt_3b067_3 : decode cJ1_charAt_3b067 3 = .ok (.invokestatic 9, 3) := by decide +kernel
theorem dJ1_charAt_3b067_6 : decode cJ1_charAt_3b067 6 = .ok (.aload_n 0, 1) := by decide +kernel
theorem dJ1_charAt_3b067_7 : decode cJ1_charAt_3b067 7 = .ok (.iload_n 1, 1) := by decide +kernel
theorem dJ1_charAt_3b067_8 : decode cJ1_charAt_3b067 8 = .ok (.baload, 1) := by decide +kernel
theorem dJ1_charAt_3b067_9 : decode cJ1_charAt_3b067 9 = .ok (.sipush 255, 3) := by decide +kernel
theorem dJ1_charAt_3b067_12 : decode cJ1_charAt_3b067 12 = .ok (.iand, 1) := by decide +kernel
theorem dJ1_charAt_3b067_13 : decode cJ1_charAt_3b067 13 = .ok (.i2c, 1) := by decide +kernel
theorem dJ1_charAt_3b067_14 : decode cJ1_charAt_3b067 14 = .ok (.ireturn, 1) := by decide +kernel
theorem dJ2_getChar_3b067_0 : decode cJ2_getChar_3b067 0 = .ok (.getstatic 44, 3) := by decide +kernel
theorem dJ2_getChar_3b067_3 : decode cJ2_getChar_3b067 3 = .ok (.ifCond .ne 25, 3) := by decide +kernel
theorem dJ2_getChar_3b067_6 : decode cJ2_getChar_3b067 6 = .ok (.iload_n 1, 1) := by decide +kernel
theorem dJ2_getChar_3b067_7 : decode cJ2_getChar_3b067 7 = .ok (.ifCond .lt 11, 3) := by decide +kernel
theorem dJ2_getChar_3b067_10 : decode cJ2_getChar_3b067 10 = .ok (.iload_n 1, 1) := by decide +kernel
theorem dJ2_getChar_3b067_11 : decode cJ2_getChar_3b067 11 = .ok (.aload_n 0, 1) := by decide +kernel
theorem dJ2_getChar_3b067_12 : decode cJ2_getChar_3b067 12 = .ok (.invokestatic 48, 3) := by decide +kernel
theorem dJ2_getChar_3b067_15 : decode cJ2_getChar_3b067 15 = .ok (.if_icmp .lt 13, 3) := by decide +kernel
theorem dJ2_getChar_3b067_18 : decode cJ2_getChar_3b067 18 = .ok (.new 52, 3) := by decide +kernel
theorem dJ2_getChar_3b067_21 : decode cJ2_getChar_3b067 21 = .ok (.dup, 1) := by decide +kernel
theorem dJ2_getChar_3b067_22 : decode cJ2_getChar_3b067 22 = .ok (.ldc 54, 2) := by decide +kernel
theorem dJ2_getChar_3b067_24 : decode cJ2_getChar_3b067 24 = .ok (.invokespecial 56, 3) := by decide +kernel
theorem dJ2_getChar_3b067_27 : decode cJ2_getChar_3b067 27 = .ok (.athrow, 1) := by decide +kernel
theorem dJ2_getChar_3b067_28 : decode cJ2_getChar_3b067 28 = .ok (.iload_n 1, 1) := by decide +kernel
theorem dJ2_getChar_3b067_29 : decode cJ2_getChar_3b067 29 = .ok (.iconst 1, 1) := by decide +kernel
theorem dJ2_getChar_3b067_30 : decode cJ2_getChar_3b067 30 = .ok (.ishl, 1) := by decide +kernel
theorem dJ2_getChar_3b067_31 : decode cJ2_getChar_3b067 31 = .ok (.istore_n 1, 1) := by decide +kernel
theorem dJ2_getChar_3b067_32 : decode cJ2_getChar_3b067 32 = .ok (.aload_n 0, 1) := by decide +kernel
theorem dJ2_getChar_3b067_33 : decode cJ2_getChar_3b067 33 = .ok (.iload_n 1, 1) := by decide +kernel
theorem dJ2_getChar_3b067_34 : decode cJ2_getChar_3b067 34 = .ok (.iinc 1 1, 3) := by decide +kernel
theorem dJ2_getChar_3b067_37 : decode cJ2_getChar_3b067 37 = .ok (.baload, 1) := by decide +kernel
theorem dJ2_getChar_3b067_38 : decode cJ2_getChar_3b067 38 = .ok (.sipush 255, 3) := by decide +kernel
theorem dJ2_getChar_3b067_41 : decode cJ2_getChar_3b067 41 = .ok (.iand, 1) := by decide +kernel
theorem dJ2_getChar_3b067_42 : decode cJ2_getChar_3b067 42 = .ok (.getstatic 59, 3) := by decide +kernel
theorem dJ2_getChar_3b067_45 : decode cJ2_getChar_3b067 45 = .ok (.ishl, 1) := by decide +kernel
theorem dJ2_getChar_3b067_46 : decode cJ2_getChar_3b067 46 = .ok (.aload_n 0, 1) := by decide +kernel
theorem dJ2_getChar_3b067_47 : decode cJ2_getChar_3b067 47 = .ok (.iload_n 1, 1) := by decide +kernel
theorem dJ2_getChar_3b067_48 : decode cJ2_getChar_3b067 48 = .ok (.baload, 1) := by decide +kernel
theorem dJ2_getChar_3b067_49 : decode cJ2_getChar_3b067 49 = .ok (.sipush 255, 3) := by decide +kernel
theorem dJ2_getChar_3b067_52 : decode cJ2_getChar_3b067 52 = .ok (.iand, 1) := by decide +kernel
theorem dJ2_getChar_3b067_53 : decode cJ2_getChar_3b067 53 = .ok (.getstatic 63, 3) := by decide +kernel
theorem dJ2_getChar_3b067_56 : decode cJ2_getChar_3b067 56 = .ok (.ishl, 1) := by decide +kernel
theorem dJ2_getChar_3b067_57 : decode cJ2_getChar_3b067 57 = .ok (.ior, 1) := by decide +kernel
theorem dJ2_getChar_3b067_58 : decode cJ2_getChar_3b067 58 = .ok (.i2c, 1) := by decide +kernel
theorem dJ2_getChar_3b067_59 : decode cJ2_getChar_3b067 59 = .ok (.ireturn, 1) := by decide +kernel
theorem dJ2_length_9d52b_0 : decode cJ2_length_9d52b 0 = .ok (.aload_n 0, 1) := by decide +kernel
theorem dJ2_length_9d52b_1 : decode cJ2_length_9d52b 1 = .ok (.arraylength, 1) := by decide +kernel
theorem dJ2_length_9d52b_2 : decode cJ2_length_9d52b 2 = .ok (.iconst 1, 1) := by decide +kernel
theorem dJ2_length_9d52b_3 : decode cJ2_length_9d52b 3 = .ok (.ishr, 1) := by decide +kernel
theorem dJ2_length_9d52b_4 : decode cJ2_length_9d52b 4 = .ok (.ireturn, 1) := by decide +kernel
theorem dJ2_charAt_3b067_0 : decode cJ2_charAt_3b067 0 = .ok (.iload_n 1, 1) := by decide +kernel
theorem dJ2_charAt_3b067_1 : decode cJ2_charAt_3b067 1 = .ok (.aload_n 0, 1) := by decide +kernel
theorem dJ2_charAt_3b067_2 : decode cJ2_charAt_3b067 2 = .ok (.invokestatic 67, 3) := by decide +kernel
theorem dJ2_charAt_3b067_5 : decode cJ2_charAt_3b067 5 = .ok (.aload_n 0, 1) := by decide +kernel
theorem dJ2_charAt_3b067_6 : decode cJ2_charAt_3b067 6 = .ok (.iload_n 1, 1) := by decide +kernel
theorem dJ2_charAt_3b067_7 : decode cJ2_charAt_3b067 7 = .ok (.invokestatic 71, 3) := by decide +kernel
theorem dJ2_charAt_3b067_10 : decode cJ2_charAt_3b067 10 = .ok (.ireturn, 1) := by decide +kernel
theorem dJ2_checkIndex_2214a_0 : decode cJ2_checkIndex_2214a 0 = .ok (.iload_n 0, 1) := by decide +kernel
theorem dJ2_checkIndex_2214a_1 : decode cJ2_checkIndex_2214a 1 = .ok (.aload_n 1, 1) := by decide +kernel
theorem dJ2_checkIndex_2214a_2 : decode cJ2_checkIndex_2214a 2 = .ok (.invokestatic 48, 3) := by decide +kernel
theorem dJ2_checkIndex_2214a_5 : decode cJ2_checkIndex_2214a 5 = .ok (.invokestatic 414, 3) := by decide +kernel
theorem dJ2_checkIndex_2214a_8 : decode cJ2_checkIndex_2214a 8 = .ok (.return_, 1) := by decide +kernel
theorem dJ7_fill_53178_0 : decode cJ7_fill_53178 0 = .ok (.iconst 0, 1) := by decide +kernel
theorem dJ7_fill_53178_1 : decode cJ7_fill_53178 1 = .ok (.istore_n 2, 1) := by decide +kernel
theorem dJ7_fill_53178_2 : decode cJ7_fill_53178 2 = .ok (.aload_n 0, 1) := by decide +kernel
theorem dJ7_fill_53178_3 : decode cJ7_fill_53178 3 = .ok (.arraylength, 1) := by decide +kernel
theorem dJ7_fill_53178_4 : decode cJ7_fill_53178 4 = .ok (.istore_n 3, 1) := by decide +kernel
theorem dJ7_fill_53178_5 : decode cJ7_fill_53178 5 = .ok (.iload_n 2, 1) := by decide +kernel
theorem dJ7_fill_53178_6 : decode cJ7_fill_53178 6 = .ok (.iload_n 3, 1) := by decide +kernel
theorem dJ7_fill_53178_7 : decode cJ7_fill_53178 7 = .ok (.if_icmp .ge 13, 3) := by decide +kernel
theorem dJ7_fill_53178_10 : decode cJ7_fill_53178 10 = .ok (.aload_n 0, 1) := by decide +kernel
theorem dJ7_fill_53178_11 : decode cJ7_fill_53178 11 = .ok (.iload_n 2, 1) := by decide +kernel
theorem dJ7_fill_53178_12 : decode cJ7_fill_53178 12 = .ok (.iload_n 1, 1) := by decide +kernel
theorem dJ7_fill_53178_13 : decode cJ7_fill_53178 13 = .ok (.iastore, 1) := by decide +kernel
theorem dJ7_fill_53178_14 : decode cJ7_fill_53178 14 = .ok (.iinc 2 1, 3) := by decide +kernel
theorem dJ7_fill_53178_17 : decode cJ7_fill_53178 17 = .ok (.goto (-12), 3) := by decide +kernel
theorem dJ7_fill_53178_20 : decode cJ7_fill_53178 20 = .ok (.return_, 1) := by decide +kernel
theorem dJ7_copyOf_59c91_0 : decode cJ7_copyOf_59c91 0 = .ok (.iload_n 1, 1) := by decide +kernel
theorem dJ7_copyOf_59c91_1 : decode cJ7_copyOf_59c91 1 = .ok (.aload_n 0, 1) := by decide +kernel
theorem dJ7_copyOf_59c91_2 : decode cJ7_copyOf_59c91 2 = .ok (.arraylength, 1) := by decide +kernel
theorem dJ7_copyOf_59c91_3 : decode cJ7_copyOf_59c91 3 = .ok (.if_icmp .ne 11, 3) := by decide +kernel
theorem dJ7_copyOf_59c91_6 : decode cJ7_copyOf_59c91 6 = .ok (.aload_n 0, 1) := by decide +kernel
theorem dJ7_copyOf_59c91_7 : decode cJ7_copyOf_59c91 7 = .ok (.invokevirtual 316, 3) := by decide +kernel
theorem dJ7_copyOf_59c91_10 : decode cJ7_copyOf_59c91 10 = .ok (.checkcast 317, 3) := by decide +kernel
theorem dJ7_copyOf_59c91_13 : decode cJ7_copyOf_59c91 13 = .ok (.areturn, 1) := by decide +kernel
theorem dJ7_copyOf_59c91_14 : decode cJ7_copyOf_59c91 14 = .ok (.iload_n 1, 1) := by decide +kernel
theorem dJ7_copyOf_59c91_15 : decode cJ7_copyOf_59c91 15 = .ok (.newarray .int, 2) := by decide +kernel
theorem dJ7_copyOf_59c91_17 : decode cJ7_copyOf_59c91 17 = .ok (.astore_n 2, 1) := by decide +kernel
theorem dJ7_copyOf_59c91_18 : decode cJ7_copyOf_59c91 18 = .ok (.aload_n 0, 1) := by decide +kernel
theorem dJ7_copyOf_59c91_19 : decode cJ7_copyOf_59c91 19 = .ok (.iconst 0, 1) := by decide +kernel
theorem dJ7_copyOf_59c91_20 : decode cJ7_copyOf_59c91 20 = .ok (.aload_n 2, 1) := by decide +kernel
theorem dJ7_copyOf_59c91_21 : decode cJ7_copyOf_59c91 21 = .ok (.iconst 0, 1) := by decide +kernel
theorem dJ7_copyOf_59c91_22 : decode cJ7_copyOf_59c91 22 = .ok (.aload_n 0, 1) := by decide +kernel
theorem dJ7_copyOf_59c91_23 : decode cJ7_copyOf_59c91 23 = .ok (.arraylength, 1) := by decide +kernel
theorem dJ7_copyOf_59c91_24 : decode cJ7_copyOf_59c91 24 = .ok (.iload_n 1, 1) := by decide +kernel
theorem dJ7_copyOf_59c91_25 : decode cJ7_copyOf_59c91 25 = .ok (.invokestatic 304, 3) := by decide +kernel
theorem dJ7_copyOf_59c91_28 : decode cJ7_copyOf_59c91 28 = .ok (.invokestatic 150, 3) := by decide +kernel
theorem dJ7_copyOf_59c91_31 : decode cJ7_copyOf_59c91 31 = .ok (.aload_n 2, 1) := by decide +kernel
theorem dJ7_copyOf_59c91_32 : decode cJ7_copyOf_59c91 32 = .ok (.areturn, 1) := by decide +kernel
theorem dJ3_checkIndex_8e157_0 : decode cJ3_checkIndex_8e157 0 = .ok (.iload_n 0, 1) := by decide +kernel
theorem dJ3_checkIndex_8e157_1 : decode cJ3_checkIndex_8e157 1 = .ok (.ifCond .lt 8, 3) := by decide +kernel
theorem dJ3_checkIndex_8e157_4 : decode cJ3_checkIndex_8e157 4 = .ok (.iload_n 0, 1) := by decide +kernel
theorem dJ3_checkIndex_8e157_5 : decode cJ3_checkIndex_8e157 5 = .ok (.iload_n 1, 1) := by decide +kernel
theorem dJ3_checkIndex_8e157_6 : decode cJ3_checkIndex_8e157 6 = .ok (.if_icmp .lt 10, 3) := by decide +kernel
theorem dJ3_checkIndex_8e157_9 : decode cJ3_checkIndex_8e157 9 = .ok (.aload_n 2, 1) := by decide +kernel
theorem dJ3_checkIndex_8e157_10 : decode cJ3_checkIndex_8e157 10 = .ok (.iload_n 0, 1) := by decide +kernel
theorem dJ3_checkIndex_8e157_11 : decode cJ3_checkIndex_8e157 11 = .ok (.iload_n 1, 1) := by decide +kernel
theorem dJ3_checkIndex_8e157_12 : decode cJ3_checkIndex_8e157 12 = .ok (.invokestatic 95, 3) := by decide +kernel
theorem dJ3_checkIndex_8e157_15 : decode cJ3_checkIndex_8e157 15 = .ok (.athrow, 1) := by decide +kernel
theorem dJ3_checkIndex_8e157_16 : decode cJ3_checkIndex_8e157 16 = .ok (.iload_n 0, 1) := by decide +kernel
theorem dJ3_checkIndex_8e157_17 : decode cJ3_checkIndex_8e157 17 = .ok (.ireturn, 1) := by decide +kernel
