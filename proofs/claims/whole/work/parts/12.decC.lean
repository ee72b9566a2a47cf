theorem dX0_init_0 : decode cX0_init 0 = .ok (.aload_n 0, 1) := by decide +kernel
theorem dX0_init_1 : decode cX0_init 1 = .ok (.invokespecial 3, 3) := by decide +kernel
theorem dX0_init_4 : decode cX0_init 4 = .ok (.aload_n 0, 1) := by decide +kernel
theorem dX0_init_5 : decode cX0_init 5 = .ok (.bipush 8, 2) := by decide +kernel
theorem dX0_init_7 : decode cX0_init 7 = .ok (.newarray .int, 2) := by decide +kernel
theorem dX0_init_9 : decode cX0_init 9 = .ok (.putfield 9, 3) := by decide +kernel
theorem dX0_init_12 : decode cX0_init 12 = .ok (.aload_n 0, 1) := by decide +kernel
theorem dX0_init_13 : decode cX0_init 13 = .ok (.bipush 8, 2) := by decide +kernel
theorem dX0_init_15 : decode cX0_init 15 = .ok (.newarray .int, 2) := by decide +kernel
theorem dX0_init_17 : decode cX0_init 17 = .ok (.putfield 15, 3) := by decide +kernel
theorem dX0_init_20 : decode cX0_init 20 = .ok (.aload_n 0, 1) := by decide +kernel
theorem dX0_init_21 : decode cX0_init 21 = .ok (.bipush 8, 2) := by decide +kernel
theorem dX0_init_23 : decode cX0_init 23 = .ok (.newarray .int, 2) := by decide +kernel
theorem dX0_init_25 : decode cX0_init 25 = .ok (.putfield 18, 3) := by decide +kernel
theorem dX0_init_28 : decode cX0_init 28 = .ok (.aload_n 0, 1) := by decide +kernel
theorem dX0_init_29 : decode cX0_init 29 = .ok (.bipush 26, 2) := by decide +kernel
theorem dX0_init_31 : decode cX0_init 31 = .ok (.newarray .int, 2) := by decide +kernel
theorem dX0_init_33 : decode cX0_init 33 = .ok (.putfield 21, 3) := by decide +kernel
theorem dX0_init_36 : decode cX0_init 36 = .ok (.return_, 1) := by decide +kernel
theorem dX0_add_0 : decode cX0_add 0 = .ok (.aload_n 0, 1) := by decide +kernel
theorem dX0_add_1 : decode cX0_add 1 = .ok (.getfield 24, 3) := by decide +kernel
theorem dX0_add_4 : decode cX0_add 4 = .ok (.bipush 8, 2) := by decide +kernel
theorem dX0_add_6 : decode cX0_add 6 = .ok (.if_icmp .lt 5, 3) := by decide +kernel
theorem dX0_add_9 : decode cX0_add 9 = .ok (.iconst 0, 1) := by decide +kernel
theorem dX0_add_10 : decode cX0_add 10 = .ok (.ireturn, 1) := by decide +kernel
theorem dX0_add_11 : decode cX0_add 11 = .ok (.aload_n 0, 1) := by decide +kernel
theorem dX0_add_12 : decode cX0_add 12 = .ok (.getfield 9, 3) := by decide +kernel
theorem dX0_add_15 : decode cX0_add 15 = .ok (.aload_n 0, 1) := by decide +kernel
theorem dX0_add_16 : decode cX0_add 16 = .ok (.getfield 24, 3) := by decide +kernel
theorem dX0_add_19 : decode cX0_add 19 = .ok (.iload_n 1, 1) := by decide +kernel
theorem dX0_add_20 : decode cX0_add 20 = .ok (.iastore, 1) := by decide +kernel
theorem dX0_add_21 : decode cX0_add 21 = .ok (.aload_n 0, 1) := by decide +kernel
theorem dX0_add_22 : decode cX0_add 22 = .ok (.getfield 15, 3) := by decide +kernel
theorem dX0_add_25 : decode cX0_add 25 = .ok (.aload_n 0, 1) := by decide +kernel
theorem dX0_add_26 : decode cX0_add 26 = .ok (.getfield 24, 3) := by decide +kernel
theorem dX0_add_29 : decode cX0_add 29 = .ok (.iload_n 2, 1) := by decide +kernel
theorem dX0_add_30 : decode cX0_add 30 = .ok (.iastore, 1) := by decide +kernel
theorem dX0_add_31 : decode cX0_add 31 = .ok (.aload_n 0, 1) := by decide +kernel
theorem dX0_add_32 : decode cX0_add 32 = .ok (.getfield 18, 3) := by decide +kernel
theorem dX0_add_35 : decode cX0_add 35 = .ok (.aload_n 0, 1) := by decide +kernel
theorem dX0_add_36 : decode cX0_add 36 = .ok (.getfield 24, 3) := by decide +kernel
theorem dX0_add_39 : decode cX0_add 39 = .ok (.iload_n 3, 1) := by decide +kernel
theorem dX0_add_40 : decode cX0_add 40 = .ok (.iastore, 1) := by decide +kernel
theorem dX0_add_41 : decode cX0_add 41 = .ok (.aload_n 0, 1) := by decide +kernel
theorem dX0_add_42 : decode cX0_add 42 = .ok (.dup, 1) := by decide +kernel
theorem dX0_add_43 : decode cX0_add 43 = .ok (.getfield 24, 3) := by decide +kernel
theorem dX0_add_46 : decode cX0_add 46 = .ok (.iconst 1, 1) := by decide +kernel
theorem dX0_add_47 : decode cX0_add 47 = .ok (.iadd, 1) := by decide +kernel
theorem dX0_add_48 : decode cX0_add 48 = .ok (.putfield 24, 3) := by decide +kernel
theorem dX0_add_51 : decode cX0_add 51 = .ok (.iconst 1, 1) := by decide +kernel
theorem dX0_add_52 : decode cX0_add 52 = .ok (.ireturn, 1) := by decide +kernel
theorem dX0_becomeLike_0 : decode cX0_becomeLike 0 = .ok (.aload_n 0, 1) := by decide +kernel
theorem dX0_becomeLike_1 : decode cX0_becomeLike 1 = .ok (.aload_n 1, 1) := by decide +kernel
theorem dX0_becomeLike_2 : decode cX0_becomeLike 2 = .ok (.getfield 24, 3) := by decide +kernel
theorem dX0_becomeLike_5 : decode cX0_becomeLike 5 = .ok (.putfield 24, 3) := by decide +kernel
theorem dX0_becomeLike_8 : decode cX0_becomeLike 8 = .ok (.aload_n 1, 1) := by decide +kernel
theorem dX0_becomeLike_9 : decode cX0_becomeLike 9 = .ok (.getfield 9, 3) := by decide +kernel
theorem dX0_becomeLike_12 : decode cX0_becomeLike 12 = .ok (.iconst 0, 1) := by decide +kernel
theorem dX0_becomeLike_13 : decode cX0_becomeLike 13 = .ok (.aload_n 0, 1) := by decide +kernel
theorem dX0_becomeLike_14 : decode cX0_becomeLike 14 = .ok (.getfield 9, 3) := by decide +kernel
theorem dX0_becomeLike_17 : decode cX0_becomeLike 17 = .ok (.iconst 0, 1) := by decide +kernel
theorem dX0_becomeLike_18 : decode cX0_becomeLike 18 = .ok (.aload_n 0, 1) := by decide +kernel
theorem dX0_becomeLike_19 : decode cX0_becomeLike 19 = .ok (.getfield 24, 3) := by decide +kernel
theorem dX0_becomeLike_22 : decode cX0_becomeLike 22 = .ok (.invokestatic 28, 3) := by decide +kernel
theorem dX0_becomeLike_25 : decode cX0_becomeLike 25 = .ok (.aload_n 1, 1) := by decide +kernel
theorem dX0_becomeLike_26 : decode cX0_becomeLike 26 = .ok (.getfield 15, 3) := by decide +kernel
theorem dX0_becomeLike_29 : decode cX0_becomeLike 29 = .ok (.iconst 0, 1) := by decide +kernel
theorem dX0_becomeLike_30 : decode cX0_becomeLike 30 = .ok (.aload_n 0, 1) := by decide +kernel
theorem dX0_becomeLike_31 : decode cX0_becomeLike 31 = .ok (.getfield 15, 3) := by decide +kernel
theorem dX0_becomeLike_34 : decode cX0_becomeLike 34 = .ok (.iconst 0, 1) := by decide +kernel
theorem dX0_becomeLike_35 : decode cX0_becomeLike 35 = .ok (.aload_n 0, 1) := by decide +kernel
theorem dX0_becomeLike_36 : decode cX0_becomeLike 36 = .ok (.getfield 24, 3) := by decide +kernel
theorem dX0_becomeLike_39 : decode cX0_becomeLike 39 = .ok (.invokestatic 28, 3) := by decide +kernel
theorem dX0_becomeLike_42 : decode cX0_becomeLike 42 = .ok (.aload_n 1, 1) := by decide +kernel
theorem dX0_becomeLike_43 : decode cX0_becomeLike 43 = .ok (.getfield 18, 3) := by decide +kernel
theorem dX0_becomeLike_46 : decode cX0_becomeLike 46 = .ok (.iconst 0, 1) := by decide +kernel
theorem dX0_becomeLike_47 : decode cX0_becomeLike 47 = .ok (.aload_n 0, 1) := by decide +kernel
theorem dX0_becomeLike_48 : decode cX0_becomeLike 48 = .ok (.getfield 18, 3) := by decide +kernel
theorem dX0_becomeLike_51 : decode cX0_becomeLike 51 = .ok (.iconst 0, 1) := by decide +kernel
theorem dX0_becomeLike_52 : decode cX0_becomeLike 52 = .ok (.aload_n 0, 1) := by decide +kernel
theorem dX0_becomeLike_53 : decode cX0_becomeLike 53 = .ok (.getfield 24, 3) := by decide +kernel
theorem dX0_becomeLike_56 : decode cX0_becomeLike 56 = .ok (.invokestatic 28, 3) := by decide +kernel
theorem dX0_becomeLike_59 : decode cX0_becomeLike 59 = .ok (.return_, 1) := by decide +kernel
theorem dX0_sound_0 : decode cX0_sound 0 = .ok (.aload_n 0, 1) := by decide +kernel
theorem dX0_sound_1 : decode cX0_sound 1 = .ok (.getfield 21, 3) := by decide +kernel
theorem dX0_sound_4 : decode cX0_sound 4 = .ok (.iconst 0, 1) := by decide +kernel
theorem dX0_sound_5 : decode cX0_sound 5 = .ok (.invokestatic 34, 3) := by decide +kernel
theorem dX0_sound_8 : decode cX0_sound 8 = .ok (.iconst 0, 1) := by decide +kernel
theorem dX0_sound_9 : decode cX0_sound 9 = .ok (.istore_n 2, 1) := by decide +kernel
theorem dX0_sound_10 : decode cX0_sound 10 = .ok (.iload_n 2, 1) := by decide +kernel
theorem dX0_sound_11 : decode cX0_sound 11 = .ok (.aload_n 0, 1) := by decide +kernel
theorem dX0_sound_12 : decode cX0_sound 12 = .ok (.getfield 24, 3) := by decide +kernel
theorem dX0_sound_15 : decode cX0_sound 15 = .ok (.if_icmp .ge 80, 3) := by decide +kernel
theorem dX0_sound_18 : decode cX0_sound 18 = .ok (.aload_n 1, 1) := by decide +kernel
theorem dX0_sound_19 : decode cX0_sound 19 = .ok (.getfield 40, 3) := by decide +kernel
theorem dX0_sound_22 : decode cX0_sound 22 = .ok (.aload_n 0, 1) := by decide +kernel
theorem dX0_sound_23 : decode cX0_sound 23 = .ok (.getfield 9, 3) := by decide +kernel
theorem dX0_sound_26 : decode cX0_sound 26 = .ok (.iload_n 2, 1) := by decide +kernel
theorem dX0_sound_27 : decode cX0_sound 27 = .ok (.iaload, 1) := by decide +kernel
theorem dX0_sound_28 : decode cX0_sound 28 = .ok (.aaload, 1) := by decide +kernel
theorem dX0_sound_29 : decode cX0_sound 29 = .ok (.getfield 46, 3) := by decide +kernel
theorem dX0_sound_32 : decode cX0_sound 32 = .ok (.astore_n 3, 1) := by decide +kernel
theorem dX0_sound_33 : decode cX0_sound 33 = .ok (.iconst 0, 1) := by decide +kernel
theorem dX0_sound_34 : decode cX0_sound 34 = .ok (.istore 4, 2) := by decide +kernel
theorem dX0_sound_36 : decode cX0_sound 36 = .ok (.iload 4, 2) := by decide +kernel
theorem dX0_sound_38 : decode cX0_sound 38 = .ok (.aload_n 1, 1) := by decide +kernel
theorem dX0_sound_39 : decode cX0_sound 39 = .ok (.getfield 51, 3) := by decide +kernel
theorem dX0_sound_42 : decode cX0_sound 42 = .ok (.if_icmp .ge 47, 3) := by decide +kernel
theorem dX0_sound_45 : decode cX0_sound 45 = .ok (.aload_n 3, 1) := by decide +kernel
theorem dX0_sound_46 : decode cX0_sound 46 = .ok (.iload 4, 2) := by decide +kernel
theorem dX0_sound_48 : decode cX0_sound 48 = .ok (.iaload, 1) := by decide +kernel
theorem dX0_sound_49 : decode cX0_sound 49 = .ok (.iconst (-1), 1) := by decide +kernel
theorem dX0_sound_50 : decode cX0_sound 50 = .ok (.if_icmp .eq 33, 3) := by decide +kernel
theorem dX0_sound_53 : decode cX0_sound 53 = .ok (.aload_n 0, 1) := by decide +kernel
theorem dX0_sound_54 : decode cX0_sound 54 = .ok (.getfield 21, 3) := by decide +kernel
theorem dX0_sound_57 : decode cX0_sound 57 = .ok (.aload_n 0, 1) := by decide +kernel
theorem dX0_sound_58 : decode cX0_sound 58 = .ok (.getfield 15, 3) := by decide +kernel
theorem dX0_sound_61 : decode cX0_sound 61 = .ok (.iload_n 2, 1) := by decide +kernel
theorem dX0_sound_62 : decode cX0_sound 62 = .ok (.iaload, 1) := by decide +kernel
theorem dX0_sound_63 : decode cX0_sound 63 = .ok (.iload 4, 2) := by decide +kernel
theorem dX0_sound_65 : decode cX0_sound 65 = .ok (.iadd, 1) := by decide +kernel
theorem dX0_sound_66 : decode cX0_sound 66 = .ok (.dup2, 1) := by decide +kernel
theorem dX0_sound_67 : decode cX0_sound 67 = .ok (.iaload, 1) := by decide +kernel
theorem dX0_sound_68 : decode cX0_sound 68 = .ok (.iconst 1, 1) := by decide +kernel
theorem dX0_sound_69 : decode cX0_sound 69 = .ok (.aload_n 3, 1) := by decide +kernel
theorem dX0_sound_70 : decode cX0_sound 70 = .ok (.iload 4, 2) := by decide +kernel
theorem dX0_sound_72 : decode cX0_sound 72 = .ok (.iaload, 1) := by decide +kernel
theorem dX0_sound_73 : decode cX0_sound 73 = .ok (.aload_n 0, 1) := by decide +kernel
theorem dX0_sound_74 : decode cX0_sound 74 = .ok (.getfield 18, 3) := by decide +kernel
theorem dX0_sound_77 : decode cX0_sound 77 = .ok (.iload_n 2, 1) := by decide +kernel
theorem dX0_sound_78 : decode cX0_sound 78 = .ok (.iaload, 1) := by decide +kernel
theorem dX0_sound_79 : decode cX0_sound 79 = .ok (.iadd, 1) := by decide +kernel
theorem dX0_sound_80 : decode cX0_sound 80 = .ok (.ishl, 1) := by decide +kernel
theorem dX0_sound_81 : decode cX0_sound 81 = .ok (.ior, 1) := by decide +kernel
theorem dX0_sound_82 : decode cX0_sound 82 = .ok (.iastore, 1) := by decide +kernel
theorem dX0_sound_83 : decode cX0_sound 83 = .ok (.iinc 4 1, 3) := by decide +kernel
theorem dX0_sound_86 : decode cX0_sound 86 = .ok (.goto (-50), 3) := by decide +kernel
theorem dX0_sound_89 : decode cX0_sound 89 = .ok (.iinc 2 1, 3) := by decide +kernel
theorem dX0_sound_92 : decode cX0_sound 92 = .ok (.goto (-82), 3) := by decide +kernel
theorem dX0_sound_95 : decode cX0_sound 95 = .ok (.return_, 1) := by decide +kernel
theorem dX0_soundingMoments_0 : decode cX0_soundingMoments 0 = .ok (.iconst 0, 1) := by decide +kernel
theorem dX0_soundingMoments_1 : decode cX0_soundingMoments 1 = .ok (.istore_n 1, 1) := by decide +kernel
theorem dX0_soundingMoments_2 : decode cX0_soundingMoments 2 = .ok (.aload_n 0, 1) := by decide +kernel
theorem dX0_soundingMoments_3 : decode cX0_soundingMoments 3 = .ok (.getfield 21, 3) := by decide +kernel
theorem dX0_soundingMoments_6 : decode cX0_soundingMoments 6 = .ok (.astore_n 2, 1) := by decide +kernel
theorem dX0_soundingMoments_7 : decode cX0_soundingMoments 7 = .ok (.aload_n 2, 1) := by decide +kernel
theorem dX0_soundingMoments_8 : decode cX0_soundingMoments 8 = .ok (.arraylength, 1) := by decide +kernel
theorem dX0_soundingMoments_9 : decode cX0_soundingMoments 9 = .ok (.istore_n 3, 1) := by decide +kernel
theorem dX0_soundingMoments_10 : decode cX0_soundingMoments 10 = .ok (.iconst 0, 1) := by decide +kernel
theorem dX0_soundingMoments_11 : decode cX0_soundingMoments 11 = .ok (.istore 4, 2) := by decide +kernel
theorem dX0_soundingMoments_13 : decode cX0_soundingMoments 13 = .ok (.iload 4, 2) := by decide +kernel
theorem dX0_soundingMoments_15 : decode cX0_soundingMoments 15 = .ok (.iload_n 3, 1) := by decide +kernel
theorem dX0_soundingMoments_16 : decode cX0_soundingMoments 16 = .ok (.if_icmp .ge 23, 3) := by decide +kernel
theorem dX0_soundingMoments_19 : decode cX0_soundingMoments 19 = .ok (.aload_n 2, 1) := by decide +kernel
theorem dX0_soundingMoments_20 : decode cX0_soundingMoments 20 = .ok (.iload 4, 2) := by decide +kernel
theorem dX0_soundingMoments_22 : decode cX0_soundingMoments 22 = .ok (.iaload, 1) := by decide +kernel
theorem dX0_soundingMoments_23 : decode cX0_soundingMoments 23 = .ok (.istore 5, 2) := by decide +kernel
theorem dX0_soundingMoments_25 : decode cX0_soundingMoments 25 = .ok (.iload 5, 2) := by decide +kernel
theorem dX0_soundingMoments_27 : decode cX0_soundingMoments 27 = .ok (.ifCond .eq 6, 3) := by decide +kernel
theorem dX0_soundingMoments_30 : decode cX0_soundingMoments 30 = .ok (.iinc 1 1, 3) := by decide +kernel
theorem dX0_soundingMoments_33 : decode cX0_soundingMoments 33 = .ok (.iinc 4 1, 3) := by decide +kernel
theorem dX0_soundingMoments_36 : decode cX0_soundingMoments 36 = .ok (.goto (-23), 3) := by decide +kernel
theorem dX0_soundingMoments_39 : decode cX0_soundingMoments 39 = .ok (.iload_n 1, 1) := by decide +kernel
theorem dX0_soundingMoments_40 : decode cX0_soundingMoments 40 = .ok (.ireturn, 1) := by decide +kernel
theorem dX0_lastSounding_0 : decode cX0_lastSounding 0 = .ok (.bipush 25, 2) := by decide +kernel
theorem dX0_lastSounding_2 : decode cX0_lastSounding 2 = .ok (.istore_n 1, 1) := by decide +kernel
theorem dX0_lastSounding_3 : decode cX0_lastSounding 3 = .ok (.iload_n 1, 1) := by decide +kernel
theorem dX0_lastSounding_4 : decode cX0_lastSounding 4 = .ok (.ifCond .lt 20, 3) := by decide +kernel
theorem dX0_lastSounding_7 : decode cX0_lastSounding 7 = .ok (.aload_n 0, 1) := by decide +kernel
theorem dX0_lastSounding_8 : decode cX0_lastSounding 8 = .ok (.getfield 21, 3) := by decide +kernel
theorem dX0_lastSounding_11 : decode cX0_lastSounding 11 = .ok (.iload_n 1, 1) := by decide +kernel
theorem dX0_lastSounding_12 : decode cX0_lastSounding 12 = .ok (.iaload, 1) := by decide +kernel
theorem dX0_lastSounding_13 : decode cX0_lastSounding 13 = .ok (.ifCond .eq 5, 3) := by decide +kernel
theorem dX0_lastSounding_16 : decode cX0_lastSounding 16 = .ok (.iload_n 1, 1) := by decide +kernel
theorem dX0_lastSounding_17 : decode cX0_lastSounding 17 = .ok (.ireturn, 1) := by decide +kernel
theorem dX0_lastSounding_18 : decode cX0_lastSounding 18 = .ok (.iinc 1 (-1), 3) := by decide +kernel
theorem dX0_lastSounding_21 : decode cX0_lastSounding 21 = .ok (.goto (-18), 3) := by decide +kernel
theorem dX0_lastSounding_24 : decode cX0_lastSounding 24 = .ok (.bipush (-9), 2) := by decide +kernel
theorem dX0_lastSounding_26 : decode cX0_lastSounding 26 = .ok (.ireturn, 1) := by decide +kernel
theorem dX0_firstOfTwo_0 : decode cX0_firstOfTwo 0 = .ok (.iconst 0, 1) := by decide +kernel
theorem dX0_firstOfTwo_1 : decode cX0_firstOfTwo 1 = .ok (.istore_n 1, 1) := by decide +kernel
theorem dX0_firstOfTwo_2 : decode cX0_firstOfTwo 2 = .ok (.iload_n 1, 1) := by decide +kernel
theorem dX0_firstOfTwo_3 : decode cX0_firstOfTwo 3 = .ok (.bipush 25, 2) := by decide +kernel
theorem dX0_firstOfTwo_5 : decode cX0_firstOfTwo 5 = .ok (.if_icmp .gt 24, 3) := by decide +kernel
theorem dX0_firstOfTwo_8 : decode cX0_firstOfTwo 8 = .ok (.aload_n 0, 1) := by decide +kernel
theorem dX0_firstOfTwo_9 : decode cX0_firstOfTwo 9 = .ok (.getfield 21, 3) := by decide +kernel
theorem dX0_firstOfTwo_12 : decode cX0_firstOfTwo 12 = .ok (.iload_n 1, 1) := by decide +kernel
theorem dX0_firstOfTwo_13 : decode cX0_firstOfTwo 13 = .ok (.iaload, 1) := by decide +kernel
theorem dX0_firstOfTwo_14 : decode cX0_firstOfTwo 14 = .ok (.invokestatic 54, 3) := by decide +kernel
theorem dX0_firstOfTwo_17 : decode cX0_firstOfTwo 17 = .ok (.iconst 2, 1) := by decide +kernel
theorem dX0_firstOfTwo_18 : decode cX0_firstOfTwo 18 = .ok (.if_icmp .lt 5, 3) := by decide +kernel
theorem dX0_firstOfTwo_21 : decode cX0_firstOfTwo 21 = .ok (.iload_n 1, 1) := by decide +kernel
theorem dX0_firstOfTwo_22 : decode cX0_firstOfTwo 22 = .ok (.ireturn, 1) := by decide +kernel
theorem dX0_firstOfTwo_23 : decode cX0_firstOfTwo 23 = .ok (.iinc 1 1, 3) := by decide +kernel
theorem dX0_firstOfTwo_26 : decode cX0_firstOfTwo 26 = .ok (.goto (-24), 3) := by decide +kernel
theorem dX0_firstOfTwo_29 : decode cX0_firstOfTwo 29 = .ok (.bipush (-9), 2) := by decide +kernel
theorem dX0_firstOfTwo_31 : decode cX0_firstOfTwo 31 = .ok (.ireturn, 1) := by decide +kernel
theorem dX1_init_0 : decode cX1_init 0 = .ok (.aload_n 0, 1) := by decide +kernel
theorem dX1_init_1 : decode cX1_init 1 = .ok (.invokespecial 3, 3) := by decide +kernel
theorem dX1_init_4 : decode cX1_init 4 = .ok (.aload_n 0, 1) := by decide +kernel
theorem dX1_init_5 : decode cX1_init 5 = .ok (.bipush 6, 2) := by decide +kernel
theorem dX1_init_7 : decode cX1_init 7 = .ok (.newarray .int, 2) := by decide +kernel
theorem dX1_init_9 : decode cX1_init 9 = .ok (.putfield 9, 3) := by decide +kernel
theorem dX1_init_12 : decode cX1_init 12 = .ok (.return_, 1) := by decide +kernel
theorem dX1_freeBeats_0 : decode cX1_freeBeats 0 = .ok (.iconst 0, 1) := by decide +kernel
theorem dX1_freeBeats_1 : decode cX1_freeBeats 1 = .ok (.istore_n 2, 1) := by decide +kernel
theorem dX1_freeBeats_2 : decode cX1_freeBeats 2 = .ok (.iconst 0, 1) := by decide +kernel
theorem dX1_freeBeats_3 : decode cX1_freeBeats 3 = .ok (.istore_n 3, 1) := by decide +kernel
theorem dX1_freeBeats_4 : decode cX1_freeBeats 4 = .ok (.iload_n 3, 1) := by decide +kernel
theorem dX1_freeBeats_5 : decode cX1_freeBeats 5 = .ok (.iload_n 1, 1) := by decide +kernel
theorem dX1_freeBeats_6 : decode cX1_freeBeats 6 = .ok (.if_icmp .ge 22, 3) := by decide +kernel
theorem dX1_freeBeats_9 : decode cX1_freeBeats 9 = .ok (.aload_n 0, 1) := by decide +kernel
theorem dX1_freeBeats_10 : decode cX1_freeBeats 10 = .ok (.getfield 9, 3) := by decide +kernel
theorem dX1_freeBeats_13 : decode cX1_freeBeats 13 = .ok (.iload_n 3, 1) := by decide +kernel
theorem dX1_freeBeats_14 : decode cX1_freeBeats 14 = .ok (.iaload, 1) := by decide +kernel
theorem dX1_freeBeats_15 : decode cX1_freeBeats 15 = .ok (.iconst (-1), 1) := by decide +kernel
theorem dX1_freeBeats_16 : decode cX1_freeBeats 16 = .ok (.if_icmp .ne 6, 3) := by decide +kernel
theorem dX1_freeBeats_19 : decode cX1_freeBeats 19 = .ok (.iinc 2 1, 3) := by decide +kernel
theorem dX1_freeBeats_22 : decode cX1_freeBeats 22 = .ok (.iinc 3 1, 3) := by decide +kernel
theorem dX1_freeBeats_25 : decode cX1_freeBeats 25 = .ok (.goto (-21), 3) := by decide +kernel
theorem dX1_freeBeats_28 : decode cX1_freeBeats 28 = .ok (.iload_n 2, 1) := by decide +kernel
theorem dX1_freeBeats_29 : decode cX1_freeBeats 29 = .ok (.ireturn, 1) := by decide +kernel
theorem dX1_counted_0 : decode cX1_counted 0 = .ok (.iload_n 1, 1) := by decide +kernel
theorem dX1_counted_1 : decode cX1_counted 1 = .ok (.ifCond .eq 7, 3) := by decide +kernel
theorem dX1_counted_4 : decode cX1_counted 4 = .ok (.iconst 1, 1) := by decide +kernel
theorem dX1_counted_5 : decode cX1_counted 5 = .ok (.goto 4, 3) := by decide +kernel
theorem dX1_counted_8 : decode cX1_counted 8 = .ok (.iconst 0, 1) := by decide +kernel
theorem dX1_counted_9 : decode cX1_counted 9 = .ok (.istore_n 3, 1) := by decide +kernel
theorem dX1_counted_10 : decode cX1_counted 10 = .ok (.iload_n 1, 1) := by decide +kernel
theorem dX1_counted_11 : decode cX1_counted 11 = .ok (.ifCond .ne 7, 3) := by decide +kernel
theorem dX1_counted_14 : decode cX1_counted 14 = .ok (.iload_n 2, 1) := by decide +kernel
theorem dX1_counted_15 : decode cX1_counted 15 = .ok (.ifCond .eq 7, 3) := by decide +kernel
theorem dX1_counted_18 : decode cX1_counted 18 = .ok (.iconst 1, 1) := by decide +kernel
theorem dX1_counted_19 : decode cX1_counted 19 = .ok (.goto 4, 3) := by decide +kernel
theorem dX1_counted_22 : decode cX1_counted 22 = .ok (.iconst 0, 1) := by decide +kernel
theorem dX1_counted_23 : decode cX1_counted 23 = .ok (.istore 4, 2) := by decide +kernel
theorem dX1_counted_25 : decode cX1_counted 25 = .ok (.aload_n 0, 1) := by decide +kernel
theorem dX1_counted_26 : decode cX1_counted 26 = .ok (.getfield 15, 3) := by decide +kernel
theorem dX1_counted_29 : decode cX1_counted 29 = .ok (.ifCond .ne 5, 3) := by decide +kernel
theorem dX1_counted_32 : decode cX1_counted 32 = .ok (.iload_n 3, 1) := by decide +kernel
theorem dX1_counted_33 : decode cX1_counted 33 = .ok (.ireturn, 1) := by decide +kernel
theorem dX1_counted_34 : decode cX1_counted 34 = .ok (.aload_n 0, 1) := by decide +kernel
theorem dX1_counted_35 : decode cX1_counted 35 = .ok (.getfield 15, 3) := by decide +kernel
theorem dX1_counted_38 : decode cX1_counted 38 = .ok (.iconst 1, 1) := by decide +kernel
theorem dX1_counted_39 : decode cX1_counted 39 = .ok (.if_icmp .ne 8, 3) := by decide +kernel
theorem dX1_counted_42 : decode cX1_counted 42 = .ok (.iload 4, 2) := by decide +kernel
theorem dX1_counted_44 : decode cX1_counted 44 = .ok (.goto 7, 3) := by decide +kernel
theorem dX1_counted_47 : decode cX1_counted 47 = .ok (.iload 4, 2) := by decide +kernel
theorem dX1_counted_49 : decode cX1_counted 49 = .ok (.iload_n 3, 1) := by decide +kernel
theorem dX1_counted_50 : decode cX1_counted 50 = .ok (.iadd, 1) := by decide +kernel
theorem dX1_counted_51 : decode cX1_counted 51 = .ok (.ireturn, 1) := by decide +kernel
theorem dX2_init_0 : decode cX2_init 0 = .ok (.aload_n 0, 1) := by decide +kernel
theorem dX2_init_1 : decode cX2_init 1 = .ok (.invokespecial 3, 3) := by decide +kernel
theorem dX2_init_4 : decode cX2_init 4 = .ok (.aload_n 0, 1) := by decide +kernel
theorem dX2_init_5 : decode cX2_init 5 = .ok (.iconst 4, 1) := by decide +kernel
theorem dX2_init_6 : decode cX2_init 6 = .ok (.anewarray 9, 3) := by decide +kernel
theorem dX2_init_9 : decode cX2_init 9 = .ok (.putfield 11, 3) := by decide +kernel
theorem dX2_init_12 : decode cX2_init 12 = .ok (.iconst 0, 1) := by decide +kernel
theorem dX2_init_13 : decode cX2_init 13 = .ok (.istore_n 1, 1) := by decide +kernel
theorem dX2_init_14 : decode cX2_init 14 = .ok (.iload_n 1, 1) := by decide +kernel
theorem dX2_init_15 : decode cX2_init 15 = .ok (.iconst 4, 1) := by decide +kernel
theorem dX2_init_16 : decode cX2_init 16 = .ok (.if_icmp .ge 22, 3) := by decide +kernel
theorem dX2_init_19 : decode cX2_init 19 = .ok (.aload_n 0, 1) := by decide +kernel
theorem dX2_init_20 : decode cX2_init 20 = .ok (.getfield 11, 3) := by decide +kernel
theorem dX2_init_23 : decode cX2_init 23 = .ok (.iload_n 1, 1) := by decide +kernel
theorem dX2_init_24 : decode cX2_init 24 = .ok (.new 9, 3) := by decide +kernel
theorem dX2_init_27 : decode cX2_init 27 = .ok (.dup, 1) := by decide +kernel
theorem dX2_init_28 : decode cX2_init 28 = .ok (.invokespecial 17, 3) := by decide +kernel
theorem dX2_init_31 : decode cX2_init 31 = .ok (.aastore, 1) := by decide +kernel
theorem dX2_init_32 : decode cX2_init 32 = .ok (.iinc 1 1, 3) := by decide +kernel
theorem dX2_init_35 : decode cX2_init 35 = .ok (.goto (-21), 3) := by decide +kernel
theorem dX2_init_38 : decode cX2_init 38 = .ok (.return_, 1) := by decide +kernel
theorem dX2_has_0 : decode cX2_has 0 = .ok (.iload_n 1, 1) := by decide +kernel
theorem dX2_has_1 : decode cX2_has 1 = .ok (.iconst 0, 1) := by decide +kernel
theorem dX2_has_2 : decode cX2_has 2 = .ok (.aload_n 0, 1) := by decide +kernel
theorem dX2_has_3 : decode cX2_has 3 = .ok (.getfield 18, 3) := by decide +kernel
theorem dX2_has_6 : decode cX2_has 6 = .ok (.iconst 1, 1) := by decide +kernel
theorem dX2_has_7 : decode cX2_has 7 = .ok (.isub, 1) := by decide +kernel
theorem dX2_has_8 : decode cX2_has 8 = .ok (.invokestatic 22, 3) := by decide +kernel
theorem dX2_has_11 : decode cX2_has 11 = .ok (.ireturn, 1) := by decide +kernel
theorem dX2_hasBeat_0 : decode cX2_hasBeat 0 = .ok (.iload_n 1, 1) := by decide +kernel
theorem dX2_hasBeat_1 : decode cX2_hasBeat 1 = .ok (.iconst 0, 1) := by decide +kernel
theorem dX2_hasBeat_2 : decode cX2_hasBeat 2 = .ok (.aload_n 0, 1) := by decide +kernel
theorem dX2_hasBeat_3 : decode cX2_hasBeat 3 = .ok (.getfield 26, 3) := by decide +kernel
theorem dX2_hasBeat_6 : decode cX2_hasBeat 6 = .ok (.iconst 1, 1) := by decide +kernel
theorem dX2_hasBeat_7 : decode cX2_hasBeat 7 = .ok (.isub, 1) := by decide +kernel
theorem dX2_hasBeat_8 : decode cX2_hasBeat 8 = .ok (.invokestatic 22, 3) := by decide +kernel
theorem dX2_hasBeat_11 : decode cX2_hasBeat 11 = .ok (.ireturn, 1) := by decide +kernel
theorem dX2_freeBeatsOfAll_0 : decode cX2_freeBeatsOfAll 0 = .ok (.iconst 0, 1) := by decide +kernel
theorem dX2_freeBeatsOfAll_1 : decode cX2_freeBeatsOfAll 1 = .ok (.istore_n 1, 1) := by decide +kernel
theorem dX2_freeBeatsOfAll_2 : decode cX2_freeBeatsOfAll 2 = .ok (.iconst 0, 1) := by decide +kernel
theorem dX2_freeBeatsOfAll_3 : decode cX2_freeBeatsOfAll 3 = .ok (.istore_n 2, 1) := by decide +kernel
theorem dX2_freeBeatsOfAll_4 : decode cX2_freeBeatsOfAll 4 = .ok (.iload_n 2, 1) := by decide +kernel
theorem dX2_freeBeatsOfAll_5 : decode cX2_freeBeatsOfAll 5 = .ok (.aload_n 0, 1) := by decide +kernel
theorem dX2_freeBeatsOfAll_6 : decode cX2_freeBeatsOfAll 6 = .ok (.getfield 18, 3) := by decide +kernel
theorem dX2_freeBeatsOfAll_9 : decode cX2_freeBeatsOfAll 9 = .ok (.if_icmp .ge 25, 3) := by decide +kernel
theorem dX2_freeBeatsOfAll_12 : decode cX2_freeBeatsOfAll 12 = .ok (.iload_n 1, 1) := by decide +kernel
theorem dX2_freeBeatsOfAll_13 : decode cX2_freeBeatsOfAll 13 = .ok (.aload_n 0, 1) := by decide +kernel
theorem dX2_freeBeatsOfAll_14 : decode cX2_freeBeatsOfAll 14 = .ok (.getfield 11, 3) := by decide +kernel
theorem dX2_freeBeatsOfAll_17 : decode cX2_freeBeatsOfAll 17 = .ok (.iload_n 2, 1) := by decide +kernel
theorem dX2_freeBeatsOfAll_18 : decode cX2_freeBeatsOfAll 18 = .ok (.aaload, 1) := by decide +kernel
theorem dX2_freeBeatsOfAll_19 : decode cX2_freeBeatsOfAll 19 = .ok (.aload_n 0, 1) := by decide +kernel
theorem dX2_freeBeatsOfAll_20 : decode cX2_freeBeatsOfAll 20 = .ok (.getfield 26, 3) := by decide +kernel
theorem dX2_freeBeatsOfAll_23 : decode cX2_freeBeatsOfAll 23 = .ok (.invokevirtual 29, 3) := by decide +kernel
theorem dX2_freeBeatsOfAll_26 : decode cX2_freeBeatsOfAll 26 = .ok (.iadd, 1) := by decide +kernel
theorem dX2_freeBeatsOfAll_27 : decode cX2_freeBeatsOfAll 27 = .ok (.istore_n 1, 1) := by decide +kernel
theorem dX2_freeBeatsOfAll_28 : decode cX2_freeBeatsOfAll 28 = .ok (.iinc 2 1, 3) := by decide +kernel
theorem dX2_freeBeatsOfAll_31 : decode cX2_freeBeatsOfAll 31 = .ok (.goto (-27), 3) := by decide +kernel
theorem dX2_freeBeatsOfAll_34 : decode cX2_freeBeatsOfAll 34 = .ok (.iload_n 1, 1) := by decide +kernel
theorem dX2_freeBeatsOfAll_35 : decode cX2_freeBeatsOfAll 35 = .ok (.ireturn, 1) := by decide +kernel
theorem dX2_take_0 : decode cX2_take 0 = .ok (.aload_n 0, 1) := by decide +kernel
theorem dX2_take_1 : decode cX2_take 1 = .ok (.aload_n 1, 1) := by decide +kernel
theorem dX2_take_2 : decode cX2_take 2 = .ok (.getfield 33, 3) := by decide +kernel
theorem dX2_take_5 : decode cX2_take 5 = .ok (.iload_n 2, 1) := by decide +kernel
theorem dX2_take_6 : decode cX2_take 6 = .ok (.iconst 1, 1) := by decide +kernel
theorem dX2_take_7 : decode cX2_take 7 = .ok (.iadd, 1) := by decide +kernel
theorem dX2_take_8 : decode cX2_take 8 = .ok (.iaload, 1) := by decide +kernel
theorem dX2_take_9 : decode cX2_take 9 = .ok (.bipush 48, 2) := by decide +kernel
theorem dX2_take_11 : decode cX2_take 11 = .ok (.isub, 1) := by decide +kernel
theorem dX2_take_12 : decode cX2_take 12 = .ok (.putfield 26, 3) := by decide +kernel
theorem dX2_take_15 : decode cX2_take 15 = .ok (.aload_n 0, 1) := by decide +kernel
theorem dX2_take_16 : decode cX2_take 16 = .ok (.iload_n 3, 1) := by decide +kernel
theorem dX2_take_17 : decode cX2_take 17 = .ok (.putfield 18, 3) := by decide +kernel
theorem dX2_take_20 : decode cX2_take 20 = .ok (.iload_n 2, 1) := by decide +kernel
theorem dX2_take_21 : decode cX2_take 21 = .ok (.iconst 2, 1) := by decide +kernel
theorem dX2_take_22 : decode cX2_take 22 = .ok (.iadd, 1) := by decide +kernel
theorem dX2_take_23 : decode cX2_take 23 = .ok (.istore 4, 2) := by decide +kernel
theorem dX2_take_25 : decode cX2_take 25 = .ok (.iconst 0, 1) := by decide +kernel
theorem dX2_take_26 : decode cX2_take 26 = .ok (.istore 5, 2) := by decide +kernel
theorem dX2_take_28 : decode cX2_take 28 = .ok (.iload 5, 2) := by decide +kernel
theorem dX2_take_30 : decode cX2_take 30 = .ok (.aload_n 0, 1) := by decide +kernel
theorem dX2_take_31 : decode cX2_take 31 = .ok (.getfield 18, 3) := by decide +kernel
theorem dX2_take_34 : decode cX2_take 34 = .ok (.if_icmp .ge 93, 3) := by decide +kernel
theorem dX2_take_37 : decode cX2_take 37 = .ok (.aload_n 0, 1) := by decide +kernel
theorem dX2_take_38 : decode cX2_take 38 = .ok (.getfield 11, 3) := by decide +kernel
theorem dX2_take_41 : decode cX2_take 41 = .ok (.iload 5, 2) := by decide +kernel
theorem dX2_take_43 : decode cX2_take 43 = .ok (.aaload, 1) := by decide +kernel
theorem dX2_take_44 : decode cX2_take 44 = .ok (.aload_n 1, 1) := by decide +kernel
theorem dX2_take_45 : decode cX2_take 45 = .ok (.getfield 33, 3) := by decide +kernel
theorem dX2_take_48 : decode cX2_take 48 = .ok (.iload 4, 2) := by decide +kernel
theorem dX2_take_50 : decode cX2_take 50 = .ok (.iconst 1, 1) := by decide +kernel
theorem dX2_take_51 : decode cX2_take 51 = .ok (.iadd, 1) := by decide +kernel
theorem dX2_take_52 : decode cX2_take 52 = .ok (.iaload, 1) := by decide +kernel
theorem dX2_take_53 : decode cX2_take 53 = .ok (.invokestatic 39, 3) := by decide +kernel
theorem dX2_take_56 : decode cX2_take 56 = .ok (.putfield 44, 3) := by decide +kernel
theorem dX2_take_59 : decode cX2_take 59 = .ok (.iinc 4 2, 3) := by decide +kernel
theorem dX2_take_62 : decode cX2_take 62 = .ok (.iconst 0, 1) := by decide +kernel
theorem dX2_take_63 : decode cX2_take 63 = .ok (.istore 6, 2) := by decide +kernel
theorem dX2_take_65 : decode cX2_take 65 = .ok (.iload 6, 2) := by decide +kernel
theorem dX2_take_67 : decode cX2_take 67 = .ok (.aload_n 0, 1) := by decide +kernel
theorem dX2_take_68 : decode cX2_take 68 = .ok (.getfield 26, 3) := by decide +kernel
theorem dX2_take_71 : decode cX2_take 71 = .ok (.if_icmp .ge 50, 3) := by decide +kernel
theorem dX2_take_74 : decode cX2_take 74 = .ok (.aload_n 1, 1) := by decide +kernel
theorem dX2_take_75 : decode cX2_take 75 = .ok (.getfield 33, 3) := by decide +kernel
theorem dX2_take_78 : decode cX2_take 78 = .ok (.iload 4, 2) := by decide +kernel
theorem dX2_take_80 : decode cX2_take 80 = .ok (.iaload, 1) := by decide +kernel
theorem dX2_take_81 : decode cX2_take 81 = .ok (.istore 7, 2) := by decide +kernel
theorem dX2_take_83 : decode cX2_take 83 = .ok (.aload_n 0, 1) := by decide +kernel
theorem dX2_take_84 : decode cX2_take 84 = .ok (.getfield 11, 3) := by decide +kernel
theorem dX2_take_87 : decode cX2_take 87 = .ok (.iload 5, 2) := by decide +kernel
theorem dX2_take_89 : decode cX2_take 89 = .ok (.aaload, 1) := by decide +kernel
theorem dX2_take_90 : decode cX2_take 90 = .ok (.getfield 47, 3) := by decide +kernel
theorem dX2_take_93 : decode cX2_take 93 = .ok (.iload 6, 2) := by decide +kernel
theorem dX2_take_95 : decode cX2_take 95 = .ok (.iload 7, 2) := by decide +kernel
theorem dX2_take_97 : decode cX2_take 97 = .ok (.bipush 45, 2) := by decide +kernel
theorem dX2_take_99 : decode cX2_take 99 = .ok (.if_icmp .ne 7, 3) := by decide +kernel
theorem dX2_take_102 : decode cX2_take 102 = .ok (.iconst (-1), 1) := by decide +kernel
theorem dX2_take_103 : decode cX2_take 103 = .ok (.goto 8, 3) := by decide +kernel
theorem dX2_take_106 : decode cX2_take 106 = .ok (.iload 7, 2) := by decide +kernel
theorem dX2_take_108 : decode cX2_take 108 = .ok (.bipush 48, 2) := by decide +kernel
theorem dX2_take_110 : decode cX2_take 110 = .ok (.isub, 1) := by decide +kernel
theorem dX2_take_111 : decode cX2_take 111 = .ok (.iastore, 1) := by decide +kernel
theorem dX2_take_112 : decode cX2_take 112 = .ok (.iinc 4 1, 3) := by decide +kernel
theorem dX2_take_115 : decode cX2_take 115 = .ok (.iinc 6 1, 3) := by decide +kernel
theorem dX2_take_118 : decode cX2_take 118 = .ok (.goto (-53), 3) := by decide +kernel
theorem dX2_take_121 : decode cX2_take 121 = .ok (.iinc 5 1, 3) := by decide +kernel
theorem dX2_take_124 : decode cX2_take 124 = .ok (.goto (-96), 3) := by decide +kernel
theorem dX2_take_127 : decode cX2_take 127 = .ok (.return_, 1) := by decide +kernel
theorem dX2_heard_0 : decode cX2_heard 0 = .ok (.aload_n 0, 1) := by decide +kernel
theorem dX2_heard_1 : decode cX2_heard 1 = .ok (.getfield 11, 3) := by decide +kernel
theorem dX2_heard_4 : decode cX2_heard 4 = .ok (.iload_n 1, 1) := by decide +kernel
theorem dX2_heard_5 : decode cX2_heard 5 = .ok (.aaload, 1) := by decide +kernel
theorem dX2_heard_6 : decode cX2_heard 6 = .ok (.astore 5, 2) := by decide +kernel
theorem dX2_heard_8 : decode cX2_heard 8 = .ok (.aload_n 0, 1) := by decide +kernel
theorem dX2_heard_9 : decode cX2_heard 9 = .ok (.getfield 11, 3) := by decide +kernel
theorem dX2_heard_12 : decode cX2_heard 12 = .ok (.iload_n 2, 1) := by decide +kernel
theorem dX2_heard_13 : decode cX2_heard 13 = .ok (.aaload, 1) := by decide +kernel
theorem dX2_heard_14 : decode cX2_heard 14 = .ok (.getfield 47, 3) := by decide +kernel
theorem dX2_heard_17 : decode cX2_heard 17 = .ok (.astore 6, 2) := by decide +kernel
theorem dX2_heard_19 : decode cX2_heard 19 = .ok (.iconst 0, 1) := by decide +kernel
theorem dX2_heard_20 : decode cX2_heard 20 = .ok (.istore 7, 2) := by decide +kernel
theorem dX2_heard_22 : decode cX2_heard 22 = .ok (.iconst 0, 1) := by decide +kernel
theorem dX2_heard_23 : decode cX2_heard 23 = .ok (.istore 8, 2) := by decide +kernel
theorem dX2_heard_25 : decode cX2_heard 25 = .ok (.iload 8, 2) := by decide +kernel
theorem dX2_heard_27 : decode cX2_heard 27 = .ok (.aload_n 0, 1) := by decide +kernel
theorem dX2_heard_28 : decode cX2_heard 28 = .ok (.getfield 26, 3) := by decide +kernel
theorem dX2_heard_31 : decode cX2_heard 31 = .ok (.if_icmp .ge 101, 3) := by decide +kernel
theorem dX2_heard_34 : decode cX2_heard 34 = .ok (.iload 8, 2) := by decide +kernel
theorem dX2_heard_36 : decode cX2_heard 36 = .ok (.iload_n 3, 1) := by decide +kernel
theorem dX2_heard_37 : decode cX2_heard 37 = .ok (.iadd, 1) := by decide +kernel
theorem dX2_heard_38 : decode cX2_heard 38 = .ok (.istore 9, 2) := by decide +kernel
theorem dX2_heard_40 : decode cX2_heard 40 = .ok (.aload_n 0, 1) := by decide +kernel
theorem dX2_heard_41 : decode cX2_heard 41 = .ok (.iload 9, 2) := by decide +kernel
theorem dX2_heard_43 : decode cX2_heard 43 = .ok (.invokevirtual 50, 3) := by decide +kernel
theorem dX2_heard_46 : decode cX2_heard 46 = .ok (.ifCond .eq 80, 3) := by decide +kernel
theorem dX2_heard_49 : decode cX2_heard 49 = .ok (.aload 6, 2) := by decide +kernel
theorem dX2_heard_51 : decode cX2_heard 51 = .ok (.iload 8, 2) := by decide +kernel
theorem dX2_heard_53 : decode cX2_heard 53 = .ok (.iaload, 1) := by decide +kernel
theorem dX2_heard_54 : decode cX2_heard 54 = .ok (.iconst (-1), 1) := by decide +kernel
theorem dX2_heard_55 : decode cX2_heard 55 = .ok (.if_icmp .eq 71, 3) := by decide +kernel
theorem dX2_heard_58 : decode cX2_heard 58 = .ok (.aload 5, 2) := by decide +kernel
theorem dX2_heard_60 : decode cX2_heard 60 = .ok (.getfield 47, 3) := by decide +kernel
theorem dX2_heard_63 : decode cX2_heard 63 = .ok (.iload 9, 2) := by decide +kernel
theorem dX2_heard_65 : decode cX2_heard 65 = .ok (.iaload, 1) := by decide +kernel
theorem dX2_heard_66 : decode cX2_heard 66 = .ok (.iconst (-1), 1) := by decide +kernel
theorem dX2_heard_67 : decode cX2_heard 67 = .ok (.if_icmp .eq 59, 3) := by decide +kernel
theorem dX2_heard_70 : decode cX2_heard 70 = .ok (.aload 5, 2) := by decide +kernel
theorem dX2_heard_72 : decode cX2_heard 72 = .ok (.getfield 47, 3) := by decide +kernel
theorem dX2_heard_75 : decode cX2_heard 75 = .ok (.iload 9, 2) := by decide +kernel
theorem dX2_heard_77 : decode cX2_heard 77 = .ok (.iaload, 1) := by decide +kernel
theorem dX2_heard_78 : decode cX2_heard 78 = .ok (.aload 6, 2) := by decide +kernel
theorem dX2_heard_80 : decode cX2_heard 80 = .ok (.iload 8, 2) := by decide +kernel
theorem dX2_heard_82 : decode cX2_heard 82 = .ok (.iaload, 1) := by decide +kernel
theorem dX2_heard_83 : decode cX2_heard 83 = .ok (.iload 4, 2) := by decide +kernel
theorem dX2_heard_85 : decode cX2_heard 85 = .ok (.iadd, 1) := by decide +kernel
theorem dX2_heard_86 : decode cX2_heard 86 = .ok (.isub, 1) := by decide +kernel
theorem dX2_heard_87 : decode cX2_heard 87 = .ok (.istore 10, 2) := by decide +kernel
theorem dX2_heard_89 : decode cX2_heard 89 = .ok (.iload 7, 2) := by decide +kernel
theorem dX2_heard_91 : decode cX2_heard 91 = .ok (.aload 5, 2) := by decide +kernel
theorem dX2_heard_93 : decode cX2_heard 93 = .ok (.iload 10, 2) := by decide +kernel
theorem dX2_heard_95 : decode cX2_heard 95 = .ok (.ifCond .ne 7, 3) := by decide +kernel
theorem dX2_heard_98 : decode cX2_heard 98 = .ok (.iconst 1, 1) := by decide +kernel
theorem dX2_heard_99 : decode cX2_heard 99 = .ok (.goto 4, 3) := by decide +kernel
theorem dX2_heard_102 : decode cX2_heard 102 = .ok (.iconst 0, 1) := by decide +kernel
theorem dX2_heard_103 : decode cX2_heard 103 = .ok (.iload 10, 2) := by decide +kernel
theorem dX2_heard_105 : decode cX2_heard 105 = .ok (.iconst 1, 1) := by decide +kernel
theorem dX2_heard_106 : decode cX2_heard 106 = .ok (.if_icmp .eq 9, 3) := by decide +kernel
theorem dX2_heard_109 : decode cX2_heard 109 = .ok (.iload 10, 2) := by decide +kernel
theorem dX2_heard_111 : decode cX2_heard 111 = .ok (.iconst (-1), 1) := by decide +kernel
theorem dX2_heard_112 : decode cX2_heard 112 = .ok (.if_icmp .ne 7, 3) := by decide +kernel
theorem dX2_heard_115 : decode cX2_heard 115 = .ok (.iconst 1, 1) := by decide +kernel
theorem dX2_heard_116 : decode cX2_heard 116 = .ok (.goto 4, 3) := by decide +kernel
theorem dX2_heard_119 : decode cX2_heard 119 = .ok (.iconst 0, 1) := by decide +kernel
theorem dX2_heard_120 : decode cX2_heard 120 = .ok (.invokevirtual 54, 3) := by decide +kernel
theorem dX2_heard_123 : decode cX2_heard 123 = .ok (.iadd, 1) := by decide +kernel
theorem dX2_heard_124 : decode cX2_heard 124 = .ok (.istore 7, 2) := by decide +kernel
theorem dX2_heard_126 : decode cX2_heard 126 = .ok (.iinc 8 1, 3) := by decide +kernel
theorem dX2_heard_129 : decode cX2_heard 129 = .ok (.goto (-104), 3) := by decide +kernel
theorem dX2_heard_132 : decode cX2_heard 132 = .ok (.iload 7, 2) := by decide +kernel
theorem dX2_heard_134 : decode cX2_heard 134 = .ok (.ireturn, 1) := by decide +kernel
theorem dX2_listened_0 : decode cX2_listened 0 = .ok (.aload_n 0, 1) := by decide +kernel
theorem dX2_listened_1 : decode cX2_listened 1 = .ok (.getfield 11, 3) := by decide +kernel
theorem dX2_listened_4 : decode cX2_listened 4 = .ok (.iload_n 1, 1) := by decide +kernel
theorem dX2_listened_5 : decode cX2_listened 5 = .ok (.aaload, 1) := by decide +kernel
theorem dX2_listened_6 : decode cX2_listened 6 = .ok (.astore 4, 2) := by decide +kernel
theorem dX2_listened_8 : decode cX2_listened 8 = .ok (.iconst 0, 1) := by decide +kernel
theorem dX2_listened_9 : decode cX2_listened 9 = .ok (.istore 5, 2) := by decide +kernel
theorem dX2_listened_11 : decode cX2_listened 11 = .ok (.iconst 0, 1) := by decide +kernel
theorem dX2_listened_12 : decode cX2_listened 12 = .ok (.istore 6, 2) := by decide +kernel
theorem dX2_listened_14 : decode cX2_listened 14 = .ok (.iload 6, 2) := by decide +kernel
theorem dX2_listened_16 : decode cX2_listened 16 = .ok (.aload_n 0, 1) := by decide +kernel
theorem dX2_listened_17 : decode cX2_listened 17 = .ok (.getfield 26, 3) := by decide +kernel
theorem dX2_listened_20 : decode cX2_listened 20 = .ok (.if_icmp .ge 95, 3) := by decide +kernel
theorem dX2_listened_23 : decode cX2_listened 23 = .ok (.iload_n 3, 1) := by decide +kernel
theorem dX2_listened_24 : decode cX2_listened 24 = .ok (.iload 6, 2) := by decide +kernel
theorem dX2_listened_26 : decode cX2_listened 26 = .ok (.iadd, 1) := by decide +kernel
theorem dX2_listened_27 : decode cX2_listened 27 = .ok (.bipush 25, 2) := by decide +kernel
theorem dX2_listened_29 : decode cX2_listened 29 = .ok (.if_icmp .gt 86, 3) := by decide +kernel
theorem dX2_listened_32 : decode cX2_listened 32 = .ok (.aload 4, 2) := by decide +kernel
theorem dX2_listened_34 : decode cX2_listened 34 = .ok (.getfield 47, 3) := by decide +kernel
theorem dX2_listened_37 : decode cX2_listened 37 = .ok (.iload 6, 2) := by decide +kernel
theorem dX2_listened_39 : decode cX2_listened 39 = .ok (.iaload, 1) := by decide +kernel
theorem dX2_listened_40 : decode cX2_listened 40 = .ok (.istore 7, 2) := by decide +kernel
theorem dX2_listened_42 : decode cX2_listened 42 = .ok (.iload 7, 2) := by decide +kernel
theorem dX2_listened_44 : decode cX2_listened 44 = .ok (.iconst (-1), 1) := by decide +kernel
theorem dX2_listened_45 : decode cX2_listened 45 = .ok (.if_icmp .eq 64, 3) := by decide +kernel
theorem dX2_listened_48 : decode cX2_listened 48 = .ok (.aload_n 2, 1) := by decide +kernel
theorem dX2_listened_49 : decode cX2_listened 49 = .ok (.iload_n 3, 1) := by decide +kernel
theorem dX2_listened_50 : decode cX2_listened 50 = .ok (.iload 6, 2) := by decide +kernel
theorem dX2_listened_52 : decode cX2_listened 52 = .ok (.iadd, 1) := by decide +kernel
theorem dX2_listened_53 : decode cX2_listened 53 = .ok (.iaload, 1) := by decide +kernel
theorem dX2_listened_54 : decode cX2_listened 54 = .ok (.istore 8, 2) := by decide +kernel
theorem dX2_listened_56 : decode cX2_listened 56 = .ok (.iload 8, 2) := by decide +kernel
theorem dX2_listened_58 : decode cX2_listened 58 = .ok (.iconst 1, 1) := by decide +kernel
theorem dX2_listened_59 : decode cX2_listened 59 = .ok (.ishl, 1) := by decide +kernel
theorem dX2_listened_60 : decode cX2_listened 60 = .ok (.iload 8, 2) := by decide +kernel
theorem dX2_listened_62 : decode cX2_listened 62 = .ok (.iconst 1, 1) := by decide +kernel
theorem dX2_listened_63 : decode cX2_listened 63 = .ok (.ishr, 1) := by decide +kernel
theorem dX2_listened_64 : decode cX2_listened 64 = .ok (.ior, 1) := by decide +kernel
theorem dX2_listened_65 : decode cX2_listened 65 = .ok (.istore 9, 2) := by decide +kernel
theorem dX2_listened_67 : decode cX2_listened 67 = .ok (.iload 5, 2) := by decide +kernel
theorem dX2_listened_69 : decode cX2_listened 69 = .ok (.aload 4, 2) := by decide +kernel
theorem dX2_listened_71 : decode cX2_listened 71 = .ok (.iload 8, 2) := by decide +kernel
theorem dX2_listened_73 : decode cX2_listened 73 = .ok (.iload 7, 2) := by decide +kernel
theorem dX2_listened_75 : decode cX2_listened 75 = .ok (.ishr, 1) := by decide +kernel
theorem dX2_listened_76 : decode cX2_listened 76 = .ok (.iconst 1, 1) := by decide +kernel
theorem dX2_listened_77 : decode cX2_listened 77 = .ok (.iand, 1) := by decide +kernel
theorem dX2_listened_78 : decode cX2_listened 78 = .ok (.iconst 1, 1) := by decide +kernel
theorem dX2_listened_79 : decode cX2_listened 79 = .ok (.if_icmp .ne 7, 3) := by decide +kernel
theorem dX2_listened_82 : decode cX2_listened 82 = .ok (.iconst 1, 1) := by decide +kernel
theorem dX2_listened_83 : decode cX2_listened 83 = .ok (.goto 4, 3) := by decide +kernel
theorem dX2_listened_86 : decode cX2_listened 86 = .ok (.iconst 0, 1) := by decide +kernel
theorem dX2_listened_87 : decode cX2_listened 87 = .ok (.iload 9, 2) := by decide +kernel
theorem dX2_listened_89 : decode cX2_listened 89 = .ok (.iload 7, 2) := by decide +kernel
theorem dX2_listened_91 : decode cX2_listened 91 = .ok (.ishr, 1) := by decide +kernel
theorem dX2_listened_92 : decode cX2_listened 92 = .ok (.iconst 1, 1) := by decide +kernel
theorem dX2_listened_93 : decode cX2_listened 93 = .ok (.iand, 1) := by decide +kernel
theorem dX2_listened_94 : decode cX2_listened 94 = .ok (.iconst 1, 1) := by decide +kernel
theorem dX2_listened_95 : decode cX2_listened 95 = .ok (.if_icmp .ne 7, 3) := by decide +kernel
theorem dX2_listened_98 : decode cX2_listened 98 = .ok (.iconst 1, 1) := by decide +kernel
theorem dX2_listened_99 : decode cX2_listened 99 = .ok (.goto 4, 3) := by decide +kernel
theorem dX2_listened_102 : decode cX2_listened 102 = .ok (.iconst 0, 1) := by decide +kernel
theorem dX2_listened_103 : decode cX2_listened 103 = .ok (.invokevirtual 54, 3) := by decide +kernel
theorem dX2_listened_106 : decode cX2_listened 106 = .ok (.iadd, 1) := by decide +kernel
theorem dX2_listened_107 : decode cX2_listened 107 = .ok (.istore 5, 2) := by decide +kernel
theorem dX2_listened_109 : decode cX2_listened 109 = .ok (.iinc 6 1, 3) := by decide +kernel
theorem dX2_listened_112 : decode cX2_listened 112 = .ok (.goto (-98), 3) := by decide +kernel
theorem dX2_listened_115 : decode cX2_listened 115 = .ok (.iload 5, 2) := by decide +kernel
theorem dX2_listened_117 : decode cX2_listened 117 = .ok (.ireturn, 1) := by decide +kernel
theorem dX2_loudestMoment_0 : decode cX2_loudestMoment 0 = .ok (.iconst (-1), 1) := by decide +kernel
theorem dX2_loudestMoment_1 : decode cX2_loudestMoment 1 = .ok (.istore_n 3, 1) := by decide +kernel
theorem dX2_loudestMoment_2 : decode cX2_loudestMoment 2 = .ok (.iconst 0, 1) := by decide +kernel
theorem dX2_loudestMoment_3 : decode cX2_loudestMoment 3 = .ok (.istore 4, 2) := by decide +kernel
theorem dX2_loudestMoment_5 : decode cX2_loudestMoment 5 = .ok (.iconst 0, 1) := by decide +kernel
theorem dX2_loudestMoment_6 : decode cX2_loudestMoment 6 = .ok (.istore 5, 2) := by decide +kernel
theorem dX2_loudestMoment_8 : decode cX2_loudestMoment 8 = .ok (.iload 5, 2) := by decide +kernel
theorem dX2_loudestMoment_10 : decode cX2_loudestMoment 10 = .ok (.bipush 25, 2) := by decide +kernel
theorem dX2_loudestMoment_12 : decode cX2_loudestMoment 12 = .ok (.if_icmp .gt 32, 3) := by decide +kernel
theorem dX2_loudestMoment_15 : decode cX2_loudestMoment 15 = .ok (.aload_n 0, 1) := by decide +kernel
theorem dX2_loudestMoment_16 : decode cX2_loudestMoment 16 = .ok (.iload_n 1, 1) := by decide +kernel
theorem dX2_loudestMoment_17 : decode cX2_loudestMoment 17 = .ok (.aload_n 2, 1) := by decide +kernel
theorem dX2_loudestMoment_18 : decode cX2_loudestMoment 18 = .ok (.iload 5, 2) := by decide +kernel
theorem dX2_loudestMoment_20 : decode cX2_loudestMoment 20 = .ok (.invokevirtual 58, 3) := by decide +kernel
theorem dX2_loudestMoment_23 : decode cX2_loudestMoment 23 = .ok (.istore 6, 2) := by decide +kernel
theorem dX2_loudestMoment_25 : decode cX2_loudestMoment 25 = .ok (.iload 6, 2) := by decide +kernel
theorem dX2_loudestMoment_27 : decode cX2_loudestMoment 27 = .ok (.iload_n 3, 1) := by decide +kernel
theorem dX2_loudestMoment_28 : decode cX2_loudestMoment 28 = .ok (.if_icmp .le 10, 3) := by decide +kernel
theorem dX2_loudestMoment_31 : decode cX2_loudestMoment 31 = .ok (.iload 6, 2) := by decide +kernel
theorem dX2_loudestMoment_33 : decode cX2_loudestMoment 33 = .ok (.istore_n 3, 1) := by decide +kernel
theorem dX2_loudestMoment_34 : decode cX2_loudestMoment 34 = .ok (.iload 5, 2) := by decide +kernel
theorem dX2_loudestMoment_36 : decode cX2_loudestMoment 36 = .ok (.istore 4, 2) := by decide +kernel
theorem dX2_loudestMoment_38 : decode cX2_loudestMoment 38 = .ok (.iinc 5 1, 3) := by decide +kernel
theorem dX2_loudestMoment_41 : decode cX2_loudestMoment 41 = .ok (.goto (-33), 3) := by decide +kernel
theorem dX2_loudestMoment_44 : decode cX2_loudestMoment 44 = .ok (.iload 4, 2) := by decide +kernel
theorem dX2_loudestMoment_46 : decode cX2_loudestMoment 46 = .ok (.ireturn, 1) := by decide +kernel
theorem dX3_init_0 : decode cX3_init 0 = .ok (.aload_n 0, 1) := by decide +kernel
theorem dX3_init_1 : decode cX3_init 1 = .ok (.invokespecial 3, 3) := by decide +kernel
theorem dX3_init_4 : decode cX3_init 4 = .ok (.aload_n 0, 1) := by decide +kernel
theorem dX3_init_5 : decode cX3_init 5 = .ok (.bipush 116, 2) := by decide +kernel
theorem dX3_init_7 : decode cX3_init 7 = .ok (.newarray .int, 2) := by decide +kernel
theorem dX3_init_9 : decode cX3_init 9 = .ok (.putfield 9, 3) := by decide +kernel
theorem dX3_init_12 : decode cX3_init 12 = .ok (.aload_n 0, 1) := by decide +kernel
theorem dX3_init_13 : decode cX3_init 13 = .ok (.bipush 6, 2) := by decide +kernel
theorem dX3_init_15 : decode cX3_init 15 = .ok (.newarray .int, 2) := by decide +kernel
theorem dX3_init_17 : decode cX3_init 17 = .ok (.putfield 15, 3) := by decide +kernel
theorem dX3_init_20 : decode cX3_init 20 = .ok (.return_, 1) := by decide +kernel
theorem dX3_makeFor_0 : decode cX3_makeFor 0 = .ok (.aload_n 0, 1) := by decide +kernel
theorem dX3_makeFor_1 : decode cX3_makeFor 1 = .ok (.getfield 18, 3) := by decide +kernel
theorem dX3_makeFor_4 : decode cX3_makeFor 4 = .ok (.iload_n 1, 1) := by decide +kernel
theorem dX3_makeFor_5 : decode cX3_makeFor 5 = .ok (.if_icmp .eq 24, 3) := by decide +kernel
theorem dX3_makeFor_8 : decode cX3_makeFor 8 = .ok (.iload_n 1, 1) := by decide +kernel
theorem dX3_makeFor_9 : decode cX3_makeFor 9 = .ok (.bipush 6, 2) := by decide +kernel
theorem dX3_makeFor_11 : decode cX3_makeFor 11 = .ok (.if_icmp .gt 18, 3) := by decide +kernel
theorem dX3_makeFor_14 : decode cX3_makeFor 14 = .ok (.aload_n 0, 1) := by decide +kernel
theorem dX3_makeFor_15 : decode cX3_makeFor 15 = .ok (.iload_n 1, 1) := by decide +kernel
theorem dX3_makeFor_16 : decode cX3_makeFor 16 = .ok (.putfield 18, 3) := by decide +kernel
theorem dX3_makeFor_19 : decode cX3_makeFor 19 = .ok (.aload_n 0, 1) := by decide +kernel
theorem dX3_makeFor_20 : decode cX3_makeFor 20 = .ok (.iconst 0, 1) := by decide +kernel
theorem dX3_makeFor_21 : decode cX3_makeFor 21 = .ok (.putfield 22, 3) := by decide +kernel
theorem dX3_makeFor_24 : decode cX3_makeFor 24 = .ok (.aload_n 0, 1) := by decide +kernel
theorem dX3_makeFor_25 : decode cX3_makeFor 25 = .ok (.iconst 0, 1) := by decide +kernel
theorem dX3_makeFor_26 : decode cX3_makeFor 26 = .ok (.invokestatic 25, 3) := by decide +kernel
theorem dX3_makeFor_29 : decode cX3_makeFor 29 = .ok (.return_, 1) := by decide +kernel
theorem dX3_grow_0 : decode cX3_grow 0 = .ok (.iload_n 1, 1) := by decide +kernel
theorem dX3_grow_1 : decode cX3_grow 1 = .ok (.aload_n 0, 1) := by decide +kernel
theorem dX3_grow_2 : decode cX3_grow 2 = .ok (.getfield 18, 3) := by decide +kernel
theorem dX3_grow_5 : decode cX3_grow 5 = .ok (.if_icmp .lt 8, 3) := by decide +kernel
theorem dX3_grow_8 : decode cX3_grow 8 = .ok (.aload_n 0, 1) := by decide +kernel
theorem dX3_grow_9 : decode cX3_grow 9 = .ok (.invokevirtual 29, 3) := by decide +kernel
theorem dX3_grow_12 : decode cX3_grow 12 = .ok (.return_, 1) := by decide +kernel
theorem dX3_grow_13 : decode cX3_grow 13 = .ok (.iconst 0, 1) := by decide +kernel
theorem dX3_grow_14 : decode cX3_grow 14 = .ok (.istore_n 2, 1) := by decide +kernel
theorem dX3_grow_15 : decode cX3_grow 15 = .ok (.iload_n 2, 1) := by decide +kernel
theorem dX3_grow_16 : decode cX3_grow 16 = .ok (.aload_n 0, 1) := by decide +kernel
theorem dX3_grow_17 : decode cX3_grow 17 = .ok (.getfield 18, 3) := by decide +kernel
theorem dX3_grow_20 : decode cX3_grow 20 = .ok (.if_icmp .ge 34, 3) := by decide +kernel
theorem dX3_grow_23 : decode cX3_grow 23 = .ok (.aload_n 0, 1) := by decide +kernel
theorem dX3_grow_24 : decode cX3_grow 24 = .ok (.getfield 15, 3) := by decide +kernel
theorem dX3_grow_27 : decode cX3_grow 27 = .ok (.iload_n 1, 1) := by decide +kernel
theorem dX3_grow_28 : decode cX3_grow 28 = .ok (.iload_n 2, 1) := by decide +kernel
theorem dX3_grow_29 : decode cX3_grow 29 = .ok (.iastore, 1) := by decide +kernel
theorem dX3_grow_30 : decode cX3_grow 30 = .ok (.aload_n 0, 1) := by decide +kernel
theorem dX3_grow_31 : decode cX3_grow 31 = .ok (.getfield 15, 3) := by decide +kernel
theorem dX3_grow_34 : decode cX3_grow 34 = .ok (.iload_n 1, 1) := by decide +kernel
theorem dX3_grow_35 : decode cX3_grow 35 = .ok (.invokestatic 32, 3) := by decide +kernel
theorem dX3_grow_38 : decode cX3_grow 38 = .ok (.ifCond .eq 10, 3) := by decide +kernel
theorem dX3_grow_41 : decode cX3_grow 41 = .ok (.aload_n 0, 1) := by decide +kernel
theorem dX3_grow_42 : decode cX3_grow 42 = .ok (.iload_n 1, 1) := by decide +kernel
theorem dX3_grow_43 : decode cX3_grow 43 = .ok (.iconst 1, 1) := by decide +kernel
theorem dX3_grow_44 : decode cX3_grow 44 = .ok (.iadd, 1) := by decide +kernel
theorem dX3_grow_45 : decode cX3_grow 45 = .ok (.invokestatic 25, 3) := by decide +kernel
theorem dX3_grow_48 : decode cX3_grow 48 = .ok (.iinc 2 1, 3) := by decide +kernel
theorem dX3_grow_51 : decode cX3_grow 51 = .ok (.goto (-36), 3) := by decide +kernel
theorem dX3_grow_54 : decode cX3_grow 54 = .ok (.return_, 1) := by decide +kernel
theorem dX3_keep_0 : decode cX3_keep 0 = .ok (.aload_n 0, 1) := by decide +kernel
theorem dX3_keep_1 : decode cX3_keep 1 = .ok (.getfield 22, 3) := by decide +kernel
theorem dX3_keep_4 : decode cX3_keep 4 = .ok (.bipush 116, 2) := by decide +kernel
theorem dX3_keep_6 : decode cX3_keep 6 = .ok (.if_icmp .ge 30, 3) := by decide +kernel
theorem dX3_keep_9 : decode cX3_keep 9 = .ok (.aload_n 0, 1) := by decide +kernel
theorem dX3_keep_10 : decode cX3_keep 10 = .ok (.getfield 9, 3) := by decide +kernel
theorem dX3_keep_13 : decode cX3_keep 13 = .ok (.aload_n 0, 1) := by decide +kernel
theorem dX3_keep_14 : decode cX3_keep 14 = .ok (.getfield 22, 3) := by decide +kernel
theorem dX3_keep_17 : decode cX3_keep 17 = .ok (.aload_n 0, 1) := by decide +kernel
theorem dX3_keep_18 : decode cX3_keep 18 = .ok (.aload_n 0, 1) := by decide +kernel
theorem dX3_keep_19 : decode cX3_keep 19 = .ok (.getfield 15, 3) := by decide +kernel
theorem dX3_keep_22 : decode cX3_keep 22 = .ok (.invokevirtual 36, 3) := by decide +kernel
theorem dX3_keep_25 : decode cX3_keep 25 = .ok (.iastore, 1) := by decide +kernel
theorem dX3_keep_26 : decode cX3_keep 26 = .ok (.aload_n 0, 1) := by decide +kernel
theorem dX3_keep_27 : decode cX3_keep 27 = .ok (.dup, 1) := by decide +kernel
theorem dX3_keep_28 : decode cX3_keep 28 = .ok (.getfield 22, 3) := by decide +kernel
theorem dX3_keep_31 : decode cX3_keep 31 = .ok (.iconst 1, 1) := by decide +kernel
theorem dX3_keep_32 : decode cX3_keep 32 = .ok (.iadd, 1) := by decide +kernel
theorem dX3_keep_33 : decode cX3_keep 33 = .ok (.putfield 22, 3) := by decide +kernel
theorem dX3_keep_36 : decode cX3_keep 36 = .ok (.return_, 1) := by decide +kernel
theorem dX3_isGood_0 : decode cX3_isGood 0 = .ok (.iconst 0, 1) := by decide +kernel
theorem dX3_isGood_1 : decode cX3_isGood 1 = .ok (.istore_n 2, 1) := by decide +kernel
theorem dX3_isGood_2 : decode cX3_isGood 2 = .ok (.iload_n 2, 1) := by decide +kernel
theorem dX3_isGood_3 : decode cX3_isGood 3 = .ok (.iload_n 1, 1) := by decide +kernel
theorem dX3_isGood_4 : decode cX3_isGood 4 = .ok (.if_icmp .ge 26, 3) := by decide +kernel
theorem dX3_isGood_7 : decode cX3_isGood 7 = .ok (.aload_n 0, 1) := by decide +kernel
theorem dX3_isGood_8 : decode cX3_isGood 8 = .ok (.iload_n 2, 1) := by decide +kernel
theorem dX3_isGood_9 : decode cX3_isGood 9 = .ok (.iaload, 1) := by decide +kernel
theorem dX3_isGood_10 : decode cX3_isGood 10 = .ok (.iconst (-1), 1) := by decide +kernel
theorem dX3_isGood_11 : decode cX3_isGood 11 = .ok (.if_icmp .eq 11, 3) := by decide +kernel
theorem dX3_isGood_14 : decode cX3_isGood 14 = .ok (.aload_n 0, 1) := by decide +kernel
theorem dX3_isGood_15 : decode cX3_isGood 15 = .ok (.iload_n 2, 1) := by decide +kernel
theorem dX3_isGood_16 : decode cX3_isGood 16 = .ok (.invokestatic 32, 3) := by decide +kernel
theorem dX3_isGood_19 : decode cX3_isGood 19 = .ok (.ifCond .ne 5, 3) := by decide +kernel
theorem dX3_isGood_22 : decode cX3_isGood 22 = .ok (.iconst 0, 1) := by decide +kernel
theorem dX3_isGood_23 : decode cX3_isGood 23 = .ok (.ireturn, 1) := by decide +kernel
theorem dX3_isGood_24 : decode cX3_isGood 24 = .ok (.iinc 2 1, 3) := by decide +kernel
theorem dX3_isGood_27 : decode cX3_isGood 27 = .ok (.goto (-25), 3) := by decide +kernel
theorem dX3_isGood_30 : decode cX3_isGood 30 = .ok (.iconst 1, 1) := by decide +kernel
theorem dX3_isGood_31 : decode cX3_isGood 31 = .ok (.ireturn, 1) := by decide +kernel
theorem dX3_staysGood_0 : decode cX3_staysGood 0 = .ok (.iconst 1, 1) := by decide +kernel
theorem dX3_staysGood_1 : decode cX3_staysGood 1 = .ok (.istore_n 2, 1) := by decide +kernel
theorem dX3_staysGood_2 : decode cX3_staysGood 2 = .ok (.iload_n 2, 1) := by decide +kernel
theorem dX3_staysGood_3 : decode cX3_staysGood 3 = .ok (.iload_n 1, 1) := by decide +kernel
theorem dX3_staysGood_4 : decode cX3_staysGood 4 = .ok (.if_icmp .gt 57, 3) := by decide +kernel
theorem dX3_staysGood_7 : decode cX3_staysGood 7 = .ok (.aload_n 0, 1) := by decide +kernel
theorem dX3_staysGood_8 : decode cX3_staysGood 8 = .ok (.iload_n 1, 1) := by decide +kernel
theorem dX3_staysGood_9 : decode cX3_staysGood 9 = .ok (.iaload, 1) := by decide +kernel
theorem dX3_staysGood_10 : decode cX3_staysGood 10 = .ok (.aload_n 0, 1) := by decide +kernel
theorem dX3_staysGood_11 : decode cX3_staysGood 11 = .ok (.iload_n 1, 1) := by decide +kernel
theorem dX3_staysGood_12 : decode cX3_staysGood 12 = .ok (.iload_n 2, 1) := by decide +kernel
theorem dX3_staysGood_13 : decode cX3_staysGood 13 = .ok (.isub, 1) := by decide +kernel
theorem dX3_staysGood_14 : decode cX3_staysGood 14 = .ok (.iaload, 1) := by decide +kernel
theorem dX3_staysGood_15 : decode cX3_staysGood 15 = .ok (.isub, 1) := by decide +kernel
theorem dX3_staysGood_16 : decode cX3_staysGood 16 = .ok (.istore_n 3, 1) := by decide +kernel
theorem dX3_staysGood_17 : decode cX3_staysGood 17 = .ok (.iload_n 3, 1) := by decide +kernel
theorem dX3_staysGood_18 : decode cX3_staysGood 18 = .ok (.ifCond .ne 5, 3) := by decide +kernel
theorem dX3_staysGood_21 : decode cX3_staysGood 21 = .ok (.iconst 0, 1) := by decide +kernel
theorem dX3_staysGood_22 : decode cX3_staysGood 22 = .ok (.ireturn, 1) := by decide +kernel
theorem dX3_staysGood_23 : decode cX3_staysGood 23 = .ok (.iload_n 2, 1) := by decide +kernel
theorem dX3_staysGood_24 : decode cX3_staysGood 24 = .ok (.istore 4, 2) := by decide +kernel
theorem dX3_staysGood_26 : decode cX3_staysGood 26 = .ok (.iload 4, 2) := by decide +kernel
theorem dX3_staysGood_28 : decode cX3_staysGood 28 = .ok (.iload_n 1, 1) := by decide +kernel
theorem dX3_staysGood_29 : decode cX3_staysGood 29 = .ok (.if_icmp .ge 26, 3) := by decide +kernel
theorem dX3_staysGood_32 : decode cX3_staysGood 32 = .ok (.aload_n 0, 1) := by decide +kernel
theorem dX3_staysGood_33 : decode cX3_staysGood 33 = .ok (.iload 4, 2) := by decide +kernel
theorem dX3_staysGood_35 : decode cX3_staysGood 35 = .ok (.iaload, 1) := by decide +kernel
theorem dX3_staysGood_36 : decode cX3_staysGood 36 = .ok (.aload_n 0, 1) := by decide +kernel
theorem dX3_staysGood_37 : decode cX3_staysGood 37 = .ok (.iload 4, 2) := by decide +kernel
theorem dX3_staysGood_39 : decode cX3_staysGood 39 = .ok (.iload_n 2, 1) := by decide +kernel
theorem dX3_staysGood_40 : decode cX3_staysGood 40 = .ok (.isub, 1) := by decide +kernel
theorem dX3_staysGood_41 : decode cX3_staysGood 41 = .ok (.iaload, 1) := by decide +kernel
theorem dX3_staysGood_42 : decode cX3_staysGood 42 = .ok (.isub, 1) := by decide +kernel
theorem dX3_staysGood_43 : decode cX3_staysGood 43 = .ok (.iload_n 3, 1) := by decide +kernel
theorem dX3_staysGood_44 : decode cX3_staysGood 44 = .ok (.if_icmp .ne 5, 3) := by decide +kernel
theorem dX3_staysGood_47 : decode cX3_staysGood 47 = .ok (.iconst 0, 1) := by decide +kernel
theorem dX3_staysGood_48 : decode cX3_staysGood 48 = .ok (.ireturn, 1) := by decide +kernel
theorem dX3_staysGood_49 : decode cX3_staysGood 49 = .ok (.iinc 4 1, 3) := by decide +kernel
theorem dX3_staysGood_52 : decode cX3_staysGood 52 = .ok (.goto (-26), 3) := by decide +kernel
theorem dX3_staysGood_55 : decode cX3_staysGood 55 = .ok (.iinc 2 1, 3) := by decide +kernel
theorem dX3_staysGood_58 : decode cX3_staysGood 58 = .ok (.goto (-56), 3) := by decide +kernel
theorem dX3_staysGood_61 : decode cX3_staysGood 61 = .ok (.iconst 1, 1) := by decide +kernel
theorem dX3_staysGood_62 : decode cX3_staysGood 62 = .ok (.ireturn, 1) := by decide +kernel
theorem dX3_codeOf_0 : decode cX3_codeOf 0 = .ok (.iconst 0, 1) := by decide +kernel
theorem dX3_codeOf_1 : decode cX3_codeOf 1 = .ok (.istore_n 2, 1) := by decide +kernel
theorem dX3_codeOf_2 : decode cX3_codeOf 2 = .ok (.iconst 0, 1) := by decide +kernel
theorem dX3_codeOf_3 : decode cX3_codeOf 3 = .ok (.istore_n 3, 1) := by decide +kernel
theorem dX3_codeOf_4 : decode cX3_codeOf 4 = .ok (.iload_n 3, 1) := by decide +kernel
theorem dX3_codeOf_5 : decode cX3_codeOf 5 = .ok (.aload_n 0, 1) := by decide +kernel
theorem dX3_codeOf_6 : decode cX3_codeOf 6 = .ok (.getfield 18, 3) := by decide +kernel
theorem dX3_codeOf_9 : decode cX3_codeOf 9 = .ok (.if_icmp .ge 17, 3) := by decide +kernel
theorem dX3_codeOf_12 : decode cX3_codeOf 12 = .ok (.iload_n 2, 1) := by decide +kernel
theorem dX3_codeOf_13 : decode cX3_codeOf 13 = .ok (.iconst 3, 1) := by decide +kernel
theorem dX3_codeOf_14 : decode cX3_codeOf 14 = .ok (.ishl, 1) := by decide +kernel
theorem dX3_codeOf_15 : decode cX3_codeOf 15 = .ok (.aload_n 1, 1) := by decide +kernel
theorem dX3_codeOf_16 : decode cX3_codeOf 16 = .ok (.iload_n 3, 1) := by decide +kernel
theorem dX3_codeOf_17 : decode cX3_codeOf 17 = .ok (.iaload, 1) := by decide +kernel
theorem dX3_codeOf_18 : decode cX3_codeOf 18 = .ok (.ior, 1) := by decide +kernel
theorem dX3_codeOf_19 : decode cX3_codeOf 19 = .ok (.istore_n 2, 1) := by decide +kernel
theorem dX3_codeOf_20 : decode cX3_codeOf 20 = .ok (.iinc 3 1, 3) := by decide +kernel
theorem dX3_codeOf_23 : decode cX3_codeOf 23 = .ok (.goto (-19), 3) := by decide +kernel
theorem dX3_codeOf_26 : decode cX3_codeOf 26 = .ok (.iload_n 2, 1) := by decide +kernel
theorem dX3_codeOf_27 : decode cX3_codeOf 27 = .ok (.ireturn, 1) := by decide +kernel
theorem dX3_pitchOf_0 : decode cX3_pitchOf 0 = .ok (.iload_n 1, 1) := by decide +kernel
theorem dX3_pitchOf_1 : decode cX3_pitchOf 1 = .ok (.bipush (-9), 2) := by decide +kernel
theorem dX3_pitchOf_3 : decode cX3_pitchOf 3 = .ok (.if_icmp .eq 11, 3) := by decide +kernel
theorem dX3_pitchOf_6 : decode cX3_pitchOf 6 = .ok (.iload_n 2, 1) := by decide +kernel
theorem dX3_pitchOf_7 : decode cX3_pitchOf 7 = .ok (.aload_n 0, 1) := by decide +kernel
theorem dX3_pitchOf_8 : decode cX3_pitchOf 8 = .ok (.getfield 18, 3) := by decide +kernel
theorem dX3_pitchOf_11 : decode cX3_pitchOf 11 = .ok (.if_icmp .lt 6, 3) := by decide +kernel
theorem dX3_pitchOf_14 : decode cX3_pitchOf 14 = .ok (.bipush (-9), 2) := by decide +kernel
theorem dX3_pitchOf_16 : decode cX3_pitchOf 16 = .ok (.ireturn, 1) := by decide +kernel
theorem dX3_pitchOf_17 : decode cX3_pitchOf 17 = .ok (.iload_n 1, 1) := by decide +kernel
theorem dX3_pitchOf_18 : decode cX3_pitchOf 18 = .ok (.iconst 3, 1) := by decide +kernel
theorem dX3_pitchOf_19 : decode cX3_pitchOf 19 = .ok (.aload_n 0, 1) := by decide +kernel
theorem dX3_pitchOf_20 : decode cX3_pitchOf 20 = .ok (.getfield 18, 3) := by decide +kernel
theorem dX3_pitchOf_23 : decode cX3_pitchOf 23 = .ok (.iconst 1, 1) := by decide +kernel
theorem dX3_pitchOf_24 : decode cX3_pitchOf 24 = .ok (.isub, 1) := by decide +kernel
theorem dX3_pitchOf_25 : decode cX3_pitchOf 25 = .ok (.iload_n 2, 1) := by decide +kernel
theorem dX3_pitchOf_26 : decode cX3_pitchOf 26 = .ok (.isub, 1) := by decide +kernel
theorem dX3_pitchOf_27 : decode cX3_pitchOf 27 = .ok (.imul, 1) := by decide +kernel
theorem dX3_pitchOf_28 : decode cX3_pitchOf 28 = .ok (.ishr, 1) := by decide +kernel
theorem dX3_pitchOf_29 : decode cX3_pitchOf 29 = .ok (.bipush 7, 2) := by decide +kernel
theorem dX3_pitchOf_31 : decode cX3_pitchOf 31 = .ok (.iand, 1) := by decide +kernel
theorem dX3_pitchOf_32 : decode cX3_pitchOf 32 = .ok (.ireturn, 1) := by decide +kernel
theorem dX3_isLike_0 : decode cX3_isLike 0 = .ok (.iconst 0, 1) := by decide +kernel
theorem dX3_isLike_1 : decode cX3_isLike 1 = .ok (.istore_n 3, 1) := by decide +kernel
theorem dX3_isLike_2 : decode cX3_isLike 2 = .ok (.iload_n 3, 1) := by decide +kernel
theorem dX3_isLike_3 : decode cX3_isLike 3 = .ok (.aload_n 0, 1) := by decide +kernel
theorem dX3_isLike_4 : decode cX3_isLike 4 = .ok (.getfield 18, 3) := by decide +kernel
theorem dX3_isLike_7 : decode cX3_isLike 7 = .ok (.if_icmp .ge 30, 3) := by decide +kernel
theorem dX3_isLike_10 : decode cX3_isLike 10 = .ok (.aload_n 2, 1) := by decide +kernel
theorem dX3_isLike_11 : decode cX3_isLike 11 = .ok (.iload_n 3, 1) := by decide +kernel
theorem dX3_isLike_12 : decode cX3_isLike 12 = .ok (.iaload, 1) := by decide +kernel
theorem dX3_isLike_13 : decode cX3_isLike 13 = .ok (.iconst (-1), 1) := by decide +kernel
theorem dX3_isLike_14 : decode cX3_isLike 14 = .ok (.if_icmp .eq 17, 3) := by decide +kernel
theorem dX3_isLike_17 : decode cX3_isLike 17 = .ok (.aload_n 2, 1) := by decide +kernel
theorem dX3_isLike_18 : decode cX3_isLike 18 = .ok (.iload_n 3, 1) := by decide +kernel
theorem dX3_isLike_19 : decode cX3_isLike 19 = .ok (.iaload, 1) := by decide +kernel
theorem dX3_isLike_20 : decode cX3_isLike 20 = .ok (.aload_n 0, 1) := by decide +kernel
theorem dX3_isLike_21 : decode cX3_isLike 21 = .ok (.iload_n 1, 1) := by decide +kernel
theorem dX3_isLike_22 : decode cX3_isLike 22 = .ok (.iload_n 3, 1) := by decide +kernel
theorem dX3_isLike_23 : decode cX3_isLike 23 = .ok (.invokevirtual 40, 3) := by decide +kernel
theorem dX3_isLike_26 : decode cX3_isLike 26 = .ok (.if_icmp .eq 5, 3) := by decide +kernel
theorem dX3_isLike_29 : decode cX3_isLike 29 = .ok (.iconst 0, 1) := by decide +kernel
theorem dX3_isLike_30 : decode cX3_isLike 30 = .ok (.ireturn, 1) := by decide +kernel
theorem dX3_isLike_31 : decode cX3_isLike 31 = .ok (.iinc 3 1, 3) := by decide +kernel
theorem dX3_isLike_34 : decode cX3_isLike 34 = .ok (.goto (-32), 3) := by decide +kernel
theorem dX3_isLike_37 : decode cX3_isLike 37 = .ok (.iconst 1, 1) := by decide +kernel
theorem dX3_isLike_38 : decode cX3_isLike 38 = .ok (.ireturn, 1) := by decide +kernel
theorem dX3_countLike_0 : decode cX3_countLike 0 = .ok (.iconst 0, 1) := by decide +kernel
theorem dX3_countLike_1 : decode cX3_countLike 1 = .ok (.istore_n 2, 1) := by decide +kernel
theorem dX3_countLike_2 : decode cX3_countLike 2 = .ok (.iconst 0, 1) := by decide +kernel
theorem dX3_countLike_3 : decode cX3_countLike 3 = .ok (.istore_n 3, 1) := by decide +kernel
theorem dX3_countLike_4 : decode cX3_countLike 4 = .ok (.iload_n 3, 1) := by decide +kernel
theorem dX3_countLike_5 : decode cX3_countLike 5 = .ok (.aload_n 0, 1) := by decide +kernel
theorem dX3_countLike_6 : decode cX3_countLike 6 = .ok (.getfield 22, 3) := by decide +kernel
theorem dX3_countLike_9 : decode cX3_countLike 9 = .ok (.if_icmp .ge 26, 3) := by decide +kernel
theorem dX3_countLike_12 : decode cX3_countLike 12 = .ok (.aload_n 0, 1) := by decide +kernel
theorem dX3_countLike_13 : decode cX3_countLike 13 = .ok (.aload_n 0, 1) := by decide +kernel
theorem dX3_countLike_14 : decode cX3_countLike 14 = .ok (.getfield 9, 3) := by decide +kernel
theorem dX3_countLike_17 : decode cX3_countLike 17 = .ok (.iload_n 3, 1) := by decide +kernel
theorem dX3_countLike_18 : decode cX3_countLike 18 = .ok (.iaload, 1) := by decide +kernel
theorem dX3_countLike_19 : decode cX3_countLike 19 = .ok (.aload_n 1, 1) := by decide +kernel
theorem dX3_countLike_20 : decode cX3_countLike 20 = .ok (.invokevirtual 44, 3) := by decide +kernel
theorem dX3_countLike_23 : decode cX3_countLike 23 = .ok (.ifCond .eq 6, 3) := by decide +kernel
theorem dX3_countLike_26 : decode cX3_countLike 26 = .ok (.iinc 2 1, 3) := by decide +kernel
theorem dX3_countLike_29 : decode cX3_countLike 29 = .ok (.iinc 3 1, 3) := by decide +kernel
theorem dX3_countLike_32 : decode cX3_countLike 32 = .ok (.goto (-28), 3) := by decide +kernel
theorem dX3_countLike_35 : decode cX3_countLike 35 = .ok (.iload_n 2, 1) := by decide +kernel
theorem dX3_countLike_36 : decode cX3_countLike 36 = .ok (.ireturn, 1) := by decide +kernel
theorem dX3_firstLike_0 : decode cX3_firstLike 0 = .ok (.iconst 0, 1) := by decide +kernel
theorem dX3_firstLike_1 : decode cX3_firstLike 1 = .ok (.istore_n 2, 1) := by decide +kernel
theorem dX3_firstLike_2 : decode cX3_firstLike 2 = .ok (.iload_n 2, 1) := by decide +kernel
theorem dX3_firstLike_3 : decode cX3_firstLike 3 = .ok (.aload_n 0, 1) := by decide +kernel
theorem dX3_firstLike_4 : decode cX3_firstLike 4 = .ok (.getfield 22, 3) := by decide +kernel
theorem dX3_firstLike_7 : decode cX3_firstLike 7 = .ok (.if_icmp .ge 30, 3) := by decide +kernel
theorem dX3_firstLike_10 : decode cX3_firstLike 10 = .ok (.aload_n 0, 1) := by decide +kernel
theorem dX3_firstLike_11 : decode cX3_firstLike 11 = .ok (.aload_n 0, 1) := by decide +kernel
theorem dX3_firstLike_12 : decode cX3_firstLike 12 = .ok (.getfield 9, 3) := by decide +kernel
theorem dX3_firstLike_15 : decode cX3_firstLike 15 = .ok (.iload_n 2, 1) := by decide +kernel
theorem dX3_firstLike_16 : decode cX3_firstLike 16 = .ok (.iaload, 1) := by decide +kernel
theorem dX3_firstLike_17 : decode cX3_firstLike 17 = .ok (.aload_n 1, 1) := by decide +kernel
theorem dX3_firstLike_18 : decode cX3_firstLike 18 = .ok (.invokevirtual 44, 3) := by decide +kernel
theorem dX3_firstLike_21 : decode cX3_firstLike 21 = .ok (.ifCond .eq 10, 3) := by decide +kernel
theorem dX3_firstLike_24 : decode cX3_firstLike 24 = .ok (.aload_n 0, 1) := by decide +kernel
theorem dX3_firstLike_25 : decode cX3_firstLike 25 = .ok (.getfield 9, 3) := by decide +kernel
theorem dX3_firstLike_28 : decode cX3_firstLike 28 = .ok (.iload_n 2, 1) := by decide +kernel
theorem dX3_firstLike_29 : decode cX3_firstLike 29 = .ok (.iaload, 1) := by decide +kernel
theorem dX3_firstLike_30 : decode cX3_firstLike 30 = .ok (.ireturn, 1) := by decide +kernel
theorem dX3_firstLike_31 : decode cX3_firstLike 31 = .ok (.iinc 2 1, 3) := by decide +kernel
theorem dX3_firstLike_34 : decode cX3_firstLike 34 = .ok (.goto (-32), 3) := by decide +kernel
theorem dX3_firstLike_37 : decode cX3_firstLike 37 = .ok (.bipush (-9), 2) := by decide +kernel
theorem dX3_firstLike_39 : decode cX3_firstLike 39 = .ok (.ireturn, 1) := by decide +kernel
theorem dX3_firstBehind_0 : decode cX3_firstBehind 0 = .ok (.aload_n 0, 1) := by decide +kernel
theorem dX3_firstBehind_1 : decode cX3_firstBehind 1 = .ok (.aload_n 1, 1) := by decide +kernel
theorem dX3_firstBehind_2 : decode cX3_firstBehind 2 = .ok (.invokevirtual 36, 3) := by decide +kernel
theorem dX3_firstBehind_5 : decode cX3_firstBehind 5 = .ok (.istore_n 2, 1) := by decide +kernel
theorem dX3_firstBehind_6 : decode cX3_firstBehind 6 = .ok (.iconst 0, 1) := by decide +kernel
theorem dX3_firstBehind_7 : decode cX3_firstBehind 7 = .ok (.istore_n 3, 1) := by decide +kernel
theorem dX3_firstBehind_8 : decode cX3_firstBehind 8 = .ok (.iload_n 3, 1) := by decide +kernel
theorem dX3_firstBehind_9 : decode cX3_firstBehind 9 = .ok (.aload_n 0, 1) := by decide +kernel
theorem dX3_firstBehind_10 : decode cX3_firstBehind 10 = .ok (.getfield 22, 3) := by decide +kernel
theorem dX3_firstBehind_13 : decode cX3_firstBehind 13 = .ok (.if_icmp .ge 26, 3) := by decide +kernel
theorem dX3_firstBehind_16 : decode cX3_firstBehind 16 = .ok (.aload_n 0, 1) := by decide +kernel
theorem dX3_firstBehind_17 : decode cX3_firstBehind 17 = .ok (.getfield 9, 3) := by decide +kernel
theorem dX3_firstBehind_20 : decode cX3_firstBehind 20 = .ok (.iload_n 3, 1) := by decide +kernel
theorem dX3_firstBehind_21 : decode cX3_firstBehind 21 = .ok (.iaload, 1) := by decide +kernel
theorem dX3_firstBehind_22 : decode cX3_firstBehind 22 = .ok (.iload_n 2, 1) := by decide +kernel
theorem dX3_firstBehind_23 : decode cX3_firstBehind 23 = .ok (.if_icmp .le 10, 3) := by decide +kernel
theorem dX3_firstBehind_26 : decode cX3_firstBehind 26 = .ok (.aload_n 0, 1) := by decide +kernel
theorem dX3_firstBehind_27 : decode cX3_firstBehind 27 = .ok (.getfield 9, 3) := by decide +kernel
theorem dX3_firstBehind_30 : decode cX3_firstBehind 30 = .ok (.iload_n 3, 1) := by decide +kernel
theorem dX3_firstBehind_31 : decode cX3_firstBehind 31 = .ok (.iaload, 1) := by decide +kernel
theorem dX3_firstBehind_32 : decode cX3_firstBehind 32 = .ok (.ireturn, 1) := by decide +kernel
theorem dX3_firstBehind_33 : decode cX3_firstBehind 33 = .ok (.iinc 3 1, 3) := by decide +kernel
theorem dX3_firstBehind_36 : decode cX3_firstBehind 36 = .ok (.goto (-28), 3) := by decide +kernel
theorem dX3_firstBehind_39 : decode cX3_firstBehind 39 = .ok (.bipush (-9), 2) := by decide +kernel
theorem dX3_firstBehind_41 : decode cX3_firstBehind 41 = .ok (.ireturn, 1) := by decide +kernel
theorem dX4_init_0 : decode cX4_init 0 = .ok (.aload_n 0, 1) := by decide +kernel
theorem dX4_init_1 : decode cX4_init 1 = .ok (.invokespecial 1, 3) := by decide +kernel
theorem dX4_init_4 : decode cX4_init 4 = .ok (.return_, 1) := by decide +kernel
theorem dX4_takeBack_0 : decode cX4_takeBack 0 = .ok (.iload_n 1, 1) := by decide +kernel
theorem dX4_takeBack_1 : decode cX4_takeBack 1 = .ok (.iconst 0, 1) := by decide +kernel
theorem dX4_takeBack_2 : decode cX4_takeBack 2 = .ok (.aload_n 0, 1) := by decide +kernel
theorem dX4_takeBack_3 : decode cX4_takeBack 3 = .ok (.getfield 7, 3) := by decide +kernel
theorem dX4_takeBack_6 : decode cX4_takeBack 6 = .ok (.invokestatic 13, 3) := by decide +kernel
theorem dX4_takeBack_9 : decode cX4_takeBack 9 = .ok (.ifCond .ne 5, 3) := by decide +kernel
theorem dX4_takeBack_12 : decode cX4_takeBack 12 = .ok (.iconst 0, 1) := by decide +kernel
theorem dX4_takeBack_13 : decode cX4_takeBack 13 = .ok (.ireturn, 1) := by decide +kernel
theorem dX4_takeBack_14 : decode cX4_takeBack 14 = .ok (.aload_n 0, 1) := by decide +kernel
theorem dX4_takeBack_15 : decode cX4_takeBack 15 = .ok (.dup, 1) := by decide +kernel
theorem dX4_takeBack_16 : decode cX4_takeBack 16 = .ok (.getfield 7, 3) := by decide +kernel
theorem dX4_takeBack_19 : decode cX4_takeBack 19 = .ok (.iload_n 1, 1) := by decide +kernel
theorem dX4_takeBack_20 : decode cX4_takeBack 20 = .ok (.isub, 1) := by decide +kernel
theorem dX4_takeBack_21 : decode cX4_takeBack 21 = .ok (.putfield 7, 3) := by decide +kernel
theorem dX4_takeBack_24 : decode cX4_takeBack 24 = .ok (.iconst 1, 1) := by decide +kernel
theorem dX4_takeBack_25 : decode cX4_takeBack 25 = .ok (.ireturn, 1) := by decide +kernel
theorem dX5_init_0 : decode cX5_init 0 = .ok (.aload_n 0, 1) := by decide +kernel
theorem dX5_init_1 : decode cX5_init 1 = .ok (.invokespecial 3, 3) := by decide +kernel
theorem dX5_init_4 : decode cX5_init 4 = .ok (.aload_n 0, 1) := by decide +kernel
theorem dX5_init_5 : decode cX5_init 5 = .ok (.bipush 8, 2) := by decide +kernel
theorem dX5_init_7 : decode cX5_init 7 = .ok (.newarray .int, 2) := by decide +kernel
theorem dX5_init_9 : decode cX5_init 9 = .ok (.putfield 9, 3) := by decide +kernel
theorem dX5_init_12 : decode cX5_init 12 = .ok (.aload_n 0, 1) := by decide +kernel
theorem dX5_init_13 : decode cX5_init 13 = .ok (.bipush 8, 2) := by decide +kernel
theorem dX5_init_15 : decode cX5_init 15 = .ok (.newarray .int, 2) := by decide +kernel
theorem dX5_init_17 : decode cX5_init 17 = .ok (.putfield 15, 3) := by decide +kernel
theorem dX5_init_20 : decode cX5_init 20 = .ok (.aload_n 0, 1) := by decide +kernel
theorem dX5_init_21 : decode cX5_init 21 = .ok (.bipush 8, 2) := by decide +kernel
theorem dX5_init_23 : decode cX5_init 23 = .ok (.newarray .int, 2) := by decide +kernel
theorem dX5_init_25 : decode cX5_init 25 = .ok (.putfield 18, 3) := by decide +kernel
theorem dX5_init_28 : decode cX5_init 28 = .ok (.aload_n 0, 1) := by decide +kernel
theorem dX5_init_29 : decode cX5_init 29 = .ok (.bipush 8, 2) := by decide +kernel
theorem dX5_init_31 : decode cX5_init 31 = .ok (.newarray .int, 2) := by decide +kernel
theorem dX5_init_33 : decode cX5_init 33 = .ok (.putfield 21, 3) := by decide +kernel
theorem dX5_init_36 : decode cX5_init 36 = .ok (.aload_n 0, 1) := by decide +kernel
theorem dX5_init_37 : decode cX5_init 37 = .ok (.bipush 8, 2) := by decide +kernel
theorem dX5_init_39 : decode cX5_init 39 = .ok (.newarray .int, 2) := by decide +kernel
theorem dX5_init_41 : decode cX5_init 41 = .ok (.putfield 24, 3) := by decide +kernel
theorem dX5_init_44 : decode cX5_init 44 = .ok (.return_, 1) := by decide +kernel
theorem dX5_add_0 : decode cX5_add 0 = .ok (.aload_n 0, 1) := by decide +kernel
theorem dX5_add_1 : decode cX5_add 1 = .ok (.getfield 27, 3) := by decide +kernel
theorem dX5_add_4 : decode cX5_add 4 = .ok (.bipush 8, 2) := by decide +kernel
theorem dX5_add_6 : decode cX5_add 6 = .ok (.if_icmp .lt 5, 3) := by decide +kernel
theorem dX5_add_9 : decode cX5_add 9 = .ok (.iconst 0, 1) := by decide +kernel
theorem dX5_add_10 : decode cX5_add 10 = .ok (.ireturn, 1) := by decide +kernel
theorem dX5_add_11 : decode cX5_add 11 = .ok (.aload_n 0, 1) := by decide +kernel
theorem dX5_add_12 : decode cX5_add 12 = .ok (.getfield 9, 3) := by decide +kernel
theorem dX5_add_15 : decode cX5_add 15 = .ok (.aload_n 0, 1) := by decide +kernel
theorem dX5_add_16 : decode cX5_add 16 = .ok (.getfield 27, 3) := by decide +kernel
theorem dX5_add_19 : decode cX5_add 19 = .ok (.iload_n 1, 1) := by decide +kernel
theorem dX5_add_20 : decode cX5_add 20 = .ok (.iastore, 1) := by decide +kernel
theorem dX5_add_21 : decode cX5_add 21 = .ok (.aload_n 0, 1) := by decide +kernel
theorem dX5_add_22 : decode cX5_add 22 = .ok (.getfield 15, 3) := by decide +kernel
theorem dX5_add_25 : decode cX5_add 25 = .ok (.aload_n 0, 1) := by decide +kernel
theorem dX5_add_26 : decode cX5_add 26 = .ok (.getfield 27, 3) := by decide +kernel
theorem dX5_add_29 : decode cX5_add 29 = .ok (.iload_n 2, 1) := by decide +kernel
theorem dX5_add_30 : decode cX5_add 30 = .ok (.iastore, 1) := by decide +kernel
theorem dX5_add_31 : decode cX5_add 31 = .ok (.aload_n 0, 1) := by decide +kernel
theorem dX5_add_32 : decode cX5_add 32 = .ok (.getfield 18, 3) := by decide +kernel
theorem dX5_add_35 : decode cX5_add 35 = .ok (.aload_n 0, 1) := by decide +kernel
theorem dX5_add_36 : decode cX5_add 36 = .ok (.getfield 27, 3) := by decide +kernel
theorem dX5_add_39 : decode cX5_add 39 = .ok (.iload_n 3, 1) := by decide +kernel
theorem dX5_add_40 : decode cX5_add 40 = .ok (.iastore, 1) := by decide +kernel
theorem dX5_add_41 : decode cX5_add 41 = .ok (.aload_n 0, 1) := by decide +kernel
theorem dX5_add_42 : decode cX5_add 42 = .ok (.getfield 21, 3) := by decide +kernel
theorem dX5_add_45 : decode cX5_add 45 = .ok (.aload_n 0, 1) := by decide +kernel
theorem dX5_add_46 : decode cX5_add 46 = .ok (.getfield 27, 3) := by decide +kernel
theorem dX5_add_49 : decode cX5_add 49 = .ok (.iload 4, 2) := by decide +kernel
theorem dX5_add_51 : decode cX5_add 51 = .ok (.iastore, 1) := by decide +kernel
theorem dX5_add_52 : decode cX5_add 52 = .ok (.aload_n 0, 1) := by decide +kernel
theorem dX5_add_53 : decode cX5_add 53 = .ok (.getfield 24, 3) := by decide +kernel
theorem dX5_add_56 : decode cX5_add 56 = .ok (.aload_n 0, 1) := by decide +kernel
theorem dX5_add_57 : decode cX5_add 57 = .ok (.getfield 27, 3) := by decide +kernel
theorem dX5_add_60 : decode cX5_add 60 = .ok (.iload 5, 2) := by decide +kernel
theorem dX5_add_62 : decode cX5_add 62 = .ok (.iastore, 1) := by decide +kernel
theorem dX5_add_63 : decode cX5_add 63 = .ok (.aload_n 0, 1) := by decide +kernel
theorem dX5_add_64 : decode cX5_add 64 = .ok (.dup, 1) := by decide +kernel
theorem dX5_add_65 : decode cX5_add 65 = .ok (.getfield 27, 3) := by decide +kernel
theorem dX5_add_68 : decode cX5_add 68 = .ok (.iconst 1, 1) := by decide +kernel
theorem dX5_add_69 : decode cX5_add 69 = .ok (.iadd, 1) := by decide +kernel
theorem dX5_add_70 : decode cX5_add 70 = .ok (.putfield 27, 3) := by decide +kernel
theorem dX5_add_73 : decode cX5_add 73 = .ok (.iconst 1, 1) := by decide +kernel
theorem dX5_add_74 : decode cX5_add 74 = .ok (.ireturn, 1) := by decide +kernel
theorem dX5_areSo_0 : decode cX5_areSo 0 = .ok (.iconst 0, 1) := by decide +kernel
theorem dX5_areSo_1 : decode cX5_areSo 1 = .ok (.istore_n 2, 1) := by decide +kernel
theorem dX5_areSo_2 : decode cX5_areSo 2 = .ok (.iload_n 2, 1) := by decide +kernel
theorem dX5_areSo_3 : decode cX5_areSo 3 = .ok (.aload_n 0, 1) := by decide +kernel
theorem dX5_areSo_4 : decode cX5_areSo 4 = .ok (.getfield 27, 3) := by decide +kernel
theorem dX5_areSo_7 : decode cX5_areSo 7 = .ok (.if_icmp .ge 48, 3) := by decide +kernel
theorem dX5_areSo_10 : decode cX5_areSo 10 = .ok (.aload_n 1, 1) := by decide +kernel
theorem dX5_areSo_11 : decode cX5_areSo 11 = .ok (.aload_n 0, 1) := by decide +kernel
theorem dX5_areSo_12 : decode cX5_areSo 12 = .ok (.getfield 9, 3) := by decide +kernel
theorem dX5_areSo_15 : decode cX5_areSo 15 = .ok (.iload_n 2, 1) := by decide +kernel
theorem dX5_areSo_16 : decode cX5_areSo 16 = .ok (.iaload, 1) := by decide +kernel
theorem dX5_areSo_17 : decode cX5_areSo 17 = .ok (.aload_n 0, 1) := by decide +kernel
theorem dX5_areSo_18 : decode cX5_areSo 18 = .ok (.getfield 15, 3) := by decide +kernel
theorem dX5_areSo_21 : decode cX5_areSo 21 = .ok (.iload_n 2, 1) := by decide +kernel
theorem dX5_areSo_22 : decode cX5_areSo 22 = .ok (.iaload, 1) := by decide +kernel
theorem dX5_areSo_23 : decode cX5_areSo 23 = .ok (.aload_n 0, 1) := by decide +kernel
theorem dX5_areSo_24 : decode cX5_areSo 24 = .ok (.getfield 18, 3) := by decide +kernel
theorem dX5_areSo_27 : decode cX5_areSo 27 = .ok (.iload_n 2, 1) := by decide +kernel
theorem dX5_areSo_28 : decode cX5_areSo 28 = .ok (.iaload, 1) := by decide +kernel
theorem dX5_areSo_29 : decode cX5_areSo 29 = .ok (.aload_n 0, 1) := by decide +kernel
theorem dX5_areSo_30 : decode cX5_areSo 30 = .ok (.getfield 21, 3) := by decide +kernel
theorem dX5_areSo_33 : decode cX5_areSo 33 = .ok (.iload_n 2, 1) := by decide +kernel
theorem dX5_areSo_34 : decode cX5_areSo 34 = .ok (.iaload, 1) := by decide +kernel
theorem dX5_areSo_35 : decode cX5_areSo 35 = .ok (.invokevirtual 31, 3) := by decide +kernel
theorem dX5_areSo_38 : decode cX5_areSo 38 = .ok (.aload_n 0, 1) := by decide +kernel
theorem dX5_areSo_39 : decode cX5_areSo 39 = .ok (.getfield 24, 3) := by decide +kernel
theorem dX5_areSo_42 : decode cX5_areSo 42 = .ok (.iload_n 2, 1) := by decide +kernel
theorem dX5_areSo_43 : decode cX5_areSo 43 = .ok (.iaload, 1) := by decide +kernel
theorem dX5_areSo_44 : decode cX5_areSo 44 = .ok (.if_icmp .eq 5, 3) := by decide +kernel
theorem dX5_areSo_47 : decode cX5_areSo 47 = .ok (.iconst 0, 1) := by decide +kernel
theorem dX5_areSo_48 : decode cX5_areSo 48 = .ok (.ireturn, 1) := by decide +kernel
theorem dX5_areSo_49 : decode cX5_areSo 49 = .ok (.iinc 2 1, 3) := by decide +kernel
theorem dX5_areSo_52 : decode cX5_areSo 52 = .ok (.goto (-50), 3) := by decide +kernel
theorem dX5_areSo_55 : decode cX5_areSo 55 = .ok (.iconst 1, 1) := by decide +kernel
theorem dX5_areSo_56 : decode cX5_areSo 56 = .ok (.ireturn, 1) := by decide +kernel
theorem dX6_init_0 : decode cX6_init 0 = .ok (.aload_n 0, 1) := by decide +kernel
theorem dX6_init_1 : decode cX6_init 1 = .ok (.invokespecial 3, 3) := by decide +kernel
theorem dX6_init_4 : decode cX6_init 4 = .ok (.aload_n 0, 1) := by decide +kernel
theorem dX6_init_5 : decode cX6_init 5 = .ok (.bipush 60, 2) := by decide +kernel
theorem dX6_init_7 : decode cX6_init 7 = .ok (.newarray .int, 2) := by decide +kernel
theorem dX6_init_9 : decode cX6_init 9 = .ok (.putfield 9, 3) := by decide +kernel
theorem dX6_init_12 : decode cX6_init 12 = .ok (.return_, 1) := by decide +kernel
theorem dX6_begin_0 : decode cX6_begin 0 = .ok (.aload_n 0, 1) := by decide +kernel
theorem dX6_begin_1 : decode cX6_begin 1 = .ok (.iconst 1, 1) := by decide +kernel
theorem dX6_begin_2 : decode cX6_begin 2 = .ok (.putfield 15, 3) := by decide +kernel
theorem dX6_begin_5 : decode cX6_begin 5 = .ok (.aload_n 0, 1) := by decide +kernel
theorem dX6_begin_6 : decode cX6_begin 6 = .ok (.iload_n 1, 1) := by decide +kernel
theorem dX6_begin_7 : decode cX6_begin 7 = .ok (.putfield 19, 3) := by decide +kernel
theorem dX6_begin_10 : decode cX6_begin 10 = .ok (.aload_n 0, 1) := by decide +kernel
theorem dX6_begin_11 : decode cX6_begin 11 = .ok (.iload_n 2, 1) := by decide +kernel
theorem dX6_begin_12 : decode cX6_begin 12 = .ok (.putfield 23, 3) := by decide +kernel
theorem dX6_begin_15 : decode cX6_begin 15 = .ok (.aload_n 0, 1) := by decide +kernel
theorem dX6_begin_16 : decode cX6_begin 16 = .ok (.getfield 9, 3) := by decide +kernel
theorem dX6_begin_19 : decode cX6_begin 19 = .ok (.iconst 0, 1) := by decide +kernel
theorem dX6_begin_20 : decode cX6_begin 20 = .ok (.invokestatic 26, 3) := by decide +kernel
theorem dX6_begin_23 : decode cX6_begin 23 = .ok (.return_, 1) := by decide +kernel
theorem dX6_holds_0 : decode cX6_holds 0 = .ok (.iload_n 2, 1) := by decide +kernel
theorem dX6_holds_1 : decode cX6_holds 1 = .ok (.ifCond .lt 29, 3) := by decide +kernel
theorem dX6_holds_4 : decode cX6_holds 4 = .ok (.iload_n 2, 1) := by decide +kernel
theorem dX6_holds_5 : decode cX6_holds 5 = .ok (.aload_n 0, 1) := by decide +kernel
theorem dX6_holds_6 : decode cX6_holds 6 = .ok (.getfield 23, 3) := by decide +kernel
theorem dX6_holds_9 : decode cX6_holds 9 = .ok (.if_icmp .gt 21, 3) := by decide +kernel
theorem dX6_holds_12 : decode cX6_holds 12 = .ok (.iload_n 1, 1) := by decide +kernel
theorem dX6_holds_13 : decode cX6_holds 13 = .ok (.ifCond .lt 17, 3) := by decide +kernel
theorem dX6_holds_16 : decode cX6_holds 16 = .ok (.iload_n 1, 1) := by decide +kernel
theorem dX6_holds_17 : decode cX6_holds 17 = .ok (.aload_n 0, 1) := by decide +kernel
theorem dX6_holds_18 : decode cX6_holds 18 = .ok (.getfield 23, 3) := by decide +kernel
theorem dX6_holds_21 : decode cX6_holds 21 = .ok (.iload_n 2, 1) := by decide +kernel
theorem dX6_holds_22 : decode cX6_holds 22 = .ok (.isub, 1) := by decide +kernel
theorem dX6_holds_23 : decode cX6_holds 23 = .ok (.if_icmp .gt 7, 3) := by decide +kernel
theorem dX6_holds_26 : decode cX6_holds 26 = .ok (.iconst 1, 1) := by decide +kernel
theorem dX6_holds_27 : decode cX6_holds 27 = .ok (.goto 4, 3) := by decide +kernel
theorem dX6_holds_30 : decode cX6_holds 30 = .ok (.iconst 0, 1) := by decide +kernel
theorem dX6_holds_31 : decode cX6_holds 31 = .ok (.ireturn, 1) := by decide +kernel
theorem dX6_faultAs_0 : decode cX6_faultAs 0 = .ok (.aload_n 0, 1) := by decide +kernel
theorem dX6_faultAs_1 : decode cX6_faultAs 1 = .ok (.getfield 15, 3) := by decide +kernel
theorem dX6_faultAs_4 : decode cX6_faultAs 4 = .ok (.ifCond .ne 5, 3) := by decide +kernel
theorem dX6_faultAs_7 : decode cX6_faultAs 7 = .ok (.iconst 1, 1) := by decide +kernel
theorem dX6_faultAs_8 : decode cX6_faultAs 8 = .ok (.ireturn, 1) := by decide +kernel
theorem dX6_faultAs_9 : decode cX6_faultAs 9 = .ok (.aload_n 0, 1) := by decide +kernel
theorem dX6_faultAs_10 : decode cX6_faultAs 10 = .ok (.getfield 19, 3) := by decide +kernel
theorem dX6_faultAs_13 : decode cX6_faultAs 13 = .ok (.iload_n 1, 1) := by decide +kernel
theorem dX6_faultAs_14 : decode cX6_faultAs 14 = .ok (.if_icmp .eq 5, 3) := by decide +kernel
theorem dX6_faultAs_17 : decode cX6_faultAs 17 = .ok (.iconst 2, 1) := by decide +kernel
theorem dX6_faultAs_18 : decode cX6_faultAs 18 = .ok (.ireturn, 1) := by decide +kernel
theorem dX6_faultAs_19 : decode cX6_faultAs 19 = .ok (.iload_n 3, 1) := by decide +kernel
theorem dX6_faultAs_20 : decode cX6_faultAs 20 = .ok (.ifCond .ge 5, 3) := by decide +kernel
theorem dX6_faultAs_23 : decode cX6_faultAs 23 = .ok (.iconst 4, 1) := by decide +kernel
theorem dX6_faultAs_24 : decode cX6_faultAs 24 = .ok (.ireturn, 1) := by decide +kernel
theorem dX6_faultAs_25 : decode cX6_faultAs 25 = .ok (.aload_n 0, 1) := by decide +kernel
theorem dX6_faultAs_26 : decode cX6_faultAs 26 = .ok (.iload_n 2, 1) := by decide +kernel
theorem dX6_faultAs_27 : decode cX6_faultAs 27 = .ok (.iload_n 3, 1) := by decide +kernel
theorem dX6_faultAs_28 : decode cX6_faultAs 28 = .ok (.invokevirtual 32, 3) := by decide +kernel
theorem dX6_faultAs_31 : decode cX6_faultAs 31 = .ok (.ifCond .eq 7, 3) := by decide +kernel
theorem dX6_faultAs_34 : decode cX6_faultAs 34 = .ok (.iconst 0, 1) := by decide +kernel
theorem dX6_faultAs_35 : decode cX6_faultAs 35 = .ok (.goto 4, 3) := by decide +kernel
theorem dX6_faultAs_38 : decode cX6_faultAs 38 = .ok (.iconst 3, 1) := by decide +kernel
theorem dX6_faultAs_39 : decode cX6_faultAs 39 = .ok (.ireturn, 1) := by decide +kernel
theorem dX6_write_0 : decode cX6_write 0 = .ok (.aload_n 0, 1) := by decide +kernel
theorem dX6_write_1 : decode cX6_write 1 = .ok (.getfield 19, 3) := by decide +kernel
theorem dX6_write_4 : decode cX6_write 4 = .ok (.ifCond .ne 14, 3) := by decide +kernel
theorem dX6_write_7 : decode cX6_write 7 = .ok (.aload_n 0, 1) := by decide +kernel
theorem dX6_write_8 : decode cX6_write 8 = .ok (.getfield 9, 3) := by decide +kernel
theorem dX6_write_11 : decode cX6_write 11 = .ok (.iload_n 1, 1) := by decide +kernel
theorem dX6_write_12 : decode cX6_write 12 = .ok (.iload_n 2, 1) := by decide +kernel
theorem dX6_write_13 : decode cX6_write 13 = .ok (.i2b, 1) := by decide +kernel
theorem dX6_write_14 : decode cX6_write 14 = .ok (.iastore, 1) := by decide +kernel
theorem dX6_write_15 : decode cX6_write 15 = .ok (.goto 29, 3) := by decide +kernel
theorem dX6_write_18 : decode cX6_write 18 = .ok (.aload_n 0, 1) := by decide +kernel
theorem dX6_write_19 : decode cX6_write 19 = .ok (.getfield 19, 3) := by decide +kernel
theorem dX6_write_22 : decode cX6_write 22 = .ok (.iconst 1, 1) := by decide +kernel
theorem dX6_write_23 : decode cX6_write 23 = .ok (.if_icmp .ne 14, 3) := by decide +kernel
theorem dX6_write_26 : decode cX6_write 26 = .ok (.aload_n 0, 1) := by decide +kernel
theorem dX6_write_27 : decode cX6_write 27 = .ok (.getfield 9, 3) := by decide +kernel
theorem dX6_write_30 : decode cX6_write 30 = .ok (.iload_n 1, 1) := by decide +kernel
theorem dX6_write_31 : decode cX6_write 31 = .ok (.iload_n 2, 1) := by decide +kernel
theorem dX6_write_32 : decode cX6_write 32 = .ok (.i2s, 1) := by decide +kernel
theorem dX6_write_33 : decode cX6_write 33 = .ok (.iastore, 1) := by decide +kernel
theorem dX6_write_34 : decode cX6_write 34 = .ok (.goto 10, 3) := by decide +kernel
theorem dX6_write_37 : decode cX6_write 37 = .ok (.aload_n 0, 1) := by decide +kernel
theorem dX6_write_38 : decode cX6_write 38 = .ok (.getfield 9, 3) := by decide +kernel
theorem dX6_write_41 : decode cX6_write 41 = .ok (.iload_n 1, 1) := by decide +kernel
theorem dX6_write_42 : decode cX6_write 42 = .ok (.iload_n 2, 1) := by decide +kernel
theorem dX6_write_43 : decode cX6_write 43 = .ok (.iastore, 1) := by decide +kernel
theorem dX6_write_44 : decode cX6_write 44 = .ok (.return_, 1) := by decide +kernel
theorem dX7_init_0 : decode cX7_init 0 = .ok (.aload_n 0, 1) := by decide +kernel
theorem dX7_init_1 : decode cX7_init 1 = .ok (.invokespecial 3, 3) := by decide +kernel
theorem dX7_init_4 : decode cX7_init 4 = .ok (.return_, 1) := by decide +kernel
theorem dX7_readUpTo_0 : decode cX7_readUpTo 0 = .ok (.aload_n 0, 1) := by decide +kernel
theorem dX7_readUpTo_1 : decode cX7_readUpTo 1 = .ok (.iconst 0, 1) := by decide +kernel
theorem dX7_readUpTo_2 : decode cX7_readUpTo 2 = .ok (.putfield 9, 3) := by decide +kernel
theorem dX7_readUpTo_5 : decode cX7_readUpTo 5 = .ok (.aload_n 0, 1) := by decide +kernel
theorem dX7_readUpTo_6 : decode cX7_readUpTo 6 = .ok (.iconst 0, 1) := by decide +kernel
theorem dX7_readUpTo_7 : decode cX7_readUpTo 7 = .ok (.putfield 15, 3) := by decide +kernel
theorem dX7_readUpTo_10 : decode cX7_readUpTo 10 = .ok (.aload_n 0, 1) := by decide +kernel
theorem dX7_readUpTo_11 : decode cX7_readUpTo 11 = .ok (.iconst 0, 1) := by decide +kernel
theorem dX7_readUpTo_12 : decode cX7_readUpTo 12 = .ok (.putfield 18, 3) := by decide +kernel
theorem dX7_readUpTo_15 : decode cX7_readUpTo 15 = .ok (.aload_n 0, 1) := by decide +kernel
theorem dX7_readUpTo_16 : decode cX7_readUpTo 16 = .ok (.iconst 0, 1) := by decide +kernel
theorem dX7_readUpTo_17 : decode cX7_readUpTo 17 = .ok (.putfield 21, 3) := by decide +kernel
theorem dX7_readUpTo_20 : decode cX7_readUpTo 20 = .ok (.iconst 0, 1) := by decide +kernel
theorem dX7_readUpTo_21 : decode cX7_readUpTo 21 = .ok (.istore 4, 2) := by decide +kernel
theorem dX7_readUpTo_23 : decode cX7_readUpTo 23 = .ok (.iload 4, 2) := by decide +kernel
theorem dX7_readUpTo_25 : decode cX7_readUpTo 25 = .ok (.iload_n 3, 1) := by decide +kernel
theorem dX7_readUpTo_26 : decode cX7_readUpTo 26 = .ok (.if_icmp .ge 30, 3) := by decide +kernel
theorem dX7_readUpTo_29 : decode cX7_readUpTo 29 = .ok (.aload_n 0, 1) := by decide +kernel
theorem dX7_readUpTo_30 : decode cX7_readUpTo 30 = .ok (.iload 4, 2) := by decide +kernel
theorem dX7_readUpTo_32 : decode cX7_readUpTo 32 = .ok (.aload_n 1, 1) := by decide +kernel
theorem dX7_readUpTo_33 : decode cX7_readUpTo 33 = .ok (.getfield 25, 3) := by decide +kernel
theorem dX7_readUpTo_36 : decode cX7_readUpTo 36 = .ok (.iload_n 2, 1) := by decide +kernel
theorem dX7_readUpTo_37 : decode cX7_readUpTo 37 = .ok (.iload 4, 2) := by decide +kernel
theorem dX7_readUpTo_39 : decode cX7_readUpTo 39 = .ok (.iadd, 1) := by decide +kernel
theorem dX7_readUpTo_40 : decode cX7_readUpTo 40 = .ok (.iaload, 1) := by decide +kernel
theorem dX7_readUpTo_41 : decode cX7_readUpTo 41 = .ok (.invokevirtual 31, 3) := by decide +kernel
theorem dX7_readUpTo_44 : decode cX7_readUpTo 44 = .ok (.ifCond .ne 6, 3) := by decide +kernel
theorem dX7_readUpTo_47 : decode cX7_readUpTo 47 = .ok (.iload 4, 2) := by decide +kernel
theorem dX7_readUpTo_49 : decode cX7_readUpTo 49 = .ok (.ireturn, 1) := by decide +kernel
theorem dX7_readUpTo_50 : decode cX7_readUpTo 50 = .ok (.iinc 4 1, 3) := by decide +kernel
theorem dX7_readUpTo_53 : decode cX7_readUpTo 53 = .ok (.goto (-30), 3) := by decide +kernel
theorem dX7_readUpTo_56 : decode cX7_readUpTo 56 = .ok (.aload_n 0, 1) := by decide +kernel
theorem dX7_readUpTo_57 : decode cX7_readUpTo 57 = .ok (.aload_n 0, 1) := by decide +kernel
theorem dX7_readUpTo_58 : decode cX7_readUpTo 58 = .ok (.getfield 15, 3) := by decide +kernel
theorem dX7_readUpTo_61 : decode cX7_readUpTo 61 = .ok (.ifCond .le 14, 3) := by decide +kernel
theorem dX7_readUpTo_64 : decode cX7_readUpTo 64 = .ok (.aload_n 0, 1) := by decide +kernel
theorem dX7_readUpTo_65 : decode cX7_readUpTo 65 = .ok (.getfield 18, 3) := by decide +kernel
theorem dX7_readUpTo_68 : decode cX7_readUpTo 68 = .ok (.ifCond .ne 7, 3) := by decide +kernel
theorem dX7_readUpTo_71 : decode cX7_readUpTo 71 = .ok (.iconst 1, 1) := by decide +kernel
theorem dX7_readUpTo_72 : decode cX7_readUpTo 72 = .ok (.goto 4, 3) := by decide +kernel
theorem dX7_readUpTo_75 : decode cX7_readUpTo 75 = .ok (.iconst 0, 1) := by decide +kernel
theorem dX7_readUpTo_76 : decode cX7_readUpTo 76 = .ok (.putfield 21, 3) := by decide +kernel
theorem dX7_readUpTo_79 : decode cX7_readUpTo 79 = .ok (.iload_n 3, 1) := by decide +kernel
theorem dX7_readUpTo_80 : decode cX7_readUpTo 80 = .ok (.ireturn, 1) := by decide +kernel
theorem dX7_goesOn_0 : decode cX7_goesOn 0 = .ok (.iload_n 1, 1) := by decide +kernel
theorem dX7_goesOn_1 : decode cX7_goesOn 1 = .ok (.ifCond .ne 15, 3) := by decide +kernel
theorem dX7_goesOn_4 : decode cX7_goesOn 4 = .ok (.iload_n 2, 1) := by decide +kernel
theorem dX7_goesOn_5 : decode cX7_goesOn 5 = .ok (.bipush 99, 2) := by decide +kernel
theorem dX7_goesOn_7 : decode cX7_goesOn 7 = .ok (.if_icmp .ne 7, 3) := by decide +kernel
theorem dX7_goesOn_10 : decode cX7_goesOn 10 = .ok (.iconst 1, 1) := by decide +kernel
theorem dX7_goesOn_11 : decode cX7_goesOn 11 = .ok (.goto 4, 3) := by decide +kernel
theorem dX7_goesOn_14 : decode cX7_goesOn 14 = .ok (.iconst 0, 1) := by decide +kernel
theorem dX7_goesOn_15 : decode cX7_goesOn 15 = .ok (.ireturn, 1) := by decide +kernel
theorem dX7_goesOn_16 : decode cX7_goesOn 16 = .ok (.iload_n 1, 1) := by decide +kernel
theorem dX7_goesOn_17 : decode cX7_goesOn 17 = .ok (.iconst 1, 1) := by decide +kernel
theorem dX7_goesOn_18 : decode cX7_goesOn 18 = .ok (.if_icmp .ne 20, 3) := by decide +kernel
theorem dX7_goesOn_21 : decode cX7_goesOn 21 = .ok (.aload_n 0, 1) := by decide +kernel
theorem dX7_goesOn_22 : decode cX7_goesOn 22 = .ok (.iload_n 2, 1) := by decide +kernel
theorem dX7_goesOn_23 : decode cX7_goesOn 23 = .ok (.bipush 48, 2) := by decide +kernel
theorem dX7_goesOn_25 : decode cX7_goesOn 25 = .ok (.isub, 1) := by decide +kernel
theorem dX7_goesOn_26 : decode cX7_goesOn 26 = .ok (.putfield 9, 3) := by decide +kernel
theorem dX7_goesOn_29 : decode cX7_goesOn 29 = .ok (.iload_n 2, 1) := by decide +kernel
theorem dX7_goesOn_30 : decode cX7_goesOn 30 = .ok (.bipush 50, 2) := by decide +kernel
theorem dX7_goesOn_32 : decode cX7_goesOn 32 = .ok (.bipush 54, 2) := by decide +kernel
theorem dX7_goesOn_34 : decode cX7_goesOn 34 = .ok (.invokestatic 35, 3) := by decide +kernel
theorem dX7_goesOn_37 : decode cX7_goesOn 37 = .ok (.ireturn, 1) := by decide +kernel
theorem dX7_goesOn_38 : decode cX7_goesOn 38 = .ok (.aload_n 0, 1) := by decide +kernel
theorem dX7_goesOn_39 : decode cX7_goesOn 39 = .ok (.iload_n 2, 1) := by decide +kernel
theorem dX7_goesOn_40 : decode cX7_goesOn 40 = .ok (.invokevirtual 39, 3) := by decide +kernel
theorem dX7_goesOn_43 : decode cX7_goesOn 43 = .ok (.ifCond .ne 5, 3) := by decide +kernel
theorem dX7_goesOn_46 : decode cX7_goesOn 46 = .ok (.iconst 0, 1) := by decide +kernel
theorem dX7_goesOn_47 : decode cX7_goesOn 47 = .ok (.ireturn, 1) := by decide +kernel
theorem dX7_goesOn_48 : decode cX7_goesOn 48 = .ok (.aload_n 0, 1) := by decide +kernel
theorem dX7_goesOn_49 : decode cX7_goesOn 49 = .ok (.dup, 1) := by decide +kernel
theorem dX7_goesOn_50 : decode cX7_goesOn 50 = .ok (.getfield 18, 3) := by decide +kernel
theorem dX7_goesOn_53 : decode cX7_goesOn 53 = .ok (.iconst 1, 1) := by decide +kernel
theorem dX7_goesOn_54 : decode cX7_goesOn 54 = .ok (.iadd, 1) := by decide +kernel
theorem dX7_goesOn_55 : decode cX7_goesOn 55 = .ok (.putfield 18, 3) := by decide +kernel
theorem dX7_goesOn_58 : decode cX7_goesOn 58 = .ok (.aload_n 0, 1) := by decide +kernel
theorem dX7_goesOn_59 : decode cX7_goesOn 59 = .ok (.getfield 18, 3) := by decide +kernel
theorem dX7_goesOn_62 : decode cX7_goesOn 62 = .ok (.aload_n 0, 1) := by decide +kernel
theorem dX7_goesOn_63 : decode cX7_goesOn 63 = .ok (.getfield 9, 3) := by decide +kernel
theorem dX7_goesOn_66 : decode cX7_goesOn 66 = .ok (.iconst 2, 1) := by decide +kernel
theorem dX7_goesOn_67 : decode cX7_goesOn 67 = .ok (.iadd, 1) := by decide +kernel
theorem dX7_goesOn_68 : decode cX7_goesOn 68 = .ok (.if_icmp .ne 18, 3) := by decide +kernel
theorem dX7_goesOn_71 : decode cX7_goesOn 71 = .ok (.aload_n 0, 1) := by decide +kernel
theorem dX7_goesOn_72 : decode cX7_goesOn 72 = .ok (.iconst 0, 1) := by decide +kernel
theorem dX7_goesOn_73 : decode cX7_goesOn 73 = .ok (.putfield 18, 3) := by decide +kernel
theorem dX7_goesOn_76 : decode cX7_goesOn 76 = .ok (.aload_n 0, 1) := by decide +kernel
theorem dX7_goesOn_77 : decode cX7_goesOn 77 = .ok (.dup, 1) := by decide +kernel
theorem dX7_goesOn_78 : decode cX7_goesOn 78 = .ok (.getfield 15, 3) := by decide +kernel
theorem dX7_goesOn_81 : decode cX7_goesOn 81 = .ok (.iconst 1, 1) := by decide +kernel
theorem dX7_goesOn_82 : decode cX7_goesOn 82 = .ok (.iadd, 1) := by decide +kernel
theorem dX7_goesOn_83 : decode cX7_goesOn 83 = .ok (.putfield 15, 3) := by decide +kernel
theorem dX7_goesOn_86 : decode cX7_goesOn 86 = .ok (.iconst 1, 1) := by decide +kernel
theorem dX7_goesOn_87 : decode cX7_goesOn 87 = .ok (.ireturn, 1) := by decide +kernel
theorem dX7_fitsPart_0 : decode cX7_fitsPart 0 = .ok (.aload_n 0, 1) := by decide +kernel
theorem dX7_fitsPart_1 : decode cX7_fitsPart 1 = .ok (.getfield 18, 3) := by decide +kernel
theorem dX7_fitsPart_4 : decode cX7_fitsPart 4 = .ok (.ifCond .ne 23, 3) := by decide +kernel
theorem dX7_fitsPart_7 : decode cX7_fitsPart 7 = .ok (.iload_n 1, 1) := by decide +kernel
theorem dX7_fitsPart_8 : decode cX7_fitsPart 8 = .ok (.bipush 59, 2) := by decide +kernel
theorem dX7_fitsPart_10 : decode cX7_fitsPart 10 = .ok (.if_icmp .ne 15, 3) := by decide +kernel
theorem dX7_fitsPart_13 : decode cX7_fitsPart 13 = .ok (.aload_n 0, 1) := by decide +kernel
theorem dX7_fitsPart_14 : decode cX7_fitsPart 14 = .ok (.getfield 15, 3) := by decide +kernel
theorem dX7_fitsPart_17 : decode cX7_fitsPart 17 = .ok (.iconst 4, 1) := by decide +kernel
theorem dX7_fitsPart_18 : decode cX7_fitsPart 18 = .ok (.if_icmp .ge 7, 3) := by decide +kernel
theorem dX7_fitsPart_21 : decode cX7_fitsPart 21 = .ok (.iconst 1, 1) := by decide +kernel
theorem dX7_fitsPart_22 : decode cX7_fitsPart 22 = .ok (.goto 4, 3) := by decide +kernel
theorem dX7_fitsPart_25 : decode cX7_fitsPart 25 = .ok (.iconst 0, 1) := by decide +kernel
theorem dX7_fitsPart_26 : decode cX7_fitsPart 26 = .ok (.ireturn, 1) := by decide +kernel
theorem dX7_fitsPart_27 : decode cX7_fitsPart 27 = .ok (.aload_n 0, 1) := by decide +kernel
theorem dX7_fitsPart_28 : decode cX7_fitsPart 28 = .ok (.getfield 18, 3) := by decide +kernel
theorem dX7_fitsPart_31 : decode cX7_fitsPart 31 = .ok (.iconst 1, 1) := by decide +kernel
theorem dX7_fitsPart_32 : decode cX7_fitsPart 32 = .ok (.if_icmp .ne 18, 3) := by decide +kernel
theorem dX7_fitsPart_35 : decode cX7_fitsPart 35 = .ok (.iload_n 1, 1) := by decide +kernel
theorem dX7_fitsPart_36 : decode cX7_fitsPart 36 = .ok (.invokestatic 43, 3) := by decide +kernel
theorem dX7_fitsPart_39 : decode cX7_fitsPart 39 = .ok (.bipush (-9), 2) := by decide +kernel
theorem dX7_fitsPart_41 : decode cX7_fitsPart 41 = .ok (.if_icmp .eq 7, 3) := by decide +kernel
theorem dX7_fitsPart_44 : decode cX7_fitsPart 44 = .ok (.iconst 1, 1) := by decide +kernel
theorem dX7_fitsPart_45 : decode cX7_fitsPart 45 = .ok (.goto 4, 3) := by decide +kernel
theorem dX7_fitsPart_48 : decode cX7_fitsPart 48 = .ok (.iconst 0, 1) := by decide +kernel
theorem dX7_fitsPart_49 : decode cX7_fitsPart 49 = .ok (.ireturn, 1) := by decide +kernel
theorem dX7_fitsPart_50 : decode cX7_fitsPart 50 = .ok (.iload_n 1, 1) := by decide +kernel
theorem dX7_fitsPart_51 : decode cX7_fitsPart 51 = .ok (.bipush 45, 2) := by decide +kernel
theorem dX7_fitsPart_53 : decode cX7_fitsPart 53 = .ok (.if_icmp .eq 21, 3) := by decide +kernel
theorem dX7_fitsPart_56 : decode cX7_fitsPart 56 = .ok (.iload_n 1, 1) := by decide +kernel
theorem dX7_fitsPart_57 : decode cX7_fitsPart 57 = .ok (.bipush 48, 2) := by decide +kernel
theorem dX7_fitsPart_59 : decode cX7_fitsPart 59 = .ok (.bipush 48, 2) := by decide +kernel
theorem dX7_fitsPart_61 : decode cX7_fitsPart 61 = .ok (.aload_n 0, 1) := by decide +kernel
theorem dX7_fitsPart_62 : decode cX7_fitsPart 62 = .ok (.getfield 9, 3) := by decide +kernel
theorem dX7_fitsPart_65 : decode cX7_fitsPart 65 = .ok (.iadd, 1) := by decide +kernel
theorem dX7_fitsPart_66 : decode cX7_fitsPart 66 = .ok (.iconst 1, 1) := by decide +kernel
theorem dX7_fitsPart_67 : decode cX7_fitsPart 67 = .ok (.isub, 1) := by decide +kernel
theorem dX7_fitsPart_68 : decode cX7_fitsPart 68 = .ok (.invokestatic 35, 3) := by decide +kernel
theorem dX7_fitsPart_71 : decode cX7_fitsPart 71 = .ok (.ifCond .eq 7, 3) := by decide +kernel
theorem dX7_fitsPart_74 : decode cX7_fitsPart 74 = .ok (.iconst 1, 1) := by decide +kernel
theorem dX7_fitsPart_75 : decode cX7_fitsPart 75 = .ok (.goto 4, 3) := by decide +kernel
theorem dX7_fitsPart_78 : decode cX7_fitsPart 78 = .ok (.iconst 0, 1) := by decide +kernel
theorem dX7_fitsPart_79 : decode cX7_fitsPart 79 = .ok (.ireturn, 1) := by decide +kernel
theorem dX7_kindOf_0 : decode cX7_kindOf 0 = .ok (.iload_n 0, 1) := by decide +kernel
theorem dX7_kindOf_1 : decode cX7_kindOf 1 = .ok (.lookupswitch 41 #[(98, 37), (107, 39), (112, 35)], 35) := by decide +kernel
theorem dX7_kindOf_36 : decode cX7_kindOf 36 = .ok (.iconst 0, 1) := by decide +kernel
theorem dX7_kindOf_37 : decode cX7_kindOf 37 = .ok (.ireturn, 1) := by decide +kernel
theorem dX7_kindOf_38 : decode cX7_kindOf 38 = .ok (.iconst 1, 1) := by decide +kernel
theorem dX7_kindOf_39 : decode cX7_kindOf 39 = .ok (.ireturn, 1) := by decide +kernel
theorem dX7_kindOf_40 : decode cX7_kindOf 40 = .ok (.iconst 2, 1) := by decide +kernel
theorem dX7_kindOf_41 : decode cX7_kindOf 41 = .ok (.ireturn, 1) := by decide +kernel
theorem dX7_kindOf_42 : decode cX7_kindOf 42 = .ok (.bipush (-9), 2) := by decide +kernel
theorem dX7_kindOf_44 : decode cX7_kindOf 44 = .ok (.ireturn, 1) := by decide +kernel
theorem dX8_init_0 : decode cX8_init 0 = .ok (.aload_n 0, 1) := by decide +kernel
theorem dX8_init_1 : decode cX8_init 1 = .ok (.invokespecial 3, 3) := by decide +kernel
theorem dX8_init_4 : decode cX8_init 4 = .ok (.aload_n 0, 1) := by decide +kernel
theorem dX8_init_5 : decode cX8_init 5 = .ok (.new 9, 3) := by decide +kernel
theorem dX8_init_8 : decode cX8_init 8 = .ok (.dup, 1) := by decide +kernel
theorem dX8_init_9 : decode cX8_init 9 = .ok (.invokespecial 11, 3) := by decide +kernel
theorem dX8_init_12 : decode cX8_init 12 = .ok (.putfield 12, 3) := by decide +kernel
theorem dX8_init_15 : decode cX8_init 15 = .ok (.aload_n 0, 1) := by decide +kernel
theorem dX8_init_16 : decode cX8_init 16 = .ok (.new 18, 3) := by decide +kernel
theorem dX8_init_19 : decode cX8_init 19 = .ok (.dup, 1) := by decide +kernel
theorem dX8_init_20 : decode cX8_init 20 = .ok (.invokespecial 20, 3) := by decide +kernel
theorem dX8_init_23 : decode cX8_init 23 = .ok (.putfield 21, 3) := by decide +kernel
theorem dX8_init_26 : decode cX8_init 26 = .ok (.aload_n 0, 1) := by decide +kernel
theorem dX8_init_27 : decode cX8_init 27 = .ok (.new 18, 3) := by decide +kernel
theorem dX8_init_30 : decode cX8_init 30 = .ok (.dup, 1) := by decide +kernel
theorem dX8_init_31 : decode cX8_init 31 = .ok (.invokespecial 20, 3) := by decide +kernel
theorem dX8_init_34 : decode cX8_init 34 = .ok (.putfield 25, 3) := by decide +kernel
theorem dX8_init_37 : decode cX8_init 37 = .ok (.aload_n 0, 1) := by decide +kernel
theorem dX8_init_38 : decode cX8_init 38 = .ok (.new 28, 3) := by decide +kernel
theorem dX8_init_41 : decode cX8_init 41 = .ok (.dup, 1) := by decide +kernel
theorem dX8_init_42 : decode cX8_init 42 = .ok (.invokespecial 30, 3) := by decide +kernel
theorem dX8_init_45 : decode cX8_init 45 = .ok (.putfield 31, 3) := by decide +kernel
theorem dX8_init_48 : decode cX8_init 48 = .ok (.aload_n 0, 1) := by decide +kernel
theorem dX8_init_49 : decode cX8_init 49 = .ok (.new 35, 3) := by decide +kernel
theorem dX8_init_52 : decode cX8_init 52 = .ok (.dup, 1) := by decide +kernel
theorem dX8_init_53 : decode cX8_init 53 = .ok (.invokespecial 37, 3) := by decide +kernel
theorem dX8_init_56 : decode cX8_init 56 = .ok (.putfield 38, 3) := by decide +kernel
theorem dX8_init_59 : decode cX8_init 59 = .ok (.aload_n 0, 1) := by decide +kernel
theorem dX8_init_60 : decode cX8_init 60 = .ok (.new 42, 3) := by decide +kernel
theorem dX8_init_63 : decode cX8_init 63 = .ok (.dup, 1) := by decide +kernel
theorem dX8_init_64 : decode cX8_init 64 = .ok (.invokespecial 44, 3) := by decide +kernel
theorem dX8_init_67 : decode cX8_init 67 = .ok (.putfield 45, 3) := by decide +kernel
theorem dX8_init_70 : decode cX8_init 70 = .ok (.aload_n 0, 1) := by decide +kernel
theorem dX8_init_71 : decode cX8_init 71 = .ok (.iconst 4, 1) := by decide +kernel
theorem dX8_init_72 : decode cX8_init 72 = .ok (.anewarray 49, 3) := by decide +kernel
theorem dX8_init_75 : decode cX8_init 75 = .ok (.putfield 51, 3) := by decide +kernel
theorem dX8_init_78 : decode cX8_init 78 = .ok (.iconst 0, 1) := by decide +kernel
theorem dX8_init_79 : decode cX8_init 79 = .ok (.istore_n 1, 1) := by decide +kernel
theorem dX8_init_80 : decode cX8_init 80 = .ok (.iload_n 1, 1) := by decide +kernel
theorem dX8_init_81 : decode cX8_init 81 = .ok (.iconst 4, 1) := by decide +kernel
theorem dX8_init_82 : decode cX8_init 82 = .ok (.if_icmp .ge 22, 3) := by decide +kernel
theorem dX8_init_85 : decode cX8_init 85 = .ok (.aload_n 0, 1) := by decide +kernel
theorem dX8_init_86 : decode cX8_init 86 = .ok (.getfield 51, 3) := by decide +kernel
theorem dX8_init_89 : decode cX8_init 89 = .ok (.iload_n 1, 1) := by decide +kernel
theorem dX8_init_90 : decode cX8_init 90 = .ok (.new 49, 3) := by decide +kernel
theorem dX8_init_93 : decode cX8_init 93 = .ok (.dup, 1) := by decide +kernel
theorem dX8_init_94 : decode cX8_init 94 = .ok (.invokespecial 55, 3) := by decide +kernel
theorem dX8_init_97 : decode cX8_init 97 = .ok (.aastore, 1) := by decide +kernel
theorem dX8_init_98 : decode cX8_init 98 = .ok (.iinc 1 1, 3) := by decide +kernel
theorem dX8_init_101 : decode cX8_init 101 = .ok (.goto (-21), 3) := by decide +kernel
theorem dX8_init_104 : decode cX8_init 104 = .ok (.return_, 1) := by decide +kernel
theorem dX8_callers_0 : decode cX8_callers 0 = .ok (.aload_n 0, 1) := by decide +kernel
theorem dX8_callers_1 : decode cX8_callers 1 = .ok (.iconst 0, 1) := by decide +kernel
theorem dX8_callers_2 : decode cX8_callers 2 = .ok (.putfield 56, 3) := by decide +kernel
theorem dX8_callers_5 : decode cX8_callers 5 = .ok (.iload_n 1, 1) := by decide +kernel
theorem dX8_callers_6 : decode cX8_callers 6 = .ok (.invokestatic 60, 3) := by decide +kernel
theorem dX8_callers_9 : decode cX8_callers 9 = .ok (.ifCond .ne 5, 3) := by decide +kernel
theorem dX8_callers_12 : decode cX8_callers 12 = .ok (.iconst (-1), 1) := by decide +kernel
theorem dX8_callers_13 : decode cX8_callers 13 = .ok (.ireturn, 1) := by decide +kernel
theorem dX8_callers_14 : decode cX8_callers 14 = .ok (.iload_n 2, 1) := by decide +kernel
theorem dX8_callers_15 : decode cX8_callers 15 = .ok (.invokestatic 64, 3) := by decide +kernel
theorem dX8_callers_18 : decode cX8_callers 18 = .ok (.ifCond .ne 6, 3) := by decide +kernel
theorem dX8_callers_21 : decode cX8_callers 21 = .ok (.bipush (-2), 2) := by decide +kernel
theorem dX8_callers_23 : decode cX8_callers 23 = .ok (.ireturn, 1) := by decide +kernel
theorem dX8_callers_24 : decode cX8_callers 24 = .ok (.aload_n 0, 1) := by decide +kernel
theorem dX8_callers_25 : decode cX8_callers 25 = .ok (.getfield 51, 3) := by decide +kernel
theorem dX8_callers_28 : decode cX8_callers 28 = .ok (.iload_n 1, 1) := by decide +kernel
theorem dX8_callers_29 : decode cX8_callers 29 = .ok (.aaload, 1) := by decide +kernel
theorem dX8_callers_30 : decode cX8_callers 30 = .ok (.iload_n 2, 1) := by decide +kernel
theorem dX8_callers_31 : decode cX8_callers 31 = .ok (.iload_n 3, 1) := by decide +kernel
theorem dX8_callers_32 : decode cX8_callers 32 = .ok (.iload 4, 2) := by decide +kernel
theorem dX8_callers_34 : decode cX8_callers 34 = .ok (.invokevirtual 67, 3) := by decide +kernel
theorem dX8_callers_37 : decode cX8_callers 37 = .ok (.istore 5, 2) := by decide +kernel
theorem dX8_callers_39 : decode cX8_callers 39 = .ok (.iload 5, 2) := by decide +kernel
theorem dX8_callers_41 : decode cX8_callers 41 = .ok (.ifCond .eq 10, 3) := by decide +kernel
theorem dX8_callers_44 : decode cX8_callers 44 = .ok (.aload_n 0, 1) := by decide +kernel
theorem dX8_callers_45 : decode cX8_callers 45 = .ok (.iload 5, 2) := by decide +kernel
theorem dX8_callers_47 : decode cX8_callers 47 = .ok (.invokevirtual 71, 3) := by decide +kernel
theorem dX8_callers_50 : decode cX8_callers 50 = .ok (.ireturn, 1) := by decide +kernel
theorem dX8_callers_51 : decode cX8_callers 51 = .ok (.aload_n 0, 1) := by decide +kernel
theorem dX8_callers_52 : decode cX8_callers 52 = .ok (.getfield 45, 3) := by decide +kernel
theorem dX8_callers_55 : decode cX8_callers 55 = .ok (.aload_n 0, 1) := by decide +kernel
theorem dX8_callers_56 : decode cX8_callers 56 = .ok (.getfield 51, 3) := by decide +kernel
theorem dX8_callers_59 : decode cX8_callers 59 = .ok (.iload_n 1, 1) := by decide +kernel
theorem dX8_callers_60 : decode cX8_callers 60 = .ok (.aaload, 1) := by decide +kernel
theorem dX8_callers_61 : decode cX8_callers 61 = .ok (.iload_n 3, 1) := by decide +kernel
theorem dX8_callers_62 : decode cX8_callers 62 = .ok (.iload 4, 2) := by decide +kernel
theorem dX8_callers_64 : decode cX8_callers 64 = .ok (.invokevirtual 75, 3) := by decide +kernel
theorem dX8_callers_67 : decode cX8_callers 67 = .ok (.istore 6, 2) := by decide +kernel
theorem dX8_callers_69 : decode cX8_callers 69 = .ok (.aload_n 0, 1) := by decide +kernel
theorem dX8_callers_70 : decode cX8_callers 70 = .ok (.getfield 45, 3) := by decide +kernel
theorem dX8_callers_73 : decode cX8_callers 73 = .ok (.getfield 79, 3) := by decide +kernel
theorem dX8_callers_76 : decode cX8_callers 76 = .ok (.ifCond .ne 9, 3) := by decide +kernel
theorem dX8_callers_79 : decode cX8_callers 79 = .ok (.bipush (-100), 2) := by decide +kernel
theorem dX8_callers_81 : decode cX8_callers 81 = .ok (.iload 6, 2) := by decide +kernel
theorem dX8_callers_83 : decode cX8_callers 83 = .ok (.isub, 1) := by decide +kernel
theorem dX8_callers_84 : decode cX8_callers 84 = .ok (.ireturn, 1) := by decide +kernel
theorem dX8_callers_85 : decode cX8_callers 85 = .ok (.aload_n 0, 1) := by decide +kernel
theorem dX8_callers_86 : decode cX8_callers 86 = .ok (.getfield 12, 3) := by decide +kernel
theorem dX8_callers_89 : decode cX8_callers 89 = .ok (.aload_n 0, 1) := by decide +kernel
theorem dX8_callers_90 : decode cX8_callers 90 = .ok (.getfield 51, 3) := by decide +kernel
theorem dX8_callers_93 : decode cX8_callers 93 = .ok (.iload_n 1, 1) := by decide +kernel
theorem dX8_callers_94 : decode cX8_callers 94 = .ok (.aaload, 1) := by decide +kernel
theorem dX8_callers_95 : decode cX8_callers 95 = .ok (.iload_n 3, 1) := by decide +kernel
theorem dX8_callers_96 : decode cX8_callers 96 = .ok (.aload_n 0, 1) := by decide +kernel
theorem dX8_callers_97 : decode cX8_callers 97 = .ok (.getfield 45, 3) := by decide +kernel
theorem dX8_callers_100 : decode cX8_callers 100 = .ok (.getfield 83, 3) := by decide +kernel
theorem dX8_callers_103 : decode cX8_callers 103 = .ok (.invokevirtual 86, 3) := by decide +kernel
theorem dX8_callers_106 : decode cX8_callers 106 = .ok (.aload_n 0, 1) := by decide +kernel
theorem dX8_callers_107 : decode cX8_callers 107 = .ok (.getfield 21, 3) := by decide +kernel
theorem dX8_callers_110 : decode cX8_callers 110 = .ok (.iconst 0, 1) := by decide +kernel
theorem dX8_callers_111 : decode cX8_callers 111 = .ok (.putfield 90, 3) := by decide +kernel
theorem dX8_callers_114 : decode cX8_callers 114 = .ok (.aload_n 0, 1) := by decide +kernel
theorem dX8_callers_115 : decode cX8_callers 115 = .ok (.getfield 31, 3) := by decide +kernel
theorem dX8_callers_118 : decode cX8_callers 118 = .ok (.iconst 0, 1) := by decide +kernel
theorem dX8_callers_119 : decode cX8_callers 119 = .ok (.putfield 93, 3) := by decide +kernel
theorem dX8_callers_122 : decode cX8_callers 122 = .ok (.aload_n 0, 1) := by decide +kernel
theorem dX8_callers_123 : decode cX8_callers 123 = .ok (.getfield 12, 3) := by decide +kernel
theorem dX8_callers_126 : decode cX8_callers 126 = .ok (.getfield 94, 3) := by decide +kernel
theorem dX8_callers_129 : decode cX8_callers 129 = .ok (.ireturn, 1) := by decide +kernel
theorem dX8_ofCaller_0 : decode cX8_ofCaller 0 = .ok (.aload_n 0, 1) := by decide +kernel
theorem dX8_ofCaller_1 : decode cX8_ofCaller 1 = .ok (.getfield 12, 3) := by decide +kernel
theorem dX8_ofCaller_4 : decode cX8_ofCaller 4 = .ok (.iload_n 1, 1) := by decide +kernel
theorem dX8_ofCaller_5 : decode cX8_ofCaller 5 = .ok (.invokevirtual 95, 3) := by decide +kernel
theorem dX8_ofCaller_8 : decode cX8_ofCaller 8 = .ok (.ifCond .ne 5, 3) := by decide +kernel
theorem dX8_ofCaller_11 : decode cX8_ofCaller 11 = .ok (.iconst (-1), 1) := by decide +kernel
theorem dX8_ofCaller_12 : decode cX8_ofCaller 12 = .ok (.ireturn, 1) := by decide +kernel
theorem dX8_ofCaller_13 : decode cX8_ofCaller 13 = .ok (.aload_n 0, 1) := by decide +kernel
theorem dX8_ofCaller_14 : decode cX8_ofCaller 14 = .ok (.getfield 12, 3) := by decide +kernel
theorem dX8_ofCaller_17 : decode cX8_ofCaller 17 = .ok (.getfield 98, 3) := by decide +kernel
theorem dX8_ofCaller_20 : decode cX8_ofCaller 20 = .ok (.iload_n 1, 1) := by decide +kernel
theorem dX8_ofCaller_21 : decode cX8_ofCaller 21 = .ok (.aaload, 1) := by decide +kernel
theorem dX8_ofCaller_22 : decode cX8_ofCaller 22 = .ok (.astore_n 3, 1) := by decide +kernel
theorem dX8_ofCaller_23 : decode cX8_ofCaller 23 = .ok (.iload_n 2, 1) := by decide +kernel
theorem dX8_ofCaller_24 : decode cX8_ofCaller 24 = .ok (.tableswitch 68 0 2 #[28, 33, 45], 28) := by decide +kernel
theorem dX8_ofCaller_52 : decode cX8_ofCaller 52 = .ok (.aload_n 3, 1) := by decide +kernel
theorem dX8_ofCaller_53 : decode cX8_ofCaller 53 = .ok (.getfield 101, 3) := by decide +kernel
theorem dX8_ofCaller_56 : decode cX8_ofCaller 56 = .ok (.ireturn, 1) := by decide +kernel
theorem dX8_ofCaller_57 : decode cX8_ofCaller 57 = .ok (.aload_n 3, 1) := by decide +kernel
theorem dX8_ofCaller_58 : decode cX8_ofCaller 58 = .ok (.aload_n 0, 1) := by decide +kernel
theorem dX8_ofCaller_59 : decode cX8_ofCaller 59 = .ok (.getfield 12, 3) := by decide +kernel
theorem dX8_ofCaller_62 : decode cX8_ofCaller 62 = .ok (.getfield 106, 3) := by decide +kernel
theorem dX8_ofCaller_65 : decode cX8_ofCaller 65 = .ok (.invokevirtual 109, 3) := by decide +kernel
theorem dX8_ofCaller_68 : decode cX8_ofCaller 68 = .ok (.ireturn, 1) := by decide +kernel
theorem dX8_ofCaller_69 : decode cX8_ofCaller 69 = .ok (.aload_n 3, 1) := by decide +kernel
theorem dX8_ofCaller_70 : decode cX8_ofCaller 70 = .ok (.getfield 112, 3) := by decide +kernel
theorem dX8_ofCaller_73 : decode cX8_ofCaller 73 = .ok (.aload_n 0, 1) := by decide +kernel
theorem dX8_ofCaller_74 : decode cX8_ofCaller 74 = .ok (.getfield 12, 3) := by decide +kernel
theorem dX8_ofCaller_77 : decode cX8_ofCaller 77 = .ok (.getfield 106, 3) := by decide +kernel
theorem dX8_ofCaller_80 : decode cX8_ofCaller 80 = .ok (.invokestatic 116, 3) := by decide +kernel
theorem dX8_ofCaller_83 : decode cX8_ofCaller 83 = .ok (.ifCond .eq 7, 3) := by decide +kernel
theorem dX8_ofCaller_86 : decode cX8_ofCaller 86 = .ok (.iconst 1, 1) := by decide +kernel
theorem dX8_ofCaller_87 : decode cX8_ofCaller 87 = .ok (.goto 4, 3) := by decide +kernel
theorem dX8_ofCaller_90 : decode cX8_ofCaller 90 = .ok (.iconst 0, 1) := by decide +kernel
theorem dX8_ofCaller_91 : decode cX8_ofCaller 91 = .ok (.ireturn, 1) := by decide +kernel
theorem dX8_ofCaller_92 : decode cX8_ofCaller 92 = .ok (.iload_n 2, 1) := by decide +kernel
theorem dX8_ofCaller_93 : decode cX8_ofCaller 93 = .ok (.bipush 10, 2) := by decide +kernel
theorem dX8_ofCaller_95 : decode cX8_ofCaller 95 = .ok (.bipush 15, 2) := by decide +kernel
theorem dX8_ofCaller_97 : decode cX8_ofCaller 97 = .ok (.invokestatic 120, 3) := by decide +kernel
theorem dX8_ofCaller_100 : decode cX8_ofCaller 100 = .ok (.ifCond .eq 15, 3) := by decide +kernel
theorem dX8_ofCaller_103 : decode cX8_ofCaller 103 = .ok (.aload_n 0, 1) := by decide +kernel
theorem dX8_ofCaller_104 : decode cX8_ofCaller 104 = .ok (.aload_n 3, 1) := by decide +kernel
theorem dX8_ofCaller_105 : decode cX8_ofCaller 105 = .ok (.iload_n 2, 1) := by decide +kernel
theorem dX8_ofCaller_106 : decode cX8_ofCaller 106 = .ok (.bipush 10, 2) := by decide +kernel
theorem dX8_ofCaller_108 : decode cX8_ofCaller 108 = .ok (.isub, 1) := by decide +kernel
theorem dX8_ofCaller_109 : decode cX8_ofCaller 109 = .ok (.invokevirtual 124, 3) := by decide +kernel
theorem dX8_ofCaller_112 : decode cX8_ofCaller 112 = .ok (.goto 5, 3) := by decide +kernel
theorem dX8_ofCaller_115 : decode cX8_ofCaller 115 = .ok (.bipush (-2), 2) := by decide +kernel
theorem dX8_ofCaller_117 : decode cX8_ofCaller 117 = .ok (.ireturn, 1) := by decide +kernel
theorem dX8_tune_0 : decode cX8_tune 0 = .ok (.aload_n 0, 1) := by decide +kernel
theorem dX8_tune_1 : decode cX8_tune 1 = .ok (.getfield 12, 3) := by decide +kernel
theorem dX8_tune_4 : decode cX8_tune 4 = .ok (.iload_n 1, 1) := by decide +kernel
theorem dX8_tune_5 : decode cX8_tune 5 = .ok (.invokevirtual 95, 3) := by decide +kernel
theorem dX8_tune_8 : decode cX8_tune 8 = .ok (.ifCond .eq 14, 3) := by decide +kernel
theorem dX8_tune_11 : decode cX8_tune 11 = .ok (.aload_n 0, 1) := by decide +kernel
theorem dX8_tune_12 : decode cX8_tune 12 = .ok (.getfield 12, 3) := by decide +kernel
theorem dX8_tune_15 : decode cX8_tune 15 = .ok (.iload_n 2, 1) := by decide +kernel
theorem dX8_tune_16 : decode cX8_tune 16 = .ok (.invokevirtual 128, 3) := by decide +kernel
theorem dX8_tune_19 : decode cX8_tune 19 = .ok (.ifCond .ne 5, 3) := by decide +kernel
theorem dX8_tune_22 : decode cX8_tune 22 = .ok (.iconst (-1), 1) := by decide +kernel
theorem dX8_tune_23 : decode cX8_tune 23 = .ok (.ireturn, 1) := by decide +kernel
theorem dX8_tune_24 : decode cX8_tune 24 = .ok (.iload_n 3, 1) := by decide +kernel
theorem dX8_tune_25 : decode cX8_tune 25 = .ok (.iconst (-1), 1) := by decide +kernel
theorem dX8_tune_26 : decode cX8_tune 26 = .ok (.if_icmp .eq 17, 3) := by decide +kernel
theorem dX8_tune_29 : decode cX8_tune 29 = .ok (.aload_n 0, 1) := by decide +kernel
theorem dX8_tune_30 : decode cX8_tune 30 = .ok (.getfield 12, 3) := by decide +kernel
theorem dX8_tune_33 : decode cX8_tune 33 = .ok (.iload_n 3, 1) := by decide +kernel
theorem dX8_tune_34 : decode cX8_tune 34 = .ok (.invokevirtual 128, 3) := by decide +kernel
theorem dX8_tune_37 : decode cX8_tune 37 = .ok (.ifCond .ne 6, 3) := by decide +kernel
theorem dX8_tune_40 : decode cX8_tune 40 = .ok (.bipush (-2), 2) := by decide +kernel
theorem dX8_tune_42 : decode cX8_tune 42 = .ok (.ireturn, 1) := by decide +kernel
theorem dX8_tune_43 : decode cX8_tune 43 = .ok (.aload_n 0, 1) := by decide +kernel
theorem dX8_tune_44 : decode cX8_tune 44 = .ok (.aload_n 0, 1) := by decide +kernel
theorem dX8_tune_45 : decode cX8_tune 45 = .ok (.getfield 12, 3) := by decide +kernel
theorem dX8_tune_48 : decode cX8_tune 48 = .ok (.getfield 98, 3) := by decide +kernel
theorem dX8_tune_51 : decode cX8_tune 51 = .ok (.iload_n 1, 1) := by decide +kernel
theorem dX8_tune_52 : decode cX8_tune 52 = .ok (.aaload, 1) := by decide +kernel
theorem dX8_tune_53 : decode cX8_tune 53 = .ok (.iload_n 2, 1) := by decide +kernel
theorem dX8_tune_54 : decode cX8_tune 54 = .ok (.invokevirtual 124, 3) := by decide +kernel
theorem dX8_tune_57 : decode cX8_tune 57 = .ok (.istore 4, 2) := by decide +kernel
theorem dX8_tune_59 : decode cX8_tune 59 = .ok (.aload_n 0, 1) := by decide +kernel
theorem dX8_tune_60 : decode cX8_tune 60 = .ok (.getfield 12, 3) := by decide +kernel
theorem dX8_tune_63 : decode cX8_tune 63 = .ok (.getfield 98, 3) := by decide +kernel
theorem dX8_tune_66 : decode cX8_tune 66 = .ok (.iload_n 1, 1) := by decide +kernel
theorem dX8_tune_67 : decode cX8_tune 67 = .ok (.aaload, 1) := by decide +kernel
theorem dX8_tune_68 : decode cX8_tune 68 = .ok (.getfield 112, 3) := by decide +kernel
theorem dX8_tune_71 : decode cX8_tune 71 = .ok (.iload_n 2, 1) := by decide +kernel
theorem dX8_tune_72 : decode cX8_tune 72 = .ok (.iload_n 3, 1) := by decide +kernel
theorem dX8_tune_73 : decode cX8_tune 73 = .ok (.iastore, 1) := by decide +kernel
theorem dX8_tune_74 : decode cX8_tune 74 = .ok (.iload 4, 2) := by decide +kernel
theorem dX8_tune_76 : decode cX8_tune 76 = .ok (.ireturn, 1) := by decide +kernel
theorem dX8_hears_0 : decode cX8_hears 0 = .ok (.aload_n 0, 1) := by decide +kernel
theorem dX8_hears_1 : decode cX8_hears 1 = .ok (.getfield 12, 3) := by decide +kernel
theorem dX8_hears_4 : decode cX8_hears 4 = .ok (.iload_n 1, 1) := by decide +kernel
theorem dX8_hears_5 : decode cX8_hears 5 = .ok (.invokevirtual 95, 3) := by decide +kernel
theorem dX8_hears_8 : decode cX8_hears 8 = .ok (.ifCond .eq 14, 3) := by decide +kernel
theorem dX8_hears_11 : decode cX8_hears 11 = .ok (.aload_n 0, 1) := by decide +kernel
theorem dX8_hears_12 : decode cX8_hears 12 = .ok (.getfield 12, 3) := by decide +kernel
theorem dX8_hears_15 : decode cX8_hears 15 = .ok (.iload_n 2, 1) := by decide +kernel
theorem dX8_hears_16 : decode cX8_hears 16 = .ok (.invokevirtual 95, 3) := by decide +kernel
theorem dX8_hears_19 : decode cX8_hears 19 = .ok (.ifCond .ne 5, 3) := by decide +kernel
theorem dX8_hears_22 : decode cX8_hears 22 = .ok (.iconst (-1), 1) := by decide +kernel
theorem dX8_hears_23 : decode cX8_hears 23 = .ok (.ireturn, 1) := by decide +kernel
theorem dX8_hears_24 : decode cX8_hears 24 = .ok (.iload_n 3, 1) := by decide +kernel
theorem dX8_hears_25 : decode cX8_hears 25 = .ok (.invokestatic 131, 3) := by decide +kernel
theorem dX8_hears_28 : decode cX8_hears 28 = .ok (.ifCond .eq 11, 3) := by decide +kernel
theorem dX8_hears_31 : decode cX8_hears 31 = .ok (.iload 4, 2) := by decide +kernel
theorem dX8_hears_33 : decode cX8_hears 33 = .ok (.invokestatic 131, 3) := by decide +kernel
theorem dX8_hears_36 : decode cX8_hears 36 = .ok (.ifCond .ne 6, 3) := by decide +kernel
theorem dX8_hears_39 : decode cX8_hears 39 = .ok (.bipush (-2), 2) := by decide +kernel
theorem dX8_hears_41 : decode cX8_hears 41 = .ok (.ireturn, 1) := by decide +kernel
theorem dX8_hears_42 : decode cX8_hears 42 = .ok (.aload_n 0, 1) := by decide +kernel
theorem dX8_hears_43 : decode cX8_hears 43 = .ok (.getfield 12, 3) := by decide +kernel
theorem dX8_hears_46 : decode cX8_hears 46 = .ok (.iload_n 1, 1) := by decide +kernel
theorem dX8_hears_47 : decode cX8_hears 47 = .ok (.iload_n 2, 1) := by decide +kernel
theorem dX8_hears_48 : decode cX8_hears 48 = .ok (.iload_n 3, 1) := by decide +kernel
theorem dX8_hears_49 : decode cX8_hears 49 = .ok (.iload 4, 2) := by decide +kernel
theorem dX8_hears_51 : decode cX8_hears 51 = .ok (.invokevirtual 134, 3) := by decide +kernel
theorem dX8_hears_54 : decode cX8_hears 54 = .ok (.ireturn, 1) := by decide +kernel
theorem dX8_send_0 : decode cX8_send 0 = .ok (.aload_n 0, 1) := by decide +kernel
theorem dX8_send_1 : decode cX8_send 1 = .ok (.getfield 12, 3) := by decide +kernel
theorem dX8_send_4 : decode cX8_send 4 = .ok (.iload_n 1, 1) := by decide +kernel
theorem dX8_send_5 : decode cX8_send 5 = .ok (.invokevirtual 95, 3) := by decide +kernel
theorem dX8_send_8 : decode cX8_send 8 = .ok (.ifCond .ne 5, 3) := by decide +kernel
theorem dX8_send_11 : decode cX8_send 11 = .ok (.iconst (-1), 1) := by decide +kernel
theorem dX8_send_12 : decode cX8_send 12 = .ok (.ireturn, 1) := by decide +kernel
theorem dX8_send_13 : decode cX8_send 13 = .ok (.iload_n 2, 1) := by decide +kernel
theorem dX8_send_14 : decode cX8_send 14 = .ok (.iconst 0, 1) := by decide +kernel
theorem dX8_send_15 : decode cX8_send 15 = .ok (.bipush 20, 2) := by decide +kernel
theorem dX8_send_17 : decode cX8_send 17 = .ok (.invokestatic 120, 3) := by decide +kernel
theorem dX8_send_20 : decode cX8_send 20 = .ok (.ifCond .eq 12, 3) := by decide +kernel
theorem dX8_send_23 : decode cX8_send 23 = .ok (.iload_n 3, 1) := by decide +kernel
theorem dX8_send_24 : decode cX8_send 24 = .ok (.iconst 0, 1) := by decide +kernel
theorem dX8_send_25 : decode cX8_send 25 = .ok (.iconst 5, 1) := by decide +kernel
theorem dX8_send_26 : decode cX8_send 26 = .ok (.invokestatic 120, 3) := by decide +kernel
theorem dX8_send_29 : decode cX8_send 29 = .ok (.ifCond .ne 6, 3) := by decide +kernel
theorem dX8_send_32 : decode cX8_send 32 = .ok (.bipush (-2), 2) := by decide +kernel
theorem dX8_send_34 : decode cX8_send 34 = .ok (.ireturn, 1) := by decide +kernel
theorem dX8_send_35 : decode cX8_send 35 = .ok (.aload_n 0, 1) := by decide +kernel
theorem dX8_send_36 : decode cX8_send 36 = .ok (.getfield 21, 3) := by decide +kernel
theorem dX8_send_39 : decode cX8_send 39 = .ok (.iload_n 1, 1) := by decide +kernel
theorem dX8_send_40 : decode cX8_send 40 = .ok (.iload_n 2, 1) := by decide +kernel
theorem dX8_send_41 : decode cX8_send 41 = .ok (.iload_n 3, 1) := by decide +kernel
theorem dX8_send_42 : decode cX8_send 42 = .ok (.invokevirtual 138, 3) := by decide +kernel
theorem dX8_send_45 : decode cX8_send 45 = .ok (.ifCond .eq 15, 3) := by decide +kernel
theorem dX8_send_48 : decode cX8_send 48 = .ok (.aload_n 0, 1) := by decide +kernel
theorem dX8_send_49 : decode cX8_send 49 = .ok (.getfield 21, 3) := by decide +kernel
theorem dX8_send_52 : decode cX8_send 52 = .ok (.getfield 90, 3) := by decide +kernel
theorem dX8_send_55 : decode cX8_send 55 = .ok (.iconst 1, 1) := by decide +kernel
theorem dX8_send_56 : decode cX8_send 56 = .ok (.isub, 1) := by decide +kernel
theorem dX8_send_57 : decode cX8_send 57 = .ok (.goto 5, 3) := by decide +kernel
theorem dX8_send_60 : decode cX8_send 60 = .ok (.bipush (-4), 2) := by decide +kernel
theorem dX8_send_62 : decode cX8_send 62 = .ok (.ireturn, 1) := by decide +kernel
theorem dX8_unsend_0 : decode cX8_unsend 0 = .ok (.aload_n 0, 1) := by decide +kernel
theorem dX8_unsend_1 : decode cX8_unsend 1 = .ok (.getfield 21, 3) := by decide +kernel
theorem dX8_unsend_4 : decode cX8_unsend 4 = .ok (.iload_n 1, 1) := by decide +kernel
theorem dX8_unsend_5 : decode cX8_unsend 5 = .ok (.invokevirtual 141, 3) := by decide +kernel
theorem dX8_unsend_8 : decode cX8_unsend 8 = .ok (.ifCond .eq 13, 3) := by decide +kernel
theorem dX8_unsend_11 : decode cX8_unsend 11 = .ok (.aload_n 0, 1) := by decide +kernel
theorem dX8_unsend_12 : decode cX8_unsend 12 = .ok (.getfield 21, 3) := by decide +kernel
theorem dX8_unsend_15 : decode cX8_unsend 15 = .ok (.getfield 90, 3) := by decide +kernel
theorem dX8_unsend_18 : decode cX8_unsend 18 = .ok (.goto 5, 3) := by decide +kernel
theorem dX8_unsend_21 : decode cX8_unsend 21 = .ok (.bipush (-2), 2) := by decide +kernel
theorem dX8_unsend_23 : decode cX8_unsend 23 = .ok (.ireturn, 1) := by decide +kernel
theorem dX8_air_0 : decode cX8_air 0 = .ok (.iload_n 1, 1) := by decide +kernel
theorem dX8_air_1 : decode cX8_air 1 = .ok (.iconst 0, 1) := by decide +kernel
theorem dX8_air_2 : decode cX8_air 2 = .ok (.bipush 25, 2) := by decide +kernel
theorem dX8_air_4 : decode cX8_air 4 = .ok (.invokestatic 120, 3) := by decide +kernel
theorem dX8_air_7 : decode cX8_air 7 = .ok (.ifCond .ne 6, 3) := by decide +kernel
theorem dX8_air_10 : decode cX8_air 10 = .ok (.bipush (-2), 2) := by decide +kernel
theorem dX8_air_12 : decode cX8_air 12 = .ok (.ireturn, 1) := by decide +kernel
theorem dX8_air_13 : decode cX8_air 13 = .ok (.aload_n 0, 1) := by decide +kernel
theorem dX8_air_14 : decode cX8_air 14 = .ok (.getfield 12, 3) := by decide +kernel
theorem dX8_air_17 : decode cX8_air 17 = .ok (.getfield 94, 3) := by decide +kernel
theorem dX8_air_20 : decode cX8_air 20 = .ok (.ifCond .ne 6, 3) := by decide +kernel
theorem dX8_air_23 : decode cX8_air 23 = .ok (.bipush (-3), 2) := by decide +kernel
theorem dX8_air_25 : decode cX8_air 25 = .ok (.ireturn, 1) := by decide +kernel
theorem dX8_air_26 : decode cX8_air 26 = .ok (.aload_n 0, 1) := by decide +kernel
theorem dX8_air_27 : decode cX8_air 27 = .ok (.getfield 21, 3) := by decide +kernel
theorem dX8_air_30 : decode cX8_air 30 = .ok (.aload_n 0, 1) := by decide +kernel
theorem dX8_air_31 : decode cX8_air 31 = .ok (.getfield 12, 3) := by decide +kernel
theorem dX8_air_34 : decode cX8_air 34 = .ok (.invokevirtual 144, 3) := by decide +kernel
theorem dX8_air_37 : decode cX8_air 37 = .ok (.aload_n 0, 1) := by decide +kernel
theorem dX8_air_38 : decode cX8_air 38 = .ok (.getfield 21, 3) := by decide +kernel
theorem dX8_air_41 : decode cX8_air 41 = .ok (.getfield 148, 3) := by decide +kernel
theorem dX8_air_44 : decode cX8_air 44 = .ok (.iload_n 1, 1) := by decide +kernel
theorem dX8_air_45 : decode cX8_air 45 = .ok (.iaload, 1) := by decide +kernel
theorem dX8_air_46 : decode cX8_air 46 = .ok (.ireturn, 1) := by decide +kernel
theorem dX8_listen_0 : decode cX8_listen 0 = .ok (.aload_n 0, 1) := by decide +kernel
theorem dX8_listen_1 : decode cX8_listen 1 = .ok (.getfield 12, 3) := by decide +kernel
theorem dX8_listen_4 : decode cX8_listen 4 = .ok (.iload_n 1, 1) := by decide +kernel
theorem dX8_listen_5 : decode cX8_listen 5 = .ok (.invokevirtual 95, 3) := by decide +kernel
theorem dX8_listen_8 : decode cX8_listen 8 = .ok (.ifCond .ne 5, 3) := by decide +kernel
theorem dX8_listen_11 : decode cX8_listen 11 = .ok (.iconst (-1), 1) := by decide +kernel
theorem dX8_listen_12 : decode cX8_listen 12 = .ok (.ireturn, 1) := by decide +kernel
theorem dX8_listen_13 : decode cX8_listen 13 = .ok (.iload_n 2, 1) := by decide +kernel
theorem dX8_listen_14 : decode cX8_listen 14 = .ok (.iconst 0, 1) := by decide +kernel
theorem dX8_listen_15 : decode cX8_listen 15 = .ok (.bipush 25, 2) := by decide +kernel
theorem dX8_listen_17 : decode cX8_listen 17 = .ok (.invokestatic 120, 3) := by decide +kernel
theorem dX8_listen_20 : decode cX8_listen 20 = .ok (.ifCond .ne 6, 3) := by decide +kernel
theorem dX8_listen_23 : decode cX8_listen 23 = .ok (.bipush (-2), 2) := by decide +kernel
theorem dX8_listen_25 : decode cX8_listen 25 = .ok (.ireturn, 1) := by decide +kernel
theorem dX8_listen_26 : decode cX8_listen 26 = .ok (.aload_n 0, 1) := by decide +kernel
theorem dX8_listen_27 : decode cX8_listen 27 = .ok (.getfield 21, 3) := by decide +kernel
theorem dX8_listen_30 : decode cX8_listen 30 = .ok (.aload_n 0, 1) := by decide +kernel
theorem dX8_listen_31 : decode cX8_listen 31 = .ok (.getfield 12, 3) := by decide +kernel
theorem dX8_listen_34 : decode cX8_listen 34 = .ok (.invokevirtual 144, 3) := by decide +kernel
theorem dX8_listen_37 : decode cX8_listen 37 = .ok (.aload_n 0, 1) := by decide +kernel
theorem dX8_listen_38 : decode cX8_listen 38 = .ok (.getfield 12, 3) := by decide +kernel
theorem dX8_listen_41 : decode cX8_listen 41 = .ok (.iload_n 1, 1) := by decide +kernel
theorem dX8_listen_42 : decode cX8_listen 42 = .ok (.aload_n 0, 1) := by decide +kernel
theorem dX8_listen_43 : decode cX8_listen 43 = .ok (.getfield 21, 3) := by decide +kernel
theorem dX8_listen_46 : decode cX8_listen 46 = .ok (.getfield 148, 3) := by decide +kernel
theorem dX8_listen_49 : decode cX8_listen 49 = .ok (.iload_n 2, 1) := by decide +kernel
theorem dX8_listen_50 : decode cX8_listen 50 = .ok (.invokevirtual 151, 3) := by decide +kernel
theorem dX8_listen_53 : decode cX8_listen 53 = .ok (.ireturn, 1) := by decide +kernel
theorem dX8_loudest_0 : decode cX8_loudest 0 = .ok (.aload_n 0, 1) := by decide +kernel
theorem dX8_loudest_1 : decode cX8_loudest 1 = .ok (.getfield 12, 3) := by decide +kernel
theorem dX8_loudest_4 : decode cX8_loudest 4 = .ok (.iload_n 1, 1) := by decide +kernel
theorem dX8_loudest_5 : decode cX8_loudest 5 = .ok (.invokevirtual 95, 3) := by decide +kernel
theorem dX8_loudest_8 : decode cX8_loudest 8 = .ok (.ifCond .ne 5, 3) := by decide +kernel
theorem dX8_loudest_11 : decode cX8_loudest 11 = .ok (.iconst (-1), 1) := by decide +kernel
theorem dX8_loudest_12 : decode cX8_loudest 12 = .ok (.ireturn, 1) := by decide +kernel
theorem dX8_loudest_13 : decode cX8_loudest 13 = .ok (.iload_n 2, 1) := by decide +kernel
theorem dX8_loudest_14 : decode cX8_loudest 14 = .ok (.iconst 0, 1) := by decide +kernel
theorem dX8_loudest_15 : decode cX8_loudest 15 = .ok (.iconst 1, 1) := by decide +kernel
theorem dX8_loudest_16 : decode cX8_loudest 16 = .ok (.invokestatic 120, 3) := by decide +kernel
theorem dX8_loudest_19 : decode cX8_loudest 19 = .ok (.ifCond .ne 6, 3) := by decide +kernel
theorem dX8_loudest_22 : decode cX8_loudest 22 = .ok (.bipush (-2), 2) := by decide +kernel
theorem dX8_loudest_24 : decode cX8_loudest 24 = .ok (.ireturn, 1) := by decide +kernel
theorem dX8_loudest_25 : decode cX8_loudest 25 = .ok (.aload_n 0, 1) := by decide +kernel
theorem dX8_loudest_26 : decode cX8_loudest 26 = .ok (.getfield 21, 3) := by decide +kernel
theorem dX8_loudest_29 : decode cX8_loudest 29 = .ok (.aload_n 0, 1) := by decide +kernel
theorem dX8_loudest_30 : decode cX8_loudest 30 = .ok (.getfield 12, 3) := by decide +kernel
theorem dX8_loudest_33 : decode cX8_loudest 33 = .ok (.invokevirtual 144, 3) := by decide +kernel
theorem dX8_loudest_36 : decode cX8_loudest 36 = .ok (.aload_n 0, 1) := by decide +kernel
theorem dX8_loudest_37 : decode cX8_loudest 37 = .ok (.getfield 12, 3) := by decide +kernel
theorem dX8_loudest_40 : decode cX8_loudest 40 = .ok (.iload_n 1, 1) := by decide +kernel
theorem dX8_loudest_41 : decode cX8_loudest 41 = .ok (.aload_n 0, 1) := by decide +kernel
theorem dX8_loudest_42 : decode cX8_loudest 42 = .ok (.getfield 21, 3) := by decide +kernel
theorem dX8_loudest_45 : decode cX8_loudest 45 = .ok (.getfield 148, 3) := by decide +kernel
theorem dX8_loudest_48 : decode cX8_loudest 48 = .ok (.invokevirtual 155, 3) := by decide +kernel
theorem dX8_loudest_51 : decode cX8_loudest 51 = .ok (.istore_n 3, 1) := by decide +kernel
theorem dX8_loudest_52 : decode cX8_loudest 52 = .ok (.iload_n 2, 1) := by decide +kernel
theorem dX8_loudest_53 : decode cX8_loudest 53 = .ok (.ifCond .ne 7, 3) := by decide +kernel
theorem dX8_loudest_56 : decode cX8_loudest 56 = .ok (.iload_n 3, 1) := by decide +kernel
theorem dX8_loudest_57 : decode cX8_loudest 57 = .ok (.goto 19, 3) := by decide +kernel
theorem dX8_loudest_60 : decode cX8_loudest 60 = .ok (.aload_n 0, 1) := by decide +kernel
theorem dX8_loudest_61 : decode cX8_loudest 61 = .ok (.getfield 12, 3) := by decide +kernel
theorem dX8_loudest_64 : decode cX8_loudest 64 = .ok (.iload_n 1, 1) := by decide +kernel
theorem dX8_loudest_65 : decode cX8_loudest 65 = .ok (.aload_n 0, 1) := by decide +kernel
theorem dX8_loudest_66 : decode cX8_loudest 66 = .ok (.getfield 21, 3) := by decide +kernel
theorem dX8_loudest_69 : decode cX8_loudest 69 = .ok (.getfield 148, 3) := by decide +kernel
theorem dX8_loudest_72 : decode cX8_loudest 72 = .ok (.iload_n 3, 1) := by decide +kernel
theorem dX8_loudest_73 : decode cX8_loudest 73 = .ok (.invokevirtual 151, 3) := by decide +kernel
theorem dX8_loudest_76 : decode cX8_loudest 76 = .ok (.ireturn, 1) := by decide +kernel
theorem dX8_day_0 : decode cX8_day 0 = .ok (.aload_n 0, 1) := by decide +kernel
theorem dX8_day_1 : decode cX8_day 1 = .ok (.iconst 0, 1) := by decide +kernel
theorem dX8_day_2 : decode cX8_day 2 = .ok (.putfield 56, 3) := by decide +kernel
theorem dX8_day_5 : decode cX8_day 5 = .ok (.iload_n 1, 1) := by decide +kernel
theorem dX8_day_6 : decode cX8_day 6 = .ok (.invokestatic 60, 3) := by decide +kernel
theorem dX8_day_9 : decode cX8_day 9 = .ok (.ifCond .ne 5, 3) := by decide +kernel
theorem dX8_day_12 : decode cX8_day 12 = .ok (.iconst (-1), 1) := by decide +kernel
theorem dX8_day_13 : decode cX8_day 13 = .ok (.ireturn, 1) := by decide +kernel
theorem dX8_day_14 : decode cX8_day 14 = .ok (.iload_n 2, 1) := by decide +kernel
theorem dX8_day_15 : decode cX8_day 15 = .ok (.invokestatic 64, 3) := by decide +kernel
theorem dX8_day_18 : decode cX8_day 18 = .ok (.ifCond .eq 22, 3) := by decide +kernel
theorem dX8_day_21 : decode cX8_day 21 = .ok (.iload 4, 2) := by decide +kernel
theorem dX8_day_23 : decode cX8_day 23 = .ok (.iconst 0, 1) := by decide +kernel
theorem dX8_day_24 : decode cX8_day 24 = .ok (.bipush 20, 2) := by decide +kernel
theorem dX8_day_26 : decode cX8_day 26 = .ok (.invokestatic 120, 3) := by decide +kernel
theorem dX8_day_29 : decode cX8_day 29 = .ok (.ifCond .eq 11, 3) := by decide +kernel
theorem dX8_day_32 : decode cX8_day 32 = .ok (.iload 5, 2) := by decide +kernel
theorem dX8_day_34 : decode cX8_day 34 = .ok (.invokestatic 159, 3) := by decide +kernel
theorem dX8_day_37 : decode cX8_day 37 = .ok (.ifCond .ne 6, 3) := by decide +kernel
theorem dX8_day_40 : decode cX8_day 40 = .ok (.bipush (-2), 2) := by decide +kernel
theorem dX8_day_42 : decode cX8_day 42 = .ok (.ireturn, 1) := by decide +kernel
theorem dX8_day_43 : decode cX8_day 43 = .ok (.aload_n 0, 1) := by decide +kernel
theorem dX8_day_44 : decode cX8_day 44 = .ok (.getfield 12, 3) := by decide +kernel
theorem dX8_day_47 : decode cX8_day 47 = .ok (.getfield 94, 3) := by decide +kernel
theorem dX8_day_50 : decode cX8_day 50 = .ok (.ifCond .ne 6, 3) := by decide +kernel
theorem dX8_day_53 : decode cX8_day 53 = .ok (.bipush (-3), 2) := by decide +kernel
theorem dX8_day_55 : decode cX8_day 55 = .ok (.ireturn, 1) := by decide +kernel
theorem dX8_day_56 : decode cX8_day 56 = .ok (.aload_n 0, 1) := by decide +kernel
theorem dX8_day_57 : decode cX8_day 57 = .ok (.getfield 51, 3) := by decide +kernel
theorem dX8_day_60 : decode cX8_day 60 = .ok (.iload_n 1, 1) := by decide +kernel
theorem dX8_day_61 : decode cX8_day 61 = .ok (.aaload, 1) := by decide +kernel
theorem dX8_day_62 : decode cX8_day 62 = .ok (.iload_n 2, 1) := by decide +kernel
theorem dX8_day_63 : decode cX8_day 63 = .ok (.iload_n 3, 1) := by decide +kernel
theorem dX8_day_64 : decode cX8_day 64 = .ok (.iconst 2, 1) := by decide +kernel
theorem dX8_day_65 : decode cX8_day 65 = .ok (.iload 4, 2) := by decide +kernel
theorem dX8_day_67 : decode cX8_day 67 = .ok (.imul, 1) := by decide +kernel
theorem dX8_day_68 : decode cX8_day 68 = .ok (.invokevirtual 67, 3) := by decide +kernel
theorem dX8_day_71 : decode cX8_day 71 = .ok (.istore 6, 2) := by decide +kernel
theorem dX8_day_73 : decode cX8_day 73 = .ok (.iload 6, 2) := by decide +kernel
theorem dX8_day_75 : decode cX8_day 75 = .ok (.ifCond .eq 10, 3) := by decide +kernel
theorem dX8_day_78 : decode cX8_day 78 = .ok (.aload_n 0, 1) := by decide +kernel
theorem dX8_day_79 : decode cX8_day 79 = .ok (.iload 6, 2) := by decide +kernel
theorem dX8_day_81 : decode cX8_day 81 = .ok (.invokevirtual 71, 3) := by decide +kernel
theorem dX8_day_84 : decode cX8_day 84 = .ok (.ireturn, 1) := by decide +kernel
theorem dX8_day_85 : decode cX8_day 85 = .ok (.aload_n 0, 1) := by decide +kernel
theorem dX8_day_86 : decode cX8_day 86 = .ok (.getfield 51, 3) := by decide +kernel
theorem dX8_day_89 : decode cX8_day 89 = .ok (.iload_n 1, 1) := by decide +kernel
theorem dX8_day_90 : decode cX8_day 90 = .ok (.aaload, 1) := by decide +kernel
theorem dX8_day_91 : decode cX8_day 91 = .ok (.iload_n 3, 1) := by decide +kernel
theorem dX8_day_92 : decode cX8_day 92 = .ok (.iload 4, 2) := by decide +kernel
theorem dX8_day_94 : decode cX8_day 94 = .ok (.invokestatic 162, 3) := by decide +kernel
theorem dX8_day_97 : decode cX8_day 97 = .ok (.ifCond .ne 6, 3) := by decide +kernel
theorem dX8_day_100 : decode cX8_day 100 = .ok (.bipush (-2), 2) := by decide +kernel
theorem dX8_day_102 : decode cX8_day 102 = .ok (.ireturn, 1) := by decide +kernel
theorem dX8_day_103 : decode cX8_day 103 = .ok (.aload_n 0, 1) := by decide +kernel
theorem dX8_day_104 : decode cX8_day 104 = .ok (.getfield 25, 3) := by decide +kernel
theorem dX8_day_107 : decode cX8_day 107 = .ok (.aload_n 0, 1) := by decide +kernel
theorem dX8_day_108 : decode cX8_day 108 = .ok (.getfield 21, 3) := by decide +kernel
theorem dX8_day_111 : decode cX8_day 111 = .ok (.invokevirtual 166, 3) := by decide +kernel
theorem dX8_day_114 : decode cX8_day 114 = .ok (.aload_n 0, 1) := by decide +kernel
theorem dX8_day_115 : decode cX8_day 115 = .ok (.aload_n 0, 1) := by decide +kernel
theorem dX8_day_116 : decode cX8_day 116 = .ok (.getfield 51, 3) := by decide +kernel
theorem dX8_day_119 : decode cX8_day 119 = .ok (.iload_n 1, 1) := by decide +kernel
theorem dX8_day_120 : decode cX8_day 120 = .ok (.aaload, 1) := by decide +kernel
theorem dX8_day_121 : decode cX8_day 121 = .ok (.iload_n 3, 1) := by decide +kernel
theorem dX8_day_122 : decode cX8_day 122 = .ok (.iload 4, 2) := by decide +kernel
theorem dX8_day_124 : decode cX8_day 124 = .ok (.invokevirtual 170, 3) := by decide +kernel
theorem dX8_day_127 : decode cX8_day 127 = .ok (.istore 7, 2) := by decide +kernel
theorem dX8_day_129 : decode cX8_day 129 = .ok (.iload 5, 2) := by decide +kernel
theorem dX8_day_131 : decode cX8_day 131 = .ok (.iconst 1, 1) := by decide +kernel
theorem dX8_day_132 : decode cX8_day 132 = .ok (.if_icmp .ne 6, 3) := by decide +kernel
theorem dX8_day_135 : decode cX8_day 135 = .ok (.iload 7, 2) := by decide +kernel
theorem dX8_day_137 : decode cX8_day 137 = .ok (.ireturn, 1) := by decide +kernel
theorem dX8_day_138 : decode cX8_day 138 = .ok (.iload 7, 2) := by decide +kernel
theorem dX8_day_140 : decode cX8_day 140 = .ok (.bipush (-9), 2) := by decide +kernel
theorem dX8_day_142 : decode cX8_day 142 = .ok (.if_icmp .ne 12, 3) := by decide +kernel
theorem dX8_day_145 : decode cX8_day 145 = .ok (.aload_n 0, 1) := by decide +kernel
theorem dX8_day_146 : decode cX8_day 146 = .ok (.iload 5, 2) := by decide +kernel
theorem dX8_day_148 : decode cX8_day 148 = .ok (.invokevirtual 173, 3) := by decide +kernel
theorem dX8_day_151 : decode cX8_day 151 = .ok (.goto 8, 3) := by decide +kernel
theorem dX8_day_154 : decode cX8_day 154 = .ok (.bipush (-100), 2) := by decide +kernel
theorem dX8_day_156 : decode cX8_day 156 = .ok (.iload 7, 2) := by decide +kernel
theorem dX8_day_158 : decode cX8_day 158 = .ok (.isub, 1) := by decide +kernel
theorem dX8_day_159 : decode cX8_day 159 = .ok (.ireturn, 1) := by decide +kernel
theorem dX8_peak_0 : decode cX8_peak 0 = .ok (.aload_n 0, 1) := by decide +kernel
theorem dX8_peak_1 : decode cX8_peak 1 = .ok (.getfield 12, 3) := by decide +kernel
theorem dX8_peak_4 : decode cX8_peak 4 = .ok (.iload_n 1, 1) := by decide +kernel
theorem dX8_peak_5 : decode cX8_peak 5 = .ok (.invokevirtual 95, 3) := by decide +kernel
theorem dX8_peak_8 : decode cX8_peak 8 = .ok (.ifCond .ne 5, 3) := by decide +kernel
theorem dX8_peak_11 : decode cX8_peak 11 = .ok (.iconst (-1), 1) := by decide +kernel
theorem dX8_peak_12 : decode cX8_peak 12 = .ok (.ireturn, 1) := by decide +kernel
theorem dX8_peak_13 : decode cX8_peak 13 = .ok (.iload_n 2, 1) := by decide +kernel
theorem dX8_peak_14 : decode cX8_peak 14 = .ok (.iconst 0, 1) := by decide +kernel
theorem dX8_peak_15 : decode cX8_peak 15 = .ok (.iconst 2, 1) := by decide +kernel
theorem dX8_peak_16 : decode cX8_peak 16 = .ok (.invokestatic 120, 3) := by decide +kernel
theorem dX8_peak_19 : decode cX8_peak 19 = .ok (.ifCond .ne 6, 3) := by decide +kernel
theorem dX8_peak_22 : decode cX8_peak 22 = .ok (.bipush (-2), 2) := by decide +kernel
theorem dX8_peak_24 : decode cX8_peak 24 = .ok (.ireturn, 1) := by decide +kernel
theorem dX8_peak_25 : decode cX8_peak 25 = .ok (.iconst (-1), 1) := by decide +kernel
theorem dX8_peak_26 : decode cX8_peak 26 = .ok (.istore_n 3, 1) := by decide +kernel
theorem dX8_peak_27 : decode cX8_peak 27 = .ok (.iconst 0, 1) := by decide +kernel
theorem dX8_peak_28 : decode cX8_peak 28 = .ok (.istore 4, 2) := by decide +kernel
theorem dX8_peak_30 : decode cX8_peak 30 = .ok (.iconst 0, 1) := by decide +kernel
theorem dX8_peak_31 : decode cX8_peak 31 = .ok (.istore 5, 2) := by decide +kernel
theorem dX8_peak_33 : decode cX8_peak 33 = .ok (.bipush (-5), 2) := by decide +kernel
theorem dX8_peak_35 : decode cX8_peak 35 = .ok (.istore 6, 2) := by decide +kernel
theorem dX8_peak_37 : decode cX8_peak 37 = .ok (.iload 6, 2) := by decide +kernel
theorem dX8_peak_39 : decode cX8_peak 39 = .ok (.iconst 5, 1) := by decide +kernel
theorem dX8_peak_40 : decode cX8_peak 40 = .ok (.if_icmp .gt 71, 3) := by decide +kernel
theorem dX8_peak_43 : decode cX8_peak 43 = .ok (.bipush (-5), 2) := by decide +kernel
theorem dX8_peak_45 : decode cX8_peak 45 = .ok (.istore 7, 2) := by decide +kernel
theorem dX8_peak_47 : decode cX8_peak 47 = .ok (.iload 7, 2) := by decide +kernel
theorem dX8_peak_49 : decode cX8_peak 49 = .ok (.iconst 5, 1) := by decide +kernel
theorem dX8_peak_50 : decode cX8_peak 50 = .ok (.if_icmp .gt 55, 3) := by decide +kernel
theorem dX8_peak_53 : decode cX8_peak 53 = .ok (.iload 6, 2) := by decide +kernel
theorem dX8_peak_55 : decode cX8_peak 55 = .ok (.ifCond .ne 12, 3) := by decide +kernel
theorem dX8_peak_58 : decode cX8_peak 58 = .ok (.iload 7, 2) := by decide +kernel
theorem dX8_peak_60 : decode cX8_peak 60 = .ok (.ifCond .ne 7, 3) := by decide +kernel
theorem dX8_peak_63 : decode cX8_peak 63 = .ok (.iconst (-1), 1) := by decide +kernel
theorem dX8_peak_64 : decode cX8_peak 64 = .ok (.goto 16, 3) := by decide +kernel
theorem dX8_peak_67 : decode cX8_peak 67 = .ok (.aload_n 0, 1) := by decide +kernel
theorem dX8_peak_68 : decode cX8_peak 68 = .ok (.getfield 12, 3) := by decide +kernel
theorem dX8_peak_71 : decode cX8_peak 71 = .ok (.iload_n 1, 1) := by decide +kernel
theorem dX8_peak_72 : decode cX8_peak 72 = .ok (.iload_n 1, 1) := by decide +kernel
theorem dX8_peak_73 : decode cX8_peak 73 = .ok (.iload 6, 2) := by decide +kernel
theorem dX8_peak_75 : decode cX8_peak 75 = .ok (.iload 7, 2) := by decide +kernel
theorem dX8_peak_77 : decode cX8_peak 77 = .ok (.invokevirtual 134, 3) := by decide +kernel
theorem dX8_peak_80 : decode cX8_peak 80 = .ok (.istore 8, 2) := by decide +kernel
theorem dX8_peak_82 : decode cX8_peak 82 = .ok (.iload 8, 2) := by decide +kernel
theorem dX8_peak_84 : decode cX8_peak 84 = .ok (.iload_n 3, 1) := by decide +kernel
theorem dX8_peak_85 : decode cX8_peak 85 = .ok (.if_icmp .le 14, 3) := by decide +kernel
theorem dX8_peak_88 : decode cX8_peak 88 = .ok (.iload 8, 2) := by decide +kernel
theorem dX8_peak_90 : decode cX8_peak 90 = .ok (.istore_n 3, 1) := by decide +kernel
theorem dX8_peak_91 : decode cX8_peak 91 = .ok (.iload 6, 2) := by decide +kernel
theorem dX8_peak_93 : decode cX8_peak 93 = .ok (.istore 4, 2) := by decide +kernel
theorem dX8_peak_95 : decode cX8_peak 95 = .ok (.iload 7, 2) := by decide +kernel
theorem dX8_peak_97 : decode cX8_peak 97 = .ok (.istore 5, 2) := by decide +kernel
theorem dX8_peak_99 : decode cX8_peak 99 = .ok (.iinc 7 1, 3) := by decide +kernel
theorem dX8_peak_102 : decode cX8_peak 102 = .ok (.goto (-55), 3) := by decide +kernel
theorem dX8_peak_105 : decode cX8_peak 105 = .ok (.iinc 6 1, 3) := by decide +kernel
theorem dX8_peak_108 : decode cX8_peak 108 = .ok (.goto (-71), 3) := by decide +kernel
theorem dX8_peak_111 : decode cX8_peak 111 = .ok (.iload_n 2, 1) := by decide +kernel
theorem dX8_peak_112 : decode cX8_peak 112 = .ok (.ifCond .ne 5, 3) := by decide +kernel
theorem dX8_peak_115 : decode cX8_peak 115 = .ok (.iload_n 3, 1) := by decide +kernel
theorem dX8_peak_116 : decode cX8_peak 116 = .ok (.ireturn, 1) := by decide +kernel
theorem dX8_peak_117 : decode cX8_peak 117 = .ok (.iload_n 2, 1) := by decide +kernel
theorem dX8_peak_118 : decode cX8_peak 118 = .ok (.iconst 1, 1) := by decide +kernel
theorem dX8_peak_119 : decode cX8_peak 119 = .ok (.if_icmp .ne 8, 3) := by decide +kernel
theorem dX8_peak_122 : decode cX8_peak 122 = .ok (.iload 4, 2) := by decide +kernel
theorem dX8_peak_124 : decode cX8_peak 124 = .ok (.goto 5, 3) := by decide +kernel
theorem dX8_peak_127 : decode cX8_peak 127 = .ok (.iload 5, 2) := by decide +kernel
theorem dX8_peak_129 : decode cX8_peak 129 = .ok (.ireturn, 1) := by decide +kernel
theorem dX8_clash_0 : decode cX8_clash 0 = .ok (.aload_n 0, 1) := by decide +kernel
theorem dX8_clash_1 : decode cX8_clash 1 = .ok (.getfield 12, 3) := by decide +kernel
theorem dX8_clash_4 : decode cX8_clash 4 = .ok (.iload_n 1, 1) := by decide +kernel
theorem dX8_clash_5 : decode cX8_clash 5 = .ok (.invokevirtual 95, 3) := by decide +kernel
theorem dX8_clash_8 : decode cX8_clash 8 = .ok (.ifCond .eq 14, 3) := by decide +kernel
theorem dX8_clash_11 : decode cX8_clash 11 = .ok (.aload_n 0, 1) := by decide +kernel
theorem dX8_clash_12 : decode cX8_clash 12 = .ok (.getfield 12, 3) := by decide +kernel
theorem dX8_clash_15 : decode cX8_clash 15 = .ok (.iload_n 2, 1) := by decide +kernel
theorem dX8_clash_16 : decode cX8_clash 16 = .ok (.invokevirtual 95, 3) := by decide +kernel
theorem dX8_clash_19 : decode cX8_clash 19 = .ok (.ifCond .ne 5, 3) := by decide +kernel
theorem dX8_clash_22 : decode cX8_clash 22 = .ok (.iconst (-1), 1) := by decide +kernel
theorem dX8_clash_23 : decode cX8_clash 23 = .ok (.ireturn, 1) := by decide +kernel
theorem dX8_clash_24 : decode cX8_clash 24 = .ok (.iconst 0, 1) := by decide +kernel
theorem dX8_clash_25 : decode cX8_clash 25 = .ok (.istore_n 3, 1) := by decide +kernel
theorem dX8_clash_26 : decode cX8_clash 26 = .ok (.bipush (-5), 2) := by decide +kernel
theorem dX8_clash_28 : decode cX8_clash 28 = .ok (.istore 4, 2) := by decide +kernel
theorem dX8_clash_30 : decode cX8_clash 30 = .ok (.iload 4, 2) := by decide +kernel
theorem dX8_clash_32 : decode cX8_clash 32 = .ok (.iconst 5, 1) := by decide +kernel
theorem dX8_clash_33 : decode cX8_clash 33 = .ok (.if_icmp .gt 43, 3) := by decide +kernel
theorem dX8_clash_36 : decode cX8_clash 36 = .ok (.bipush (-5), 2) := by decide +kernel
theorem dX8_clash_38 : decode cX8_clash 38 = .ok (.istore 5, 2) := by decide +kernel
theorem dX8_clash_40 : decode cX8_clash 40 = .ok (.iload 5, 2) := by decide +kernel
theorem dX8_clash_42 : decode cX8_clash 42 = .ok (.iconst 5, 1) := by decide +kernel
theorem dX8_clash_43 : decode cX8_clash 43 = .ok (.if_icmp .gt 27, 3) := by decide +kernel
theorem dX8_clash_46 : decode cX8_clash 46 = .ok (.iload_n 3, 1) := by decide +kernel
theorem dX8_clash_47 : decode cX8_clash 47 = .ok (.aload_n 0, 1) := by decide +kernel
theorem dX8_clash_48 : decode cX8_clash 48 = .ok (.getfield 12, 3) := by decide +kernel
theorem dX8_clash_51 : decode cX8_clash 51 = .ok (.iload_n 1, 1) := by decide +kernel
theorem dX8_clash_52 : decode cX8_clash 52 = .ok (.iload_n 2, 1) := by decide +kernel
theorem dX8_clash_53 : decode cX8_clash 53 = .ok (.iload 4, 2) := by decide +kernel
theorem dX8_clash_55 : decode cX8_clash 55 = .ok (.iload 5, 2) := by decide +kernel
theorem dX8_clash_57 : decode cX8_clash 57 = .ok (.invokevirtual 134, 3) := by decide +kernel
theorem dX8_clash_60 : decode cX8_clash 60 = .ok (.invokestatic 176, 3) := by decide +kernel
theorem dX8_clash_63 : decode cX8_clash 63 = .ok (.istore_n 3, 1) := by decide +kernel
theorem dX8_clash_64 : decode cX8_clash 64 = .ok (.iinc 5 1, 3) := by decide +kernel
theorem dX8_clash_67 : decode cX8_clash 67 = .ok (.goto (-27), 3) := by decide +kernel
theorem dX8_clash_70 : decode cX8_clash 70 = .ok (.iinc 4 1, 3) := by decide +kernel
theorem dX8_clash_73 : decode cX8_clash 73 = .ok (.goto (-43), 3) := by decide +kernel
theorem dX8_clash_76 : decode cX8_clash 76 = .ok (.iload_n 3, 1) := by decide +kernel
theorem dX8_clash_77 : decode cX8_clash 77 = .ok (.ireturn, 1) := by decide +kernel
theorem dX8_rows_0 : decode cX8_rows 0 = .ok (.aload_n 0, 1) := by decide +kernel
theorem dX8_rows_1 : decode cX8_rows 1 = .ok (.getfield 12, 3) := by decide +kernel
theorem dX8_rows_4 : decode cX8_rows 4 = .ok (.getfield 94, 3) := by decide +kernel
theorem dX8_rows_7 : decode cX8_rows 7 = .ok (.ifCond .ne 6, 3) := by decide +kernel
theorem dX8_rows_10 : decode cX8_rows 10 = .ok (.bipush (-3), 2) := by decide +kernel
theorem dX8_rows_12 : decode cX8_rows 12 = .ok (.ireturn, 1) := by decide +kernel
theorem dX8_rows_13 : decode cX8_rows 13 = .ok (.aload_n 0, 1) := by decide +kernel
theorem dX8_rows_14 : decode cX8_rows 14 = .ok (.getfield 38, 3) := by decide +kernel
theorem dX8_rows_17 : decode cX8_rows 17 = .ok (.aload_n 0, 1) := by decide +kernel
theorem dX8_rows_18 : decode cX8_rows 18 = .ok (.getfield 12, 3) := by decide +kernel
theorem dX8_rows_21 : decode cX8_rows 21 = .ok (.getfield 106, 3) := by decide +kernel
theorem dX8_rows_24 : decode cX8_rows 24 = .ok (.invokevirtual 182, 3) := by decide +kernel
theorem dX8_rows_27 : decode cX8_rows 27 = .ok (.aload_n 0, 1) := by decide +kernel
theorem dX8_rows_28 : decode cX8_rows 28 = .ok (.getfield 38, 3) := by decide +kernel
theorem dX8_rows_31 : decode cX8_rows 31 = .ok (.getfield 186, 3) := by decide +kernel
theorem dX8_rows_34 : decode cX8_rows 34 = .ok (.ireturn, 1) := by decide +kernel
theorem dX8_ways_0 : decode cX8_ways 0 = .ok (.aload_n 0, 1) := by decide +kernel
theorem dX8_ways_1 : decode cX8_ways 1 = .ok (.getfield 12, 3) := by decide +kernel
theorem dX8_ways_4 : decode cX8_ways 4 = .ok (.iload_n 1, 1) := by decide +kernel
theorem dX8_ways_5 : decode cX8_ways 5 = .ok (.invokevirtual 95, 3) := by decide +kernel
theorem dX8_ways_8 : decode cX8_ways 8 = .ok (.ifCond .ne 5, 3) := by decide +kernel
theorem dX8_ways_11 : decode cX8_ways 11 = .ok (.iconst (-1), 1) := by decide +kernel
theorem dX8_ways_12 : decode cX8_ways 12 = .ok (.ireturn, 1) := by decide +kernel
theorem dX8_ways_13 : decode cX8_ways 13 = .ok (.iload_n 2, 1) := by decide +kernel
theorem dX8_ways_14 : decode cX8_ways 14 = .ok (.iconst (-1), 1) := by decide +kernel
theorem dX8_ways_15 : decode cX8_ways 15 = .ok (.iconst 5, 1) := by decide +kernel
theorem dX8_ways_16 : decode cX8_ways 16 = .ok (.invokestatic 120, 3) := by decide +kernel
theorem dX8_ways_19 : decode cX8_ways 19 = .ok (.ifCond .ne 6, 3) := by decide +kernel
theorem dX8_ways_22 : decode cX8_ways 22 = .ok (.bipush (-2), 2) := by decide +kernel
theorem dX8_ways_24 : decode cX8_ways 24 = .ok (.ireturn, 1) := by decide +kernel
theorem dX8_ways_25 : decode cX8_ways 25 = .ok (.aload_n 0, 1) := by decide +kernel
theorem dX8_ways_26 : decode cX8_ways 26 = .ok (.getfield 38, 3) := by decide +kernel
theorem dX8_ways_29 : decode cX8_ways 29 = .ok (.aload_n 0, 1) := by decide +kernel
theorem dX8_ways_30 : decode cX8_ways 30 = .ok (.getfield 12, 3) := by decide +kernel
theorem dX8_ways_33 : decode cX8_ways 33 = .ok (.getfield 106, 3) := by decide +kernel
theorem dX8_ways_36 : decode cX8_ways 36 = .ok (.invokevirtual 182, 3) := by decide +kernel
theorem dX8_ways_39 : decode cX8_ways 39 = .ok (.aload_n 0, 1) := by decide +kernel
theorem dX8_ways_40 : decode cX8_ways 40 = .ok (.getfield 12, 3) := by decide +kernel
theorem dX8_ways_43 : decode cX8_ways 43 = .ok (.getfield 98, 3) := by decide +kernel
theorem dX8_ways_46 : decode cX8_ways 46 = .ok (.iload_n 1, 1) := by decide +kernel
theorem dX8_ways_47 : decode cX8_ways 47 = .ok (.aaload, 1) := by decide +kernel
theorem dX8_ways_48 : decode cX8_ways 48 = .ok (.getfield 112, 3) := by decide +kernel
theorem dX8_ways_51 : decode cX8_ways 51 = .ok (.astore_n 3, 1) := by decide +kernel
theorem dX8_ways_52 : decode cX8_ways 52 = .ok (.iload_n 2, 1) := by decide +kernel
theorem dX8_ways_53 : decode cX8_ways 53 = .ok (.iconst (-1), 1) := by decide +kernel
theorem dX8_ways_54 : decode cX8_ways 54 = .ok (.if_icmp .ne 14, 3) := by decide +kernel
theorem dX8_ways_57 : decode cX8_ways 57 = .ok (.aload_n 0, 1) := by decide +kernel
theorem dX8_ways_58 : decode cX8_ways 58 = .ok (.getfield 38, 3) := by decide +kernel
theorem dX8_ways_61 : decode cX8_ways 61 = .ok (.aload_n 3, 1) := by decide +kernel
theorem dX8_ways_62 : decode cX8_ways 62 = .ok (.invokevirtual 187, 3) := by decide +kernel
theorem dX8_ways_65 : decode cX8_ways 65 = .ok (.goto 19, 3) := by decide +kernel
theorem dX8_ways_68 : decode cX8_ways 68 = .ok (.aload_n 0, 1) := by decide +kernel
theorem dX8_ways_69 : decode cX8_ways 69 = .ok (.getfield 38, 3) := by decide +kernel
theorem dX8_ways_72 : decode cX8_ways 72 = .ok (.aload_n 0, 1) := by decide +kernel
theorem dX8_ways_73 : decode cX8_ways 73 = .ok (.getfield 38, 3) := by decide +kernel
theorem dX8_ways_76 : decode cX8_ways 76 = .ok (.aload_n 3, 1) := by decide +kernel
theorem dX8_ways_77 : decode cX8_ways 77 = .ok (.invokevirtual 191, 3) := by decide +kernel
theorem dX8_ways_80 : decode cX8_ways 80 = .ok (.iload_n 2, 1) := by decide +kernel
theorem dX8_ways_81 : decode cX8_ways 81 = .ok (.invokevirtual 194, 3) := by decide +kernel
theorem dX8_ways_84 : decode cX8_ways 84 = .ok (.ireturn, 1) := by decide +kernel
theorem dX8_next_0 : decode cX8_next 0 = .ok (.aload_n 0, 1) := by decide +kernel
theorem dX8_next_1 : decode cX8_next 1 = .ok (.getfield 12, 3) := by decide +kernel
theorem dX8_next_4 : decode cX8_next 4 = .ok (.iload_n 1, 1) := by decide +kernel
theorem dX8_next_5 : decode cX8_next 5 = .ok (.invokevirtual 95, 3) := by decide +kernel
theorem dX8_next_8 : decode cX8_next 8 = .ok (.ifCond .ne 5, 3) := by decide +kernel
theorem dX8_next_11 : decode cX8_next 11 = .ok (.iconst (-1), 1) := by decide +kernel
theorem dX8_next_12 : decode cX8_next 12 = .ok (.ireturn, 1) := by decide +kernel
theorem dX8_next_13 : decode cX8_next 13 = .ok (.iload_n 2, 1) := by decide +kernel
theorem dX8_next_14 : decode cX8_next 14 = .ok (.iconst 0, 1) := by decide +kernel
theorem dX8_next_15 : decode cX8_next 15 = .ok (.iconst 5, 1) := by decide +kernel
theorem dX8_next_16 : decode cX8_next 16 = .ok (.invokestatic 120, 3) := by decide +kernel
theorem dX8_next_19 : decode cX8_next 19 = .ok (.ifCond .ne 6, 3) := by decide +kernel
theorem dX8_next_22 : decode cX8_next 22 = .ok (.bipush (-2), 2) := by decide +kernel
theorem dX8_next_24 : decode cX8_next 24 = .ok (.ireturn, 1) := by decide +kernel
theorem dX8_next_25 : decode cX8_next 25 = .ok (.aload_n 0, 1) := by decide +kernel
theorem dX8_next_26 : decode cX8_next 26 = .ok (.getfield 12, 3) := by decide +kernel
theorem dX8_next_29 : decode cX8_next 29 = .ok (.getfield 98, 3) := by decide +kernel
theorem dX8_next_32 : decode cX8_next 32 = .ok (.iload_n 1, 1) := by decide +kernel
theorem dX8_next_33 : decode cX8_next 33 = .ok (.aaload, 1) := by decide +kernel
theorem dX8_next_34 : decode cX8_next 34 = .ok (.aload_n 0, 1) := by decide +kernel
theorem dX8_next_35 : decode cX8_next 35 = .ok (.getfield 12, 3) := by decide +kernel
theorem dX8_next_38 : decode cX8_next 38 = .ok (.getfield 106, 3) := by decide +kernel
theorem dX8_next_41 : decode cX8_next 41 = .ok (.invokevirtual 109, 3) := by decide +kernel
theorem dX8_next_44 : decode cX8_next 44 = .ok (.ifCond .le 6, 3) := by decide +kernel
theorem dX8_next_47 : decode cX8_next 47 = .ok (.bipush (-3), 2) := by decide +kernel
theorem dX8_next_49 : decode cX8_next 49 = .ok (.ireturn, 1) := by decide +kernel
theorem dX8_next_50 : decode cX8_next 50 = .ok (.aload_n 0, 1) := by decide +kernel
theorem dX8_next_51 : decode cX8_next 51 = .ok (.getfield 38, 3) := by decide +kernel
theorem dX8_next_54 : decode cX8_next 54 = .ok (.aload_n 0, 1) := by decide +kernel
theorem dX8_next_55 : decode cX8_next 55 = .ok (.getfield 12, 3) := by decide +kernel
theorem dX8_next_58 : decode cX8_next 58 = .ok (.getfield 106, 3) := by decide +kernel
theorem dX8_next_61 : decode cX8_next 61 = .ok (.invokevirtual 182, 3) := by decide +kernel
theorem dX8_next_64 : decode cX8_next 64 = .ok (.aload_n 0, 1) := by decide +kernel
theorem dX8_next_65 : decode cX8_next 65 = .ok (.getfield 38, 3) := by decide +kernel
theorem dX8_next_68 : decode cX8_next 68 = .ok (.aload_n 0, 1) := by decide +kernel
theorem dX8_next_69 : decode cX8_next 69 = .ok (.getfield 38, 3) := by decide +kernel
theorem dX8_next_72 : decode cX8_next 72 = .ok (.aload_n 0, 1) := by decide +kernel
theorem dX8_next_73 : decode cX8_next 73 = .ok (.getfield 12, 3) := by decide +kernel
theorem dX8_next_76 : decode cX8_next 76 = .ok (.getfield 98, 3) := by decide +kernel
theorem dX8_next_79 : decode cX8_next 79 = .ok (.iload_n 1, 1) := by decide +kernel
theorem dX8_next_80 : decode cX8_next 80 = .ok (.aaload, 1) := by decide +kernel
theorem dX8_next_81 : decode cX8_next 81 = .ok (.getfield 112, 3) := by decide +kernel
theorem dX8_next_84 : decode cX8_next 84 = .ok (.invokevirtual 197, 3) := by decide +kernel
theorem dX8_next_87 : decode cX8_next 87 = .ok (.iload_n 2, 1) := by decide +kernel
theorem dX8_next_88 : decode cX8_next 88 = .ok (.invokevirtual 194, 3) := by decide +kernel
theorem dX8_next_91 : decode cX8_next 91 = .ok (.ireturn, 1) := by decide +kernel
theorem dX8_reading_0 : decode cX8_reading 0 = .ok (.aload_n 0, 1) := by decide +kernel
theorem dX8_reading_1 : decode cX8_reading 1 = .ok (.getfield 12, 3) := by decide +kernel
theorem dX8_reading_4 : decode cX8_reading 4 = .ok (.iload_n 1, 1) := by decide +kernel
theorem dX8_reading_5 : decode cX8_reading 5 = .ok (.invokevirtual 95, 3) := by decide +kernel
theorem dX8_reading_8 : decode cX8_reading 8 = .ok (.ifCond .eq 14, 3) := by decide +kernel
theorem dX8_reading_11 : decode cX8_reading 11 = .ok (.aload_n 0, 1) := by decide +kernel
theorem dX8_reading_12 : decode cX8_reading 12 = .ok (.getfield 12, 3) := by decide +kernel
theorem dX8_reading_15 : decode cX8_reading 15 = .ok (.iload_n 2, 1) := by decide +kernel
theorem dX8_reading_16 : decode cX8_reading 16 = .ok (.invokevirtual 95, 3) := by decide +kernel
theorem dX8_reading_19 : decode cX8_reading 19 = .ok (.ifCond .ne 5, 3) := by decide +kernel
theorem dX8_reading_22 : decode cX8_reading 22 = .ok (.iconst (-1), 1) := by decide +kernel
theorem dX8_reading_23 : decode cX8_reading 23 = .ok (.ireturn, 1) := by decide +kernel
theorem dX8_reading_24 : decode cX8_reading 24 = .ok (.iload_n 3, 1) := by decide +kernel
theorem dX8_reading_25 : decode cX8_reading 25 = .ok (.invokestatic 131, 3) := by decide +kernel
theorem dX8_reading_28 : decode cX8_reading 28 = .ok (.ifCond .eq 22, 3) := by decide +kernel
theorem dX8_reading_31 : decode cX8_reading 31 = .ok (.iload 4, 2) := by decide +kernel
theorem dX8_reading_33 : decode cX8_reading 33 = .ok (.invokestatic 131, 3) := by decide +kernel
theorem dX8_reading_36 : decode cX8_reading 36 = .ok (.ifCond .eq 14, 3) := by decide +kernel
theorem dX8_reading_39 : decode cX8_reading 39 = .ok (.iload 5, 2) := by decide +kernel
theorem dX8_reading_41 : decode cX8_reading 41 = .ok (.iconst 0, 1) := by decide +kernel
theorem dX8_reading_42 : decode cX8_reading 42 = .ok (.bipush 20, 2) := by decide +kernel
theorem dX8_reading_44 : decode cX8_reading 44 = .ok (.invokestatic 120, 3) := by decide +kernel
theorem dX8_reading_47 : decode cX8_reading 47 = .ok (.ifCond .ne 6, 3) := by decide +kernel
theorem dX8_reading_50 : decode cX8_reading 50 = .ok (.bipush (-2), 2) := by decide +kernel
theorem dX8_reading_52 : decode cX8_reading 52 = .ok (.ireturn, 1) := by decide +kernel
theorem dX8_reading_53 : decode cX8_reading 53 = .ok (.aload_n 0, 1) := by decide +kernel
theorem dX8_reading_54 : decode cX8_reading 54 = .ok (.getfield 31, 3) := by decide +kernel
theorem dX8_reading_57 : decode cX8_reading 57 = .ok (.iload_n 1, 1) := by decide +kernel
theorem dX8_reading_58 : decode cX8_reading 58 = .ok (.iload_n 2, 1) := by decide +kernel
theorem dX8_reading_59 : decode cX8_reading 59 = .ok (.iload_n 3, 1) := by decide +kernel
theorem dX8_reading_60 : decode cX8_reading 60 = .ok (.iload 4, 2) := by decide +kernel
theorem dX8_reading_62 : decode cX8_reading 62 = .ok (.iload 5, 2) := by decide +kernel
theorem dX8_reading_64 : decode cX8_reading 64 = .ok (.invokevirtual 200, 3) := by decide +kernel
theorem dX8_reading_67 : decode cX8_reading 67 = .ok (.ifCond .eq 15, 3) := by decide +kernel
theorem dX8_reading_70 : decode cX8_reading 70 = .ok (.aload_n 0, 1) := by decide +kernel
theorem dX8_reading_71 : decode cX8_reading 71 = .ok (.getfield 31, 3) := by decide +kernel
theorem dX8_reading_74 : decode cX8_reading 74 = .ok (.getfield 93, 3) := by decide +kernel
theorem dX8_reading_77 : decode cX8_reading 77 = .ok (.iconst 1, 1) := by decide +kernel
theorem dX8_reading_78 : decode cX8_reading 78 = .ok (.isub, 1) := by decide +kernel
theorem dX8_reading_79 : decode cX8_reading 79 = .ok (.goto 5, 3) := by decide +kernel
theorem dX8_reading_82 : decode cX8_reading 82 = .ok (.bipush (-4), 2) := by decide +kernel
theorem dX8_reading_84 : decode cX8_reading 84 = .ok (.ireturn, 1) := by decide +kernel
theorem dX8_back_0 : decode cX8_back 0 = .ok (.aload_n 0, 1) := by decide +kernel
theorem dX8_back_1 : decode cX8_back 1 = .ok (.getfield 31, 3) := by decide +kernel
theorem dX8_back_4 : decode cX8_back 4 = .ok (.iload_n 1, 1) := by decide +kernel
theorem dX8_back_5 : decode cX8_back 5 = .ok (.invokevirtual 203, 3) := by decide +kernel
theorem dX8_back_8 : decode cX8_back 8 = .ok (.ifCond .eq 13, 3) := by decide +kernel
theorem dX8_back_11 : decode cX8_back 11 = .ok (.aload_n 0, 1) := by decide +kernel
theorem dX8_back_12 : decode cX8_back 12 = .ok (.getfield 31, 3) := by decide +kernel
theorem dX8_back_15 : decode cX8_back 15 = .ok (.getfield 93, 3) := by decide +kernel
theorem dX8_back_18 : decode cX8_back 18 = .ok (.goto 5, 3) := by decide +kernel
theorem dX8_back_21 : decode cX8_back 21 = .ok (.bipush (-2), 2) := by decide +kernel
theorem dX8_back_23 : decode cX8_back 23 = .ok (.ireturn, 1) := by decide +kernel
theorem dX8_kinds_0 : decode cX8_kinds 0 = .ok (.aload_n 0, 1) := by decide +kernel
theorem dX8_kinds_1 : decode cX8_kinds 1 = .ok (.getfield 12, 3) := by decide +kernel
theorem dX8_kinds_4 : decode cX8_kinds 4 = .ok (.iload_n 1, 1) := by decide +kernel
theorem dX8_kinds_5 : decode cX8_kinds 5 = .ok (.invokevirtual 95, 3) := by decide +kernel
theorem dX8_kinds_8 : decode cX8_kinds 8 = .ok (.ifCond .ne 5, 3) := by decide +kernel
theorem dX8_kinds_11 : decode cX8_kinds 11 = .ok (.iconst (-1), 1) := by decide +kernel
theorem dX8_kinds_12 : decode cX8_kinds 12 = .ok (.ireturn, 1) := by decide +kernel
theorem dX8_kinds_13 : decode cX8_kinds 13 = .ok (.aload_n 0, 1) := by decide +kernel
theorem dX8_kinds_14 : decode cX8_kinds 14 = .ok (.getfield 12, 3) := by decide +kernel
theorem dX8_kinds_17 : decode cX8_kinds 17 = .ok (.getfield 98, 3) := by decide +kernel
theorem dX8_kinds_20 : decode cX8_kinds 20 = .ok (.iload_n 1, 1) := by decide +kernel
theorem dX8_kinds_21 : decode cX8_kinds 21 = .ok (.aaload, 1) := by decide +kernel
theorem dX8_kinds_22 : decode cX8_kinds 22 = .ok (.astore_n 2, 1) := by decide +kernel
theorem dX8_kinds_23 : decode cX8_kinds 23 = .ok (.aload_n 2, 1) := by decide +kernel
theorem dX8_kinds_24 : decode cX8_kinds 24 = .ok (.getfield 101, 3) := by decide +kernel
theorem dX8_kinds_27 : decode cX8_kinds 27 = .ok (.istore_n 3, 1) := by decide +kernel
theorem dX8_kinds_28 : decode cX8_kinds 28 = .ok (.iconst 0, 1) := by decide +kernel
theorem dX8_kinds_29 : decode cX8_kinds 29 = .ok (.istore 4, 2) := by decide +kernel
theorem dX8_kinds_31 : decode cX8_kinds 31 = .ok (.iconst 0, 1) := by decide +kernel
theorem dX8_kinds_32 : decode cX8_kinds 32 = .ok (.istore 5, 2) := by decide +kernel
theorem dX8_kinds_34 : decode cX8_kinds 34 = .ok (.iload 5, 2) := by decide +kernel
theorem dX8_kinds_36 : decode cX8_kinds 36 = .ok (.iconst 2, 1) := by decide +kernel
theorem dX8_kinds_37 : decode cX8_kinds 37 = .ok (.if_icmp .gt 38, 3) := by decide +kernel
theorem dX8_kinds_40 : decode cX8_kinds 40 = .ok (.aload_n 2, 1) := by decide +kernel
theorem dX8_kinds_41 : decode cX8_kinds 41 = .ok (.iload 5, 2) := by decide +kernel
theorem dX8_kinds_43 : decode cX8_kinds 43 = .ok (.putfield 101, 3) := by decide +kernel
theorem dX8_kinds_46 : decode cX8_kinds 46 = .ok (.aload_n 0, 1) := by decide +kernel
theorem dX8_kinds_47 : decode cX8_kinds 47 = .ok (.getfield 31, 3) := by decide +kernel
theorem dX8_kinds_50 : decode cX8_kinds 50 = .ok (.aload_n 0, 1) := by decide +kernel
theorem dX8_kinds_51 : decode cX8_kinds 51 = .ok (.getfield 12, 3) := by decide +kernel
theorem dX8_kinds_54 : decode cX8_kinds 54 = .ok (.invokevirtual 204, 3) := by decide +kernel
theorem dX8_kinds_57 : decode cX8_kinds 57 = .ok (.ifCond .eq 12, 3) := by decide +kernel
theorem dX8_kinds_60 : decode cX8_kinds 60 = .ok (.iload 4, 2) := by decide +kernel
theorem dX8_kinds_62 : decode cX8_kinds 62 = .ok (.iconst 1, 1) := by decide +kernel
theorem dX8_kinds_63 : decode cX8_kinds 63 = .ok (.iload 5, 2) := by decide +kernel
theorem dX8_kinds_65 : decode cX8_kinds 65 = .ok (.ishl, 1) := by decide +kernel
theorem dX8_kinds_66 : decode cX8_kinds 66 = .ok (.ior, 1) := by decide +kernel
theorem dX8_kinds_67 : decode cX8_kinds 67 = .ok (.istore 4, 2) := by decide +kernel
theorem dX8_kinds_69 : decode cX8_kinds 69 = .ok (.iinc 5 1, 3) := by decide +kernel
theorem dX8_kinds_72 : decode cX8_kinds 72 = .ok (.goto (-38), 3) := by decide +kernel
theorem dX8_kinds_75 : decode cX8_kinds 75 = .ok (.aload_n 2, 1) := by decide +kernel
theorem dX8_kinds_76 : decode cX8_kinds 76 = .ok (.iload_n 3, 1) := by decide +kernel
theorem dX8_kinds_77 : decode cX8_kinds 77 = .ok (.putfield 101, 3) := by decide +kernel
theorem dX8_kinds_80 : decode cX8_kinds 80 = .ok (.iload 4, 2) := by decide +kernel
theorem dX8_kinds_82 : decode cX8_kinds 82 = .ok (.ireturn, 1) := by decide +kernel
theorem dX8_pitches_0 : decode cX8_pitches 0 = .ok (.aload_n 0, 1) := by decide +kernel
theorem dX8_pitches_1 : decode cX8_pitches 1 = .ok (.getfield 12, 3) := by decide +kernel
theorem dX8_pitches_4 : decode cX8_pitches 4 = .ok (.iload_n 1, 1) := by decide +kernel
theorem dX8_pitches_5 : decode cX8_pitches 5 = .ok (.invokevirtual 95, 3) := by decide +kernel
theorem dX8_pitches_8 : decode cX8_pitches 8 = .ok (.ifCond .eq 14, 3) := by decide +kernel
theorem dX8_pitches_11 : decode cX8_pitches 11 = .ok (.aload_n 0, 1) := by decide +kernel
theorem dX8_pitches_12 : decode cX8_pitches 12 = .ok (.getfield 12, 3) := by decide +kernel
theorem dX8_pitches_15 : decode cX8_pitches 15 = .ok (.iload_n 2, 1) := by decide +kernel
theorem dX8_pitches_16 : decode cX8_pitches 16 = .ok (.invokevirtual 128, 3) := by decide +kernel
theorem dX8_pitches_19 : decode cX8_pitches 19 = .ok (.ifCond .ne 5, 3) := by decide +kernel
theorem dX8_pitches_22 : decode cX8_pitches 22 = .ok (.iconst (-1), 1) := by decide +kernel
theorem dX8_pitches_23 : decode cX8_pitches 23 = .ok (.ireturn, 1) := by decide +kernel
theorem dX8_pitches_24 : decode cX8_pitches 24 = .ok (.aload_n 0, 1) := by decide +kernel
theorem dX8_pitches_25 : decode cX8_pitches 25 = .ok (.getfield 12, 3) := by decide +kernel
theorem dX8_pitches_28 : decode cX8_pitches 28 = .ok (.getfield 98, 3) := by decide +kernel
theorem dX8_pitches_31 : decode cX8_pitches 31 = .ok (.iload_n 1, 1) := by decide +kernel
theorem dX8_pitches_32 : decode cX8_pitches 32 = .ok (.aaload, 1) := by decide +kernel
theorem dX8_pitches_33 : decode cX8_pitches 33 = .ok (.getfield 112, 3) := by decide +kernel
theorem dX8_pitches_36 : decode cX8_pitches 36 = .ok (.astore_n 3, 1) := by decide +kernel
theorem dX8_pitches_37 : decode cX8_pitches 37 = .ok (.aload_n 3, 1) := by decide +kernel
theorem dX8_pitches_38 : decode cX8_pitches 38 = .ok (.iload_n 2, 1) := by decide +kernel
theorem dX8_pitches_39 : decode cX8_pitches 39 = .ok (.iaload, 1) := by decide +kernel
theorem dX8_pitches_40 : decode cX8_pitches 40 = .ok (.istore 4, 2) := by decide +kernel
theorem dX8_pitches_42 : decode cX8_pitches 42 = .ok (.iconst 0, 1) := by decide +kernel
theorem dX8_pitches_43 : decode cX8_pitches 43 = .ok (.istore 5, 2) := by decide +kernel
theorem dX8_pitches_45 : decode cX8_pitches 45 = .ok (.iconst 0, 1) := by decide +kernel
theorem dX8_pitches_46 : decode cX8_pitches 46 = .ok (.istore 6, 2) := by decide +kernel
theorem dX8_pitches_48 : decode cX8_pitches 48 = .ok (.iload 6, 2) := by decide +kernel
theorem dX8_pitches_50 : decode cX8_pitches 50 = .ok (.aload_n 0, 1) := by decide +kernel
theorem dX8_pitches_51 : decode cX8_pitches 51 = .ok (.getfield 12, 3) := by decide +kernel
theorem dX8_pitches_54 : decode cX8_pitches 54 = .ok (.getfield 106, 3) := by decide +kernel
theorem dX8_pitches_57 : decode cX8_pitches 57 = .ok (.if_icmp .ge 37, 3) := by decide +kernel
theorem dX8_pitches_60 : decode cX8_pitches 60 = .ok (.aload_n 3, 1) := by decide +kernel
theorem dX8_pitches_61 : decode cX8_pitches 61 = .ok (.iload_n 2, 1) := by decide +kernel
theorem dX8_pitches_62 : decode cX8_pitches 62 = .ok (.iload 6, 2) := by decide +kernel
theorem dX8_pitches_64 : decode cX8_pitches 64 = .ok (.iastore, 1) := by decide +kernel
theorem dX8_pitches_65 : decode cX8_pitches 65 = .ok (.aload_n 0, 1) := by decide +kernel
theorem dX8_pitches_66 : decode cX8_pitches 66 = .ok (.getfield 31, 3) := by decide +kernel
theorem dX8_pitches_69 : decode cX8_pitches 69 = .ok (.aload_n 0, 1) := by decide +kernel
theorem dX8_pitches_70 : decode cX8_pitches 70 = .ok (.getfield 12, 3) := by decide +kernel
theorem dX8_pitches_73 : decode cX8_pitches 73 = .ok (.invokevirtual 204, 3) := by decide +kernel
theorem dX8_pitches_76 : decode cX8_pitches 76 = .ok (.ifCond .eq 12, 3) := by decide +kernel
theorem dX8_pitches_79 : decode cX8_pitches 79 = .ok (.iload 5, 2) := by decide +kernel
theorem dX8_pitches_81 : decode cX8_pitches 81 = .ok (.iconst 1, 1) := by decide +kernel
theorem dX8_pitches_82 : decode cX8_pitches 82 = .ok (.iload 6, 2) := by decide +kernel
theorem dX8_pitches_84 : decode cX8_pitches 84 = .ok (.ishl, 1) := by decide +kernel
theorem dX8_pitches_85 : decode cX8_pitches 85 = .ok (.ior, 1) := by decide +kernel
theorem dX8_pitches_86 : decode cX8_pitches 86 = .ok (.istore 5, 2) := by decide +kernel
theorem dX8_pitches_88 : decode cX8_pitches 88 = .ok (.iinc 6 1, 3) := by decide +kernel
theorem dX8_pitches_91 : decode cX8_pitches 91 = .ok (.goto (-43), 3) := by decide +kernel
theorem dX8_pitches_94 : decode cX8_pitches 94 = .ok (.aload_n 3, 1) := by decide +kernel
theorem dX8_pitches_95 : decode cX8_pitches 95 = .ok (.iload_n 2, 1) := by decide +kernel
theorem dX8_pitches_96 : decode cX8_pitches 96 = .ok (.iload 4, 2) := by decide +kernel
theorem dX8_pitches_98 : decode cX8_pitches 98 = .ok (.iastore, 1) := by decide +kernel
theorem dX8_pitches_99 : decode cX8_pitches 99 = .ok (.iload 5, 2) := by decide +kernel
theorem dX8_pitches_101 : decode cX8_pitches 101 = .ok (.ireturn, 1) := by decide +kernel
theorem dX8_odds_0 : decode cX8_odds 0 = .ok (.aload_n 0, 1) := by decide +kernel
theorem dX8_odds_1 : decode cX8_odds 1 = .ok (.getfield 12, 3) := by decide +kernel
theorem dX8_odds_4 : decode cX8_odds 4 = .ok (.iload_n 1, 1) := by decide +kernel
theorem dX8_odds_5 : decode cX8_odds 5 = .ok (.invokevirtual 95, 3) := by decide +kernel
theorem dX8_odds_8 : decode cX8_odds 8 = .ok (.ifCond .eq 22, 3) := by decide +kernel
theorem dX8_odds_11 : decode cX8_odds 11 = .ok (.iload_n 2, 1) := by decide +kernel
theorem dX8_odds_12 : decode cX8_odds 12 = .ok (.iconst 0, 1) := by decide +kernel
theorem dX8_odds_13 : decode cX8_odds 13 = .ok (.bipush 20, 2) := by decide +kernel
theorem dX8_odds_15 : decode cX8_odds 15 = .ok (.invokestatic 120, 3) := by decide +kernel
theorem dX8_odds_18 : decode cX8_odds 18 = .ok (.ifCond .eq 12, 3) := by decide +kernel
theorem dX8_odds_21 : decode cX8_odds 21 = .ok (.iload_n 3, 1) := by decide +kernel
theorem dX8_odds_22 : decode cX8_odds 22 = .ok (.iconst 0, 1) := by decide +kernel
theorem dX8_odds_23 : decode cX8_odds 23 = .ok (.iconst 1, 1) := by decide +kernel
theorem dX8_odds_24 : decode cX8_odds 24 = .ok (.invokestatic 120, 3) := by decide +kernel
theorem dX8_odds_27 : decode cX8_odds 27 = .ok (.ifCond .ne 7, 3) := by decide +kernel
theorem dX8_odds_30 : decode cX8_odds 30 = .ok (.ldc2_w 208, 3) := by decide +kernel
theorem dX8_odds_33 : decode cX8_odds 33 = .ok (.lreturn, 1) := by decide +kernel
theorem dX8_odds_34 : decode cX8_odds 34 = .ok (.iconst 0, 1) := by decide +kernel
theorem dX8_odds_35 : decode cX8_odds 35 = .ok (.istore 4, 2) := by decide +kernel
theorem dX8_odds_37 : decode cX8_odds 37 = .ok (.bipush (-5), 2) := by decide +kernel
theorem dX8_odds_39 : decode cX8_odds 39 = .ok (.istore 5, 2) := by decide +kernel
theorem dX8_odds_41 : decode cX8_odds 41 = .ok (.iload 5, 2) := by decide +kernel
theorem dX8_odds_43 : decode cX8_odds 43 = .ok (.iconst 5, 1) := by decide +kernel
theorem dX8_odds_44 : decode cX8_odds 44 = .ok (.if_icmp .gt 67, 3) := by decide +kernel
theorem dX8_odds_47 : decode cX8_odds 47 = .ok (.bipush (-5), 2) := by decide +kernel
theorem dX8_odds_49 : decode cX8_odds 49 = .ok (.istore 6, 2) := by decide +kernel
theorem dX8_odds_51 : decode cX8_odds 51 = .ok (.iload 6, 2) := by decide +kernel
theorem dX8_odds_53 : decode cX8_odds 53 = .ok (.iconst 5, 1) := by decide +kernel
theorem dX8_odds_54 : decode cX8_odds 54 = .ok (.if_icmp .gt 51, 3) := by decide +kernel
theorem dX8_odds_57 : decode cX8_odds 57 = .ok (.iload 5, 2) := by decide +kernel
theorem dX8_odds_59 : decode cX8_odds 59 = .ok (.ifCond .ne 8, 3) := by decide +kernel
theorem dX8_odds_62 : decode cX8_odds 62 = .ok (.iload 6, 2) := by decide +kernel
theorem dX8_odds_64 : decode cX8_odds 64 = .ok (.ifCond .eq 7, 3) := by decide +kernel
theorem dX8_odds_67 : decode cX8_odds 67 = .ok (.iconst 1, 1) := by decide +kernel
theorem dX8_odds_68 : decode cX8_odds 68 = .ok (.goto 4, 3) := by decide +kernel
theorem dX8_odds_71 : decode cX8_odds 71 = .ok (.iconst 0, 1) := by decide +kernel
theorem dX8_odds_72 : decode cX8_odds 72 = .ok (.istore 7, 2) := by decide +kernel
theorem dX8_odds_74 : decode cX8_odds 74 = .ok (.iload 7, 2) := by decide +kernel
theorem dX8_odds_76 : decode cX8_odds 76 = .ok (.ifCond .eq 23, 3) := by decide +kernel
theorem dX8_odds_79 : decode cX8_odds 79 = .ok (.aload_n 0, 1) := by decide +kernel
theorem dX8_odds_80 : decode cX8_odds 80 = .ok (.getfield 12, 3) := by decide +kernel
theorem dX8_odds_83 : decode cX8_odds 83 = .ok (.iload_n 1, 1) := by decide +kernel
theorem dX8_odds_84 : decode cX8_odds 84 = .ok (.iload_n 1, 1) := by decide +kernel
theorem dX8_odds_85 : decode cX8_odds 85 = .ok (.iload 5, 2) := by decide +kernel
theorem dX8_odds_87 : decode cX8_odds 87 = .ok (.iload 6, 2) := by decide +kernel
theorem dX8_odds_89 : decode cX8_odds 89 = .ok (.invokevirtual 134, 3) := by decide +kernel
theorem dX8_odds_92 : decode cX8_odds 92 = .ok (.iload_n 2, 1) := by decide +kernel
theorem dX8_odds_93 : decode cX8_odds 93 = .ok (.if_icmp .lt 6, 3) := by decide +kernel
theorem dX8_odds_96 : decode cX8_odds 96 = .ok (.iinc 4 1, 3) := by decide +kernel
theorem dX8_odds_99 : decode cX8_odds 99 = .ok (.iinc 6 1, 3) := by decide +kernel
theorem dX8_odds_102 : decode cX8_odds 102 = .ok (.goto (-51), 3) := by decide +kernel
theorem dX8_odds_105 : decode cX8_odds 105 = .ok (.iinc 5 1, 3) := by decide +kernel
theorem dX8_odds_108 : decode cX8_odds 108 = .ok (.goto (-67), 3) := by decide +kernel
theorem dX8_odds_111 : decode cX8_odds 111 = .ok (.iload_n 3, 1) := by decide +kernel
theorem dX8_odds_112 : decode cX8_odds 112 = .ok (.ifCond .ne 8, 3) := by decide +kernel
theorem dX8_odds_115 : decode cX8_odds 115 = .ok (.iload 4, 2) := by decide +kernel
theorem dX8_odds_117 : decode cX8_odds 117 = .ok (.goto 5, 3) := by decide +kernel
theorem dX8_odds_120 : decode cX8_odds 120 = .ok (.bipush 120, 2) := by decide +kernel
theorem dX8_odds_122 : decode cX8_odds 122 = .ok (.iload 4, 2) := by decide +kernel
theorem dX8_odds_124 : decode cX8_odds 124 = .ok (.invokestatic 210, 3) := by decide +kernel
theorem dX8_odds_127 : decode cX8_odds 127 = .ok (.i2l, 1) := by decide +kernel
theorem dX8_odds_128 : decode cX8_odds 128 = .ok (.lreturn, 1) := by decide +kernel
theorem dX8_sheet_0 : decode cX8_sheet 0 = .ok (.aload_n 0, 1) := by decide +kernel
theorem dX8_sheet_1 : decode cX8_sheet 1 = .ok (.iconst 0, 1) := by decide +kernel
theorem dX8_sheet_2 : decode cX8_sheet 2 = .ok (.putfield 56, 3) := by decide +kernel
theorem dX8_sheet_5 : decode cX8_sheet 5 = .ok (.iload_n 1, 1) := by decide +kernel
theorem dX8_sheet_6 : decode cX8_sheet 6 = .ok (.invokestatic 60, 3) := by decide +kernel
theorem dX8_sheet_9 : decode cX8_sheet 9 = .ok (.ifCond .ne 5, 3) := by decide +kernel
theorem dX8_sheet_12 : decode cX8_sheet 12 = .ok (.iconst (-1), 1) := by decide +kernel
theorem dX8_sheet_13 : decode cX8_sheet 13 = .ok (.ireturn, 1) := by decide +kernel
theorem dX8_sheet_14 : decode cX8_sheet 14 = .ok (.iload_n 2, 1) := by decide +kernel
theorem dX8_sheet_15 : decode cX8_sheet 15 = .ok (.invokestatic 64, 3) := by decide +kernel
theorem dX8_sheet_18 : decode cX8_sheet 18 = .ok (.ifCond .eq 9, 3) := by decide +kernel
theorem dX8_sheet_21 : decode cX8_sheet 21 = .ok (.iload_n 3, 1) := by decide +kernel
theorem dX8_sheet_22 : decode cX8_sheet 22 = .ok (.bipush 60, 2) := by decide +kernel
theorem dX8_sheet_24 : decode cX8_sheet 24 = .ok (.if_icmp .le 6, 3) := by decide +kernel
theorem dX8_sheet_27 : decode cX8_sheet 27 = .ok (.bipush (-2), 2) := by decide +kernel
theorem dX8_sheet_29 : decode cX8_sheet 29 = .ok (.ireturn, 1) := by decide +kernel
theorem dX8_sheet_30 : decode cX8_sheet 30 = .ok (.iload_n 3, 1) := by decide +kernel
theorem dX8_sheet_31 : decode cX8_sheet 31 = .ok (.ifCond .ge 9, 3) := by decide +kernel
theorem dX8_sheet_34 : decode cX8_sheet 34 = .ok (.aload_n 0, 1) := by decide +kernel
theorem dX8_sheet_35 : decode cX8_sheet 35 = .ok (.iconst 4, 1) := by decide +kernel
theorem dX8_sheet_36 : decode cX8_sheet 36 = .ok (.invokevirtual 71, 3) := by decide +kernel
theorem dX8_sheet_39 : decode cX8_sheet 39 = .ok (.ireturn, 1) := by decide +kernel
theorem dX8_sheet_40 : decode cX8_sheet 40 = .ok (.aload_n 0, 1) := by decide +kernel
theorem dX8_sheet_41 : decode cX8_sheet 41 = .ok (.getfield 51, 3) := by decide +kernel
theorem dX8_sheet_44 : decode cX8_sheet 44 = .ok (.iload_n 1, 1) := by decide +kernel
theorem dX8_sheet_45 : decode cX8_sheet 45 = .ok (.aaload, 1) := by decide +kernel
theorem dX8_sheet_46 : decode cX8_sheet 46 = .ok (.iload_n 2, 1) := by decide +kernel
theorem dX8_sheet_47 : decode cX8_sheet 47 = .ok (.iload_n 3, 1) := by decide +kernel
theorem dX8_sheet_48 : decode cX8_sheet 48 = .ok (.invokevirtual 213, 3) := by decide +kernel
theorem dX8_sheet_51 : decode cX8_sheet 51 = .ok (.iconst 1, 1) := by decide +kernel
theorem dX8_sheet_52 : decode cX8_sheet 52 = .ok (.ireturn, 1) := by decide +kernel
theorem dX8_lose_0 : decode cX8_lose 0 = .ok (.iload_n 1, 1) := by decide +kernel
theorem dX8_lose_1 : decode cX8_lose 1 = .ok (.invokestatic 60, 3) := by decide +kernel
theorem dX8_lose_4 : decode cX8_lose 4 = .ok (.ifCond .ne 5, 3) := by decide +kernel
theorem dX8_lose_7 : decode cX8_lose 7 = .ok (.iconst (-1), 1) := by decide +kernel
theorem dX8_lose_8 : decode cX8_lose 8 = .ok (.ireturn, 1) := by decide +kernel
theorem dX8_lose_9 : decode cX8_lose 9 = .ok (.aload_n 0, 1) := by decide +kernel
theorem dX8_lose_10 : decode cX8_lose 10 = .ok (.getfield 51, 3) := by decide +kernel
theorem dX8_lose_13 : decode cX8_lose 13 = .ok (.iload_n 1, 1) := by decide +kernel
theorem dX8_lose_14 : decode cX8_lose 14 = .ok (.aaload, 1) := by decide +kernel
theorem dX8_lose_15 : decode cX8_lose 15 = .ok (.getfield 217, 3) := by decide +kernel
theorem dX8_lose_18 : decode cX8_lose 18 = .ok (.ifCond .eq 7, 3) := by decide +kernel
theorem dX8_lose_21 : decode cX8_lose 21 = .ok (.iconst 1, 1) := by decide +kernel
theorem dX8_lose_22 : decode cX8_lose 22 = .ok (.goto 4, 3) := by decide +kernel
theorem dX8_lose_25 : decode cX8_lose 25 = .ok (.iconst 0, 1) := by decide +kernel
theorem dX8_lose_26 : decode cX8_lose 26 = .ok (.istore_n 2, 1) := by decide +kernel
theorem dX8_lose_27 : decode cX8_lose 27 = .ok (.aload_n 0, 1) := by decide +kernel
theorem dX8_lose_28 : decode cX8_lose 28 = .ok (.getfield 51, 3) := by decide +kernel
theorem dX8_lose_31 : decode cX8_lose 31 = .ok (.iload_n 1, 1) := by decide +kernel
theorem dX8_lose_32 : decode cX8_lose 32 = .ok (.aaload, 1) := by decide +kernel
theorem dX8_lose_33 : decode cX8_lose 33 = .ok (.iconst 0, 1) := by decide +kernel
theorem dX8_lose_34 : decode cX8_lose 34 = .ok (.putfield 217, 3) := by decide +kernel
theorem dX8_lose_37 : decode cX8_lose 37 = .ok (.iload_n 2, 1) := by decide +kernel
theorem dX8_lose_38 : decode cX8_lose 38 = .ok (.ireturn, 1) := by decide +kernel
theorem dX8_put_0 : decode cX8_put 0 = .ok (.aload_n 0, 1) := by decide +kernel
theorem dX8_put_1 : decode cX8_put 1 = .ok (.iconst 0, 1) := by decide +kernel
theorem dX8_put_2 : decode cX8_put 2 = .ok (.putfield 56, 3) := by decide +kernel
theorem dX8_put_5 : decode cX8_put 5 = .ok (.iload_n 1, 1) := by decide +kernel
theorem dX8_put_6 : decode cX8_put 6 = .ok (.invokestatic 60, 3) := by decide +kernel
theorem dX8_put_9 : decode cX8_put 9 = .ok (.ifCond .ne 5, 3) := by decide +kernel
theorem dX8_put_12 : decode cX8_put 12 = .ok (.iconst (-1), 1) := by decide +kernel
theorem dX8_put_13 : decode cX8_put 13 = .ok (.ireturn, 1) := by decide +kernel
theorem dX8_put_14 : decode cX8_put 14 = .ok (.aload_n 0, 1) := by decide +kernel
theorem dX8_put_15 : decode cX8_put 15 = .ok (.getfield 51, 3) := by decide +kernel
theorem dX8_put_18 : decode cX8_put 18 = .ok (.iload_n 1, 1) := by decide +kernel
theorem dX8_put_19 : decode cX8_put 19 = .ok (.aaload, 1) := by decide +kernel
theorem dX8_put_20 : decode cX8_put 20 = .ok (.getfield 217, 3) := by decide +kernel
theorem dX8_put_23 : decode cX8_put 23 = .ok (.ifCond .ne 9, 3) := by decide +kernel
theorem dX8_put_26 : decode cX8_put 26 = .ok (.aload_n 0, 1) := by decide +kernel
theorem dX8_put_27 : decode cX8_put 27 = .ok (.iconst 1, 1) := by decide +kernel
theorem dX8_put_28 : decode cX8_put 28 = .ok (.invokevirtual 71, 3) := by decide +kernel
theorem dX8_put_31 : decode cX8_put 31 = .ok (.ireturn, 1) := by decide +kernel
theorem dX8_put_32 : decode cX8_put 32 = .ok (.aload_n 0, 1) := by decide +kernel
theorem dX8_put_33 : decode cX8_put 33 = .ok (.getfield 51, 3) := by decide +kernel
theorem dX8_put_36 : decode cX8_put 36 = .ok (.iload_n 1, 1) := by decide +kernel
theorem dX8_put_37 : decode cX8_put 37 = .ok (.aaload, 1) := by decide +kernel
theorem dX8_put_38 : decode cX8_put 38 = .ok (.iload_n 2, 1) := by decide +kernel
theorem dX8_put_39 : decode cX8_put 39 = .ok (.iconst 1, 1) := by decide +kernel
theorem dX8_put_40 : decode cX8_put 40 = .ok (.invokevirtual 220, 3) := by decide +kernel
theorem dX8_put_43 : decode cX8_put 43 = .ok (.ifCond .ne 9, 3) := by decide +kernel
theorem dX8_put_46 : decode cX8_put 46 = .ok (.aload_n 0, 1) := by decide +kernel
theorem dX8_put_47 : decode cX8_put 47 = .ok (.iconst 3, 1) := by decide +kernel
theorem dX8_put_48 : decode cX8_put 48 = .ok (.invokevirtual 71, 3) := by decide +kernel
theorem dX8_put_51 : decode cX8_put 51 = .ok (.ireturn, 1) := by decide +kernel
theorem dX8_put_52 : decode cX8_put 52 = .ok (.aload_n 0, 1) := by decide +kernel
theorem dX8_put_53 : decode cX8_put 53 = .ok (.getfield 51, 3) := by decide +kernel
theorem dX8_put_56 : decode cX8_put 56 = .ok (.iload_n 1, 1) := by decide +kernel
theorem dX8_put_57 : decode cX8_put 57 = .ok (.aaload, 1) := by decide +kernel
theorem dX8_put_58 : decode cX8_put 58 = .ok (.iload_n 2, 1) := by decide +kernel
theorem dX8_put_59 : decode cX8_put 59 = .ok (.iload_n 3, 1) := by decide +kernel
theorem dX8_put_60 : decode cX8_put 60 = .ok (.invokevirtual 224, 3) := by decide +kernel
theorem dX8_put_63 : decode cX8_put 63 = .ok (.iconst 1, 1) := by decide +kernel
theorem dX8_put_64 : decode cX8_put 64 = .ok (.ireturn, 1) := by decide +kernel
theorem dX8_cell_0 : decode cX8_cell 0 = .ok (.aload_n 0, 1) := by decide +kernel
theorem dX8_cell_1 : decode cX8_cell 1 = .ok (.iconst 0, 1) := by decide +kernel
theorem dX8_cell_2 : decode cX8_cell 2 = .ok (.putfield 56, 3) := by decide +kernel
theorem dX8_cell_5 : decode cX8_cell 5 = .ok (.iload_n 1, 1) := by decide +kernel
theorem dX8_cell_6 : decode cX8_cell 6 = .ok (.invokestatic 60, 3) := by decide +kernel
theorem dX8_cell_9 : decode cX8_cell 9 = .ok (.ifCond .eq 10, 3) := by decide +kernel
theorem dX8_cell_12 : decode cX8_cell 12 = .ok (.iload_n 3, 1) := by decide +kernel
theorem dX8_cell_13 : decode cX8_cell 13 = .ok (.invokestatic 64, 3) := by decide +kernel
theorem dX8_cell_16 : decode cX8_cell 16 = .ok (.ifCond .ne 7, 3) := by decide +kernel
theorem dX8_cell_19 : decode cX8_cell 19 = .ok (.ldc2_w 208, 3) := by decide +kernel
theorem dX8_cell_22 : decode cX8_cell 22 = .ok (.lreturn, 1) := by decide +kernel
theorem dX8_cell_23 : decode cX8_cell 23 = .ok (.aload_n 0, 1) := by decide +kernel
theorem dX8_cell_24 : decode cX8_cell 24 = .ok (.aload_n 0, 1) := by decide +kernel
theorem dX8_cell_25 : decode cX8_cell 25 = .ok (.getfield 51, 3) := by decide +kernel
theorem dX8_cell_28 : decode cX8_cell 28 = .ok (.iload_n 1, 1) := by decide +kernel
theorem dX8_cell_29 : decode cX8_cell 29 = .ok (.aaload, 1) := by decide +kernel
theorem dX8_cell_30 : decode cX8_cell 30 = .ok (.iload_n 3, 1) := by decide +kernel
theorem dX8_cell_31 : decode cX8_cell 31 = .ok (.iload_n 2, 1) := by decide +kernel
theorem dX8_cell_32 : decode cX8_cell 32 = .ok (.iconst 1, 1) := by decide +kernel
theorem dX8_cell_33 : decode cX8_cell 33 = .ok (.invokevirtual 67, 3) := by decide +kernel
theorem dX8_cell_36 : decode cX8_cell 36 = .ok (.putfield 56, 3) := by decide +kernel
theorem dX8_cell_39 : decode cX8_cell 39 = .ok (.aload_n 0, 1) := by decide +kernel
theorem dX8_cell_40 : decode cX8_cell 40 = .ok (.getfield 56, 3) := by decide +kernel
theorem dX8_cell_43 : decode cX8_cell 43 = .ok (.ifCond .ne 18, 3) := by decide +kernel
theorem dX8_cell_46 : decode cX8_cell 46 = .ok (.aload_n 0, 1) := by decide +kernel
theorem dX8_cell_47 : decode cX8_cell 47 = .ok (.getfield 51, 3) := by decide +kernel
theorem dX8_cell_50 : decode cX8_cell 50 = .ok (.iload_n 1, 1) := by decide +kernel
theorem dX8_cell_51 : decode cX8_cell 51 = .ok (.aaload, 1) := by decide +kernel
theorem dX8_cell_52 : decode cX8_cell 52 = .ok (.getfield 227, 3) := by decide +kernel
theorem dX8_cell_55 : decode cX8_cell 55 = .ok (.iload_n 2, 1) := by decide +kernel
theorem dX8_cell_56 : decode cX8_cell 56 = .ok (.iaload, 1) := by decide +kernel
theorem dX8_cell_57 : decode cX8_cell 57 = .ok (.i2l, 1) := by decide +kernel
theorem dX8_cell_58 : decode cX8_cell 58 = .ok (.goto 6, 3) := by decide +kernel
theorem dX8_cell_61 : decode cX8_cell 61 = .ok (.ldc2_w 208, 3) := by decide +kernel
theorem dX8_cell_64 : decode cX8_cell 64 = .ok (.lreturn, 1) := by decide +kernel
theorem dX8_copy_0 : decode cX8_copy 0 = .ok (.aload_n 0, 1) := by decide +kernel
theorem dX8_copy_1 : decode cX8_copy 1 = .ok (.iconst 0, 1) := by decide +kernel
theorem dX8_copy_2 : decode cX8_copy 2 = .ok (.putfield 56, 3) := by decide +kernel
theorem dX8_copy_5 : decode cX8_copy 5 = .ok (.iload_n 1, 1) := by decide +kernel
theorem dX8_copy_6 : decode cX8_copy 6 = .ok (.invokestatic 60, 3) := by decide +kernel
theorem dX8_copy_9 : decode cX8_copy 9 = .ok (.ifCond .eq 10, 3) := by decide +kernel
theorem dX8_copy_12 : decode cX8_copy 12 = .ok (.iload_n 3, 1) := by decide +kernel
theorem dX8_copy_13 : decode cX8_copy 13 = .ok (.invokestatic 60, 3) := by decide +kernel
theorem dX8_copy_16 : decode cX8_copy 16 = .ok (.ifCond .ne 5, 3) := by decide +kernel
theorem dX8_copy_19 : decode cX8_copy 19 = .ok (.iconst (-1), 1) := by decide +kernel
theorem dX8_copy_20 : decode cX8_copy 20 = .ok (.ireturn, 1) := by decide +kernel
theorem dX8_copy_21 : decode cX8_copy 21 = .ok (.aload_n 0, 1) := by decide +kernel
theorem dX8_copy_22 : decode cX8_copy 22 = .ok (.getfield 51, 3) := by decide +kernel
theorem dX8_copy_25 : decode cX8_copy 25 = .ok (.iload_n 1, 1) := by decide +kernel
theorem dX8_copy_26 : decode cX8_copy 26 = .ok (.aaload, 1) := by decide +kernel
theorem dX8_copy_27 : decode cX8_copy 27 = .ok (.astore 6, 2) := by decide +kernel
theorem dX8_copy_29 : decode cX8_copy 29 = .ok (.aload_n 0, 1) := by decide +kernel
theorem dX8_copy_30 : decode cX8_copy 30 = .ok (.getfield 51, 3) := by decide +kernel
theorem dX8_copy_33 : decode cX8_copy 33 = .ok (.iload_n 3, 1) := by decide +kernel
theorem dX8_copy_34 : decode cX8_copy 34 = .ok (.aaload, 1) := by decide +kernel
theorem dX8_copy_35 : decode cX8_copy 35 = .ok (.astore 7, 2) := by decide +kernel
theorem dX8_copy_37 : decode cX8_copy 37 = .ok (.aload 6, 2) := by decide +kernel
theorem dX8_copy_39 : decode cX8_copy 39 = .ok (.getfield 217, 3) := by decide +kernel
theorem dX8_copy_42 : decode cX8_copy 42 = .ok (.ifCond .eq 11, 3) := by decide +kernel
theorem dX8_copy_45 : decode cX8_copy 45 = .ok (.aload 7, 2) := by decide +kernel
theorem dX8_copy_47 : decode cX8_copy 47 = .ok (.getfield 217, 3) := by decide +kernel
theorem dX8_copy_50 : decode cX8_copy 50 = .ok (.ifCond .ne 9, 3) := by decide +kernel
theorem dX8_copy_53 : decode cX8_copy 53 = .ok (.aload_n 0, 1) := by decide +kernel
theorem dX8_copy_54 : decode cX8_copy 54 = .ok (.iconst 1, 1) := by decide +kernel
theorem dX8_copy_55 : decode cX8_copy 55 = .ok (.invokevirtual 71, 3) := by decide +kernel
theorem dX8_copy_58 : decode cX8_copy 58 = .ok (.ireturn, 1) := by decide +kernel
theorem dX8_copy_59 : decode cX8_copy 59 = .ok (.aload 6, 2) := by decide +kernel
theorem dX8_copy_61 : decode cX8_copy 61 = .ok (.getfield 230, 3) := by decide +kernel
theorem dX8_copy_64 : decode cX8_copy 64 = .ok (.aload 7, 2) := by decide +kernel
theorem dX8_copy_66 : decode cX8_copy 66 = .ok (.getfield 230, 3) := by decide +kernel
theorem dX8_copy_69 : decode cX8_copy 69 = .ok (.if_icmp .eq 9, 3) := by decide +kernel
theorem dX8_copy_72 : decode cX8_copy 72 = .ok (.aload_n 0, 1) := by decide +kernel
theorem dX8_copy_73 : decode cX8_copy 73 = .ok (.iconst 2, 1) := by decide +kernel
theorem dX8_copy_74 : decode cX8_copy 74 = .ok (.invokevirtual 71, 3) := by decide +kernel
theorem dX8_copy_77 : decode cX8_copy 77 = .ok (.ireturn, 1) := by decide +kernel
theorem dX8_copy_78 : decode cX8_copy 78 = .ok (.aload 6, 2) := by decide +kernel
theorem dX8_copy_80 : decode cX8_copy 80 = .ok (.iload_n 2, 1) := by decide +kernel
theorem dX8_copy_81 : decode cX8_copy 81 = .ok (.iload 5, 2) := by decide +kernel
theorem dX8_copy_83 : decode cX8_copy 83 = .ok (.invokevirtual 220, 3) := by decide +kernel
theorem dX8_copy_86 : decode cX8_copy 86 = .ok (.ifCond .eq 15, 3) := by decide +kernel
theorem dX8_copy_89 : decode cX8_copy 89 = .ok (.aload 7, 2) := by decide +kernel
theorem dX8_copy_91 : decode cX8_copy 91 = .ok (.iload 4, 2) := by decide +kernel
theorem dX8_copy_93 : decode cX8_copy 93 = .ok (.iload 5, 2) := by decide +kernel
theorem dX8_copy_95 : decode cX8_copy 95 = .ok (.invokevirtual 220, 3) := by decide +kernel
theorem dX8_copy_98 : decode cX8_copy 98 = .ok (.ifCond .ne 9, 3) := by decide +kernel
theorem dX8_copy_101 : decode cX8_copy 101 = .ok (.aload_n 0, 1) := by decide +kernel
theorem dX8_copy_102 : decode cX8_copy 102 = .ok (.iconst 3, 1) := by decide +kernel
theorem dX8_copy_103 : decode cX8_copy 103 = .ok (.invokevirtual 71, 3) := by decide +kernel
theorem dX8_copy_106 : decode cX8_copy 106 = .ok (.ireturn, 1) := by decide +kernel
theorem dX8_copy_107 : decode cX8_copy 107 = .ok (.aload 6, 2) := by decide +kernel
theorem dX8_copy_109 : decode cX8_copy 109 = .ok (.getfield 227, 3) := by decide +kernel
theorem dX8_copy_112 : decode cX8_copy 112 = .ok (.iload_n 2, 1) := by decide +kernel
theorem dX8_copy_113 : decode cX8_copy 113 = .ok (.aload 7, 2) := by decide +kernel
theorem dX8_copy_115 : decode cX8_copy 115 = .ok (.getfield 227, 3) := by decide +kernel
theorem dX8_copy_118 : decode cX8_copy 118 = .ok (.iload 4, 2) := by decide +kernel
theorem dX8_copy_120 : decode cX8_copy 120 = .ok (.iload 5, 2) := by decide +kernel
theorem dX8_copy_122 : decode cX8_copy 122 = .ok (.invokestatic 233, 3) := by decide +kernel
theorem dX8_copy_125 : decode cX8_copy 125 = .ok (.iload 5, 2) := by decide +kernel
theorem dX8_copy_127 : decode cX8_copy 127 = .ok (.ireturn, 1) := by decide +kernel
theorem dX8_tell_0 : decode cX8_tell 0 = .ok (.aload_n 0, 1) := by decide +kernel
theorem dX8_tell_1 : decode cX8_tell 1 = .ok (.getfield 12, 3) := by decide +kernel
theorem dX8_tell_4 : decode cX8_tell 4 = .ok (.iload_n 1, 1) := by decide +kernel
theorem dX8_tell_5 : decode cX8_tell 5 = .ok (.invokevirtual 95, 3) := by decide +kernel
theorem dX8_tell_8 : decode cX8_tell 8 = .ok (.ifCond .ne 5, 3) := by decide +kernel
theorem dX8_tell_11 : decode cX8_tell 11 = .ok (.iconst (-1), 1) := by decide +kernel
theorem dX8_tell_12 : decode cX8_tell 12 = .ok (.ireturn, 1) := by decide +kernel
theorem dX8_tell_13 : decode cX8_tell 13 = .ok (.aload_n 0, 1) := by decide +kernel
theorem dX8_tell_14 : decode cX8_tell 14 = .ok (.getfield 12, 3) := by decide +kernel
theorem dX8_tell_17 : decode cX8_tell 17 = .ok (.getfield 98, 3) := by decide +kernel
theorem dX8_tell_20 : decode cX8_tell 20 = .ok (.iload_n 1, 1) := by decide +kernel
theorem dX8_tell_21 : decode cX8_tell 21 = .ok (.aaload, 1) := by decide +kernel
theorem dX8_tell_22 : decode cX8_tell 22 = .ok (.astore_n 2, 1) := by decide +kernel
theorem dX8_tell_23 : decode cX8_tell 23 = .ok (.aload_n 2, 1) := by decide +kernel
theorem dX8_tell_24 : decode cX8_tell 24 = .ok (.getfield 101, 3) := by decide +kernel
theorem dX8_tell_27 : decode cX8_tell 27 = .ok (.iconst 2, 1) := by decide +kernel
theorem dX8_tell_28 : decode cX8_tell 28 = .ok (.if_icmp .ne 9, 3) := by decide +kernel
theorem dX8_tell_31 : decode cX8_tell 31 = .ok (.aload_n 0, 1) := by decide +kernel
theorem dX8_tell_32 : decode cX8_tell 32 = .ok (.aload_n 2, 1) := by decide +kernel
theorem dX8_tell_33 : decode cX8_tell 33 = .ok (.invokevirtual 239, 3) := by decide +kernel
theorem dX8_tell_36 : decode cX8_tell 36 = .ok (.ireturn, 1) := by decide +kernel
theorem dX8_tell_37 : decode cX8_tell 37 = .ok (.aload_n 2, 1) := by decide +kernel
theorem dX8_tell_38 : decode cX8_tell 38 = .ok (.getfield 101, 3) := by decide +kernel
theorem dX8_tell_41 : decode cX8_tell 41 = .ok (.iconst 1, 1) := by decide +kernel
theorem dX8_tell_42 : decode cX8_tell 42 = .ok (.if_icmp .ne 11, 3) := by decide +kernel
theorem dX8_tell_45 : decode cX8_tell 45 = .ok (.aload_n 0, 1) := by decide +kernel
theorem dX8_tell_46 : decode cX8_tell 46 = .ok (.aload_n 2, 1) := by decide +kernel
theorem dX8_tell_47 : decode cX8_tell 47 = .ok (.invokevirtual 243, 3) := by decide +kernel
theorem dX8_tell_50 : decode cX8_tell 50 = .ok (.goto 8, 3) := by decide +kernel
theorem dX8_tell_53 : decode cX8_tell 53 = .ok (.aload_n 0, 1) := by decide +kernel
theorem dX8_tell_54 : decode cX8_tell 54 = .ok (.aload_n 2, 1) := by decide +kernel
theorem dX8_tell_55 : decode cX8_tell 55 = .ok (.invokevirtual 246, 3) := by decide +kernel
theorem dX8_tell_58 : decode cX8_tell 58 = .ok (.ireturn, 1) := by decide +kernel
theorem dX8_hail_0 : decode cX8_hail 0 = .ok (.aload_n 0, 1) := by decide +kernel
theorem dX8_hail_1 : decode cX8_hail 1 = .ok (.getfield 12, 3) := by decide +kernel
theorem dX8_hail_4 : decode cX8_hail 4 = .ok (.iload_n 1, 1) := by decide +kernel
theorem dX8_hail_5 : decode cX8_hail 5 = .ok (.invokevirtual 95, 3) := by decide +kernel
theorem dX8_hail_8 : decode cX8_hail 8 = .ok (.ifCond .ne 5, 3) := by decide +kernel
theorem dX8_hail_11 : decode cX8_hail 11 = .ok (.iconst (-1), 1) := by decide +kernel
theorem dX8_hail_12 : decode cX8_hail 12 = .ok (.ireturn, 1) := by decide +kernel
theorem dX8_hail_13 : decode cX8_hail 13 = .ok (.aload_n 0, 1) := by decide +kernel
theorem dX8_hail_14 : decode cX8_hail 14 = .ok (.getfield 12, 3) := by decide +kernel
theorem dX8_hail_17 : decode cX8_hail 17 = .ok (.getfield 98, 3) := by decide +kernel
theorem dX8_hail_20 : decode cX8_hail 20 = .ok (.iload_n 1, 1) := by decide +kernel
theorem dX8_hail_21 : decode cX8_hail 21 = .ok (.aaload, 1) := by decide +kernel
theorem dX8_hail_22 : decode cX8_hail 22 = .ok (.getfield 101, 3) := by decide +kernel
theorem dX8_hail_25 : decode cX8_hail 25 = .ok (.iconst 2, 1) := by decide +kernel
theorem dX8_hail_26 : decode cX8_hail 26 = .ok (.if_icmp .ne 10, 3) := by decide +kernel
theorem dX8_hail_29 : decode cX8_hail 29 = .ok (.aload_n 0, 1) := by decide +kernel
theorem dX8_hail_30 : decode cX8_hail 30 = .ok (.invokevirtual 249, 3) := by decide +kernel
theorem dX8_hail_33 : decode cX8_hail 33 = .ok (.goto 8, 3) := by decide +kernel
theorem dX8_hail_36 : decode cX8_hail 36 = .ok (.aload_n 0, 1) := by decide +kernel
theorem dX8_hail_37 : decode cX8_hail 37 = .ok (.iload_n 1, 1) := by decide +kernel
theorem dX8_hail_38 : decode cX8_hail 38 = .ok (.invokevirtual 253, 3) := by decide +kernel
theorem dX8_hail_41 : decode cX8_hail 41 = .ok (.ireturn, 1) := by decide +kernel
theorem dX8_as_0 : decode cX8_as 0 = .ok (.aload_n 0, 1) := by decide +kernel
theorem dX8_as_1 : decode cX8_as 1 = .ok (.iconst 0, 1) := by decide +kernel
theorem dX8_as_2 : decode cX8_as 2 = .ok (.putfield 56, 3) := by decide +kernel
theorem dX8_as_5 : decode cX8_as 5 = .ok (.aload_n 0, 1) := by decide +kernel
theorem dX8_as_6 : decode cX8_as 6 = .ok (.getfield 12, 3) := by decide +kernel
theorem dX8_as_9 : decode cX8_as 9 = .ok (.iload_n 1, 1) := by decide +kernel
theorem dX8_as_10 : decode cX8_as 10 = .ok (.invokevirtual 95, 3) := by decide +kernel
theorem dX8_as_13 : decode cX8_as 13 = .ok (.ifCond .ne 5, 3) := by decide +kernel
theorem dX8_as_16 : decode cX8_as 16 = .ok (.iconst (-1), 1) := by decide +kernel
theorem dX8_as_17 : decode cX8_as 17 = .ok (.ireturn, 1) := by decide +kernel
theorem dX8_as_18 : decode cX8_as 18 = .ok (.iload_n 2, 1) := by decide +kernel
theorem dX8_as_19 : decode cX8_as 19 = .ok (.iconst 0, 1) := by decide +kernel
theorem dX8_as_20 : decode cX8_as 20 = .ok (.iconst 2, 1) := by decide +kernel
theorem dX8_as_21 : decode cX8_as 21 = .ok (.invokestatic 120, 3) := by decide +kernel
theorem dX8_as_24 : decode cX8_as 24 = .ok (.ifCond .ne 6, 3) := by decide +kernel
theorem dX8_as_27 : decode cX8_as 27 = .ok (.bipush (-2), 2) := by decide +kernel
theorem dX8_as_29 : decode cX8_as 29 = .ok (.ireturn, 1) := by decide +kernel
theorem dX8_as_30 : decode cX8_as 30 = .ok (.aload_n 0, 1) := by decide +kernel
theorem dX8_as_31 : decode cX8_as 31 = .ok (.getfield 12, 3) := by decide +kernel
theorem dX8_as_34 : decode cX8_as 34 = .ok (.getfield 98, 3) := by decide +kernel
theorem dX8_as_37 : decode cX8_as 37 = .ok (.iload_n 1, 1) := by decide +kernel
theorem dX8_as_38 : decode cX8_as 38 = .ok (.aaload, 1) := by decide +kernel
theorem dX8_as_39 : decode cX8_as 39 = .ok (.getfield 101, 3) := by decide +kernel
theorem dX8_as_42 : decode cX8_as 42 = .ok (.iload_n 2, 1) := by decide +kernel
theorem dX8_as_43 : decode cX8_as 43 = .ok (.if_icmp .lt 7, 3) := by decide +kernel
theorem dX8_as_46 : decode cX8_as 46 = .ok (.iconst 1, 1) := by decide +kernel
theorem dX8_as_47 : decode cX8_as 47 = .ok (.goto 8, 3) := by decide +kernel
theorem dX8_as_50 : decode cX8_as 50 = .ok (.aload_n 0, 1) := by decide +kernel
theorem dX8_as_51 : decode cX8_as 51 = .ok (.iconst 2, 1) := by decide +kernel
theorem dX8_as_52 : decode cX8_as 52 = .ok (.invokevirtual 71, 3) := by decide +kernel
theorem dX8_as_55 : decode cX8_as 55 = .ok (.ireturn, 1) := by decide +kernel
theorem dX8_trace_0 : decode cX8_trace 0 = .ok (.aload_n 0, 1) := by decide +kernel
theorem dX8_trace_1 : decode cX8_trace 1 = .ok (.getfield 256, 3) := by decide +kernel
theorem dX8_trace_4 : decode cX8_trace 4 = .ok (.ireturn, 1) := by decide +kernel
theorem dX8_fault_0 : decode cX8_fault 0 = .ok (.aload_n 0, 1) := by decide +kernel
theorem dX8_fault_1 : decode cX8_fault 1 = .ok (.getfield 56, 3) := by decide +kernel
theorem dX8_fault_4 : decode cX8_fault 4 = .ok (.ireturn, 1) := by decide +kernel
theorem dX8_many_0 : decode cX8_many 0 = .ok (.iload_n 1, 1) := by decide +kernel
theorem dX8_many_1 : decode cX8_many 1 = .ok (.tableswitch 75 0 4 #[35, 43, 51, 59, 67], 35) := by decide +kernel
theorem dX8_many_36 : decode cX8_many 36 = .ok (.aload_n 0, 1) := by decide +kernel
theorem dX8_many_37 : decode cX8_many 37 = .ok (.getfield 12, 3) := by decide +kernel
theorem dX8_many_40 : decode cX8_many 40 = .ok (.getfield 94, 3) := by decide +kernel
theorem dX8_many_43 : decode cX8_many 43 = .ok (.ireturn, 1) := by decide +kernel
theorem dX8_many_44 : decode cX8_many 44 = .ok (.aload_n 0, 1) := by decide +kernel
theorem dX8_many_45 : decode cX8_many 45 = .ok (.getfield 12, 3) := by decide +kernel
theorem dX8_many_48 : decode cX8_many 48 = .ok (.getfield 106, 3) := by decide +kernel
theorem dX8_many_51 : decode cX8_many 51 = .ok (.ireturn, 1) := by decide +kernel
theorem dX8_many_52 : decode cX8_many 52 = .ok (.aload_n 0, 1) := by decide +kernel
theorem dX8_many_53 : decode cX8_many 53 = .ok (.getfield 21, 3) := by decide +kernel
theorem dX8_many_56 : decode cX8_many 56 = .ok (.getfield 90, 3) := by decide +kernel
theorem dX8_many_59 : decode cX8_many 59 = .ok (.ireturn, 1) := by decide +kernel
theorem dX8_many_60 : decode cX8_many 60 = .ok (.aload_n 0, 1) := by decide +kernel
theorem dX8_many_61 : decode cX8_many 61 = .ok (.getfield 12, 3) := by decide +kernel
theorem dX8_many_64 : decode cX8_many 64 = .ok (.invokevirtual 259, 3) := by decide +kernel
theorem dX8_many_67 : decode cX8_many 67 = .ok (.ireturn, 1) := by decide +kernel
theorem dX8_many_68 : decode cX8_many 68 = .ok (.aload_n 0, 1) := by decide +kernel
theorem dX8_many_69 : decode cX8_many 69 = .ok (.getfield 31, 3) := by decide +kernel
theorem dX8_many_72 : decode cX8_many 72 = .ok (.getfield 93, 3) := by decide +kernel
theorem dX8_many_75 : decode cX8_many 75 = .ok (.ireturn, 1) := by decide +kernel
theorem dX8_many_76 : decode cX8_many 76 = .ok (.bipush (-2), 2) := by decide +kernel
theorem dX8_many_78 : decode cX8_many 78 = .ok (.ireturn, 1) := by decide +kernel
theorem dX8_isWithin_0 : decode cX8_isWithin 0 = .ok (.iload_n 0, 1) := by decide +kernel
theorem dX8_isWithin_1 : decode cX8_isWithin 1 = .ok (.iload_n 1, 1) := by decide +kernel
theorem dX8_isWithin_2 : decode cX8_isWithin 2 = .ok (.if_icmp .lt 12, 3) := by decide +kernel
theorem dX8_isWithin_5 : decode cX8_isWithin 5 = .ok (.iload_n 0, 1) := by decide +kernel
theorem dX8_isWithin_6 : decode cX8_isWithin 6 = .ok (.iload_n 2, 1) := by decide +kernel
theorem dX8_isWithin_7 : decode cX8_isWithin 7 = .ok (.if_icmp .gt 7, 3) := by decide +kernel
theorem dX8_isWithin_10 : decode cX8_isWithin 10 = .ok (.iconst 1, 1) := by decide +kernel
theorem dX8_isWithin_11 : decode cX8_isWithin 11 = .ok (.goto 4, 3) := by decide +kernel
theorem dX8_isWithin_14 : decode cX8_isWithin 14 = .ok (.iconst 0, 1) := by decide +kernel
theorem dX8_isWithin_15 : decode cX8_isWithin 15 = .ok (.ireturn, 1) := by decide +kernel
theorem dX8_isShift_0 : decode cX8_isShift 0 = .ok (.iload_n 0, 1) := by decide +kernel
theorem dX8_isShift_1 : decode cX8_isShift 1 = .ok (.bipush (-5), 2) := by decide +kernel
theorem dX8_isShift_3 : decode cX8_isShift 3 = .ok (.iconst 5, 1) := by decide +kernel
theorem dX8_isShift_4 : decode cX8_isShift 4 = .ok (.invokestatic 120, 3) := by decide +kernel
theorem dX8_isShift_7 : decode cX8_isShift 7 = .ok (.ireturn, 1) := by decide +kernel
theorem dX8_isSheet_0 : decode cX8_isSheet 0 = .ok (.iload_n 0, 1) := by decide +kernel
theorem dX8_isSheet_1 : decode cX8_isSheet 1 = .ok (.iconst 0, 1) := by decide +kernel
theorem dX8_isSheet_2 : decode cX8_isSheet 2 = .ok (.iconst 3, 1) := by decide +kernel
theorem dX8_isSheet_3 : decode cX8_isSheet 3 = .ok (.invokestatic 120, 3) := by decide +kernel
theorem dX8_isSheet_6 : decode cX8_isSheet 6 = .ok (.ireturn, 1) := by decide +kernel
theorem dX8_isLane_0 : decode cX8_isLane 0 = .ok (.iload_n 0, 1) := by decide +kernel
theorem dX8_isLane_1 : decode cX8_isLane 1 = .ok (.iconst 0, 1) := by decide +kernel
theorem dX8_isLane_2 : decode cX8_isLane 2 = .ok (.iconst 2, 1) := by decide +kernel
theorem dX8_isLane_3 : decode cX8_isLane 3 = .ok (.invokestatic 120, 3) := by decide +kernel
theorem dX8_isLane_6 : decode cX8_isLane 6 = .ok (.ireturn, 1) := by decide +kernel
theorem dX8_isDayQuestion_0 : decode cX8_isDayQuestion 0 = .ok (.iload_n 0, 1) := by decide +kernel
theorem dX8_isDayQuestion_1 : decode cX8_isDayQuestion 1 = .ok (.iconst 0, 1) := by decide +kernel
theorem dX8_isDayQuestion_2 : decode cX8_isDayQuestion 2 = .ok (.iconst 4, 1) := by decide +kernel
theorem dX8_isDayQuestion_3 : decode cX8_isDayQuestion 3 = .ok (.invokestatic 120, 3) := by decide +kernel
theorem dX8_isDayQuestion_6 : decode cX8_isDayQuestion 6 = .ok (.ifCond .ne 14, 3) := by decide +kernel
theorem dX8_isDayQuestion_9 : decode cX8_isDayQuestion 9 = .ok (.iload_n 0, 1) := by decide +kernel
theorem dX8_isDayQuestion_10 : decode cX8_isDayQuestion 10 = .ok (.bipush 10, 2) := by decide +kernel
theorem dX8_isDayQuestion_12 : decode cX8_isDayQuestion 12 = .ok (.bipush 13, 2) := by decide +kernel
theorem dX8_isDayQuestion_14 : decode cX8_isDayQuestion 14 = .ok (.invokestatic 120, 3) := by decide +kernel
theorem dX8_isDayQuestion_17 : decode cX8_isDayQuestion 17 = .ok (.ifCond .eq 7, 3) := by decide +kernel
theorem dX8_isDayQuestion_20 : decode cX8_isDayQuestion 20 = .ok (.iconst 1, 1) := by decide +kernel
theorem dX8_isDayQuestion_21 : decode cX8_isDayQuestion 21 = .ok (.goto 4, 3) := by decide +kernel
theorem dX8_isDayQuestion_24 : decode cX8_isDayQuestion 24 = .ok (.iconst 0, 1) := by decide +kernel
theorem dX8_isDayQuestion_25 : decode cX8_isDayQuestion 25 = .ok (.ireturn, 1) := by decide +kernel
theorem dX8_faulted_0 : decode cX8_faulted 0 = .ok (.aload_n 0, 1) := by decide +kernel
theorem dX8_faulted_1 : decode cX8_faulted 1 = .ok (.iload_n 1, 1) := by decide +kernel
theorem dX8_faulted_2 : decode cX8_faulted 2 = .ok (.putfield 56, 3) := by decide +kernel
theorem dX8_faulted_5 : decode cX8_faulted 5 = .ok (.bipush (-10), 2) := by decide +kernel
theorem dX8_faulted_7 : decode cX8_faulted 7 = .ok (.iload_n 1, 1) := by decide +kernel
theorem dX8_faulted_8 : decode cX8_faulted 8 = .ok (.isub, 1) := by decide +kernel
theorem dX8_faulted_9 : decode cX8_faulted 9 = .ok (.ireturn, 1) := by decide +kernel
theorem dX8_toldPitch_0 : decode cX8_toldPitch 0 = .ok (.aload_n 0, 1) := by decide +kernel
theorem dX8_toldPitch_1 : decode cX8_toldPitch 1 = .ok (.getfield 12, 3) := by decide +kernel
theorem dX8_toldPitch_4 : decode cX8_toldPitch 4 = .ok (.iload_n 2, 1) := by decide +kernel
theorem dX8_toldPitch_5 : decode cX8_toldPitch 5 = .ok (.invokevirtual 128, 3) := by decide +kernel
theorem dX8_toldPitch_8 : decode cX8_toldPitch 8 = .ok (.ifCond .eq 13, 3) := by decide +kernel
theorem dX8_toldPitch_11 : decode cX8_toldPitch 11 = .ok (.aload_n 1, 1) := by decide +kernel
theorem dX8_toldPitch_12 : decode cX8_toldPitch 12 = .ok (.getfield 112, 3) := by decide +kernel
theorem dX8_toldPitch_15 : decode cX8_toldPitch 15 = .ok (.iload_n 2, 1) := by decide +kernel
theorem dX8_toldPitch_16 : decode cX8_toldPitch 16 = .ok (.iaload, 1) := by decide +kernel
theorem dX8_toldPitch_17 : decode cX8_toldPitch 17 = .ok (.iconst (-1), 1) := by decide +kernel
theorem dX8_toldPitch_18 : decode cX8_toldPitch 18 = .ok (.if_icmp .ne 6, 3) := by decide +kernel
theorem dX8_toldPitch_21 : decode cX8_toldPitch 21 = .ok (.bipush (-9), 2) := by decide +kernel
theorem dX8_toldPitch_23 : decode cX8_toldPitch 23 = .ok (.ireturn, 1) := by decide +kernel
theorem dX8_toldPitch_24 : decode cX8_toldPitch 24 = .ok (.aload_n 1, 1) := by decide +kernel
theorem dX8_toldPitch_25 : decode cX8_toldPitch 25 = .ok (.getfield 112, 3) := by decide +kernel
theorem dX8_toldPitch_28 : decode cX8_toldPitch 28 = .ok (.iload_n 2, 1) := by decide +kernel
theorem dX8_toldPitch_29 : decode cX8_toldPitch 29 = .ok (.iaload, 1) := by decide +kernel
theorem dX8_toldPitch_30 : decode cX8_toldPitch 30 = .ok (.ireturn, 1) := by decide +kernel
theorem dX8_inLeastTerms_0 : decode cX8_inLeastTerms 0 = .ok (.bipush 120, 2) := by decide +kernel
theorem dX8_inLeastTerms_2 : decode cX8_inLeastTerms 2 = .ok (.istore_n 2, 1) := by decide +kernel
theorem dX8_inLeastTerms_3 : decode cX8_inLeastTerms 3 = .ok (.iload_n 2, 1) := by decide +kernel
theorem dX8_inLeastTerms_4 : decode cX8_inLeastTerms 4 = .ok (.iconst 1, 1) := by decide +kernel
theorem dX8_inLeastTerms_5 : decode cX8_inLeastTerms 5 = .ok (.if_icmp .le 26, 3) := by decide +kernel
theorem dX8_inLeastTerms_8 : decode cX8_inLeastTerms 8 = .ok (.iload_n 1, 1) := by decide +kernel
theorem dX8_inLeastTerms_9 : decode cX8_inLeastTerms 9 = .ok (.iload_n 2, 1) := by decide +kernel
theorem dX8_inLeastTerms_10 : decode cX8_inLeastTerms 10 = .ok (.irem, 1) := by decide +kernel
theorem dX8_inLeastTerms_11 : decode cX8_inLeastTerms 11 = .ok (.ifCond .ne 14, 3) := by decide +kernel
theorem dX8_inLeastTerms_14 : decode cX8_inLeastTerms 14 = .ok (.bipush 120, 2) := by decide +kernel
theorem dX8_inLeastTerms_16 : decode cX8_inLeastTerms 16 = .ok (.iload_n 2, 1) := by decide +kernel
theorem dX8_inLeastTerms_17 : decode cX8_inLeastTerms 17 = .ok (.irem, 1) := by decide +kernel
theorem dX8_inLeastTerms_18 : decode cX8_inLeastTerms 18 = .ok (.ifCond .ne 7, 3) := by decide +kernel
theorem dX8_inLeastTerms_21 : decode cX8_inLeastTerms 21 = .ok (.iload_n 0, 1) := by decide +kernel
theorem dX8_inLeastTerms_22 : decode cX8_inLeastTerms 22 = .ok (.iload_n 2, 1) := by decide +kernel
theorem dX8_inLeastTerms_23 : decode cX8_inLeastTerms 23 = .ok (.idiv, 1) := by decide +kernel
theorem dX8_inLeastTerms_24 : decode cX8_inLeastTerms 24 = .ok (.ireturn, 1) := by decide +kernel
theorem dX8_inLeastTerms_25 : decode cX8_inLeastTerms 25 = .ok (.iinc 2 (-1), 3) := by decide +kernel
theorem dX8_inLeastTerms_28 : decode cX8_inLeastTerms 28 = .ok (.goto (-25), 3) := by decide +kernel
theorem dX8_inLeastTerms_31 : decode cX8_inLeastTerms 31 = .ok (.iload_n 0, 1) := by decide +kernel
theorem dX8_inLeastTerms_32 : decode cX8_inLeastTerms 32 = .ok (.ireturn, 1) := by decide +kernel
theorem dX8_areActs_0 : decode cX8_areActs 0 = .ok (.iconst 0, 1) := by decide +kernel
theorem dX8_areActs_1 : decode cX8_areActs 1 = .ok (.istore_n 3, 1) := by decide +kernel
theorem dX8_areActs_2 : decode cX8_areActs 2 = .ok (.iload_n 3, 1) := by decide +kernel
theorem dX8_areActs_3 : decode cX8_areActs 3 = .ok (.iload_n 2, 1) := by decide +kernel
theorem dX8_areActs_4 : decode cX8_areActs 4 = .ok (.if_icmp .ge 100, 3) := by decide +kernel
theorem dX8_areActs_7 : decode cX8_areActs 7 = .ok (.aload_n 0, 1) := by decide +kernel
theorem dX8_areActs_8 : decode cX8_areActs 8 = .ok (.getfield 227, 3) := by decide +kernel
theorem dX8_areActs_11 : decode cX8_areActs 11 = .ok (.iload_n 1, 1) := by decide +kernel
theorem dX8_areActs_12 : decode cX8_areActs 12 = .ok (.iconst 2, 1) := by decide +kernel
theorem dX8_areActs_13 : decode cX8_areActs 13 = .ok (.iload_n 3, 1) := by decide +kernel
theorem dX8_areActs_14 : decode cX8_areActs 14 = .ok (.imul, 1) := by decide +kernel
theorem dX8_areActs_15 : decode cX8_areActs 15 = .ok (.iadd, 1) := by decide +kernel
theorem dX8_areActs_16 : decode cX8_areActs 16 = .ok (.iaload, 1) := by decide +kernel
theorem dX8_areActs_17 : decode cX8_areActs 17 = .ok (.istore 4, 2) := by decide +kernel
theorem dX8_areActs_19 : decode cX8_areActs 19 = .ok (.aload_n 0, 1) := by decide +kernel
theorem dX8_areActs_20 : decode cX8_areActs 20 = .ok (.getfield 227, 3) := by decide +kernel
theorem dX8_areActs_23 : decode cX8_areActs 23 = .ok (.iload_n 1, 1) := by decide +kernel
theorem dX8_areActs_24 : decode cX8_areActs 24 = .ok (.iconst 2, 1) := by decide +kernel
theorem dX8_areActs_25 : decode cX8_areActs 25 = .ok (.iload_n 3, 1) := by decide +kernel
theorem dX8_areActs_26 : decode cX8_areActs 26 = .ok (.imul, 1) := by decide +kernel
theorem dX8_areActs_27 : decode cX8_areActs 27 = .ok (.iadd, 1) := by decide +kernel
theorem dX8_areActs_28 : decode cX8_areActs 28 = .ok (.iconst 1, 1) := by decide +kernel
theorem dX8_areActs_29 : decode cX8_areActs 29 = .ok (.iadd, 1) := by decide +kernel
theorem dX8_areActs_30 : decode cX8_areActs 30 = .ok (.iaload, 1) := by decide +kernel
theorem dX8_areActs_31 : decode cX8_areActs 31 = .ok (.istore 5, 2) := by decide +kernel
theorem dX8_areActs_33 : decode cX8_areActs 33 = .ok (.iload 5, 2) := by decide +kernel
theorem dX8_areActs_35 : decode cX8_areActs 35 = .ok (.iconst 0, 1) := by decide +kernel
theorem dX8_areActs_36 : decode cX8_areActs 36 = .ok (.iconst 3, 1) := by decide +kernel
theorem dX8_areActs_37 : decode cX8_areActs 37 = .ok (.invokestatic 120, 3) := by decide +kernel
theorem dX8_areActs_40 : decode cX8_areActs 40 = .ok (.ifCond .eq 18, 3) := by decide +kernel
theorem dX8_areActs_43 : decode cX8_areActs 43 = .ok (.iload 4, 2) := by decide +kernel
theorem dX8_areActs_45 : decode cX8_areActs 45 = .ok (.iconst 0, 1) := by decide +kernel
theorem dX8_areActs_46 : decode cX8_areActs 46 = .ok (.bipush 20, 2) := by decide +kernel
theorem dX8_areActs_48 : decode cX8_areActs 48 = .ok (.invokestatic 120, 3) := by decide +kernel
theorem dX8_areActs_51 : decode cX8_areActs 51 = .ok (.ifCond .eq 7, 3) := by decide +kernel
theorem dX8_areActs_54 : decode cX8_areActs 54 = .ok (.iconst 1, 1) := by decide +kernel
theorem dX8_areActs_55 : decode cX8_areActs 55 = .ok (.goto 4, 3) := by decide +kernel
theorem dX8_areActs_58 : decode cX8_areActs 58 = .ok (.iconst 0, 1) := by decide +kernel
theorem dX8_areActs_59 : decode cX8_areActs 59 = .ok (.istore 6, 2) := by decide +kernel
theorem dX8_areActs_61 : decode cX8_areActs 61 = .ok (.iload 5, 2) := by decide +kernel
theorem dX8_areActs_63 : decode cX8_areActs 63 = .ok (.bipush 9, 2) := by decide +kernel
theorem dX8_areActs_65 : decode cX8_areActs 65 = .ok (.if_icmp .ne 18, 3) := by decide +kernel
theorem dX8_areActs_68 : decode cX8_areActs 68 = .ok (.iload 4, 2) := by decide +kernel
theorem dX8_areActs_70 : decode cX8_areActs 70 = .ok (.iconst 0, 1) := by decide +kernel
theorem dX8_areActs_71 : decode cX8_areActs 71 = .ok (.bipush 8, 2) := by decide +kernel
theorem dX8_areActs_73 : decode cX8_areActs 73 = .ok (.invokestatic 120, 3) := by decide +kernel
theorem dX8_areActs_76 : decode cX8_areActs 76 = .ok (.ifCond .eq 7, 3) := by decide +kernel
theorem dX8_areActs_79 : decode cX8_areActs 79 = .ok (.iconst 1, 1) := by decide +kernel
theorem dX8_areActs_80 : decode cX8_areActs 80 = .ok (.goto 4, 3) := by decide +kernel
theorem dX8_areActs_83 : decode cX8_areActs 83 = .ok (.iconst 0, 1) := by decide +kernel
theorem dX8_areActs_84 : decode cX8_areActs 84 = .ok (.istore 7, 2) := by decide +kernel
theorem dX8_areActs_86 : decode cX8_areActs 86 = .ok (.iload 6, 2) := by decide +kernel
theorem dX8_areActs_88 : decode cX8_areActs 88 = .ok (.ifCond .ne 10, 3) := by decide +kernel
theorem dX8_areActs_91 : decode cX8_areActs 91 = .ok (.iload 7, 2) := by decide +kernel
theorem dX8_areActs_93 : decode cX8_areActs 93 = .ok (.ifCond .ne 5, 3) := by decide +kernel
theorem dX8_areActs_96 : decode cX8_areActs 96 = .ok (.iconst 0, 1) := by decide +kernel
theorem dX8_areActs_97 : decode cX8_areActs 97 = .ok (.ireturn, 1) := by decide +kernel
theorem dX8_areActs_98 : decode cX8_areActs 98 = .ok (.iinc 3 1, 3) := by decide +kernel
theorem dX8_areActs_101 : decode cX8_areActs 101 = .ok (.goto (-99), 3) := by decide +kernel
theorem dX8_areActs_104 : decode cX8_areActs 104 = .ok (.iconst 1, 1) := by decide +kernel
theorem dX8_areActs_105 : decode cX8_areActs 105 = .ok (.ireturn, 1) := by decide +kernel
theorem dX8_firstWrong_0 : decode cX8_firstWrong 0 = .ok (.iconst 0, 1) := by decide +kernel
theorem dX8_firstWrong_1 : decode cX8_firstWrong 1 = .ok (.istore 4, 2) := by decide +kernel
theorem dX8_firstWrong_3 : decode cX8_firstWrong 3 = .ok (.iload 4, 2) := by decide +kernel
theorem dX8_firstWrong_5 : decode cX8_firstWrong 5 = .ok (.iload_n 3, 1) := by decide +kernel
theorem dX8_firstWrong_6 : decode cX8_firstWrong 6 = .ok (.if_icmp .ge 98, 3) := by decide +kernel
theorem dX8_firstWrong_9 : decode cX8_firstWrong 9 = .ok (.aload_n 1, 1) := by decide +kernel
theorem dX8_firstWrong_10 : decode cX8_firstWrong 10 = .ok (.getfield 227, 3) := by decide +kernel
theorem dX8_firstWrong_13 : decode cX8_firstWrong 13 = .ok (.iload_n 2, 1) := by decide +kernel
theorem dX8_firstWrong_14 : decode cX8_firstWrong 14 = .ok (.iconst 2, 1) := by decide +kernel
theorem dX8_firstWrong_15 : decode cX8_firstWrong 15 = .ok (.iload 4, 2) := by decide +kernel
theorem dX8_firstWrong_17 : decode cX8_firstWrong 17 = .ok (.imul, 1) := by decide +kernel
theorem dX8_firstWrong_18 : decode cX8_firstWrong 18 = .ok (.iadd, 1) := by decide +kernel
theorem dX8_firstWrong_19 : decode cX8_firstWrong 19 = .ok (.iaload, 1) := by decide +kernel
theorem dX8_firstWrong_20 : decode cX8_firstWrong 20 = .ok (.istore 5, 2) := by decide +kernel
theorem dX8_firstWrong_22 : decode cX8_firstWrong 22 = .ok (.aload_n 1, 1) := by decide +kernel
theorem dX8_firstWrong_23 : decode cX8_firstWrong 23 = .ok (.getfield 227, 3) := by decide +kernel
theorem dX8_firstWrong_26 : decode cX8_firstWrong 26 = .ok (.iload_n 2, 1) := by decide +kernel
theorem dX8_firstWrong_27 : decode cX8_firstWrong 27 = .ok (.iconst 2, 1) := by decide +kernel
theorem dX8_firstWrong_28 : decode cX8_firstWrong 28 = .ok (.iload 4, 2) := by decide +kernel
theorem dX8_firstWrong_30 : decode cX8_firstWrong 30 = .ok (.imul, 1) := by decide +kernel
theorem dX8_firstWrong_31 : decode cX8_firstWrong 31 = .ok (.iadd, 1) := by decide +kernel
theorem dX8_firstWrong_32 : decode cX8_firstWrong 32 = .ok (.iconst 1, 1) := by decide +kernel
theorem dX8_firstWrong_33 : decode cX8_firstWrong 33 = .ok (.iadd, 1) := by decide +kernel
theorem dX8_firstWrong_34 : decode cX8_firstWrong 34 = .ok (.iaload, 1) := by decide +kernel
theorem dX8_firstWrong_35 : decode cX8_firstWrong 35 = .ok (.istore 6, 2) := by decide +kernel
theorem dX8_firstWrong_37 : decode cX8_firstWrong 37 = .ok (.iload 6, 2) := by decide +kernel
theorem dX8_firstWrong_39 : decode cX8_firstWrong 39 = .ok (.bipush 9, 2) := by decide +kernel
theorem dX8_firstWrong_41 : decode cX8_firstWrong 41 = .ok (.if_icmp .ne 15, 3) := by decide +kernel
theorem dX8_firstWrong_44 : decode cX8_firstWrong 44 = .ok (.aload_n 0, 1) := by decide +kernel
theorem dX8_firstWrong_45 : decode cX8_firstWrong 45 = .ok (.getfield 25, 3) := by decide +kernel
theorem dX8_firstWrong_48 : decode cX8_firstWrong 48 = .ok (.iload 5, 2) := by decide +kernel
theorem dX8_firstWrong_50 : decode cX8_firstWrong 50 = .ok (.invokevirtual 141, 3) := by decide +kernel
theorem dX8_firstWrong_53 : decode cX8_firstWrong 53 = .ok (.goto 35, 3) := by decide +kernel
theorem dX8_firstWrong_56 : decode cX8_firstWrong 56 = .ok (.aload_n 0, 1) := by decide +kernel
theorem dX8_firstWrong_57 : decode cX8_firstWrong 57 = .ok (.getfield 12, 3) := by decide +kernel
theorem dX8_firstWrong_60 : decode cX8_firstWrong 60 = .ok (.iload 6, 2) := by decide +kernel
theorem dX8_firstWrong_62 : decode cX8_firstWrong 62 = .ok (.invokevirtual 95, 3) := by decide +kernel
theorem dX8_firstWrong_65 : decode cX8_firstWrong 65 = .ok (.ifCond .eq 22, 3) := by decide +kernel
theorem dX8_firstWrong_68 : decode cX8_firstWrong 68 = .ok (.aload_n 0, 1) := by decide +kernel
theorem dX8_firstWrong_69 : decode cX8_firstWrong 69 = .ok (.getfield 25, 3) := by decide +kernel
theorem dX8_firstWrong_72 : decode cX8_firstWrong 72 = .ok (.iload 6, 2) := by decide +kernel
theorem dX8_firstWrong_74 : decode cX8_firstWrong 74 = .ok (.iload 5, 2) := by decide +kernel
theorem dX8_firstWrong_76 : decode cX8_firstWrong 76 = .ok (.iconst 0, 1) := by decide +kernel
theorem dX8_firstWrong_77 : decode cX8_firstWrong 77 = .ok (.invokevirtual 138, 3) := by decide +kernel
theorem dX8_firstWrong_80 : decode cX8_firstWrong 80 = .ok (.ifCond .eq 7, 3) := by decide +kernel
theorem dX8_firstWrong_83 : decode cX8_firstWrong 83 = .ok (.iconst 1, 1) := by decide +kernel
theorem dX8_firstWrong_84 : decode cX8_firstWrong 84 = .ok (.goto 4, 3) := by decide +kernel
theorem dX8_firstWrong_87 : decode cX8_firstWrong 87 = .ok (.iconst 0, 1) := by decide +kernel
theorem dX8_firstWrong_88 : decode cX8_firstWrong 88 = .ok (.istore 7, 2) := by decide +kernel
theorem dX8_firstWrong_90 : decode cX8_firstWrong 90 = .ok (.iload 7, 2) := by decide +kernel
theorem dX8_firstWrong_92 : decode cX8_firstWrong 92 = .ok (.ifCond .ne 6, 3) := by decide +kernel
theorem dX8_firstWrong_95 : decode cX8_firstWrong 95 = .ok (.iload 4, 2) := by decide +kernel
theorem dX8_firstWrong_97 : decode cX8_firstWrong 97 = .ok (.ireturn, 1) := by decide +kernel
theorem dX8_firstWrong_98 : decode cX8_firstWrong 98 = .ok (.iinc 4 1, 3) := by decide +kernel
theorem dX8_firstWrong_101 : decode cX8_firstWrong 101 = .ok (.goto (-98), 3) := by decide +kernel
theorem dX8_firstWrong_104 : decode cX8_firstWrong 104 = .ok (.bipush (-9), 2) := by decide +kernel
theorem dX8_firstWrong_106 : decode cX8_firstWrong 106 = .ok (.ireturn, 1) := by decide +kernel
theorem dX8_afterDay_0 : decode cX8_afterDay 0 = .ok (.aload_n 0, 1) := by decide +kernel
theorem dX8_afterDay_1 : decode cX8_afterDay 1 = .ok (.getfield 25, 3) := by decide +kernel
theorem dX8_afterDay_4 : decode cX8_afterDay 4 = .ok (.aload_n 0, 1) := by decide +kernel
theorem dX8_afterDay_5 : decode cX8_afterDay 5 = .ok (.getfield 12, 3) := by decide +kernel
theorem dX8_afterDay_8 : decode cX8_afterDay 8 = .ok (.invokevirtual 144, 3) := by decide +kernel
theorem dX8_afterDay_11 : decode cX8_afterDay 11 = .ok (.iload_n 1, 1) := by decide +kernel
theorem dX8_afterDay_12 : decode cX8_afterDay 12 = .ok (.tableswitch 68 0 4 #[36, 68, 44, 52, 60], 36) := by decide +kernel
theorem dX8_afterDay_48 : decode cX8_afterDay 48 = .ok (.aload_n 0, 1) := by decide +kernel
theorem dX8_afterDay_49 : decode cX8_afterDay 49 = .ok (.getfield 25, 3) := by decide +kernel
theorem dX8_afterDay_52 : decode cX8_afterDay 52 = .ok (.getfield 90, 3) := by decide +kernel
theorem dX8_afterDay_55 : decode cX8_afterDay 55 = .ok (.ireturn, 1) := by decide +kernel
theorem dX8_afterDay_56 : decode cX8_afterDay 56 = .ok (.aload_n 0, 1) := by decide +kernel
theorem dX8_afterDay_57 : decode cX8_afterDay 57 = .ok (.getfield 25, 3) := by decide +kernel
theorem dX8_afterDay_60 : decode cX8_afterDay 60 = .ok (.invokevirtual 262, 3) := by decide +kernel
theorem dX8_afterDay_63 : decode cX8_afterDay 63 = .ok (.ireturn, 1) := by decide +kernel
theorem dX8_afterDay_64 : decode cX8_afterDay 64 = .ok (.aload_n 0, 1) := by decide +kernel
theorem dX8_afterDay_65 : decode cX8_afterDay 65 = .ok (.getfield 25, 3) := by decide +kernel
theorem dX8_afterDay_68 : decode cX8_afterDay 68 = .ok (.invokevirtual 265, 3) := by decide +kernel
theorem dX8_afterDay_71 : decode cX8_afterDay 71 = .ok (.ireturn, 1) := by decide +kernel
theorem dX8_afterDay_72 : decode cX8_afterDay 72 = .ok (.aload_n 0, 1) := by decide +kernel
theorem dX8_afterDay_73 : decode cX8_afterDay 73 = .ok (.getfield 25, 3) := by decide +kernel
theorem dX8_afterDay_76 : decode cX8_afterDay 76 = .ok (.invokevirtual 268, 3) := by decide +kernel
theorem dX8_afterDay_79 : decode cX8_afterDay 79 = .ok (.ireturn, 1) := by decide +kernel
theorem dX8_afterDay_80 : decode cX8_afterDay 80 = .ok (.aload_n 0, 1) := by decide +kernel
theorem dX8_afterDay_81 : decode cX8_afterDay 81 = .ok (.iload_n 1, 1) := by decide +kernel
theorem dX8_afterDay_82 : decode cX8_afterDay 82 = .ok (.bipush 10, 2) := by decide +kernel
theorem dX8_afterDay_84 : decode cX8_afterDay 84 = .ok (.isub, 1) := by decide +kernel
theorem dX8_afterDay_85 : decode cX8_afterDay 85 = .ok (.aload_n 0, 1) := by decide +kernel
theorem dX8_afterDay_86 : decode cX8_afterDay 86 = .ok (.getfield 25, 3) := by decide +kernel
theorem dX8_afterDay_89 : decode cX8_afterDay 89 = .ok (.getfield 148, 3) := by decide +kernel
theorem dX8_afterDay_92 : decode cX8_afterDay 92 = .ok (.invokevirtual 271, 3) := by decide +kernel
theorem dX8_afterDay_95 : decode cX8_afterDay 95 = .ok (.ireturn, 1) := by decide +kernel
theorem dX8_mostListened_0 : decode cX8_mostListened 0 = .ok (.aload_n 0, 1) := by decide +kernel
theorem dX8_mostListened_1 : decode cX8_mostListened 1 = .ok (.getfield 12, 3) := by decide +kernel
theorem dX8_mostListened_4 : decode cX8_mostListened 4 = .ok (.iload_n 1, 1) := by decide +kernel
theorem dX8_mostListened_5 : decode cX8_mostListened 5 = .ok (.invokevirtual 95, 3) := by decide +kernel
theorem dX8_mostListened_8 : decode cX8_mostListened 8 = .ok (.ifCond .ne 6, 3) := by decide +kernel
theorem dX8_mostListened_11 : decode cX8_mostListened 11 = .ok (.bipush (-9), 2) := by decide +kernel
theorem dX8_mostListened_13 : decode cX8_mostListened 13 = .ok (.ireturn, 1) := by decide +kernel
theorem dX8_mostListened_14 : decode cX8_mostListened 14 = .ok (.aload_n 0, 1) := by decide +kernel
theorem dX8_mostListened_15 : decode cX8_mostListened 15 = .ok (.getfield 12, 3) := by decide +kernel
theorem dX8_mostListened_18 : decode cX8_mostListened 18 = .ok (.iload_n 1, 1) := by decide +kernel
theorem dX8_mostListened_19 : decode cX8_mostListened 19 = .ok (.aload_n 2, 1) := by decide +kernel
theorem dX8_mostListened_20 : decode cX8_mostListened 20 = .ok (.aload_n 0, 1) := by decide +kernel
theorem dX8_mostListened_21 : decode cX8_mostListened 21 = .ok (.getfield 12, 3) := by decide +kernel
theorem dX8_mostListened_24 : decode cX8_mostListened 24 = .ok (.iload_n 1, 1) := by decide +kernel
theorem dX8_mostListened_25 : decode cX8_mostListened 25 = .ok (.aload_n 2, 1) := by decide +kernel
theorem dX8_mostListened_26 : decode cX8_mostListened 26 = .ok (.invokevirtual 155, 3) := by decide +kernel
theorem dX8_mostListened_29 : decode cX8_mostListened 29 = .ok (.invokevirtual 151, 3) := by decide +kernel
theorem dX8_mostListened_32 : decode cX8_mostListened 32 = .ok (.ireturn, 1) := by decide +kernel
theorem dX8_leave_0 : decode cX8_leave 0 = .ok (.aload_n 0, 1) := by decide +kernel
theorem dX8_leave_1 : decode cX8_leave 1 = .ok (.bipush 31, 2) := by decide +kernel
theorem dX8_leave_3 : decode cX8_leave 3 = .ok (.aload_n 0, 1) := by decide +kernel
theorem dX8_leave_4 : decode cX8_leave 4 = .ok (.getfield 256, 3) := by decide +kernel
theorem dX8_leave_7 : decode cX8_leave 7 = .ok (.imul, 1) := by decide +kernel
theorem dX8_leave_8 : decode cX8_leave 8 = .ok (.iload_n 1, 1) := by decide +kernel
theorem dX8_leave_9 : decode cX8_leave 9 = .ok (.iadd, 1) := by decide +kernel
theorem dX8_leave_10 : decode cX8_leave 10 = .ok (.putfield 256, 3) := by decide +kernel
theorem dX8_leave_13 : decode cX8_leave 13 = .ok (.return_, 1) := by decide +kernel
theorem dX8_plainTelling_0 : decode cX8_plainTelling 0 = .ok (.aload_n 0, 1) := by decide +kernel
theorem dX8_plainTelling_1 : decode cX8_plainTelling 1 = .ok (.iconst 1, 1) := by decide +kernel
theorem dX8_plainTelling_2 : decode cX8_plainTelling 2 = .ok (.invokevirtual 274, 3) := by decide +kernel
theorem dX8_plainTelling_5 : decode cX8_plainTelling 5 = .ok (.aload_n 0, 1) := by decide +kernel
theorem dX8_plainTelling_6 : decode cX8_plainTelling 6 = .ok (.getfield 12, 3) := by decide +kernel
theorem dX8_plainTelling_9 : decode cX8_plainTelling 9 = .ok (.getfield 106, 3) := by decide +kernel
theorem dX8_plainTelling_12 : decode cX8_plainTelling 12 = .ok (.aload_n 1, 1) := by decide +kernel
theorem dX8_plainTelling_13 : decode cX8_plainTelling 13 = .ok (.aload_n 0, 1) := by decide +kernel
theorem dX8_plainTelling_14 : decode cX8_plainTelling 14 = .ok (.getfield 12, 3) := by decide +kernel
theorem dX8_plainTelling_17 : decode cX8_plainTelling 17 = .ok (.getfield 106, 3) := by decide +kernel
theorem dX8_plainTelling_20 : decode cX8_plainTelling 20 = .ok (.invokevirtual 109, 3) := by decide +kernel
theorem dX8_plainTelling_23 : decode cX8_plainTelling 23 = .ok (.isub, 1) := by decide +kernel
theorem dX8_plainTelling_24 : decode cX8_plainTelling 24 = .ok (.ireturn, 1) := by decide +kernel
theorem dX8_broadTelling_0 : decode cX8_broadTelling 0 = .ok (.aload_n 0, 1) := by decide +kernel
theorem dX8_broadTelling_1 : decode cX8_broadTelling 1 = .ok (.iconst 2, 1) := by decide +kernel
theorem dX8_broadTelling_2 : decode cX8_broadTelling 2 = .ok (.invokevirtual 274, 3) := by decide +kernel
theorem dX8_broadTelling_5 : decode cX8_broadTelling 5 = .ok (.aload_n 0, 1) := by decide +kernel
theorem dX8_broadTelling_6 : decode cX8_broadTelling 6 = .ok (.aload_n 1, 1) := by decide +kernel
theorem dX8_broadTelling_7 : decode cX8_broadTelling 7 = .ok (.invokevirtual 246, 3) := by decide +kernel
theorem dX8_broadTelling_10 : decode cX8_broadTelling 10 = .ok (.bipush 100, 2) := by decide +kernel
theorem dX8_broadTelling_12 : decode cX8_broadTelling 12 = .ok (.iadd, 1) := by decide +kernel
theorem dX8_broadTelling_13 : decode cX8_broadTelling 13 = .ok (.ireturn, 1) := by decide +kernel
theorem dX8_keenTelling_0 : decode cX8_keenTelling 0 = .ok (.aload_n 0, 1) := by decide +kernel
theorem dX8_keenTelling_1 : decode cX8_keenTelling 1 = .ok (.iconst 3, 1) := by decide +kernel
theorem dX8_keenTelling_2 : decode cX8_keenTelling 2 = .ok (.invokevirtual 274, 3) := by decide +kernel
theorem dX8_keenTelling_5 : decode cX8_keenTelling 5 = .ok (.aload_n 0, 1) := by decide +kernel
theorem dX8_keenTelling_6 : decode cX8_keenTelling 6 = .ok (.aload_n 1, 1) := by decide +kernel
theorem dX8_keenTelling_7 : decode cX8_keenTelling 7 = .ok (.invokevirtual 243, 3) := by decide +kernel
theorem dX8_keenTelling_10 : decode cX8_keenTelling 10 = .ok (.istore_n 2, 1) := by decide +kernel
theorem dX8_keenTelling_11 : decode cX8_keenTelling 11 = .ok (.iload_n 2, 1) := by decide +kernel
theorem dX8_keenTelling_12 : decode cX8_keenTelling 12 = .ok (.aload_n 0, 1) := by decide +kernel
theorem dX8_keenTelling_13 : decode cX8_keenTelling 13 = .ok (.aload_n 1, 1) := by decide +kernel
theorem dX8_keenTelling_14 : decode cX8_keenTelling 14 = .ok (.invokevirtual 246, 3) := by decide +kernel
theorem dX8_keenTelling_17 : decode cX8_keenTelling 17 = .ok (.iadd, 1) := by decide +kernel
theorem dX8_keenTelling_18 : decode cX8_keenTelling 18 = .ok (.ireturn, 1) := by decide +kernel
theorem dX8_lentHail_0 : decode cX8_lentHail 0 = .ok (.aload_n 0, 1) := by decide +kernel
theorem dX8_lentHail_1 : decode cX8_lentHail 1 = .ok (.iconst 4, 1) := by decide +kernel
theorem dX8_lentHail_2 : decode cX8_lentHail 2 = .ok (.invokevirtual 274, 3) := by decide +kernel
theorem dX8_lentHail_5 : decode cX8_lentHail 5 = .ok (.iload_n 1, 1) := by decide +kernel
theorem dX8_lentHail_6 : decode cX8_lentHail 6 = .ok (.ireturn, 1) := by decide +kernel
theorem dX8_keenHail_0 : decode cX8_keenHail 0 = .ok (.aload_n 0, 1) := by decide +kernel
theorem dX8_keenHail_1 : decode cX8_keenHail 1 = .ok (.iconst 5, 1) := by decide +kernel
theorem dX8_keenHail_2 : decode cX8_keenHail 2 = .ok (.invokevirtual 274, 3) := by decide +kernel
theorem dX8_keenHail_5 : decode cX8_keenHail 5 = .ok (.bipush 60, 2) := by decide +kernel
theorem dX8_keenHail_7 : decode cX8_keenHail 7 = .ok (.ireturn, 1) := by decide +kernel
theorem dJ6_bitCount_0f7a4_0 : decode cJ6_bitCount_0f7a4 0 = .ok (.iload_n 0, 1) := by decide +kernel
theorem dJ6_bitCount_0f7a4_1 : decode cJ6_bitCount_0f7a4 1 = .ok (.iload_n 0, 1) := by decide +kernel
theorem dJ6_bitCount_0f7a4_2 : decode cJ6_bitCount_0f7a4 2 = .ok (.iconst 1, 1) := by decide +kernel
theorem dJ6_bitCount_0f7a4_3 : decode cJ6_bitCount_0f7a4 3 = .ok (.iushr, 1) := by decide +kernel
theorem dJ6_bitCount_0f7a4_4 : decode cJ6_bitCount_0f7a4 4 = .ok (.ldc_w 265, 3) := by decide +kernel
theorem dJ6_bitCount_0f7a4_7 : decode cJ6_bitCount_0f7a4 7 = .ok (.iand, 1) := by decide +kernel
theorem dJ6_bitCount_0f7a4_8 : decode cJ6_bitCount_0f7a4 8 = .ok (.isub, 1) := by decide +kernel
theorem dJ6_bitCount_0f7a4_9 : decode cJ6_bitCount_0f7a4 9 = .ok (.istore_n 0, 1) := by decide +kernel
theorem dJ6_bitCount_0f7a4_10 : decode cJ6_bitCount_0f7a4 10 = .ok (.iload_n 0, 1) := by decide +kernel
theorem dJ6_bitCount_0f7a4_11 : decode cJ6_bitCount_0f7a4 11 = .ok (.ldc_w 266, 3) := by decide +kernel
theorem dJ6_bitCount_0f7a4_14 : decode cJ6_bitCount_0f7a4 14 = .ok (.iand, 1) := by decide +kernel
theorem dJ6_bitCount_0f7a4_15 : decode cJ6_bitCount_0f7a4 15 = .ok (.iload_n 0, 1) := by decide +kernel
theorem dJ6_bitCount_0f7a4_16 : decode cJ6_bitCount_0f7a4 16 = .ok (.iconst 2, 1) := by decide +kernel
theorem dJ6_bitCount_0f7a4_17 : decode cJ6_bitCount_0f7a4 17 = .ok (.iushr, 1) := by decide +kernel
theorem dJ6_bitCount_0f7a4_18 : decode cJ6_bitCount_0f7a4 18 = .ok (.ldc_w 266, 3) := by decide +kernel
theorem dJ6_bitCount_0f7a4_21 : decode cJ6_bitCount_0f7a4 21 = .ok (.iand, 1) := by decide +kernel
theorem dJ6_bitCount_0f7a4_22 : decode cJ6_bitCount_0f7a4 22 = .ok (.iadd, 1) := by decide +kernel
theorem dJ6_bitCount_0f7a4_23 : decode cJ6_bitCount_0f7a4 23 = .ok (.istore_n 0, 1) := by decide +kernel
theorem dJ6_bitCount_0f7a4_24 : decode cJ6_bitCount_0f7a4 24 = .ok (.iload_n 0, 1) := by decide +kernel
theorem dJ6_bitCount_0f7a4_25 : decode cJ6_bitCount_0f7a4 25 = .ok (.iload_n 0, 1) := by decide +kernel
theorem dJ6_bitCount_0f7a4_26 : decode cJ6_bitCount_0f7a4 26 = .ok (.iconst 4, 1) := by decide +kernel
theorem dJ6_bitCount_0f7a4_27 : decode cJ6_bitCount_0f7a4 27 = .ok (.iushr, 1) := by decide +kernel
theorem dJ6_bitCount_0f7a4_28 : decode cJ6_bitCount_0f7a4 28 = .ok (.iadd, 1) := by decide +kernel
theorem dJ6_bitCount_0f7a4_29 : decode cJ6_bitCount_0f7a4 29 = .ok (.ldc_w 267, 3) := by decide +kernel
theorem dJ6_bitCount_0f7a4_32 : decode cJ6_bitCount_0f7a4 32 = .ok (.iand, 1) := by decide +kernel
theorem dJ6_bitCount_0f7a4_33 : decode cJ6_bitCount_0f7a4 33 = .ok (.istore_n 0, 1) := by decide +kernel
theorem dJ6_bitCount_0f7a4_34 : decode cJ6_bitCount_0f7a4 34 = .ok (.iload_n 0, 1) := by decide +kernel
theorem dJ6_bitCount_0f7a4_35 : decode cJ6_bitCount_0f7a4 35 = .ok (.iload_n 0, 1) := by decide +kernel
theorem dJ6_bitCount_0f7a4_36 : decode cJ6_bitCount_0f7a4 36 = .ok (.bipush 8, 2) := by decide +kernel
theorem dJ6_bitCount_0f7a4_38 : decode cJ6_bitCount_0f7a4 38 = .ok (.iushr, 1) := by decide +kernel
theorem dJ6_bitCount_0f7a4_39 : decode cJ6_bitCount_0f7a4 39 = .ok (.iadd, 1) := by decide +kernel
theorem dJ6_bitCount_0f7a4_40 : decode cJ6_bitCount_0f7a4 40 = .ok (.istore_n 0, 1) := by decide +kernel
theorem dJ6_bitCount_0f7a4_41 : decode cJ6_bitCount_0f7a4 41 = .ok (.iload_n 0, 1) := by decide +kernel
theorem dJ6_bitCount_0f7a4_42 : decode cJ6_bitCount_0f7a4 42 = .ok (.iload_n 0, 1) := by decide +kernel
theorem dJ6_bitCount_0f7a4_43 : decode cJ6_bitCount_0f7a4 43 = .ok (.bipush 16, 2) := by decide +kernel
theorem dJ6_bitCount_0f7a4_45 : decode cJ6_bitCount_0f7a4 45 = .ok (.iushr, 1) := by decide +kernel
theorem dJ6_bitCount_0f7a4_46 : decode cJ6_bitCount_0f7a4 46 = .ok (.iadd, 1) := by decide +kernel
theorem dJ6_bitCount_0f7a4_47 : decode cJ6_bitCount_0f7a4 47 = .ok (.istore_n 0, 1) := by decide +kernel
theorem dJ6_bitCount_0f7a4_48 : decode cJ6_bitCount_0f7a4 48 = .ok (.iload_n 0, 1) := by decide +kernel
theorem dJ6_bitCount_0f7a4_49 : decode cJ6_bitCount_0f7a4 49 = .ok (.bipush 63, 2) := by decide +kernel
theorem dJ6_bitCount_0f7a4_51 : decode cJ6_bitCount_0f7a4 51 = .ok (.iand, 1) := by decide +kernel
theorem dJ6_bitCount_0f7a4_52 : decode cJ6_bitCount_0f7a4 52 = .ok (.ireturn, 1) := by decide +kernel
theorem dJ9_max_7cf53_0 : decode cJ9_max_7cf53 0 = .ok (.iload_n 0, 1) := by decide +kernel
theorem dJ9_max_7cf53_1 : decode cJ9_max_7cf53 1 = .ok (.iload_n 1, 1) := by decide +kernel
theorem dJ9_max_7cf53_2 : decode cJ9_max_7cf53 2 = .ok (.if_icmp .lt 7, 3) := by decide +kernel
theorem dJ9_max_7cf53_5 : decode cJ9_max_7cf53 5 = .ok (.iload_n 0, 1) := by decide +kernel
theorem dJ9_max_7cf53_6 : decode cJ9_max_7cf53 6 = .ok (.goto 4, 3) := by decide +kernel
theorem dJ9_max_7cf53_9 : decode cJ9_max_7cf53 9 = .ok (.iload_n 1, 1) := by decide +kernel
theorem dJ9_max_7cf53_10 : decode cJ9_max_7cf53 10 = .ok (.ireturn, 1) := by decide +kernel
theorem dJ7_fill_53178_0 : decode cJ7_fill_53178 0 = .ok (.iconst 0, 1) := by decide +kernel
theorem dJ7_fill_53178_1 : decode cJ7_fill_53178 1 = .ok (.istore_n 2, 1) := by decide +kernel
theorem dJ7_fill_53178_2 : decode cJ7_fill_53178 2 = .ok (.aload_n 0, 1) := by decide +kernel
theorem dJ7_fill_53178_3 : decode cJ7_fill_53178 3 = .ok (.arraylength, 1) := by decide +kernel
theorem dJ7_fill_53178_4 : decode cJ7_fill_53178 4 = .ok (.istore_n 3, 1) := by decide +kernel
theorem dJ7_fill_53178_5 : decode cJ7_fill_53178 5 = .ok (.iload_n 2, 1) := by decide +kernel
theorem dJ7_fill_53178_6 : decode cJ7_fill_53178 6 = .ok (.iload_n 3, 1) := by decide +kernel
theorem dJ7_fill_53178_7 : decode cJ7_fill_53178 7 = .ok (.if_icmp .ge 13, 3) := by decide +kernel
theorem dJ7_fill_53178_10 : decode cJ7_fill_53178 10 = .ok (.aload_n 0, 1) := by decide +kernel
theorem dJ7_fill_53178_11 : decode cJ7_fill_53178 11 = .ok (.iload_n 2, 1) := by decide +kernel
theorem dJ7_fill_53178_12 : decode cJ7_fill_53178 12 = .ok (.iload_n 1, 1) := by decide +kernel
theorem dJ7_fill_53178_13 : decode cJ7_fill_53178 13 = .ok (.iastore, 1) := by decide +kernel
theorem dJ7_fill_53178_14 : decode cJ7_fill_53178 14 = .ok (.iinc 2 1, 3) := by decide +kernel
theorem dJ7_fill_53178_17 : decode cJ7_fill_53178 17 = .ok (.goto (-12), 3) := by decide +kernel
theorem dJ7_fill_53178_20 : decode cJ7_fill_53178 20 = .ok (.return_, 1) := by decide +kernel
