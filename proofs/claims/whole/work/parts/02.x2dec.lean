theorem dX0_init_0 : decode cX0_init 0 = .ok (.aload_n 0, 1) := by decide +kernel
theorem dX0_init_1 : decode cX0_init 1 = .ok (.invokespecial 3, 3) := by decide +kernel
theorem dX0_init_4 : decode cX0_init 4 = .ok (.aload_n 0, 1) := by decide +kernel
theorem dX0_init_5 : decode cX0_init 5 = .ok (.bipush 6, 2) := by decide +kernel
theorem dX0_init_7 : decode cX0_init 7 = .ok (.newarray .int, 2) := by decide +kernel
theorem dX0_init_9 : decode cX0_init 9 = .ok (.putfield 9, 3) := by decide +kernel
theorem dX0_init_12 : decode cX0_init 12 = .ok (.aload_n 0, 1) := by decide +kernel
theorem dX0_init_13 : decode cX0_init 13 = .ok (.bipush 6, 2) := by decide +kernel
theorem dX0_init_15 : decode cX0_init 15 = .ok (.newarray .int, 2) := by decide +kernel
theorem dX0_init_17 : decode cX0_init 17 = .ok (.putfield 15, 3) := by decide +kernel
theorem dX0_init_20 : decode cX0_init 20 = .ok (.aload_n 0, 1) := by decide +kernel
theorem dX0_init_21 : decode cX0_init 21 = .ok (.bipush 6, 2) := by decide +kernel
theorem dX0_init_23 : decode cX0_init 23 = .ok (.newarray .int, 2) := by decide +kernel
theorem dX0_init_25 : decode cX0_init 25 = .ok (.putfield 18, 3) := by decide +kernel
theorem dX0_init_28 : decode cX0_init 28 = .ok (.aload_n 0, 1) := by decide +kernel
theorem dX0_init_29 : decode cX0_init 29 = .ok (.bipush 6, 2) := by decide +kernel
theorem dX0_init_31 : decode cX0_init 31 = .ok (.newarray .int, 2) := by decide +kernel
theorem dX0_init_33 : decode cX0_init 33 = .ok (.putfield 21, 3) := by decide +kernel
theorem dX0_init_36 : decode cX0_init 36 = .ok (.aload_n 0, 1) := by decide +kernel
theorem dX0_init_37 : decode cX0_init 37 = .ok (.bipush 99, 2) := by decide +kernel
theorem dX0_init_39 : decode cX0_init 39 = .ok (.newarray .int, 2) := by decide +kernel
theorem dX0_init_41 : decode cX0_init 41 = .ok (.putfield 24, 3) := by decide +kernel
theorem dX0_init_44 : decode cX0_init 44 = .ok (.aload_n 0, 1) := by decide +kernel
theorem dX0_init_45 : decode cX0_init 45 = .ok (.aload_n 1, 1) := by decide +kernel
theorem dX0_init_46 : decode cX0_init 46 = .ok (.putfield 27, 3) := by decide +kernel
theorem dX0_init_49 : decode cX0_init 49 = .ok (.return_, 1) := by decide +kernel
theorem dX0_gather_0 : decode cX0_gather 0 = .ok (.aload_n 0, 1) := by decide +kernel
theorem dX0_gather_1 : decode cX0_gather 1 = .ok (.iconst 0, 1) := by decide +kernel
theorem dX0_gather_2 : decode cX0_gather 2 = .ok (.putfield 31, 3) := by decide +kernel
theorem dX0_gather_5 : decode cX0_gather 5 = .ok (.iconst 0, 1) := by decide +kernel
theorem dX0_gather_6 : decode cX0_gather 6 = .ok (.istore_n 2, 1) := by decide +kernel
theorem dX0_gather_7 : decode cX0_gather 7 = .ok (.iload_n 2, 1) := by decide +kernel
theorem dX0_gather_8 : decode cX0_gather 8 = .ok (.bipush 6, 2) := by decide +kernel
theorem dX0_gather_10 : decode cX0_gather 10 = .ok (.if_icmp .ge 87, 3) := by decide +kernel
theorem dX0_gather_13 : decode cX0_gather 13 = .ok (.aload_n 0, 1) := by decide +kernel
theorem dX0_gather_14 : decode cX0_gather 14 = .ok (.getfield 9, 3) := by decide +kernel
theorem dX0_gather_17 : decode cX0_gather 17 = .ok (.iload_n 2, 1) := by decide +kernel
theorem dX0_gather_18 : decode cX0_gather 18 = .ok (.iconst (-1), 1) := by decide +kernel
theorem dX0_gather_19 : decode cX0_gather 19 = .ok (.iastore, 1) := by decide +kernel
theorem dX0_gather_20 : decode cX0_gather 20 = .ok (.aload_n 0, 1) := by decide +kernel
theorem dX0_gather_21 : decode cX0_gather 21 = .ok (.getfield 15, 3) := by decide +kernel
theorem dX0_gather_24 : decode cX0_gather 24 = .ok (.iload_n 2, 1) := by decide +kernel
theorem dX0_gather_25 : decode cX0_gather 25 = .ok (.iconst 0, 1) := by decide +kernel
theorem dX0_gather_26 : decode cX0_gather 26 = .ok (.iastore, 1) := by decide +kernel
theorem dX0_gather_27 : decode cX0_gather 27 = .ok (.aload_n 0, 1) := by decide +kernel
theorem dX0_gather_28 : decode cX0_gather 28 = .ok (.getfield 27, 3) := by decide +kernel
theorem dX0_gather_31 : decode cX0_gather 31 = .ok (.iload_n 2, 1) := by decide +kernel
theorem dX0_gather_32 : decode cX0_gather 32 = .ok (.invokevirtual 35, 3) := by decide +kernel
theorem dX0_gather_35 : decode cX0_gather 35 = .ok (.astore_n 3, 1) := by decide +kernel
theorem dX0_gather_36 : decode cX0_gather 36 = .ok (.aload_n 3, 1) := by decide +kernel
theorem dX0_gather_37 : decode cX0_gather 37 = .ok (.ifnull 54, 3) := by decide +kernel
theorem dX0_gather_40 : decode cX0_gather 40 = .ok (.iload_n 1, 1) := by decide +kernel
theorem dX0_gather_41 : decode cX0_gather 41 = .ok (.iload_n 2, 1) := by decide +kernel
theorem dX0_gather_42 : decode cX0_gather 42 = .ok (.invokestatic 41, 3) := by decide +kernel
theorem dX0_gather_45 : decode cX0_gather 45 = .ok (.ifCond .eq 46, 3) := by decide +kernel
theorem dX0_gather_48 : decode cX0_gather 48 = .ok (.aload_n 0, 1) := by decide +kernel
theorem dX0_gather_49 : decode cX0_gather 49 = .ok (.getfield 9, 3) := by decide +kernel
theorem dX0_gather_52 : decode cX0_gather 52 = .ok (.iload_n 2, 1) := by decide +kernel
theorem dX0_gather_53 : decode cX0_gather 53 = .ok (.aload_n 3, 1) := by decide +kernel
theorem dX0_gather_54 : decode cX0_gather 54 = .ok (.getfield 45, 3) := by decide +kernel
theorem dX0_gather_57 : decode cX0_gather 57 = .ok (.iastore, 1) := by decide +kernel
theorem dX0_gather_58 : decode cX0_gather 58 = .ok (.aload_n 0, 1) := by decide +kernel
theorem dX0_gather_59 : decode cX0_gather 59 = .ok (.getfield 15, 3) := by decide +kernel
theorem dX0_gather_62 : decode cX0_gather 62 = .ok (.iload_n 2, 1) := by decide +kernel
theorem dX0_gather_63 : decode cX0_gather 63 = .ok (.aload_n 3, 1) := by decide +kernel
theorem dX0_gather_64 : decode cX0_gather 64 = .ok (.getfield 50, 3) := by decide +kernel
theorem dX0_gather_67 : decode cX0_gather 67 = .ok (.iastore, 1) := by decide +kernel
theorem dX0_gather_68 : decode cX0_gather 68 = .ok (.aload_n 0, 1) := by decide +kernel
theorem dX0_gather_69 : decode cX0_gather 69 = .ok (.dup, 1) := by decide +kernel
theorem dX0_gather_70 : decode cX0_gather 70 = .ok (.getfield 31, 3) := by decide +kernel
theorem dX0_gather_73 : decode cX0_gather 73 = .ok (.aload_n 3, 1) := by decide +kernel
theorem dX0_gather_74 : decode cX0_gather 74 = .ok (.invokevirtual 53, 3) := by decide +kernel
theorem dX0_gather_77 : decode cX0_gather 77 = .ok (.ifCond .eq 9, 3) := by decide +kernel
theorem dX0_gather_80 : decode cX0_gather 80 = .ok (.iconst 1, 1) := by decide +kernel
theorem dX0_gather_81 : decode cX0_gather 81 = .ok (.iload_n 2, 1) := by decide +kernel
theorem dX0_gather_82 : decode cX0_gather 82 = .ok (.ishl, 1) := by decide +kernel
theorem dX0_gather_83 : decode cX0_gather 83 = .ok (.goto 4, 3) := by decide +kernel
theorem dX0_gather_86 : decode cX0_gather 86 = .ok (.iconst 0, 1) := by decide +kernel
theorem dX0_gather_87 : decode cX0_gather 87 = .ok (.ior, 1) := by decide +kernel
theorem dX0_gather_88 : decode cX0_gather 88 = .ok (.putfield 31, 3) := by decide +kernel
theorem dX0_gather_91 : decode cX0_gather 91 = .ok (.iinc 2 1, 3) := by decide +kernel
theorem dX0_gather_94 : decode cX0_gather 94 = .ok (.goto (-87), 3) := by decide +kernel
theorem dX0_gather_97 : decode cX0_gather 97 = .ok (.return_, 1) := by decide +kernel
theorem dX0_offer_0 : decode cX0_offer 0 = .ok (.iconst 0, 1) := by decide +kernel
theorem dX0_offer_1 : decode cX0_offer 1 = .ok (.istore_n 2, 1) := by decide +kernel
theorem dX0_offer_2 : decode cX0_offer 2 = .ok (.iload_n 2, 1) := by decide +kernel
theorem dX0_offer_3 : decode cX0_offer 3 = .ok (.bipush 6, 2) := by decide +kernel
theorem dX0_offer_5 : decode cX0_offer 5 = .ok (.if_icmp .ge 68, 3) := by decide +kernel
theorem dX0_offer_8 : decode cX0_offer 8 = .ok (.aload_n 0, 1) := by decide +kernel
theorem dX0_offer_9 : decode cX0_offer 9 = .ok (.getfield 18, 3) := by decide +kernel
theorem dX0_offer_12 : decode cX0_offer 12 = .ok (.iload_n 2, 1) := by decide +kernel
theorem dX0_offer_13 : decode cX0_offer 13 = .ok (.iconst 0, 1) := by decide +kernel
theorem dX0_offer_14 : decode cX0_offer 14 = .ok (.iastore, 1) := by decide +kernel
theorem dX0_offer_15 : decode cX0_offer 15 = .ok (.aload_n 0, 1) := by decide +kernel
theorem dX0_offer_16 : decode cX0_offer 16 = .ok (.getfield 27, 3) := by decide +kernel
theorem dX0_offer_19 : decode cX0_offer 19 = .ok (.iload_n 2, 1) := by decide +kernel
theorem dX0_offer_20 : decode cX0_offer 20 = .ok (.invokevirtual 35, 3) := by decide +kernel
theorem dX0_offer_23 : decode cX0_offer 23 = .ok (.astore_n 3, 1) := by decide +kernel
theorem dX0_offer_24 : decode cX0_offer 24 = .ok (.aload_n 3, 1) := by decide +kernel
theorem dX0_offer_25 : decode cX0_offer 25 = .ok (.ifnull 42, 3) := by decide +kernel
theorem dX0_offer_28 : decode cX0_offer 28 = .ok (.aload_n 0, 1) := by decide +kernel
theorem dX0_offer_29 : decode cX0_offer 29 = .ok (.getfield 9, 3) := by decide +kernel
theorem dX0_offer_32 : decode cX0_offer 32 = .ok (.iload_n 2, 1) := by decide +kernel
theorem dX0_offer_33 : decode cX0_offer 33 = .ok (.iaload, 1) := by decide +kernel
theorem dX0_offer_34 : decode cX0_offer 34 = .ok (.iconst (-1), 1) := by decide +kernel
theorem dX0_offer_35 : decode cX0_offer 35 = .ok (.if_icmp .eq 32, 3) := by decide +kernel
theorem dX0_offer_38 : decode cX0_offer 38 = .ok (.iload_n 1, 1) := by decide +kernel
theorem dX0_offer_39 : decode cX0_offer 39 = .ok (.invokestatic 57, 3) := by decide +kernel
theorem dX0_offer_42 : decode cX0_offer 42 = .ok (.ifCond .eq 25, 3) := by decide +kernel
theorem dX0_offer_45 : decode cX0_offer 45 = .ok (.aload_n 0, 1) := by decide +kernel
theorem dX0_offer_46 : decode cX0_offer 46 = .ok (.getfield 18, 3) := by decide +kernel
theorem dX0_offer_49 : decode cX0_offer 49 = .ok (.iload_n 2, 1) := by decide +kernel
theorem dX0_offer_50 : decode cX0_offer 50 = .ok (.aload_n 3, 1) := by decide +kernel
theorem dX0_offer_51 : decode cX0_offer 51 = .ok (.aload_n 3, 1) := by decide +kernel
theorem dX0_offer_52 : decode cX0_offer 52 = .ok (.getfield 61, 3) := by decide +kernel
theorem dX0_offer_55 : decode cX0_offer 55 = .ok (.iload_n 1, 1) := by decide +kernel
theorem dX0_offer_56 : decode cX0_offer 56 = .ok (.iaload, 1) := by decide +kernel
theorem dX0_offer_57 : decode cX0_offer 57 = .ok (.aload_n 0, 1) := by decide +kernel
theorem dX0_offer_58 : decode cX0_offer 58 = .ok (.getfield 15, 3) := by decide +kernel
theorem dX0_offer_61 : decode cX0_offer 61 = .ok (.iload_n 2, 1) := by decide +kernel
theorem dX0_offer_62 : decode cX0_offer 62 = .ok (.iaload, 1) := by decide +kernel
theorem dX0_offer_63 : decode cX0_offer 63 = .ok (.invokevirtual 64, 3) := by decide +kernel
theorem dX0_offer_66 : decode cX0_offer 66 = .ok (.iastore, 1) := by decide +kernel
theorem dX0_offer_67 : decode cX0_offer 67 = .ok (.iinc 2 1, 3) := by decide +kernel
theorem dX0_offer_70 : decode cX0_offer 70 = .ok (.goto (-68), 3) := by decide +kernel
theorem dX0_offer_73 : decode cX0_offer 73 = .ok (.return_, 1) := by decide +kernel
theorem dX0_silenceAllButFirst_0 : decode cX0_silenceAllButFirst 0 = .ok (.bipush (-9), 2) := by decide +kernel
theorem dX0_silenceAllButFirst_2 : decode cX0_silenceAllButFirst 2 = .ok (.istore_n 2, 1) := by decide +kernel
theorem dX0_silenceAllButFirst_3 : decode cX0_silenceAllButFirst 3 = .ok (.iconst 0, 1) := by decide +kernel
theorem dX0_silenceAllButFirst_4 : decode cX0_silenceAllButFirst 4 = .ok (.istore_n 3, 1) := by decide +kernel
theorem dX0_silenceAllButFirst_5 : decode cX0_silenceAllButFirst 5 = .ok (.iload_n 3, 1) := by decide +kernel
theorem dX0_silenceAllButFirst_6 : decode cX0_silenceAllButFirst 6 = .ok (.bipush 6, 2) := by decide +kernel
theorem dX0_silenceAllButFirst_8 : decode cX0_silenceAllButFirst 8 = .ok (.if_icmp .ge 40, 3) := by decide +kernel
theorem dX0_silenceAllButFirst_11 : decode cX0_silenceAllButFirst 11 = .ok (.iload_n 1, 1) := by decide +kernel
theorem dX0_silenceAllButFirst_12 : decode cX0_silenceAllButFirst 12 = .ok (.iload_n 3, 1) := by decide +kernel
theorem dX0_silenceAllButFirst_13 : decode cX0_silenceAllButFirst 13 = .ok (.invokestatic 41, 3) := by decide +kernel
theorem dX0_silenceAllButFirst_16 : decode cX0_silenceAllButFirst 16 = .ok (.ifCond .eq 26, 3) := by decide +kernel
theorem dX0_silenceAllButFirst_19 : decode cX0_silenceAllButFirst 19 = .ok (.iload_n 2, 1) := by decide +kernel
theorem dX0_silenceAllButFirst_20 : decode cX0_silenceAllButFirst 20 = .ok (.bipush (-9), 2) := by decide +kernel
theorem dX0_silenceAllButFirst_22 : decode cX0_silenceAllButFirst 22 = .ok (.if_icmp .eq 18, 3) := by decide +kernel
theorem dX0_silenceAllButFirst_25 : decode cX0_silenceAllButFirst 25 = .ok (.aload_n 0, 1) := by decide +kernel
theorem dX0_silenceAllButFirst_26 : decode cX0_silenceAllButFirst 26 = .ok (.getfield 18, 3) := by decide +kernel
theorem dX0_silenceAllButFirst_29 : decode cX0_silenceAllButFirst 29 = .ok (.iload_n 3, 1) := by decide +kernel
theorem dX0_silenceAllButFirst_30 : decode cX0_silenceAllButFirst 30 = .ok (.iaload, 1) := by decide +kernel
theorem dX0_silenceAllButFirst_31 : decode cX0_silenceAllButFirst 31 = .ok (.aload_n 0, 1) := by decide +kernel
theorem dX0_silenceAllButFirst_32 : decode cX0_silenceAllButFirst 32 = .ok (.getfield 18, 3) := by decide +kernel
theorem dX0_silenceAllButFirst_35 : decode cX0_silenceAllButFirst 35 = .ok (.iload_n 2, 1) := by decide +kernel
theorem dX0_silenceAllButFirst_36 : decode cX0_silenceAllButFirst 36 = .ok (.iaload, 1) := by decide +kernel
theorem dX0_silenceAllButFirst_37 : decode cX0_silenceAllButFirst 37 = .ok (.if_icmp .le 5, 3) := by decide +kernel
theorem dX0_silenceAllButFirst_40 : decode cX0_silenceAllButFirst 40 = .ok (.iload_n 3, 1) := by decide +kernel
theorem dX0_silenceAllButFirst_41 : decode cX0_silenceAllButFirst 41 = .ok (.istore_n 2, 1) := by decide +kernel
theorem dX0_silenceAllButFirst_42 : decode cX0_silenceAllButFirst 42 = .ok (.iinc 3 1, 3) := by decide +kernel
theorem dX0_silenceAllButFirst_45 : decode cX0_silenceAllButFirst 45 = .ok (.goto (-40), 3) := by decide +kernel
theorem dX0_silenceAllButFirst_48 : decode cX0_silenceAllButFirst 48 = .ok (.iconst 0, 1) := by decide +kernel
theorem dX0_silenceAllButFirst_49 : decode cX0_silenceAllButFirst 49 = .ok (.istore_n 3, 1) := by decide +kernel
theorem dX0_silenceAllButFirst_50 : decode cX0_silenceAllButFirst 50 = .ok (.iload_n 3, 1) := by decide +kernel
theorem dX0_silenceAllButFirst_51 : decode cX0_silenceAllButFirst 51 = .ok (.bipush 6, 2) := by decide +kernel
theorem dX0_silenceAllButFirst_53 : decode cX0_silenceAllButFirst 53 = .ok (.if_icmp .ge 29, 3) := by decide +kernel
theorem dX0_silenceAllButFirst_56 : decode cX0_silenceAllButFirst 56 = .ok (.iload_n 1, 1) := by decide +kernel
theorem dX0_silenceAllButFirst_57 : decode cX0_silenceAllButFirst 57 = .ok (.iload_n 3, 1) := by decide +kernel
theorem dX0_silenceAllButFirst_58 : decode cX0_silenceAllButFirst 58 = .ok (.invokestatic 41, 3) := by decide +kernel
theorem dX0_silenceAllButFirst_61 : decode cX0_silenceAllButFirst 61 = .ok (.ifCond .eq 15, 3) := by decide +kernel
theorem dX0_silenceAllButFirst_64 : decode cX0_silenceAllButFirst 64 = .ok (.iload_n 3, 1) := by decide +kernel
theorem dX0_silenceAllButFirst_65 : decode cX0_silenceAllButFirst 65 = .ok (.iload_n 2, 1) := by decide +kernel
theorem dX0_silenceAllButFirst_66 : decode cX0_silenceAllButFirst 66 = .ok (.if_icmp .eq 10, 3) := by decide +kernel
theorem dX0_silenceAllButFirst_69 : decode cX0_silenceAllButFirst 69 = .ok (.aload_n 0, 1) := by decide +kernel
theorem dX0_silenceAllButFirst_70 : decode cX0_silenceAllButFirst 70 = .ok (.getfield 18, 3) := by decide +kernel
theorem dX0_silenceAllButFirst_73 : decode cX0_silenceAllButFirst 73 = .ok (.iload_n 3, 1) := by decide +kernel
theorem dX0_silenceAllButFirst_74 : decode cX0_silenceAllButFirst 74 = .ok (.iconst 0, 1) := by decide +kernel
theorem dX0_silenceAllButFirst_75 : decode cX0_silenceAllButFirst 75 = .ok (.iastore, 1) := by decide +kernel
theorem dX0_silenceAllButFirst_76 : decode cX0_silenceAllButFirst 76 = .ok (.iinc 3 1, 3) := by decide +kernel
theorem dX0_silenceAllButFirst_79 : decode cX0_silenceAllButFirst 79 = .ok (.goto (-29), 3) := by decide +kernel
theorem dX0_silenceAllButFirst_82 : decode cX0_silenceAllButFirst 82 = .ok (.return_, 1) := by decide +kernel
theorem dX0_hold_0 : decode cX0_hold 0 = .ok (.aload_n 0, 1) := by decide +kernel
theorem dX0_hold_1 : decode cX0_hold 1 = .ok (.iconst 0, 1) := by decide +kernel
theorem dX0_hold_2 : decode cX0_hold 2 = .ok (.putfield 68, 3) := by decide +kernel
theorem dX0_hold_5 : decode cX0_hold 5 = .ok (.aload_n 0, 1) := by decide +kernel
theorem dX0_hold_6 : decode cX0_hold 6 = .ok (.bipush (-9), 2) := by decide +kernel
theorem dX0_hold_8 : decode cX0_hold 8 = .ok (.putfield 71, 3) := by decide +kernel
theorem dX0_hold_11 : decode cX0_hold 11 = .ok (.aload_n 0, 1) := by decide +kernel
theorem dX0_hold_12 : decode cX0_hold 12 = .ok (.iconst 0, 1) := by decide +kernel
theorem dX0_hold_13 : decode cX0_hold 13 = .ok (.putfield 74, 3) := by decide +kernel
theorem dX0_hold_16 : decode cX0_hold 16 = .ok (.aload_n 0, 1) := by decide +kernel
theorem dX0_hold_17 : decode cX0_hold 17 = .ok (.aload_n 0, 1) := by decide +kernel
theorem dX0_hold_18 : decode cX0_hold 18 = .ok (.getfield 27, 3) := by decide +kernel
theorem dX0_hold_21 : decode cX0_hold 21 = .ok (.invokevirtual 77, 3) := by decide +kernel
theorem dX0_hold_24 : decode cX0_hold 24 = .ok (.putfield 81, 3) := by decide +kernel
theorem dX0_hold_27 : decode cX0_hold 27 = .ok (.aload_n 0, 1) := by decide +kernel
theorem dX0_hold_28 : decode cX0_hold 28 = .ok (.invokevirtual 84, 3) := by decide +kernel
theorem dX0_hold_31 : decode cX0_hold 31 = .ok (.iconst 0, 1) := by decide +kernel
theorem dX0_hold_32 : decode cX0_hold 32 = .ok (.istore_n 1, 1) := by decide +kernel
theorem dX0_hold_33 : decode cX0_hold 33 = .ok (.iload_n 1, 1) := by decide +kernel
theorem dX0_hold_34 : decode cX0_hold 34 = .ok (.bipush 99, 2) := by decide +kernel
theorem dX0_hold_36 : decode cX0_hold 36 = .ok (.if_icmp .ge 28, 3) := by decide +kernel
theorem dX0_hold_39 : decode cX0_hold 39 = .ok (.aload_n 0, 1) := by decide +kernel
theorem dX0_hold_40 : decode cX0_hold 40 = .ok (.invokevirtual 87, 3) := by decide +kernel
theorem dX0_hold_43 : decode cX0_hold 43 = .ok (.istore_n 2, 1) := by decide +kernel
theorem dX0_hold_44 : decode cX0_hold 44 = .ok (.iload_n 2, 1) := by decide +kernel
theorem dX0_hold_45 : decode cX0_hold 45 = .ok (.bipush (-9), 2) := by decide +kernel
theorem dX0_hold_47 : decode cX0_hold 47 = .ok (.if_icmp .ne 6, 3) := by decide +kernel
theorem dX0_hold_50 : decode cX0_hold 50 = .ok (.goto 14, 3) := by decide +kernel
theorem dX0_hold_53 : decode cX0_hold 53 = .ok (.aload_n 0, 1) := by decide +kernel
theorem dX0_hold_54 : decode cX0_hold 54 = .ok (.iload_n 2, 1) := by decide +kernel
theorem dX0_hold_55 : decode cX0_hold 55 = .ok (.invokevirtual 90, 3) := by decide +kernel
theorem dX0_hold_58 : decode cX0_hold 58 = .ok (.iinc 1 1, 3) := by decide +kernel
theorem dX0_hold_61 : decode cX0_hold 61 = .ok (.goto (-28), 3) := by decide +kernel
theorem dX0_hold_64 : decode cX0_hold 64 = .ok (.return_, 1) := by decide +kernel
theorem dX0_sellOn_0 : decode cX0_sellOn 0 = .ok (.aload_n 0, 1) := by decide +kernel
theorem dX0_sellOn_1 : decode cX0_sellOn 1 = .ok (.iload_n 1, 1) := by decide +kernel
theorem dX0_sellOn_2 : decode cX0_sellOn 2 = .ok (.invokevirtual 94, 3) := by decide +kernel
theorem dX0_sellOn_5 : decode cX0_sellOn 5 = .ok (.aload_n 0, 1) := by decide +kernel
theorem dX0_sellOn_6 : decode cX0_sellOn 6 = .ok (.invokevirtual 97, 3) := by decide +kernel
theorem dX0_sellOn_9 : decode cX0_sellOn 9 = .ok (.aload_n 0, 1) := by decide +kernel
theorem dX0_sellOn_10 : decode cX0_sellOn 10 = .ok (.getfield 71, 3) := by decide +kernel
theorem dX0_sellOn_13 : decode cX0_sellOn 13 = .ok (.bipush (-9), 2) := by decide +kernel
theorem dX0_sellOn_15 : decode cX0_sellOn 15 = .ok (.if_icmp .eq 19, 3) := by decide +kernel
theorem dX0_sellOn_18 : decode cX0_sellOn 18 = .ok (.aload_n 0, 1) := by decide +kernel
theorem dX0_sellOn_19 : decode cX0_sellOn 19 = .ok (.getfield 15, 3) := by decide +kernel
theorem dX0_sellOn_22 : decode cX0_sellOn 22 = .ok (.aload_n 0, 1) := by decide +kernel
theorem dX0_sellOn_23 : decode cX0_sellOn 23 = .ok (.getfield 71, 3) := by decide +kernel
theorem dX0_sellOn_26 : decode cX0_sellOn 26 = .ok (.dup2, 1) := by decide +kernel
theorem dX0_sellOn_27 : decode cX0_sellOn 27 = .ok (.iaload, 1) := by decide +kernel
theorem dX0_sellOn_28 : decode cX0_sellOn 28 = .ok (.aload_n 0, 1) := by decide +kernel
theorem dX0_sellOn_29 : decode cX0_sellOn 29 = .ok (.getfield 68, 3) := by decide +kernel
theorem dX0_sellOn_32 : decode cX0_sellOn 32 = .ok (.isub, 1) := by decide +kernel
theorem dX0_sellOn_33 : decode cX0_sellOn 33 = .ok (.iastore, 1) := by decide +kernel
theorem dX0_sellOn_34 : decode cX0_sellOn 34 = .ok (.aload_n 0, 1) := by decide +kernel
theorem dX0_sellOn_35 : decode cX0_sellOn 35 = .ok (.getfield 68, 3) := by decide +kernel
theorem dX0_sellOn_38 : decode cX0_sellOn 38 = .ok (.ireturn, 1) := by decide +kernel
theorem dX0_bidOf_0 : decode cX0_bidOf 0 = .ok (.iload_n 1, 1) := by decide +kernel
theorem dX0_bidOf_1 : decode cX0_bidOf 1 = .ok (.ifCond .lt 26, 3) := by decide +kernel
theorem dX0_bidOf_4 : decode cX0_bidOf 4 = .ok (.iload_n 1, 1) := by decide +kernel
theorem dX0_bidOf_5 : decode cX0_bidOf 5 = .ok (.aload_n 0, 1) := by decide +kernel
theorem dX0_bidOf_6 : decode cX0_bidOf 6 = .ok (.getfield 74, 3) := by decide +kernel
theorem dX0_bidOf_9 : decode cX0_bidOf 9 = .ok (.if_icmp .ge 18, 3) := by decide +kernel
theorem dX0_bidOf_12 : decode cX0_bidOf 12 = .ok (.iload_n 1, 1) := by decide +kernel
theorem dX0_bidOf_13 : decode cX0_bidOf 13 = .ok (.bipush 99, 2) := by decide +kernel
theorem dX0_bidOf_15 : decode cX0_bidOf 15 = .ok (.if_icmp .ge 12, 3) := by decide +kernel
theorem dX0_bidOf_18 : decode cX0_bidOf 18 = .ok (.aload_n 0, 1) := by decide +kernel
theorem dX0_bidOf_19 : decode cX0_bidOf 19 = .ok (.getfield 24, 3) := by decide +kernel
theorem dX0_bidOf_22 : decode cX0_bidOf 22 = .ok (.iload_n 1, 1) := by decide +kernel
theorem dX0_bidOf_23 : decode cX0_bidOf 23 = .ok (.iaload, 1) := by decide +kernel
theorem dX0_bidOf_24 : decode cX0_bidOf 24 = .ok (.goto 5, 3) := by decide +kernel
theorem dX0_bidOf_27 : decode cX0_bidOf 27 = .ok (.bipush (-9), 2) := by decide +kernel
theorem dX0_bidOf_29 : decode cX0_bidOf 29 = .ok (.ireturn, 1) := by decide +kernel
theorem dX0_lineUp_0 : decode cX0_lineUp 0 = .ok (.aload_n 0, 1) := by decide +kernel
theorem dX0_lineUp_1 : decode cX0_lineUp 1 = .ok (.iconst 0, 1) := by decide +kernel
theorem dX0_lineUp_2 : decode cX0_lineUp 2 = .ok (.putfield 100, 3) := by decide +kernel
theorem dX0_lineUp_5 : decode cX0_lineUp 5 = .ok (.aload_n 0, 1) := by decide +kernel
theorem dX0_lineUp_6 : decode cX0_lineUp 6 = .ok (.iconst 0, 1) := by decide +kernel
theorem dX0_lineUp_7 : decode cX0_lineUp 7 = .ok (.putfield 103, 3) := by decide +kernel
theorem dX0_lineUp_10 : decode cX0_lineUp 10 = .ok (.iconst 0, 1) := by decide +kernel
theorem dX0_lineUp_11 : decode cX0_lineUp 11 = .ok (.istore_n 1, 1) := by decide +kernel
theorem dX0_lineUp_12 : decode cX0_lineUp 12 = .ok (.iload_n 1, 1) := by decide +kernel
theorem dX0_lineUp_13 : decode cX0_lineUp 13 = .ok (.bipush 6, 2) := by decide +kernel
theorem dX0_lineUp_15 : decode cX0_lineUp 15 = .ok (.if_icmp .ge 107, 3) := by decide +kernel
theorem dX0_lineUp_18 : decode cX0_lineUp 18 = .ok (.aload_n 0, 1) := by decide +kernel
theorem dX0_lineUp_19 : decode cX0_lineUp 19 = .ok (.getfield 9, 3) := by decide +kernel
theorem dX0_lineUp_22 : decode cX0_lineUp 22 = .ok (.iload_n 1, 1) := by decide +kernel
theorem dX0_lineUp_23 : decode cX0_lineUp 23 = .ok (.iaload, 1) := by decide +kernel
theorem dX0_lineUp_24 : decode cX0_lineUp 24 = .ok (.iconst (-1), 1) := by decide +kernel
theorem dX0_lineUp_25 : decode cX0_lineUp 25 = .ok (.if_icmp .ne 6, 3) := by decide +kernel
theorem dX0_lineUp_28 : decode cX0_lineUp 28 = .ok (.goto 88, 3) := by decide +kernel
theorem dX0_lineUp_31 : decode cX0_lineUp 31 = .ok (.aload_n 0, 1) := by decide +kernel
theorem dX0_lineUp_32 : decode cX0_lineUp 32 = .ok (.dup, 1) := by decide +kernel
theorem dX0_lineUp_33 : decode cX0_lineUp 33 = .ok (.getfield 103, 3) := by decide +kernel
theorem dX0_lineUp_36 : decode cX0_lineUp 36 = .ok (.iconst 1, 1) := by decide +kernel
theorem dX0_lineUp_37 : decode cX0_lineUp 37 = .ok (.aload_n 0, 1) := by decide +kernel
theorem dX0_lineUp_38 : decode cX0_lineUp 38 = .ok (.getfield 9, 3) := by decide +kernel
theorem dX0_lineUp_41 : decode cX0_lineUp 41 = .ok (.iload_n 1, 1) := by decide +kernel
theorem dX0_lineUp_42 : decode cX0_lineUp 42 = .ok (.iaload, 1) := by decide +kernel
theorem dX0_lineUp_43 : decode cX0_lineUp 43 = .ok (.ishl, 1) := by decide +kernel
theorem dX0_lineUp_44 : decode cX0_lineUp 44 = .ok (.ior, 1) := by decide +kernel
theorem dX0_lineUp_45 : decode cX0_lineUp 45 = .ok (.putfield 103, 3) := by decide +kernel
theorem dX0_lineUp_48 : decode cX0_lineUp 48 = .ok (.aload_n 0, 1) := by decide +kernel
theorem dX0_lineUp_49 : decode cX0_lineUp 49 = .ok (.getfield 100, 3) := by decide +kernel
theorem dX0_lineUp_52 : decode cX0_lineUp 52 = .ok (.istore_n 2, 1) := by decide +kernel
theorem dX0_lineUp_53 : decode cX0_lineUp 53 = .ok (.iload_n 2, 1) := by decide +kernel
theorem dX0_lineUp_54 : decode cX0_lineUp 54 = .ok (.ifCond .le 45, 3) := by decide +kernel
theorem dX0_lineUp_57 : decode cX0_lineUp 57 = .ok (.aload_n 0, 1) := by decide +kernel
theorem dX0_lineUp_58 : decode cX0_lineUp 58 = .ok (.getfield 9, 3) := by decide +kernel
theorem dX0_lineUp_61 : decode cX0_lineUp 61 = .ok (.aload_n 0, 1) := by decide +kernel
theorem dX0_lineUp_62 : decode cX0_lineUp 62 = .ok (.getfield 21, 3) := by decide +kernel
theorem dX0_lineUp_65 : decode cX0_lineUp 65 = .ok (.iload_n 2, 1) := by decide +kernel
theorem dX0_lineUp_66 : decode cX0_lineUp 66 = .ok (.iconst 1, 1) := by decide +kernel
theorem dX0_lineUp_67 : decode cX0_lineUp 67 = .ok (.isub, 1) := by decide +kernel
theorem dX0_lineUp_68 : decode cX0_lineUp 68 = .ok (.iaload, 1) := by decide +kernel
theorem dX0_lineUp_69 : decode cX0_lineUp 69 = .ok (.iaload, 1) := by decide +kernel
theorem dX0_lineUp_70 : decode cX0_lineUp 70 = .ok (.aload_n 0, 1) := by decide +kernel
theorem dX0_lineUp_71 : decode cX0_lineUp 71 = .ok (.getfield 9, 3) := by decide +kernel
theorem dX0_lineUp_74 : decode cX0_lineUp 74 = .ok (.iload_n 1, 1) := by decide +kernel
theorem dX0_lineUp_75 : decode cX0_lineUp 75 = .ok (.iaload, 1) := by decide +kernel
theorem dX0_lineUp_76 : decode cX0_lineUp 76 = .ok (.if_icmp .le 23, 3) := by decide +kernel
theorem dX0_lineUp_79 : decode cX0_lineUp 79 = .ok (.aload_n 0, 1) := by decide +kernel
theorem dX0_lineUp_80 : decode cX0_lineUp 80 = .ok (.getfield 21, 3) := by decide +kernel
theorem dX0_lineUp_83 : decode cX0_lineUp 83 = .ok (.iload_n 2, 1) := by decide +kernel
theorem dX0_lineUp_84 : decode cX0_lineUp 84 = .ok (.aload_n 0, 1) := by decide +kernel
theorem dX0_lineUp_85 : decode cX0_lineUp 85 = .ok (.getfield 21, 3) := by decide +kernel
theorem dX0_lineUp_88 : decode cX0_lineUp 88 = .ok (.iload_n 2, 1) := by decide +kernel
theorem dX0_lineUp_89 : decode cX0_lineUp 89 = .ok (.iconst 1, 1) := by decide +kernel
theorem dX0_lineUp_90 : decode cX0_lineUp 90 = .ok (.isub, 1) := by decide +kernel
theorem dX0_lineUp_91 : decode cX0_lineUp 91 = .ok (.iaload, 1) := by decide +kernel
theorem dX0_lineUp_92 : decode cX0_lineUp 92 = .ok (.iastore, 1) := by decide +kernel
theorem dX0_lineUp_93 : decode cX0_lineUp 93 = .ok (.iinc 2 (-1), 3) := by decide +kernel
theorem dX0_lineUp_96 : decode cX0_lineUp 96 = .ok (.goto (-43), 3) := by decide +kernel
theorem dX0_lineUp_99 : decode cX0_lineUp 99 = .ok (.aload_n 0, 1) := by decide +kernel
theorem dX0_lineUp_100 : decode cX0_lineUp 100 = .ok (.getfield 21, 3) := by decide +kernel
theorem dX0_lineUp_103 : decode cX0_lineUp 103 = .ok (.iload_n 2, 1) := by decide +kernel
theorem dX0_lineUp_104 : decode cX0_lineUp 104 = .ok (.iload_n 1, 1) := by decide +kernel
theorem dX0_lineUp_105 : decode cX0_lineUp 105 = .ok (.iastore, 1) := by decide +kernel
theorem dX0_lineUp_106 : decode cX0_lineUp 106 = .ok (.aload_n 0, 1) := by decide +kernel
theorem dX0_lineUp_107 : decode cX0_lineUp 107 = .ok (.dup, 1) := by decide +kernel
theorem dX0_lineUp_108 : decode cX0_lineUp 108 = .ok (.getfield 100, 3) := by decide +kernel
theorem dX0_lineUp_111 : decode cX0_lineUp 111 = .ok (.iconst 1, 1) := by decide +kernel
theorem dX0_lineUp_112 : decode cX0_lineUp 112 = .ok (.iadd, 1) := by decide +kernel
theorem dX0_lineUp_113 : decode cX0_lineUp 113 = .ok (.putfield 100, 3) := by decide +kernel
theorem dX0_lineUp_116 : decode cX0_lineUp 116 = .ok (.iinc 1 1, 3) := by decide +kernel
theorem dX0_lineUp_119 : decode cX0_lineUp 119 = .ok (.goto (-107), 3) := by decide +kernel
theorem dX0_lineUp_122 : decode cX0_lineUp 122 = .ok (.return_, 1) := by decide +kernel
theorem dX0_nextBidder_0 : decode cX0_nextBidder 0 = .ok (.iconst 0, 1) := by decide +kernel
theorem dX0_nextBidder_1 : decode cX0_nextBidder 1 = .ok (.istore_n 1, 1) := by decide +kernel
theorem dX0_nextBidder_2 : decode cX0_nextBidder 2 = .ok (.iload_n 1, 1) := by decide +kernel
theorem dX0_nextBidder_3 : decode cX0_nextBidder 3 = .ok (.aload_n 0, 1) := by decide +kernel
theorem dX0_nextBidder_4 : decode cX0_nextBidder 4 = .ok (.getfield 100, 3) := by decide +kernel
theorem dX0_nextBidder_7 : decode cX0_nextBidder 7 = .ok (.if_icmp .ge 53, 3) := by decide +kernel
theorem dX0_nextBidder_10 : decode cX0_nextBidder 10 = .ok (.aload_n 0, 1) := by decide +kernel
theorem dX0_nextBidder_11 : decode cX0_nextBidder 11 = .ok (.getfield 21, 3) := by decide +kernel
theorem dX0_nextBidder_14 : decode cX0_nextBidder 14 = .ok (.iload_n 1, 1) := by decide +kernel
theorem dX0_nextBidder_15 : decode cX0_nextBidder 15 = .ok (.iaload, 1) := by decide +kernel
theorem dX0_nextBidder_16 : decode cX0_nextBidder 16 = .ok (.istore_n 2, 1) := by decide +kernel
theorem dX0_nextBidder_17 : decode cX0_nextBidder 17 = .ok (.iload_n 2, 1) := by decide +kernel
theorem dX0_nextBidder_18 : decode cX0_nextBidder 18 = .ok (.aload_n 0, 1) := by decide +kernel
theorem dX0_nextBidder_19 : decode cX0_nextBidder 19 = .ok (.getfield 71, 3) := by decide +kernel
theorem dX0_nextBidder_22 : decode cX0_nextBidder 22 = .ok (.if_icmp .eq 32, 3) := by decide +kernel
theorem dX0_nextBidder_25 : decode cX0_nextBidder 25 = .ok (.aload_n 0, 1) := by decide +kernel
theorem dX0_nextBidder_26 : decode cX0_nextBidder 26 = .ok (.getfield 68, 3) := by decide +kernel
theorem dX0_nextBidder_29 : decode cX0_nextBidder 29 = .ok (.aload_n 0, 1) := by decide +kernel
theorem dX0_nextBidder_30 : decode cX0_nextBidder 30 = .ok (.iload_n 2, 1) := by decide +kernel
theorem dX0_nextBidder_31 : decode cX0_nextBidder 31 = .ok (.invokevirtual 106, 3) := by decide +kernel
theorem dX0_nextBidder_34 : decode cX0_nextBidder 34 = .ok (.iadd, 1) := by decide +kernel
theorem dX0_nextBidder_35 : decode cX0_nextBidder 35 = .ok (.aload_n 0, 1) := by decide +kernel
theorem dX0_nextBidder_36 : decode cX0_nextBidder 36 = .ok (.getfield 18, 3) := by decide +kernel
theorem dX0_nextBidder_39 : decode cX0_nextBidder 39 = .ok (.iload_n 2, 1) := by decide +kernel
theorem dX0_nextBidder_40 : decode cX0_nextBidder 40 = .ok (.iaload, 1) := by decide +kernel
theorem dX0_nextBidder_41 : decode cX0_nextBidder 41 = .ok (.if_icmp .gt 13, 3) := by decide +kernel
theorem dX0_nextBidder_44 : decode cX0_nextBidder 44 = .ok (.aload_n 0, 1) := by decide +kernel
theorem dX0_nextBidder_45 : decode cX0_nextBidder 45 = .ok (.iload_n 2, 1) := by decide +kernel
theorem dX0_nextBidder_46 : decode cX0_nextBidder 46 = .ok (.invokevirtual 110, 3) := by decide +kernel
theorem dX0_nextBidder_49 : decode cX0_nextBidder 49 = .ok (.ifCond .eq 5, 3) := by decide +kernel
theorem dX0_nextBidder_52 : decode cX0_nextBidder 52 = .ok (.iload_n 2, 1) := by decide +kernel
theorem dX0_nextBidder_53 : decode cX0_nextBidder 53 = .ok (.ireturn, 1) := by decide +kernel
theorem dX0_nextBidder_54 : decode cX0_nextBidder 54 = .ok (.iinc 1 1, 3) := by decide +kernel
theorem dX0_nextBidder_57 : decode cX0_nextBidder 57 = .ok (.goto (-55), 3) := by decide +kernel
theorem dX0_nextBidder_60 : decode cX0_nextBidder 60 = .ok (.bipush (-9), 2) := by decide +kernel
theorem dX0_nextBidder_62 : decode cX0_nextBidder 62 = .ok (.ireturn, 1) := by decide +kernel
theorem dX0_riseBy_0 : decode cX0_riseBy 0 = .ok (.aload_n 0, 1) := by decide +kernel
theorem dX0_riseBy_1 : decode cX0_riseBy 1 = .ok (.getfield 81, 3) := by decide +kernel
theorem dX0_riseBy_4 : decode cX0_riseBy 4 = .ok (.aload_n 0, 1) := by decide +kernel
theorem dX0_riseBy_5 : decode cX0_riseBy 5 = .ok (.getfield 9, 3) := by decide +kernel
theorem dX0_riseBy_8 : decode cX0_riseBy 8 = .ok (.iload_n 1, 1) := by decide +kernel
theorem dX0_riseBy_9 : decode cX0_riseBy 9 = .ok (.iaload, 1) := by decide +kernel
theorem dX0_riseBy_10 : decode cX0_riseBy 10 = .ok (.invokestatic 41, 3) := by decide +kernel
theorem dX0_riseBy_13 : decode cX0_riseBy 13 = .ok (.ifCond .eq 7, 3) := by decide +kernel
theorem dX0_riseBy_16 : decode cX0_riseBy 16 = .ok (.iconst 2, 1) := by decide +kernel
theorem dX0_riseBy_17 : decode cX0_riseBy 17 = .ok (.goto 4, 3) := by decide +kernel
theorem dX0_riseBy_20 : decode cX0_riseBy 20 = .ok (.iconst 1, 1) := by decide +kernel
theorem dX0_riseBy_21 : decode cX0_riseBy 21 = .ok (.ireturn, 1) := by decide +kernel
theorem dX0_isSeen_0 : decode cX0_isSeen 0 = .ok (.aload_n 0, 1) := by decide +kernel
theorem dX0_isSeen_1 : decode cX0_isSeen 1 = .ok (.getfield 9, 3) := by decide +kernel
theorem dX0_isSeen_4 : decode cX0_isSeen 4 = .ok (.iload_n 1, 1) := by decide +kernel
theorem dX0_isSeen_5 : decode cX0_isSeen 5 = .ok (.iaload, 1) := by decide +kernel
theorem dX0_isSeen_6 : decode cX0_isSeen 6 = .ok (.aload_n 0, 1) := by decide +kernel
theorem dX0_isSeen_7 : decode cX0_isSeen 7 = .ok (.getfield 27, 3) := by decide +kernel
theorem dX0_isSeen_10 : decode cX0_isSeen 10 = .ok (.getfield 113, 3) := by decide +kernel
theorem dX0_isSeen_13 : decode cX0_isSeen 13 = .ok (.isub, 1) := by decide +kernel
theorem dX0_isSeen_14 : decode cX0_isSeen 14 = .ok (.istore_n 2, 1) := by decide +kernel
theorem dX0_isSeen_15 : decode cX0_isSeen 15 = .ok (.aload_n 0, 1) := by decide +kernel
theorem dX0_isSeen_16 : decode cX0_isSeen 16 = .ok (.getfield 31, 3) := by decide +kernel
theorem dX0_isSeen_19 : decode cX0_isSeen 19 = .ok (.iload_n 1, 1) := by decide +kernel
theorem dX0_isSeen_20 : decode cX0_isSeen 20 = .ok (.invokestatic 41, 3) := by decide +kernel
theorem dX0_isSeen_23 : decode cX0_isSeen 23 = .ok (.ifCond .eq 18, 3) := by decide +kernel
theorem dX0_isSeen_26 : decode cX0_isSeen 26 = .ok (.iload_n 2, 1) := by decide +kernel
theorem dX0_isSeen_27 : decode cX0_isSeen 27 = .ok (.ifCond .lt 14, 3) := by decide +kernel
theorem dX0_isSeen_30 : decode cX0_isSeen 30 = .ok (.aload_n 0, 1) := by decide +kernel
theorem dX0_isSeen_31 : decode cX0_isSeen 31 = .ok (.getfield 103, 3) := by decide +kernel
theorem dX0_isSeen_34 : decode cX0_isSeen 34 = .ok (.iload_n 2, 1) := by decide +kernel
theorem dX0_isSeen_35 : decode cX0_isSeen 35 = .ok (.invokestatic 41, 3) := by decide +kernel
theorem dX0_isSeen_38 : decode cX0_isSeen 38 = .ok (.ifCond .ne 7, 3) := by decide +kernel
theorem dX0_isSeen_41 : decode cX0_isSeen 41 = .ok (.iconst 1, 1) := by decide +kernel
theorem dX0_isSeen_42 : decode cX0_isSeen 42 = .ok (.goto 4, 3) := by decide +kernel
theorem dX0_isSeen_45 : decode cX0_isSeen 45 = .ok (.iconst 0, 1) := by decide +kernel
theorem dX0_isSeen_46 : decode cX0_isSeen 46 = .ok (.ireturn, 1) := by decide +kernel
theorem dX0_takeBidOf_0 : decode cX0_takeBidOf 0 = .ok (.aload_n 0, 1) := by decide +kernel
theorem dX0_takeBidOf_1 : decode cX0_takeBidOf 1 = .ok (.dup, 1) := by decide +kernel
theorem dX0_takeBidOf_2 : decode cX0_takeBidOf 2 = .ok (.getfield 68, 3) := by decide +kernel
theorem dX0_takeBidOf_5 : decode cX0_takeBidOf 5 = .ok (.aload_n 0, 1) := by decide +kernel
theorem dX0_takeBidOf_6 : decode cX0_takeBidOf 6 = .ok (.iload_n 1, 1) := by decide +kernel
theorem dX0_takeBidOf_7 : decode cX0_takeBidOf 7 = .ok (.invokevirtual 106, 3) := by decide +kernel
theorem dX0_takeBidOf_10 : decode cX0_takeBidOf 10 = .ok (.iadd, 1) := by decide +kernel
theorem dX0_takeBidOf_11 : decode cX0_takeBidOf 11 = .ok (.putfield 68, 3) := by decide +kernel
theorem dX0_takeBidOf_14 : decode cX0_takeBidOf 14 = .ok (.aload_n 0, 1) := by decide +kernel
theorem dX0_takeBidOf_15 : decode cX0_takeBidOf 15 = .ok (.iload_n 1, 1) := by decide +kernel
theorem dX0_takeBidOf_16 : decode cX0_takeBidOf 16 = .ok (.putfield 71, 3) := by decide +kernel
theorem dX0_takeBidOf_19 : decode cX0_takeBidOf 19 = .ok (.aload_n 0, 1) := by decide +kernel
theorem dX0_takeBidOf_20 : decode cX0_takeBidOf 20 = .ok (.getfield 74, 3) := by decide +kernel
theorem dX0_takeBidOf_23 : decode cX0_takeBidOf 23 = .ok (.bipush 99, 2) := by decide +kernel
theorem dX0_takeBidOf_25 : decode cX0_takeBidOf 25 = .ok (.if_icmp .ge 31, 3) := by decide +kernel
theorem dX0_takeBidOf_28 : decode cX0_takeBidOf 28 = .ok (.aload_n 0, 1) := by decide +kernel
theorem dX0_takeBidOf_29 : decode cX0_takeBidOf 29 = .ok (.getfield 24, 3) := by decide +kernel
theorem dX0_takeBidOf_32 : decode cX0_takeBidOf 32 = .ok (.aload_n 0, 1) := by decide +kernel
theorem dX0_takeBidOf_33 : decode cX0_takeBidOf 33 = .ok (.getfield 74, 3) := by decide +kernel
theorem dX0_takeBidOf_36 : decode cX0_takeBidOf 36 = .ok (.bipush 100, 2) := by decide +kernel
theorem dX0_takeBidOf_38 : decode cX0_takeBidOf 38 = .ok (.aload_n 0, 1) := by decide +kernel
theorem dX0_takeBidOf_39 : decode cX0_takeBidOf 39 = .ok (.getfield 68, 3) := by decide +kernel
theorem dX0_takeBidOf_42 : decode cX0_takeBidOf 42 = .ok (.imul, 1) := by decide +kernel
theorem dX0_takeBidOf_43 : decode cX0_takeBidOf 43 = .ok (.iload_n 1, 1) := by decide +kernel
theorem dX0_takeBidOf_44 : decode cX0_takeBidOf 44 = .ok (.iadd, 1) := by decide +kernel
theorem dX0_takeBidOf_45 : decode cX0_takeBidOf 45 = .ok (.iastore, 1) := by decide +kernel
theorem dX0_takeBidOf_46 : decode cX0_takeBidOf 46 = .ok (.aload_n 0, 1) := by decide +kernel
theorem dX0_takeBidOf_47 : decode cX0_takeBidOf 47 = .ok (.dup, 1) := by decide +kernel
theorem dX0_takeBidOf_48 : decode cX0_takeBidOf 48 = .ok (.getfield 74, 3) := by decide +kernel
theorem dX0_takeBidOf_51 : decode cX0_takeBidOf 51 = .ok (.iconst 1, 1) := by decide +kernel
theorem dX0_takeBidOf_52 : decode cX0_takeBidOf 52 = .ok (.iadd, 1) := by decide +kernel
theorem dX0_takeBidOf_53 : decode cX0_takeBidOf 53 = .ok (.putfield 74, 3) := by decide +kernel
theorem dX0_takeBidOf_56 : decode cX0_takeBidOf 56 = .ok (.aload_n 0, 1) := by decide +kernel
theorem dX0_takeBidOf_57 : decode cX0_takeBidOf 57 = .ok (.getfield 9, 3) := by decide +kernel
theorem dX0_takeBidOf_60 : decode cX0_takeBidOf 60 = .ok (.iload_n 1, 1) := by decide +kernel
theorem dX0_takeBidOf_61 : decode cX0_takeBidOf 61 = .ok (.iaload, 1) := by decide +kernel
theorem dX0_takeBidOf_62 : decode cX0_takeBidOf 62 = .ok (.istore_n 2, 1) := by decide +kernel
theorem dX0_takeBidOf_63 : decode cX0_takeBidOf 63 = .ok (.aload_n 0, 1) := by decide +kernel
theorem dX0_takeBidOf_64 : decode cX0_takeBidOf 64 = .ok (.getfield 27, 3) := by decide +kernel
theorem dX0_takeBidOf_67 : decode cX0_takeBidOf 67 = .ok (.getfield 116, 3) := by decide +kernel
theorem dX0_takeBidOf_70 : decode cX0_takeBidOf 70 = .ok (.iload_n 2, 1) := by decide +kernel
theorem dX0_takeBidOf_71 : decode cX0_takeBidOf 71 = .ok (.invokestatic 41, 3) := by decide +kernel
theorem dX0_takeBidOf_74 : decode cX0_takeBidOf 74 = .ok (.ifCond .ne 53, 3) := by decide +kernel
theorem dX0_takeBidOf_77 : decode cX0_takeBidOf 77 = .ok (.aload_n 0, 1) := by decide +kernel
theorem dX0_takeBidOf_78 : decode cX0_takeBidOf 78 = .ok (.getfield 103, 3) := by decide +kernel
theorem dX0_takeBidOf_81 : decode cX0_takeBidOf 81 = .ok (.iload_n 2, 1) := by decide +kernel
theorem dX0_takeBidOf_82 : decode cX0_takeBidOf 82 = .ok (.iconst 1, 1) := by decide +kernel
theorem dX0_takeBidOf_83 : decode cX0_takeBidOf 83 = .ok (.iadd, 1) := by decide +kernel
theorem dX0_takeBidOf_84 : decode cX0_takeBidOf 84 = .ok (.invokestatic 41, 3) := by decide +kernel
theorem dX0_takeBidOf_87 : decode cX0_takeBidOf 87 = .ok (.ifCond .ne 40, 3) := by decide +kernel
theorem dX0_takeBidOf_90 : decode cX0_takeBidOf 90 = .ok (.aload_n 0, 1) := by decide +kernel
theorem dX0_takeBidOf_91 : decode cX0_takeBidOf 91 = .ok (.dup, 1) := by decide +kernel
theorem dX0_takeBidOf_92 : decode cX0_takeBidOf 92 = .ok (.getfield 103, 3) := by decide +kernel
theorem dX0_takeBidOf_95 : decode cX0_takeBidOf 95 = .ok (.iconst 1, 1) := by decide +kernel
theorem dX0_takeBidOf_96 : decode cX0_takeBidOf 96 = .ok (.iload_n 2, 1) := by decide +kernel
theorem dX0_takeBidOf_97 : decode cX0_takeBidOf 97 = .ok (.ishl, 1) := by decide +kernel
theorem dX0_takeBidOf_98 : decode cX0_takeBidOf 98 = .ok (.iconst (-1), 1) := by decide +kernel
theorem dX0_takeBidOf_99 : decode cX0_takeBidOf 99 = .ok (.ixor, 1) := by decide +kernel
theorem dX0_takeBidOf_100 : decode cX0_takeBidOf 100 = .ok (.iand, 1) := by decide +kernel
theorem dX0_takeBidOf_101 : decode cX0_takeBidOf 101 = .ok (.putfield 103, 3) := by decide +kernel
theorem dX0_takeBidOf_104 : decode cX0_takeBidOf 104 = .ok (.aload_n 0, 1) := by decide +kernel
theorem dX0_takeBidOf_105 : decode cX0_takeBidOf 105 = .ok (.dup, 1) := by decide +kernel
theorem dX0_takeBidOf_106 : decode cX0_takeBidOf 106 = .ok (.getfield 103, 3) := by decide +kernel
theorem dX0_takeBidOf_109 : decode cX0_takeBidOf 109 = .ok (.iconst 1, 1) := by decide +kernel
theorem dX0_takeBidOf_110 : decode cX0_takeBidOf 110 = .ok (.iload_n 2, 1) := by decide +kernel
theorem dX0_takeBidOf_111 : decode cX0_takeBidOf 111 = .ok (.iconst 1, 1) := by decide +kernel
theorem dX0_takeBidOf_112 : decode cX0_takeBidOf 112 = .ok (.iadd, 1) := by decide +kernel
theorem dX0_takeBidOf_113 : decode cX0_takeBidOf 113 = .ok (.ishl, 1) := by decide +kernel
theorem dX0_takeBidOf_114 : decode cX0_takeBidOf 114 = .ok (.ior, 1) := by decide +kernel
theorem dX0_takeBidOf_115 : decode cX0_takeBidOf 115 = .ok (.putfield 103, 3) := by decide +kernel
theorem dX0_takeBidOf_118 : decode cX0_takeBidOf 118 = .ok (.aload_n 0, 1) := by decide +kernel
theorem dX0_takeBidOf_119 : decode cX0_takeBidOf 119 = .ok (.getfield 9, 3) := by decide +kernel
theorem dX0_takeBidOf_122 : decode cX0_takeBidOf 122 = .ok (.iload_n 1, 1) := by decide +kernel
theorem dX0_takeBidOf_123 : decode cX0_takeBidOf 123 = .ok (.iload_n 2, 1) := by decide +kernel
theorem dX0_takeBidOf_124 : decode cX0_takeBidOf 124 = .ok (.iconst 1, 1) := by decide +kernel
theorem dX0_takeBidOf_125 : decode cX0_takeBidOf 125 = .ok (.iadd, 1) := by decide +kernel
theorem dX0_takeBidOf_126 : decode cX0_takeBidOf 126 = .ok (.iastore, 1) := by decide +kernel
theorem dX0_takeBidOf_127 : decode cX0_takeBidOf 127 = .ok (.return_, 1) := by decide +kernel
theorem dX1_init_0 : decode cX1_init 0 = .ok (.aload_n 0, 1) := by decide +kernel
theorem dX1_init_1 : decode cX1_init 1 = .ok (.invokespecial 3, 3) := by decide +kernel
theorem dX1_init_4 : decode cX1_init 4 = .ok (.aload_n 0, 1) := by decide +kernel
theorem dX1_init_5 : decode cX1_init 5 = .ok (.iload_n 1, 1) := by decide +kernel
theorem dX1_init_6 : decode cX1_init 6 = .ok (.putfield 9, 3) := by decide +kernel
theorem dX1_init_9 : decode cX1_init 9 = .ok (.aload_n 0, 1) := by decide +kernel
theorem dX1_init_10 : decode cX1_init 10 = .ok (.iload_n 2, 1) := by decide +kernel
theorem dX1_init_11 : decode cX1_init 11 = .ok (.putfield 15, 3) := by decide +kernel
theorem dX1_init_14 : decode cX1_init 14 = .ok (.aload_n 0, 1) := by decide +kernel
theorem dX1_init_15 : decode cX1_init 15 = .ok (.iconst 4, 1) := by decide +kernel
theorem dX1_init_16 : decode cX1_init 16 = .ok (.newarray .int, 2) := by decide +kernel
theorem dX1_init_18 : decode cX1_init 18 = .ok (.putfield 18, 3) := by decide +kernel
theorem dX1_init_21 : decode cX1_init 21 = .ok (.aload_n 0, 1) := by decide +kernel
theorem dX1_init_22 : decode cX1_init 22 = .ok (.iload_n 1, 1) := by decide +kernel
theorem dX1_init_23 : decode cX1_init 23 = .ok (.putfield 22, 3) := by decide +kernel
theorem dX1_init_26 : decode cX1_init 26 = .ok (.return_, 1) := by decide +kernel
theorem dX1_kind_0 : decode cX1_kind 0 = .ok (.iconst 0, 1) := by decide +kernel
theorem dX1_kind_1 : decode cX1_kind 1 = .ok (.ireturn, 1) := by decide +kernel
theorem dX1_wearsHat_0 : decode cX1_wearsHat 0 = .ok (.iconst 0, 1) := by decide +kernel
theorem dX1_wearsHat_1 : decode cX1_wearsHat 1 = .ok (.ireturn, 1) := by decide +kernel
theorem dX1_limitBy_0 : decode cX1_limitBy 0 = .ok (.iload_n 1, 1) := by decide +kernel
theorem dX1_limitBy_1 : decode cX1_limitBy 1 = .ok (.iload_n 2, 1) := by decide +kernel
theorem dX1_limitBy_2 : decode cX1_limitBy 2 = .ok (.invokestatic 25, 3) := by decide +kernel
theorem dX1_limitBy_5 : decode cX1_limitBy 5 = .ok (.ireturn, 1) := by decide +kernel
theorem dX1_telling_0 : decode cX1_telling 0 = .ok (.aload_n 0, 1) := by decide +kernel
theorem dX1_telling_1 : decode cX1_telling 1 = .ok (.aload_n 1, 1) := by decide +kernel
theorem dX1_telling_2 : decode cX1_telling 2 = .ok (.invokevirtual 31, 3) := by decide +kernel
theorem dX1_telling_5 : decode cX1_telling 5 = .ok (.ireturn, 1) := by decide +kernel
theorem dX1_plainTelling_0 : decode cX1_plainTelling 0 = .ok (.aload_n 1, 1) := by decide +kernel
theorem dX1_plainTelling_1 : decode cX1_plainTelling 1 = .ok (.iconst 1, 1) := by decide +kernel
theorem dX1_plainTelling_2 : decode cX1_plainTelling 2 = .ok (.invokevirtual 35, 3) := by decide +kernel
theorem dX1_plainTelling_5 : decode cX1_plainTelling 5 = .ok (.aload_n 0, 1) := by decide +kernel
theorem dX1_plainTelling_6 : decode cX1_plainTelling 6 = .ok (.getfield 15, 3) := by decide +kernel
theorem dX1_plainTelling_9 : decode cX1_plainTelling 9 = .ok (.ireturn, 1) := by decide +kernel
theorem dX1_nodding_0 : decode cX1_nodding 0 = .ok (.aload_n 1, 1) := by decide +kernel
theorem dX1_nodding_1 : decode cX1_nodding 1 = .ok (.iconst 4, 1) := by decide +kernel
theorem dX1_nodding_2 : decode cX1_nodding 2 = .ok (.invokevirtual 35, 3) := by decide +kernel
theorem dX1_nodding_5 : decode cX1_nodding 5 = .ok (.aload_n 0, 1) := by decide +kernel
theorem dX1_nodding_6 : decode cX1_nodding 6 = .ok (.getfield 9, 3) := by decide +kernel
theorem dX1_nodding_9 : decode cX1_nodding 9 = .ok (.ireturn, 1) := by decide +kernel
theorem dX2_init_0 : decode cX2_init 0 = .ok (.aload_n 0, 1) := by decide +kernel
theorem dX2_init_1 : decode cX2_init 1 = .ok (.invokespecial 3, 3) := by decide +kernel
theorem dX2_init_4 : decode cX2_init 4 = .ok (.aload_n 0, 1) := by decide +kernel
theorem dX2_init_5 : decode cX2_init 5 = .ok (.bipush 6, 2) := by decide +kernel
theorem dX2_init_7 : decode cX2_init 7 = .ok (.newarray .int, 2) := by decide +kernel
theorem dX2_init_9 : decode cX2_init 9 = .ok (.putfield 9, 3) := by decide +kernel
theorem dX2_init_12 : decode cX2_init 12 = .ok (.aload_n 0, 1) := by decide +kernel
theorem dX2_init_13 : decode cX2_init 13 = .ok (.bipush 6, 2) := by decide +kernel
theorem dX2_init_15 : decode cX2_init 15 = .ok (.newarray .int, 2) := by decide +kernel
theorem dX2_init_17 : decode cX2_init 17 = .ok (.putfield 15, 3) := by decide +kernel
theorem dX2_init_20 : decode cX2_init 20 = .ok (.return_, 1) := by decide +kernel
theorem dX2_write_0 : decode cX2_write 0 = .ok (.aload_n 0, 1) := by decide +kernel
theorem dX2_write_1 : decode cX2_write 1 = .ok (.getfield 18, 3) := by decide +kernel
theorem dX2_write_4 : decode cX2_write 4 = .ok (.bipush 6, 2) := by decide +kernel
theorem dX2_write_6 : decode cX2_write 6 = .ok (.if_icmp .ge 33, 3) := by decide +kernel
theorem dX2_write_9 : decode cX2_write 9 = .ok (.aload_n 0, 1) := by decide +kernel
theorem dX2_write_10 : decode cX2_write 10 = .ok (.getfield 9, 3) := by decide +kernel
theorem dX2_write_13 : decode cX2_write 13 = .ok (.aload_n 0, 1) := by decide +kernel
theorem dX2_write_14 : decode cX2_write 14 = .ok (.getfield 18, 3) := by decide +kernel
theorem dX2_write_17 : decode cX2_write 17 = .ok (.iload_n 1, 1) := by decide +kernel
theorem dX2_write_18 : decode cX2_write 18 = .ok (.iastore, 1) := by decide +kernel
theorem dX2_write_19 : decode cX2_write 19 = .ok (.aload_n 0, 1) := by decide +kernel
theorem dX2_write_20 : decode cX2_write 20 = .ok (.getfield 15, 3) := by decide +kernel
theorem dX2_write_23 : decode cX2_write 23 = .ok (.aload_n 0, 1) := by decide +kernel
theorem dX2_write_24 : decode cX2_write 24 = .ok (.getfield 18, 3) := by decide +kernel
theorem dX2_write_27 : decode cX2_write 27 = .ok (.iload_n 2, 1) := by decide +kernel
theorem dX2_write_28 : decode cX2_write 28 = .ok (.iastore, 1) := by decide +kernel
theorem dX2_write_29 : decode cX2_write 29 = .ok (.aload_n 0, 1) := by decide +kernel
theorem dX2_write_30 : decode cX2_write 30 = .ok (.dup, 1) := by decide +kernel
theorem dX2_write_31 : decode cX2_write 31 = .ok (.getfield 18, 3) := by decide +kernel
theorem dX2_write_34 : decode cX2_write 34 = .ok (.iconst 1, 1) := by decide +kernel
theorem dX2_write_35 : decode cX2_write 35 = .ok (.iadd, 1) := by decide +kernel
theorem dX2_write_36 : decode cX2_write 36 = .ok (.putfield 18, 3) := by decide +kernel
theorem dX2_write_39 : decode cX2_write 39 = .ok (.return_, 1) := by decide +kernel
theorem dX2_keepOnly_0 : decode cX2_keepOnly 0 = .ok (.aload_n 0, 1) := by decide +kernel
theorem dX2_keepOnly_1 : decode cX2_keepOnly 1 = .ok (.iload_n 1, 1) := by decide +kernel
theorem dX2_keepOnly_2 : decode cX2_keepOnly 2 = .ok (.putfield 18, 3) := by decide +kernel
theorem dX2_keepOnly_5 : decode cX2_keepOnly 5 = .ok (.return_, 1) := by decide +kernel
theorem dX2_hasOf_0 : decode cX2_hasOf 0 = .ok (.iconst 0, 1) := by decide +kernel
theorem dX2_hasOf_1 : decode cX2_hasOf 1 = .ok (.istore_n 2, 1) := by decide +kernel
theorem dX2_hasOf_2 : decode cX2_hasOf 2 = .ok (.iload_n 2, 1) := by decide +kernel
theorem dX2_hasOf_3 : decode cX2_hasOf 3 = .ok (.aload_n 0, 1) := by decide +kernel
theorem dX2_hasOf_4 : decode cX2_hasOf 4 = .ok (.getfield 18, 3) := by decide +kernel
theorem dX2_hasOf_7 : decode cX2_hasOf 7 = .ok (.if_icmp .ge 27, 3) := by decide +kernel
theorem dX2_hasOf_10 : decode cX2_hasOf 10 = .ok (.iload_n 2, 1) := by decide +kernel
theorem dX2_hasOf_11 : decode cX2_hasOf 11 = .ok (.bipush 6, 2) := by decide +kernel
theorem dX2_hasOf_13 : decode cX2_hasOf 13 = .ok (.if_icmp .ge 21, 3) := by decide +kernel
theorem dX2_hasOf_16 : decode cX2_hasOf 16 = .ok (.aload_n 0, 1) := by decide +kernel
theorem dX2_hasOf_17 : decode cX2_hasOf 17 = .ok (.getfield 9, 3) := by decide +kernel
theorem dX2_hasOf_20 : decode cX2_hasOf 20 = .ok (.iload_n 2, 1) := by decide +kernel
theorem dX2_hasOf_21 : decode cX2_hasOf 21 = .ok (.iaload, 1) := by decide +kernel
theorem dX2_hasOf_22 : decode cX2_hasOf 22 = .ok (.iload_n 1, 1) := by decide +kernel
theorem dX2_hasOf_23 : decode cX2_hasOf 23 = .ok (.if_icmp .ne 5, 3) := by decide +kernel
theorem dX2_hasOf_26 : decode cX2_hasOf 26 = .ok (.iconst 1, 1) := by decide +kernel
theorem dX2_hasOf_27 : decode cX2_hasOf 27 = .ok (.ireturn, 1) := by decide +kernel
theorem dX2_hasOf_28 : decode cX2_hasOf 28 = .ok (.iinc 2 1, 3) := by decide +kernel
theorem dX2_hasOf_31 : decode cX2_hasOf 31 = .ok (.goto (-29), 3) := by decide +kernel
theorem dX2_hasOf_34 : decode cX2_hasOf 34 = .ok (.iconst 0, 1) := by decide +kernel
theorem dX2_hasOf_35 : decode cX2_hasOf 35 = .ok (.ireturn, 1) := by decide +kernel
theorem dX2_agrees_0 : decode cX2_agrees 0 = .ok (.iconst 0, 1) := by decide +kernel
theorem dX2_agrees_1 : decode cX2_agrees 1 = .ok (.istore_n 3, 1) := by decide +kernel
theorem dX2_agrees_2 : decode cX2_agrees 2 = .ok (.iload_n 3, 1) := by decide +kernel
theorem dX2_agrees_3 : decode cX2_agrees 3 = .ok (.aload_n 0, 1) := by decide +kernel
theorem dX2_agrees_4 : decode cX2_agrees 4 = .ok (.getfield 18, 3) := by decide +kernel
theorem dX2_agrees_7 : decode cX2_agrees 7 = .ok (.if_icmp .ge 37, 3) := by decide +kernel
theorem dX2_agrees_10 : decode cX2_agrees 10 = .ok (.iload_n 3, 1) := by decide +kernel
theorem dX2_agrees_11 : decode cX2_agrees 11 = .ok (.bipush 6, 2) := by decide +kernel
theorem dX2_agrees_13 : decode cX2_agrees 13 = .ok (.if_icmp .ge 31, 3) := by decide +kernel
theorem dX2_agrees_16 : decode cX2_agrees 16 = .ok (.aload_n 0, 1) := by decide +kernel
theorem dX2_agrees_17 : decode cX2_agrees 17 = .ok (.getfield 9, 3) := by decide +kernel
theorem dX2_agrees_20 : decode cX2_agrees 20 = .ok (.iload_n 3, 1) := by decide +kernel
theorem dX2_agrees_21 : decode cX2_agrees 21 = .ok (.iaload, 1) := by decide +kernel
theorem dX2_agrees_22 : decode cX2_agrees 22 = .ok (.iload_n 1, 1) := by decide +kernel
theorem dX2_agrees_23 : decode cX2_agrees 23 = .ok (.if_icmp .ne 15, 3) := by decide +kernel
theorem dX2_agrees_26 : decode cX2_agrees 26 = .ok (.aload_n 0, 1) := by decide +kernel
theorem dX2_agrees_27 : decode cX2_agrees 27 = .ok (.getfield 15, 3) := by decide +kernel
theorem dX2_agrees_30 : decode cX2_agrees 30 = .ok (.iload_n 3, 1) := by decide +kernel
theorem dX2_agrees_31 : decode cX2_agrees 31 = .ok (.iaload, 1) := by decide +kernel
theorem dX2_agrees_32 : decode cX2_agrees 32 = .ok (.iload_n 2, 1) := by decide +kernel
theorem dX2_agrees_33 : decode cX2_agrees 33 = .ok (.if_icmp .eq 5, 3) := by decide +kernel
theorem dX2_agrees_36 : decode cX2_agrees 36 = .ok (.iconst 0, 1) := by decide +kernel
theorem dX2_agrees_37 : decode cX2_agrees 37 = .ok (.ireturn, 1) := by decide +kernel
theorem dX2_agrees_38 : decode cX2_agrees 38 = .ok (.iinc 3 1, 3) := by decide +kernel
theorem dX2_agrees_41 : decode cX2_agrees 41 = .ok (.goto (-39), 3) := by decide +kernel
theorem dX2_agrees_44 : decode cX2_agrees 44 = .ok (.iconst 1, 1) := by decide +kernel
theorem dX2_agrees_45 : decode cX2_agrees 45 = .ok (.ireturn, 1) := by decide +kernel
theorem dX3_init_0 : decode cX3_init 0 = .ok (.aload_n 0, 1) := by decide +kernel
theorem dX3_init_1 : decode cX3_init 1 = .ok (.iload_n 1, 1) := by decide +kernel
theorem dX3_init_2 : decode cX3_init 2 = .ok (.iload_n 2, 1) := by decide +kernel
theorem dX3_init_3 : decode cX3_init 3 = .ok (.invokespecial 1, 3) := by decide +kernel
theorem dX3_init_6 : decode cX3_init 6 = .ok (.return_, 1) := by decide +kernel
theorem dX3_kind_0 : decode cX3_kind 0 = .ok (.iconst 1, 1) := by decide +kernel
theorem dX3_kind_1 : decode cX3_kind 1 = .ok (.ireturn, 1) := by decide +kernel
theorem dX3_wearsHat_0 : decode cX3_wearsHat 0 = .ok (.iconst 1, 1) := by decide +kernel
theorem dX3_wearsHat_1 : decode cX3_wearsHat 1 = .ok (.ireturn, 1) := by decide +kernel
theorem dX3_telling_0 : decode cX3_telling 0 = .ok (.aload_n 1, 1) := by decide +kernel
theorem dX3_telling_1 : decode cX3_telling 1 = .ok (.iconst 2, 1) := by decide +kernel
theorem dX3_telling_2 : decode cX3_telling 2 = .ok (.invokevirtual 7, 3) := by decide +kernel
theorem dX3_telling_5 : decode cX3_telling 5 = .ok (.aload_n 0, 1) := by decide +kernel
theorem dX3_telling_6 : decode cX3_telling 6 = .ok (.aload_n 1, 1) := by decide +kernel
theorem dX3_telling_7 : decode cX3_telling 7 = .ok (.invokevirtual 13, 3) := by decide +kernel
theorem dX3_telling_10 : decode cX3_telling 10 = .ok (.bipush 100, 2) := by decide +kernel
theorem dX3_telling_12 : decode cX3_telling 12 = .ok (.iadd, 1) := by decide +kernel
theorem dX3_telling_13 : decode cX3_telling 13 = .ok (.ireturn, 1) := by decide +kernel
theorem dX4_init_0 : decode cX4_init 0 = .ok (.aload_n 0, 1) := by decide +kernel
theorem dX4_init_1 : decode cX4_init 1 = .ok (.iload_n 1, 1) := by decide +kernel
theorem dX4_init_2 : decode cX4_init 2 = .ok (.iload_n 2, 1) := by decide +kernel
theorem dX4_init_3 : decode cX4_init 3 = .ok (.invokespecial 1, 3) := by decide +kernel
theorem dX4_init_6 : decode cX4_init 6 = .ok (.return_, 1) := by decide +kernel
theorem dX4_kind_0 : decode cX4_kind 0 = .ok (.iconst 2, 1) := by decide +kernel
theorem dX4_kind_1 : decode cX4_kind 1 = .ok (.ireturn, 1) := by decide +kernel
theorem dX4_limitBy_0 : decode cX4_limitBy 0 = .ok (.iconst 0, 1) := by decide +kernel
theorem dX4_limitBy_1 : decode cX4_limitBy 1 = .ok (.iload_n 1, 1) := by decide +kernel
theorem dX4_limitBy_2 : decode cX4_limitBy 2 = .ok (.iload_n 2, 1) := by decide +kernel
theorem dX4_limitBy_3 : decode cX4_limitBy 3 = .ok (.invokestatic 7, 3) := by decide +kernel
theorem dX4_limitBy_6 : decode cX4_limitBy 6 = .ok (.iconst 2, 1) := by decide +kernel
theorem dX4_limitBy_7 : decode cX4_limitBy 7 = .ok (.isub, 1) := by decide +kernel
theorem dX4_limitBy_8 : decode cX4_limitBy 8 = .ok (.invokestatic 13, 3) := by decide +kernel
theorem dX4_limitBy_11 : decode cX4_limitBy 11 = .ok (.ireturn, 1) := by decide +kernel
theorem dX4_telling_0 : decode cX4_telling 0 = .ok (.aload_n 1, 1) := by decide +kernel
theorem dX4_telling_1 : decode cX4_telling 1 = .ok (.iconst 3, 1) := by decide +kernel
theorem dX4_telling_2 : decode cX4_telling 2 = .ok (.invokevirtual 16, 3) := by decide +kernel
theorem dX4_telling_5 : decode cX4_telling 5 = .ok (.aload_n 0, 1) := by decide +kernel
theorem dX4_telling_6 : decode cX4_telling 6 = .ok (.aload_n 1, 1) := by decide +kernel
theorem dX4_telling_7 : decode cX4_telling 7 = .ok (.invokespecial 22, 3) := by decide +kernel
theorem dX4_telling_10 : decode cX4_telling 10 = .ok (.istore_n 2, 1) := by decide +kernel
theorem dX4_telling_11 : decode cX4_telling 11 = .ok (.iload_n 2, 1) := by decide +kernel
theorem dX4_telling_12 : decode cX4_telling 12 = .ok (.aload_n 0, 1) := by decide +kernel
theorem dX4_telling_13 : decode cX4_telling 13 = .ok (.aload_n 1, 1) := by decide +kernel
theorem dX4_telling_14 : decode cX4_telling 14 = .ok (.invokevirtual 26, 3) := by decide +kernel
theorem dX4_telling_17 : decode cX4_telling 17 = .ok (.iadd, 1) := by decide +kernel
theorem dX4_telling_18 : decode cX4_telling 18 = .ok (.ireturn, 1) := by decide +kernel
theorem dX4_nodding_0 : decode cX4_nodding 0 = .ok (.aload_n 1, 1) := by decide +kernel
theorem dX4_nodding_1 : decode cX4_nodding 1 = .ok (.iconst 5, 1) := by decide +kernel
theorem dX4_nodding_2 : decode cX4_nodding 2 = .ok (.invokevirtual 16, 3) := by decide +kernel
theorem dX4_nodding_5 : decode cX4_nodding 5 = .ok (.bipush 80, 2) := by decide +kernel
theorem dX4_nodding_7 : decode cX4_nodding 7 = .ok (.ireturn, 1) := by decide +kernel
theorem dX5_init_0 : decode cX5_init 0 = .ok (.aload_n 0, 1) := by decide +kernel
theorem dX5_init_1 : decode cX5_init 1 = .ok (.invokespecial 3, 3) := by decide +kernel
theorem dX5_init_4 : decode cX5_init 4 = .ok (.aload_n 0, 1) := by decide +kernel
theorem dX5_init_5 : decode cX5_init 5 = .ok (.bipush 6, 2) := by decide +kernel
theorem dX5_init_7 : decode cX5_init 7 = .ok (.anewarray 9, 3) := by decide +kernel
theorem dX5_init_10 : decode cX5_init 10 = .ok (.putfield 11, 3) := by decide +kernel
theorem dX5_init_13 : decode cX5_init 13 = .ok (.return_, 1) := by decide +kernel
theorem dX5_lay_0 : decode cX5_lay 0 = .ok (.aload_n 0, 1) := by decide +kernel
theorem dX5_lay_1 : decode cX5_lay 1 = .ok (.iconst 0, 1) := by decide +kernel
theorem dX5_lay_2 : decode cX5_lay 2 = .ok (.putfield 17, 3) := by decide +kernel
theorem dX5_lay_5 : decode cX5_lay 5 = .ok (.aload_n 0, 1) := by decide +kernel
theorem dX5_lay_6 : decode cX5_lay 6 = .ok (.iconst 0, 1) := by decide +kernel
theorem dX5_lay_7 : decode cX5_lay 7 = .ok (.putfield 21, 3) := by decide +kernel
theorem dX5_lay_10 : decode cX5_lay 10 = .ok (.aload_n 0, 1) := by decide +kernel
theorem dX5_lay_11 : decode cX5_lay 11 = .ok (.iload_n 2, 1) := by decide +kernel
theorem dX5_lay_12 : decode cX5_lay 12 = .ok (.putfield 24, 3) := by decide +kernel
theorem dX5_lay_15 : decode cX5_lay 15 = .ok (.aload_n 0, 1) := by decide +kernel
theorem dX5_lay_16 : decode cX5_lay 16 = .ok (.iconst 0, 1) := by decide +kernel
theorem dX5_lay_17 : decode cX5_lay 17 = .ok (.putfield 27, 3) := by decide +kernel
theorem dX5_lay_20 : decode cX5_lay 20 = .ok (.aload_n 0, 1) := by decide +kernel
theorem dX5_lay_21 : decode cX5_lay 21 = .ok (.iconst 0, 1) := by decide +kernel
theorem dX5_lay_22 : decode cX5_lay 22 = .ok (.putfield 30, 3) := by decide +kernel
theorem dX5_lay_25 : decode cX5_lay 25 = .ok (.aload_n 0, 1) := by decide +kernel
theorem dX5_lay_26 : decode cX5_lay 26 = .ok (.iconst 0, 1) := by decide +kernel
theorem dX5_lay_27 : decode cX5_lay 27 = .ok (.putfield 33, 3) := by decide +kernel
theorem dX5_lay_30 : decode cX5_lay 30 = .ok (.iconst 0, 1) := by decide +kernel
theorem dX5_lay_31 : decode cX5_lay 31 = .ok (.istore_n 3, 1) := by decide +kernel
theorem dX5_lay_32 : decode cX5_lay 32 = .ok (.iload_n 3, 1) := by decide +kernel
theorem dX5_lay_33 : decode cX5_lay 33 = .ok (.iload_n 1, 1) := by decide +kernel
theorem dX5_lay_34 : decode cX5_lay 34 = .ok (.if_icmp .ge 88, 3) := by decide +kernel
theorem dX5_lay_37 : decode cX5_lay 37 = .ok (.iconst 0, 1) := by decide +kernel
theorem dX5_lay_38 : decode cX5_lay 38 = .ok (.istore 4, 2) := by decide +kernel
theorem dX5_lay_40 : decode cX5_lay 40 = .ok (.iload 4, 2) := by decide +kernel
theorem dX5_lay_42 : decode cX5_lay 42 = .ok (.iload_n 2, 1) := by decide +kernel
theorem dX5_lay_43 : decode cX5_lay 43 = .ok (.if_icmp .ge 73, 3) := by decide +kernel
theorem dX5_lay_46 : decode cX5_lay 46 = .ok (.aload_n 0, 1) := by decide +kernel
theorem dX5_lay_47 : decode cX5_lay 47 = .ok (.dup, 1) := by decide +kernel
theorem dX5_lay_48 : decode cX5_lay 48 = .ok (.getfield 30, 3) := by decide +kernel
theorem dX5_lay_51 : decode cX5_lay 51 = .ok (.iload 4, 2) := by decide +kernel
theorem dX5_lay_53 : decode cX5_lay 53 = .ok (.iload_n 2, 1) := by decide +kernel
theorem dX5_lay_54 : decode cX5_lay 54 = .ok (.iconst 2, 1) := by decide +kernel
theorem dX5_lay_55 : decode cX5_lay 55 = .ok (.idiv, 1) := by decide +kernel
theorem dX5_lay_56 : decode cX5_lay 56 = .ok (.if_icmp .ge 12, 3) := by decide +kernel
theorem dX5_lay_59 : decode cX5_lay 59 = .ok (.iconst 1, 1) := by decide +kernel
theorem dX5_lay_60 : decode cX5_lay 60 = .ok (.aload_n 0, 1) := by decide +kernel
theorem dX5_lay_61 : decode cX5_lay 61 = .ok (.getfield 27, 3) := by decide +kernel
theorem dX5_lay_64 : decode cX5_lay 64 = .ok (.ishl, 1) := by decide +kernel
theorem dX5_lay_65 : decode cX5_lay 65 = .ok (.goto 4, 3) := by decide +kernel
theorem dX5_lay_68 : decode cX5_lay 68 = .ok (.iconst 0, 1) := by decide +kernel
theorem dX5_lay_69 : decode cX5_lay 69 = .ok (.ior, 1) := by decide +kernel
theorem dX5_lay_70 : decode cX5_lay 70 = .ok (.putfield 30, 3) := by decide +kernel
theorem dX5_lay_73 : decode cX5_lay 73 = .ok (.aload_n 0, 1) := by decide +kernel
theorem dX5_lay_74 : decode cX5_lay 74 = .ok (.dup, 1) := by decide +kernel
theorem dX5_lay_75 : decode cX5_lay 75 = .ok (.getfield 33, 3) := by decide +kernel
theorem dX5_lay_78 : decode cX5_lay 78 = .ok (.iload 4, 2) := by decide +kernel
theorem dX5_lay_80 : decode cX5_lay 80 = .ok (.iload_n 2, 1) := by decide +kernel
theorem dX5_lay_81 : decode cX5_lay 81 = .ok (.iconst 1, 1) := by decide +kernel
theorem dX5_lay_82 : decode cX5_lay 82 = .ok (.isub, 1) := by decide +kernel
theorem dX5_lay_83 : decode cX5_lay 83 = .ok (.if_icmp .ne 12, 3) := by decide +kernel
theorem dX5_lay_86 : decode cX5_lay 86 = .ok (.iconst 1, 1) := by decide +kernel
theorem dX5_lay_87 : decode cX5_lay 87 = .ok (.aload_n 0, 1) := by decide +kernel
theorem dX5_lay_88 : decode cX5_lay 88 = .ok (.getfield 27, 3) := by decide +kernel
theorem dX5_lay_91 : decode cX5_lay 91 = .ok (.ishl, 1) := by decide +kernel
theorem dX5_lay_92 : decode cX5_lay 92 = .ok (.goto 4, 3) := by decide +kernel
theorem dX5_lay_95 : decode cX5_lay 95 = .ok (.iconst 0, 1) := by decide +kernel
theorem dX5_lay_96 : decode cX5_lay 96 = .ok (.ior, 1) := by decide +kernel
theorem dX5_lay_97 : decode cX5_lay 97 = .ok (.putfield 33, 3) := by decide +kernel
theorem dX5_lay_100 : decode cX5_lay 100 = .ok (.aload_n 0, 1) := by decide +kernel
theorem dX5_lay_101 : decode cX5_lay 101 = .ok (.dup, 1) := by decide +kernel
theorem dX5_lay_102 : decode cX5_lay 102 = .ok (.getfield 27, 3) := by decide +kernel
theorem dX5_lay_105 : decode cX5_lay 105 = .ok (.iconst 1, 1) := by decide +kernel
theorem dX5_lay_106 : decode cX5_lay 106 = .ok (.iadd, 1) := by decide +kernel
theorem dX5_lay_107 : decode cX5_lay 107 = .ok (.putfield 27, 3) := by decide +kernel
theorem dX5_lay_110 : decode cX5_lay 110 = .ok (.iinc 4 1, 3) := by decide +kernel
theorem dX5_lay_113 : decode cX5_lay 113 = .ok (.goto (-73), 3) := by decide +kernel
theorem dX5_lay_116 : decode cX5_lay 116 = .ok (.iinc 3 1, 3) := by decide +kernel
theorem dX5_lay_119 : decode cX5_lay 119 = .ok (.goto (-87), 3) := by decide +kernel
theorem dX5_lay_122 : decode cX5_lay 122 = .ok (.return_, 1) := by decide +kernel
theorem dX5_welcome_0 : decode cX5_welcome 0 = .ok (.aload_n 0, 1) := by decide +kernel
theorem dX5_welcome_1 : decode cX5_welcome 1 = .ok (.getfield 17, 3) := by decide +kernel
theorem dX5_welcome_4 : decode cX5_welcome 4 = .ok (.bipush 6, 2) := by decide +kernel
theorem dX5_welcome_6 : decode cX5_welcome 6 = .ok (.if_icmp .ge 23, 3) := by decide +kernel
theorem dX5_welcome_9 : decode cX5_welcome 9 = .ok (.aload_n 0, 1) := by decide +kernel
theorem dX5_welcome_10 : decode cX5_welcome 10 = .ok (.getfield 11, 3) := by decide +kernel
theorem dX5_welcome_13 : decode cX5_welcome 13 = .ok (.aload_n 0, 1) := by decide +kernel
theorem dX5_welcome_14 : decode cX5_welcome 14 = .ok (.getfield 17, 3) := by decide +kernel
theorem dX5_welcome_17 : decode cX5_welcome 17 = .ok (.aload_n 1, 1) := by decide +kernel
theorem dX5_welcome_18 : decode cX5_welcome 18 = .ok (.aastore, 1) := by decide +kernel
theorem dX5_welcome_19 : decode cX5_welcome 19 = .ok (.aload_n 0, 1) := by decide +kernel
theorem dX5_welcome_20 : decode cX5_welcome 20 = .ok (.dup, 1) := by decide +kernel
theorem dX5_welcome_21 : decode cX5_welcome 21 = .ok (.getfield 17, 3) := by decide +kernel
theorem dX5_welcome_24 : decode cX5_welcome 24 = .ok (.iconst 1, 1) := by decide +kernel
theorem dX5_welcome_25 : decode cX5_welcome 25 = .ok (.iadd, 1) := by decide +kernel
theorem dX5_welcome_26 : decode cX5_welcome 26 = .ok (.putfield 17, 3) := by decide +kernel
theorem dX5_welcome_29 : decode cX5_welcome 29 = .ok (.return_, 1) := by decide +kernel
theorem dX5_isThere_0 : decode cX5_isThere 0 = .ok (.aload_n 0, 1) := by decide +kernel
theorem dX5_isThere_1 : decode cX5_isThere 1 = .ok (.getfield 17, 3) := by decide +kernel
theorem dX5_isThere_4 : decode cX5_isThere 4 = .ok (.ifCond .le 7, 3) := by decide +kernel
theorem dX5_isThere_7 : decode cX5_isThere 7 = .ok (.iconst 1, 1) := by decide +kernel
theorem dX5_isThere_8 : decode cX5_isThere 8 = .ok (.goto 4, 3) := by decide +kernel
theorem dX5_isThere_11 : decode cX5_isThere 11 = .ok (.iconst 0, 1) := by decide +kernel
theorem dX5_isThere_12 : decode cX5_isThere 12 = .ok (.ireturn, 1) := by decide +kernel
theorem dX5_buyerOf_0 : decode cX5_buyerOf 0 = .ok (.iload_n 1, 1) := by decide +kernel
theorem dX5_buyerOf_1 : decode cX5_buyerOf 1 = .ok (.aload_n 0, 1) := by decide +kernel
theorem dX5_buyerOf_2 : decode cX5_buyerOf 2 = .ok (.getfield 17, 3) := by decide +kernel
theorem dX5_buyerOf_5 : decode cX5_buyerOf 5 = .ok (.invokestatic 36, 3) := by decide +kernel
theorem dX5_buyerOf_8 : decode cX5_buyerOf 8 = .ok (.ifCond .eq 18, 3) := by decide +kernel
theorem dX5_buyerOf_11 : decode cX5_buyerOf 11 = .ok (.iload_n 1, 1) := by decide +kernel
theorem dX5_buyerOf_12 : decode cX5_buyerOf 12 = .ok (.bipush 6, 2) := by decide +kernel
theorem dX5_buyerOf_14 : decode cX5_buyerOf 14 = .ok (.if_icmp .ge 12, 3) := by decide +kernel
theorem dX5_buyerOf_17 : decode cX5_buyerOf 17 = .ok (.aload_n 0, 1) := by decide +kernel
theorem dX5_buyerOf_18 : decode cX5_buyerOf 18 = .ok (.getfield 11, 3) := by decide +kernel
theorem dX5_buyerOf_21 : decode cX5_buyerOf 21 = .ok (.iload_n 1, 1) := by decide +kernel
theorem dX5_buyerOf_22 : decode cX5_buyerOf 22 = .ok (.aaload, 1) := by decide +kernel
theorem dX5_buyerOf_23 : decode cX5_buyerOf 23 = .ok (.goto 4, 3) := by decide +kernel
theorem dX5_buyerOf_26 : decode cX5_buyerOf 26 = .ok (.aconst_null, 1) := by decide +kernel
theorem dX5_buyerOf_27 : decode cX5_buyerOf 27 = .ok (.areturn, 1) := by decide +kernel
theorem dX5_setOfAll_0 : decode cX5_setOfAll 0 = .ok (.iconst 1, 1) := by decide +kernel
theorem dX5_setOfAll_1 : decode cX5_setOfAll 1 = .ok (.aload_n 0, 1) := by decide +kernel
theorem dX5_setOfAll_2 : decode cX5_setOfAll 2 = .ok (.getfield 17, 3) := by decide +kernel
theorem dX5_setOfAll_5 : decode cX5_setOfAll 5 = .ok (.ishl, 1) := by decide +kernel
theorem dX5_setOfAll_6 : decode cX5_setOfAll 6 = .ok (.iconst 1, 1) := by decide +kernel
theorem dX5_setOfAll_7 : decode cX5_setOfAll 7 = .ok (.isub, 1) := by decide +kernel
theorem dX5_setOfAll_8 : decode cX5_setOfAll 8 = .ok (.ireturn, 1) := by decide +kernel
theorem dX5_seatsTwice_0 : decode cX5_seatsTwice 0 = .ok (.aload_n 0, 1) := by decide +kernel
theorem dX5_seatsTwice_1 : decode cX5_seatsTwice 1 = .ok (.getfield 21, 3) := by decide +kernel
theorem dX5_seatsTwice_4 : decode cX5_seatsTwice 4 = .ok (.ifCond .ne 8, 3) := by decide +kernel
theorem dX5_seatsTwice_7 : decode cX5_seatsTwice 7 = .ok (.aload_n 0, 1) := by decide +kernel
theorem dX5_seatsTwice_8 : decode cX5_seatsTwice 8 = .ok (.getfield 30, 3) := by decide +kernel
theorem dX5_seatsTwice_11 : decode cX5_seatsTwice 11 = .ok (.ireturn, 1) := by decide +kernel
theorem dX5_seatsTwice_12 : decode cX5_seatsTwice 12 = .ok (.aload_n 0, 1) := by decide +kernel
theorem dX5_seatsTwice_13 : decode cX5_seatsTwice 13 = .ok (.getfield 21, 3) := by decide +kernel
theorem dX5_seatsTwice_16 : decode cX5_seatsTwice 16 = .ok (.iconst 1, 1) := by decide +kernel
theorem dX5_seatsTwice_17 : decode cX5_seatsTwice 17 = .ok (.if_icmp .ne 12, 3) := by decide +kernel
theorem dX5_seatsTwice_20 : decode cX5_seatsTwice 20 = .ok (.aload_n 0, 1) := by decide +kernel
theorem dX5_seatsTwice_21 : decode cX5_seatsTwice 21 = .ok (.getfield 30, 3) := by decide +kernel
theorem dX5_seatsTwice_24 : decode cX5_seatsTwice 24 = .ok (.iconst (-1), 1) := by decide +kernel
theorem dX5_seatsTwice_25 : decode cX5_seatsTwice 25 = .ok (.ixor, 1) := by decide +kernel
theorem dX5_seatsTwice_26 : decode cX5_seatsTwice 26 = .ok (.goto 4, 3) := by decide +kernel
theorem dX5_seatsTwice_29 : decode cX5_seatsTwice 29 = .ok (.iconst 0, 1) := by decide +kernel
theorem dX5_seatsTwice_30 : decode cX5_seatsTwice 30 = .ok (.ireturn, 1) := by decide +kernel
theorem dX5_isFreeFor_0 : decode cX5_isFreeFor 0 = .ok (.iconst 0, 1) := by decide +kernel
theorem dX5_isFreeFor_1 : decode cX5_isFreeFor 1 = .ok (.istore_n 3, 1) := by decide +kernel
theorem dX5_isFreeFor_2 : decode cX5_isFreeFor 2 = .ok (.iload_n 3, 1) := by decide +kernel
theorem dX5_isFreeFor_3 : decode cX5_isFreeFor 3 = .ok (.bipush 6, 2) := by decide +kernel
theorem dX5_isFreeFor_5 : decode cX5_isFreeFor 5 = .ok (.if_icmp .ge 38, 3) := by decide +kernel
theorem dX5_isFreeFor_8 : decode cX5_isFreeFor 8 = .ok (.aload_n 0, 1) := by decide +kernel
theorem dX5_isFreeFor_9 : decode cX5_isFreeFor 9 = .ok (.iload_n 3, 1) := by decide +kernel
theorem dX5_isFreeFor_10 : decode cX5_isFreeFor 10 = .ok (.invokevirtual 40, 3) := by decide +kernel
theorem dX5_isFreeFor_13 : decode cX5_isFreeFor 13 = .ok (.astore 4, 2) := by decide +kernel
theorem dX5_isFreeFor_15 : decode cX5_isFreeFor 15 = .ok (.aload 4, 2) := by decide +kernel
theorem dX5_isFreeFor_17 : decode cX5_isFreeFor 17 = .ok (.ifnull 20, 3) := by decide +kernel
theorem dX5_isFreeFor_20 : decode cX5_isFreeFor 20 = .ok (.aload 4, 2) := by decide +kernel
theorem dX5_isFreeFor_22 : decode cX5_isFreeFor 22 = .ok (.aload_n 1, 1) := by decide +kernel
theorem dX5_isFreeFor_23 : decode cX5_isFreeFor 23 = .ok (.if_acmp .eq 14, 3) := by decide +kernel
theorem dX5_isFreeFor_26 : decode cX5_isFreeFor 26 = .ok (.aload 4, 2) := by decide +kernel
theorem dX5_isFreeFor_28 : decode cX5_isFreeFor 28 = .ok (.getfield 44, 3) := by decide +kernel
theorem dX5_isFreeFor_31 : decode cX5_isFreeFor 31 = .ok (.iload_n 2, 1) := by decide +kernel
theorem dX5_isFreeFor_32 : decode cX5_isFreeFor 32 = .ok (.if_icmp .ne 5, 3) := by decide +kernel
theorem dX5_isFreeFor_35 : decode cX5_isFreeFor 35 = .ok (.iconst 0, 1) := by decide +kernel
theorem dX5_isFreeFor_36 : decode cX5_isFreeFor 36 = .ok (.ireturn, 1) := by decide +kernel
theorem dX5_isFreeFor_37 : decode cX5_isFreeFor 37 = .ok (.iinc 3 1, 3) := by decide +kernel
theorem dX5_isFreeFor_40 : decode cX5_isFreeFor 40 = .ok (.goto (-38), 3) := by decide +kernel
theorem dX5_isFreeFor_43 : decode cX5_isFreeFor 43 = .ok (.iconst 1, 1) := by decide +kernel
theorem dX5_isFreeFor_44 : decode cX5_isFreeFor 44 = .ok (.ireturn, 1) := by decide +kernel
theorem dX5_shows_0 : decode cX5_shows 0 = .ok (.aload_n 1, 1) := by decide +kernel
theorem dX5_shows_1 : decode cX5_shows 1 = .ok (.getfield 44, 3) := by decide +kernel
theorem dX5_shows_4 : decode cX5_shows 4 = .ok (.aload_n 0, 1) := by decide +kernel
theorem dX5_shows_5 : decode cX5_shows 5 = .ok (.getfield 24, 3) := by decide +kernel
theorem dX5_shows_8 : decode cX5_shows 8 = .ok (.isub, 1) := by decide +kernel
theorem dX5_shows_9 : decode cX5_shows 9 = .ok (.istore_n 2, 1) := by decide +kernel
theorem dX5_shows_10 : decode cX5_shows 10 = .ok (.aload_n 1, 1) := by decide +kernel
theorem dX5_shows_11 : decode cX5_shows 11 = .ok (.invokevirtual 47, 3) := by decide +kernel
theorem dX5_shows_14 : decode cX5_shows 14 = .ok (.ifCond .eq 16, 3) := by decide +kernel
theorem dX5_shows_17 : decode cX5_shows 17 = .ok (.iload_n 2, 1) := by decide +kernel
theorem dX5_shows_18 : decode cX5_shows 18 = .ok (.ifCond .lt 12, 3) := by decide +kernel
theorem dX5_shows_21 : decode cX5_shows 21 = .ok (.aload_n 0, 1) := by decide +kernel
theorem dX5_shows_22 : decode cX5_shows 22 = .ok (.aload_n 1, 1) := by decide +kernel
theorem dX5_shows_23 : decode cX5_shows 23 = .ok (.iload_n 2, 1) := by decide +kernel
theorem dX5_shows_24 : decode cX5_shows 24 = .ok (.invokevirtual 51, 3) := by decide +kernel
theorem dX5_shows_27 : decode cX5_shows 27 = .ok (.ifCond .eq 7, 3) := by decide +kernel
theorem dX5_shows_30 : decode cX5_shows 30 = .ok (.iconst 1, 1) := by decide +kernel
theorem dX5_shows_31 : decode cX5_shows 31 = .ok (.goto 4, 3) := by decide +kernel
theorem dX5_shows_34 : decode cX5_shows 34 = .ok (.iconst 0, 1) := by decide +kernel
theorem dX5_shows_35 : decode cX5_shows 35 = .ok (.ireturn, 1) := by decide +kernel
theorem dX6_init_0 : decode cX6_init 0 = .ok (.aload_n 0, 1) := by decide +kernel
theorem dX6_init_1 : decode cX6_init 1 = .ok (.invokespecial 3, 3) := by decide +kernel
theorem dX6_init_4 : decode cX6_init 4 = .ok (.aload_n 0, 1) := by decide +kernel
theorem dX6_init_5 : decode cX6_init 5 = .ok (.bipush 60, 2) := by decide +kernel
theorem dX6_init_7 : decode cX6_init 7 = .ok (.newarray .int, 2) := by decide +kernel
theorem dX6_init_9 : decode cX6_init 9 = .ok (.putfield 9, 3) := by decide +kernel
theorem dX6_init_12 : decode cX6_init 12 = .ok (.aload_n 0, 1) := by decide +kernel
theorem dX6_init_13 : decode cX6_init 13 = .ok (.iconst (-1), 1) := by decide +kernel
theorem dX6_init_14 : decode cX6_init 14 = .ok (.putfield 15, 3) := by decide +kernel
theorem dX6_init_17 : decode cX6_init 17 = .ok (.return_, 1) := by decide +kernel
theorem dX6_lay_0 : decode cX6_lay 0 = .ok (.aload_n 0, 1) := by decide +kernel
theorem dX6_lay_1 : decode cX6_lay 1 = .ok (.iload_n 1, 1) := by decide +kernel
theorem dX6_lay_2 : decode cX6_lay 2 = .ok (.putfield 15, 3) := by decide +kernel
theorem dX6_lay_5 : decode cX6_lay 5 = .ok (.aload_n 0, 1) := by decide +kernel
theorem dX6_lay_6 : decode cX6_lay 6 = .ok (.iload_n 2, 1) := by decide +kernel
theorem dX6_lay_7 : decode cX6_lay 7 = .ok (.putfield 19, 3) := by decide +kernel
theorem dX6_lay_10 : decode cX6_lay 10 = .ok (.iconst 0, 1) := by decide +kernel
theorem dX6_lay_11 : decode cX6_lay 11 = .ok (.istore_n 3, 1) := by decide +kernel
theorem dX6_lay_12 : decode cX6_lay 12 = .ok (.iload_n 3, 1) := by decide +kernel
theorem dX6_lay_13 : decode cX6_lay 13 = .ok (.bipush 60, 2) := by decide +kernel
theorem dX6_lay_15 : decode cX6_lay 15 = .ok (.if_icmp .ge 16, 3) := by decide +kernel
theorem dX6_lay_18 : decode cX6_lay 18 = .ok (.aload_n 0, 1) := by decide +kernel
theorem dX6_lay_19 : decode cX6_lay 19 = .ok (.getfield 9, 3) := by decide +kernel
theorem dX6_lay_22 : decode cX6_lay 22 = .ok (.iload_n 3, 1) := by decide +kernel
theorem dX6_lay_23 : decode cX6_lay 23 = .ok (.iconst 0, 1) := by decide +kernel
theorem dX6_lay_24 : decode cX6_lay 24 = .ok (.iastore, 1) := by decide +kernel
theorem dX6_lay_25 : decode cX6_lay 25 = .ok (.iinc 3 1, 3) := by decide +kernel
theorem dX6_lay_28 : decode cX6_lay 28 = .ok (.goto (-16), 3) := by decide +kernel
theorem dX6_lay_31 : decode cX6_lay 31 = .ok (.return_, 1) := by decide +kernel
theorem dX6_holds_0 : decode cX6_holds 0 = .ok (.iload_n 1, 1) := by decide +kernel
theorem dX6_holds_1 : decode cX6_holds 1 = .ok (.ifCond .lt 25, 3) := by decide +kernel
theorem dX6_holds_4 : decode cX6_holds 4 = .ok (.iload_n 1, 1) := by decide +kernel
theorem dX6_holds_5 : decode cX6_holds 5 = .ok (.aload_n 0, 1) := by decide +kernel
theorem dX6_holds_6 : decode cX6_holds 6 = .ok (.getfield 19, 3) := by decide +kernel
theorem dX6_holds_9 : decode cX6_holds 9 = .ok (.if_icmp .gt 17, 3) := by decide +kernel
theorem dX6_holds_12 : decode cX6_holds 12 = .ok (.iload_n 2, 1) := by decide +kernel
theorem dX6_holds_13 : decode cX6_holds 13 = .ok (.aload_n 0, 1) := by decide +kernel
theorem dX6_holds_14 : decode cX6_holds 14 = .ok (.getfield 19, 3) := by decide +kernel
theorem dX6_holds_17 : decode cX6_holds 17 = .ok (.iload_n 1, 1) := by decide +kernel
theorem dX6_holds_18 : decode cX6_holds 18 = .ok (.isub, 1) := by decide +kernel
theorem dX6_holds_19 : decode cX6_holds 19 = .ok (.if_icmp .gt 7, 3) := by decide +kernel
theorem dX6_holds_22 : decode cX6_holds 22 = .ok (.iconst 1, 1) := by decide +kernel
theorem dX6_holds_23 : decode cX6_holds 23 = .ok (.goto 4, 3) := by decide +kernel
theorem dX6_holds_26 : decode cX6_holds 26 = .ok (.iconst 0, 1) := by decide +kernel
theorem dX6_holds_27 : decode cX6_holds 27 = .ok (.ireturn, 1) := by decide +kernel
theorem dX6_faultOfTaking_0 : decode cX6_faultOfTaking 0 = .ok (.aload_n 0, 1) := by decide +kernel
theorem dX6_faultOfTaking_1 : decode cX6_faultOfTaking 1 = .ok (.getfield 15, 3) := by decide +kernel
theorem dX6_faultOfTaking_4 : decode cX6_faultOfTaking 4 = .ok (.iconst (-1), 1) := by decide +kernel
theorem dX6_faultOfTaking_5 : decode cX6_faultOfTaking 5 = .ok (.if_icmp .ne 5, 3) := by decide +kernel
theorem dX6_faultOfTaking_8 : decode cX6_faultOfTaking 8 = .ok (.iconst 1, 1) := by decide +kernel
theorem dX6_faultOfTaking_9 : decode cX6_faultOfTaking 9 = .ok (.ireturn, 1) := by decide +kernel
theorem dX6_faultOfTaking_10 : decode cX6_faultOfTaking 10 = .ok (.aload_n 0, 1) := by decide +kernel
theorem dX6_faultOfTaking_11 : decode cX6_faultOfTaking 11 = .ok (.getfield 15, 3) := by decide +kernel
theorem dX6_faultOfTaking_14 : decode cX6_faultOfTaking 14 = .ok (.iload_n 1, 1) := by decide +kernel
theorem dX6_faultOfTaking_15 : decode cX6_faultOfTaking 15 = .ok (.if_icmp .eq 5, 3) := by decide +kernel
theorem dX6_faultOfTaking_18 : decode cX6_faultOfTaking 18 = .ok (.iconst 2, 1) := by decide +kernel
theorem dX6_faultOfTaking_19 : decode cX6_faultOfTaking 19 = .ok (.ireturn, 1) := by decide +kernel
theorem dX6_faultOfTaking_20 : decode cX6_faultOfTaking 20 = .ok (.iload_n 3, 1) := by decide +kernel
theorem dX6_faultOfTaking_21 : decode cX6_faultOfTaking 21 = .ok (.ifCond .ge 5, 3) := by decide +kernel
theorem dX6_faultOfTaking_24 : decode cX6_faultOfTaking 24 = .ok (.iconst 4, 1) := by decide +kernel
theorem dX6_faultOfTaking_25 : decode cX6_faultOfTaking 25 = .ok (.ireturn, 1) := by decide +kernel
theorem dX6_faultOfTaking_26 : decode cX6_faultOfTaking 26 = .ok (.aload_n 0, 1) := by decide +kernel
theorem dX6_faultOfTaking_27 : decode cX6_faultOfTaking 27 = .ok (.iload_n 2, 1) := by decide +kernel
theorem dX6_faultOfTaking_28 : decode cX6_faultOfTaking 28 = .ok (.iload_n 3, 1) := by decide +kernel
theorem dX6_faultOfTaking_29 : decode cX6_faultOfTaking 29 = .ok (.invokevirtual 22, 3) := by decide +kernel
theorem dX6_faultOfTaking_32 : decode cX6_faultOfTaking 32 = .ok (.ifCond .eq 7, 3) := by decide +kernel
theorem dX6_faultOfTaking_35 : decode cX6_faultOfTaking 35 = .ok (.iconst 0, 1) := by decide +kernel
theorem dX6_faultOfTaking_36 : decode cX6_faultOfTaking 36 = .ok (.goto 4, 3) := by decide +kernel
theorem dX6_faultOfTaking_39 : decode cX6_faultOfTaking 39 = .ok (.iconst 3, 1) := by decide +kernel
theorem dX6_faultOfTaking_40 : decode cX6_faultOfTaking 40 = .ok (.ireturn, 1) := by decide +kernel
theorem dX6_at_0 : decode cX6_at 0 = .ok (.iload_n 1, 1) := by decide +kernel
theorem dX6_at_1 : decode cX6_at 1 = .ok (.aload_n 0, 1) := by decide +kernel
theorem dX6_at_2 : decode cX6_at 2 = .ok (.getfield 19, 3) := by decide +kernel
theorem dX6_at_5 : decode cX6_at 5 = .ok (.invokestatic 26, 3) := by decide +kernel
theorem dX6_at_8 : decode cX6_at 8 = .ok (.ifCond .eq 18, 3) := by decide +kernel
theorem dX6_at_11 : decode cX6_at 11 = .ok (.iload_n 1, 1) := by decide +kernel
theorem dX6_at_12 : decode cX6_at 12 = .ok (.bipush 60, 2) := by decide +kernel
theorem dX6_at_14 : decode cX6_at 14 = .ok (.if_icmp .ge 12, 3) := by decide +kernel
theorem dX6_at_17 : decode cX6_at 17 = .ok (.aload_n 0, 1) := by decide +kernel
theorem dX6_at_18 : decode cX6_at 18 = .ok (.getfield 9, 3) := by decide +kernel
theorem dX6_at_21 : decode cX6_at 21 = .ok (.iload_n 1, 1) := by decide +kernel
theorem dX6_at_22 : decode cX6_at 22 = .ok (.iaload, 1) := by decide +kernel
theorem dX6_at_23 : decode cX6_at 23 = .ok (.goto 4, 3) := by decide +kernel
theorem dX6_at_26 : decode cX6_at 26 = .ok (.iconst 0, 1) := by decide +kernel
theorem dX6_at_27 : decode cX6_at 27 = .ok (.ireturn, 1) := by decide +kernel
theorem dX6_write_0 : decode cX6_write 0 = .ok (.iload_n 1, 1) := by decide +kernel
theorem dX6_write_1 : decode cX6_write 1 = .ok (.aload_n 0, 1) := by decide +kernel
theorem dX6_write_2 : decode cX6_write 2 = .ok (.getfield 19, 3) := by decide +kernel
theorem dX6_write_5 : decode cX6_write 5 = .ok (.invokestatic 26, 3) := by decide +kernel
theorem dX6_write_8 : decode cX6_write 8 = .ok (.ifCond .eq 20, 3) := by decide +kernel
theorem dX6_write_11 : decode cX6_write 11 = .ok (.iload_n 1, 1) := by decide +kernel
theorem dX6_write_12 : decode cX6_write 12 = .ok (.bipush 60, 2) := by decide +kernel
theorem dX6_write_14 : decode cX6_write 14 = .ok (.if_icmp .ge 14, 3) := by decide +kernel
theorem dX6_write_17 : decode cX6_write 17 = .ok (.aload_n 0, 1) := by decide +kernel
theorem dX6_write_18 : decode cX6_write 18 = .ok (.getfield 9, 3) := by decide +kernel
theorem dX6_write_21 : decode cX6_write 21 = .ok (.iload_n 1, 1) := by decide +kernel
theorem dX6_write_22 : decode cX6_write 22 = .ok (.aload_n 0, 1) := by decide +kernel
theorem dX6_write_23 : decode cX6_write 23 = .ok (.iload_n 2, 1) := by decide +kernel
theorem dX6_write_24 : decode cX6_write 24 = .ok (.invokevirtual 29, 3) := by decide +kernel
theorem dX6_write_27 : decode cX6_write 27 = .ok (.iastore, 1) := by decide +kernel
theorem dX6_write_28 : decode cX6_write 28 = .ok (.return_, 1) := by decide +kernel
theorem dX6_cut_0 : decode cX6_cut 0 = .ok (.aload_n 0, 1) := by decide +kernel
theorem dX6_cut_1 : decode cX6_cut 1 = .ok (.getfield 15, 3) := by decide +kernel
theorem dX6_cut_4 : decode cX6_cut 4 = .ok (.ifCond .ne 6, 3) := by decide +kernel
theorem dX6_cut_7 : decode cX6_cut 7 = .ok (.iload_n 1, 1) := by decide +kernel
theorem dX6_cut_8 : decode cX6_cut 8 = .ok (.i2b, 1) := by decide +kernel
theorem dX6_cut_9 : decode cX6_cut 9 = .ok (.ireturn, 1) := by decide +kernel
theorem dX6_cut_10 : decode cX6_cut 10 = .ok (.aload_n 0, 1) := by decide +kernel
theorem dX6_cut_11 : decode cX6_cut 11 = .ok (.getfield 15, 3) := by decide +kernel
theorem dX6_cut_14 : decode cX6_cut 14 = .ok (.iconst 1, 1) := by decide +kernel
theorem dX6_cut_15 : decode cX6_cut 15 = .ok (.if_icmp .ne 8, 3) := by decide +kernel
theorem dX6_cut_18 : decode cX6_cut 18 = .ok (.iload_n 1, 1) := by decide +kernel
theorem dX6_cut_19 : decode cX6_cut 19 = .ok (.i2s, 1) := by decide +kernel
theorem dX6_cut_20 : decode cX6_cut 20 = .ok (.goto 4, 3) := by decide +kernel
theorem dX6_cut_23 : decode cX6_cut 23 = .ok (.iload_n 1, 1) := by decide +kernel
theorem dX6_cut_24 : decode cX6_cut 24 = .ok (.ireturn, 1) := by decide +kernel
theorem dX7_init_0 : decode cX7_init 0 = .ok (.aload_n 0, 1) := by decide +kernel
theorem dX7_init_1 : decode cX7_init 1 = .ok (.invokespecial 1, 3) := by decide +kernel
theorem dX7_init_4 : decode cX7_init 4 = .ok (.return_, 1) := by decide +kernel
theorem dX7_leave_0 : decode cX7_leave 0 = .ok (.aload_n 0, 1) := by decide +kernel
theorem dX7_leave_1 : decode cX7_leave 1 = .ok (.bipush 31, 2) := by decide +kernel
theorem dX7_leave_3 : decode cX7_leave 3 = .ok (.aload_n 0, 1) := by decide +kernel
theorem dX7_leave_4 : decode cX7_leave 4 = .ok (.getfield 7, 3) := by decide +kernel
theorem dX7_leave_7 : decode cX7_leave 7 = .ok (.imul, 1) := by decide +kernel
theorem dX7_leave_8 : decode cX7_leave 8 = .ok (.iload_n 1, 1) := by decide +kernel
theorem dX7_leave_9 : decode cX7_leave 9 = .ok (.iadd, 1) := by decide +kernel
theorem dX7_leave_10 : decode cX7_leave 10 = .ok (.putfield 7, 3) := by decide +kernel
theorem dX7_leave_13 : decode cX7_leave 13 = .ok (.return_, 1) := by decide +kernel
theorem dX8_init_0 : decode cX8_init 0 = .ok (.aload_n 0, 1) := by decide +kernel
theorem dX8_init_1 : decode cX8_init 1 = .ok (.invokespecial 3, 3) := by decide +kernel
theorem dX8_init_4 : decode cX8_init 4 = .ok (.aload_n 0, 1) := by decide +kernel
theorem dX8_init_5 : decode cX8_init 5 = .ok (.iconst 4, 1) := by decide +kernel
theorem dX8_init_6 : decode cX8_init 6 = .ok (.anewarray 11, 3) := by decide +kernel
theorem dX8_init_9 : decode cX8_init 9 = .ok (.putfield 13, 3) := by decide +kernel
theorem dX8_init_12 : decode cX8_init 12 = .ok (.iconst 0, 1) := by decide +kernel
theorem dX8_init_13 : decode cX8_init 13 = .ok (.istore_n 1, 1) := by decide +kernel
theorem dX8_init_14 : decode cX8_init 14 = .ok (.iload_n 1, 1) := by decide +kernel
theorem dX8_init_15 : decode cX8_init 15 = .ok (.iconst 4, 1) := by decide +kernel
theorem dX8_init_16 : decode cX8_init 16 = .ok (.if_icmp .ge 22, 3) := by decide +kernel
theorem dX8_init_19 : decode cX8_init 19 = .ok (.aload_n 0, 1) := by decide +kernel
theorem dX8_init_20 : decode cX8_init 20 = .ok (.getfield 13, 3) := by decide +kernel
theorem dX8_init_23 : decode cX8_init 23 = .ok (.iload_n 1, 1) := by decide +kernel
theorem dX8_init_24 : decode cX8_init 24 = .ok (.new 11, 3) := by decide +kernel
theorem dX8_init_27 : decode cX8_init 27 = .ok (.dup, 1) := by decide +kernel
theorem dX8_init_28 : decode cX8_init 28 = .ok (.invokespecial 17, 3) := by decide +kernel
theorem dX8_init_31 : decode cX8_init 31 = .ok (.aastore, 1) := by decide +kernel
theorem dX8_init_32 : decode cX8_init 32 = .ok (.iinc 1 1, 3) := by decide +kernel
theorem dX8_init_35 : decode cX8_init 35 = .ok (.goto (-21), 3) := by decide +kernel
theorem dX8_init_38 : decode cX8_init 38 = .ok (.aload_n 0, 1) := by decide +kernel
theorem dX8_init_39 : decode cX8_init 39 = .ok (.new 18, 3) := by decide +kernel
theorem dX8_init_42 : decode cX8_init 42 = .ok (.dup, 1) := by decide +kernel
theorem dX8_init_43 : decode cX8_init 43 = .ok (.invokespecial 20, 3) := by decide +kernel
theorem dX8_init_46 : decode cX8_init 46 = .ok (.putfield 21, 3) := by decide +kernel
theorem dX8_init_49 : decode cX8_init 49 = .ok (.aload_n 0, 1) := by decide +kernel
theorem dX8_init_50 : decode cX8_init 50 = .ok (.new 25, 3) := by decide +kernel
theorem dX8_init_53 : decode cX8_init 53 = .ok (.dup, 1) := by decide +kernel
theorem dX8_init_54 : decode cX8_init 54 = .ok (.invokespecial 27, 3) := by decide +kernel
theorem dX8_init_57 : decode cX8_init 57 = .ok (.putfield 28, 3) := by decide +kernel
theorem dX8_init_60 : decode cX8_init 60 = .ok (.aload_n 0, 1) := by decide +kernel
theorem dX8_init_61 : decode cX8_init 61 = .ok (.new 32, 3) := by decide +kernel
theorem dX8_init_64 : decode cX8_init 64 = .ok (.dup, 1) := by decide +kernel
theorem dX8_init_65 : decode cX8_init 65 = .ok (.aload_n 0, 1) := by decide +kernel
theorem dX8_init_66 : decode cX8_init 66 = .ok (.getfield 28, 3) := by decide +kernel
theorem dX8_init_69 : decode cX8_init 69 = .ok (.invokespecial 34, 3) := by decide +kernel
theorem dX8_init_72 : decode cX8_init 72 = .ok (.putfield 37, 3) := by decide +kernel
theorem dX8_init_75 : decode cX8_init 75 = .ok (.aload_n 0, 1) := by decide +kernel
theorem dX8_init_76 : decode cX8_init 76 = .ok (.new 41, 3) := by decide +kernel
theorem dX8_init_79 : decode cX8_init 79 = .ok (.dup, 1) := by decide +kernel
theorem dX8_init_80 : decode cX8_init 80 = .ok (.invokespecial 43, 3) := by decide +kernel
theorem dX8_init_83 : decode cX8_init 83 = .ok (.putfield 44, 3) := by decide +kernel
theorem dX8_init_86 : decode cX8_init 86 = .ok (.aload_n 0, 1) := by decide +kernel
theorem dX8_init_87 : decode cX8_init 87 = .ok (.iconst 0, 1) := by decide +kernel
theorem dX8_init_88 : decode cX8_init 88 = .ok (.putfield 48, 3) := by decide +kernel
theorem dX8_init_91 : decode cX8_init 91 = .ok (.return_, 1) := by decide +kernel
theorem dX8_hall_0 : decode cX8_hall 0 = .ok (.aload_n 0, 1) := by decide +kernel
theorem dX8_hall_1 : decode cX8_hall 1 = .ok (.iconst 0, 1) := by decide +kernel
theorem dX8_hall_2 : decode cX8_hall 2 = .ok (.putfield 48, 3) := by decide +kernel
theorem dX8_hall_5 : decode cX8_hall 5 = .ok (.aload_n 0, 1) := by decide +kernel
theorem dX8_hall_6 : decode cX8_hall 6 = .ok (.iload_n 1, 1) := by decide +kernel
theorem dX8_hall_7 : decode cX8_hall 7 = .ok (.invokevirtual 52, 3) := by decide +kernel
theorem dX8_hall_10 : decode cX8_hall 10 = .ok (.astore 5, 2) := by decide +kernel
theorem dX8_hall_12 : decode cX8_hall 12 = .ok (.aload 5, 2) := by decide +kernel
theorem dX8_hall_14 : decode cX8_hall 14 = .ok (.ifnonnull 5, 3) := by decide +kernel
theorem dX8_hall_17 : decode cX8_hall 17 = .ok (.iconst (-1), 1) := by decide +kernel
theorem dX8_hall_18 : decode cX8_hall 18 = .ok (.ireturn, 1) := by decide +kernel
theorem dX8_hall_19 : decode cX8_hall 19 = .ok (.iload_n 2, 1) := by decide +kernel
theorem dX8_hall_20 : decode cX8_hall 20 = .ok (.invokestatic 56, 3) := by decide +kernel
theorem dX8_hall_23 : decode cX8_hall 23 = .ok (.ifCond .ne 6, 3) := by decide +kernel
theorem dX8_hall_26 : decode cX8_hall 26 = .ok (.bipush (-2), 2) := by decide +kernel
theorem dX8_hall_28 : decode cX8_hall 28 = .ok (.ireturn, 1) := by decide +kernel
theorem dX8_hall_29 : decode cX8_hall 29 = .ok (.aload 5, 2) := by decide +kernel
theorem dX8_hall_31 : decode cX8_hall 31 = .ok (.iload_n 2, 1) := by decide +kernel
theorem dX8_hall_32 : decode cX8_hall 32 = .ok (.iload_n 3, 1) := by decide +kernel
theorem dX8_hall_33 : decode cX8_hall 33 = .ok (.iload 4, 2) := by decide +kernel
theorem dX8_hall_35 : decode cX8_hall 35 = .ok (.invokevirtual 60, 3) := by decide +kernel
theorem dX8_hall_38 : decode cX8_hall 38 = .ok (.istore 6, 2) := by decide +kernel
theorem dX8_hall_40 : decode cX8_hall 40 = .ok (.iload 6, 2) := by decide +kernel
theorem dX8_hall_42 : decode cX8_hall 42 = .ok (.ifCond .eq 10, 3) := by decide +kernel
theorem dX8_hall_45 : decode cX8_hall 45 = .ok (.aload_n 0, 1) := by decide +kernel
theorem dX8_hall_46 : decode cX8_hall 46 = .ok (.iload 6, 2) := by decide +kernel
theorem dX8_hall_48 : decode cX8_hall 48 = .ok (.invokevirtual 64, 3) := by decide +kernel
theorem dX8_hall_51 : decode cX8_hall 51 = .ok (.ireturn, 1) := by decide +kernel
theorem dX8_hall_52 : decode cX8_hall 52 = .ok (.aload 5, 2) := by decide +kernel
theorem dX8_hall_54 : decode cX8_hall 54 = .ok (.iload_n 3, 1) := by decide +kernel
theorem dX8_hall_55 : decode cX8_hall 55 = .ok (.iload 4, 2) := by decide +kernel
theorem dX8_hall_57 : decode cX8_hall 57 = .ok (.invokestatic 68, 3) := by decide +kernel
theorem dX8_hall_60 : decode cX8_hall 60 = .ok (.istore 7, 2) := by decide +kernel
theorem dX8_hall_62 : decode cX8_hall 62 = .ok (.iload 7, 2) := by decide +kernel
theorem dX8_hall_64 : decode cX8_hall 64 = .ok (.iconst (-1), 1) := by decide +kernel
theorem dX8_hall_65 : decode cX8_hall 65 = .ok (.if_icmp .eq 9, 3) := by decide +kernel
theorem dX8_hall_68 : decode cX8_hall 68 = .ok (.bipush (-100), 2) := by decide +kernel
theorem dX8_hall_70 : decode cX8_hall 70 = .ok (.iload 7, 2) := by decide +kernel
theorem dX8_hall_72 : decode cX8_hall 72 = .ok (.isub, 1) := by decide +kernel
theorem dX8_hall_73 : decode cX8_hall 73 = .ok (.ireturn, 1) := by decide +kernel
theorem dX8_hall_74 : decode cX8_hall 74 = .ok (.aload_n 0, 1) := by decide +kernel
theorem dX8_hall_75 : decode cX8_hall 75 = .ok (.aload 5, 2) := by decide +kernel
theorem dX8_hall_77 : decode cX8_hall 77 = .ok (.iload_n 3, 1) := by decide +kernel
theorem dX8_hall_78 : decode cX8_hall 78 = .ok (.iload 4, 2) := by decide +kernel
theorem dX8_hall_80 : decode cX8_hall 80 = .ok (.invokevirtual 72, 3) := by decide +kernel
theorem dX8_hall_83 : decode cX8_hall 83 = .ok (.aload_n 0, 1) := by decide +kernel
theorem dX8_hall_84 : decode cX8_hall 84 = .ok (.getfield 44, 3) := by decide +kernel
theorem dX8_hall_87 : decode cX8_hall 87 = .ok (.iconst 0, 1) := by decide +kernel
theorem dX8_hall_88 : decode cX8_hall 88 = .ok (.invokevirtual 76, 3) := by decide +kernel
theorem dX8_hall_91 : decode cX8_hall 91 = .ok (.aload_n 0, 1) := by decide +kernel
theorem dX8_hall_92 : decode cX8_hall 92 = .ok (.getfield 28, 3) := by decide +kernel
theorem dX8_hall_95 : decode cX8_hall 95 = .ok (.getfield 80, 3) := by decide +kernel
theorem dX8_hall_98 : decode cX8_hall 98 = .ok (.ireturn, 1) := by decide +kernel
theorem dX8_ofBuyer_0 : decode cX8_ofBuyer 0 = .ok (.aload_n 0, 1) := by decide +kernel
theorem dX8_ofBuyer_1 : decode cX8_ofBuyer 1 = .ok (.getfield 28, 3) := by decide +kernel
theorem dX8_ofBuyer_4 : decode cX8_ofBuyer 4 = .ok (.iload_n 1, 1) := by decide +kernel
theorem dX8_ofBuyer_5 : decode cX8_ofBuyer 5 = .ok (.invokevirtual 83, 3) := by decide +kernel
theorem dX8_ofBuyer_8 : decode cX8_ofBuyer 8 = .ok (.astore_n 3, 1) := by decide +kernel
theorem dX8_ofBuyer_9 : decode cX8_ofBuyer 9 = .ok (.aload_n 3, 1) := by decide +kernel
theorem dX8_ofBuyer_10 : decode cX8_ofBuyer 10 = .ok (.ifnonnull 5, 3) := by decide +kernel
theorem dX8_ofBuyer_13 : decode cX8_ofBuyer 13 = .ok (.iconst (-1), 1) := by decide +kernel
theorem dX8_ofBuyer_14 : decode cX8_ofBuyer 14 = .ok (.ireturn, 1) := by decide +kernel
theorem dX8_ofBuyer_15 : decode cX8_ofBuyer 15 = .ok (.iload_n 2, 1) := by decide +kernel
theorem dX8_ofBuyer_16 : decode cX8_ofBuyer 16 = .ok (.tableswitch 64 0 3 #[32, 37, 42, 47], 32) := by decide +kernel
theorem dX8_ofBuyer_48 : decode cX8_ofBuyer 48 = .ok (.aload_n 3, 1) := by decide +kernel
theorem dX8_ofBuyer_49 : decode cX8_ofBuyer 49 = .ok (.invokevirtual 87, 3) := by decide +kernel
theorem dX8_ofBuyer_52 : decode cX8_ofBuyer 52 = .ok (.ireturn, 1) := by decide +kernel
theorem dX8_ofBuyer_53 : decode cX8_ofBuyer 53 = .ok (.aload_n 3, 1) := by decide +kernel
theorem dX8_ofBuyer_54 : decode cX8_ofBuyer 54 = .ok (.getfield 93, 3) := by decide +kernel
theorem dX8_ofBuyer_57 : decode cX8_ofBuyer 57 = .ok (.ireturn, 1) := by decide +kernel
theorem dX8_ofBuyer_58 : decode cX8_ofBuyer 58 = .ok (.aload_n 3, 1) := by decide +kernel
theorem dX8_ofBuyer_59 : decode cX8_ofBuyer 59 = .ok (.getfield 96, 3) := by decide +kernel
theorem dX8_ofBuyer_62 : decode cX8_ofBuyer 62 = .ok (.ireturn, 1) := by decide +kernel
theorem dX8_ofBuyer_63 : decode cX8_ofBuyer 63 = .ok (.aload_n 0, 1) := by decide +kernel
theorem dX8_ofBuyer_64 : decode cX8_ofBuyer 64 = .ok (.getfield 28, 3) := by decide +kernel
theorem dX8_ofBuyer_67 : decode cX8_ofBuyer 67 = .ok (.aload_n 3, 1) := by decide +kernel
theorem dX8_ofBuyer_68 : decode cX8_ofBuyer 68 = .ok (.invokevirtual 99, 3) := by decide +kernel
theorem dX8_ofBuyer_71 : decode cX8_ofBuyer 71 = .ok (.ifCond .eq 7, 3) := by decide +kernel
theorem dX8_ofBuyer_74 : decode cX8_ofBuyer 74 = .ok (.iconst 1, 1) := by decide +kernel
theorem dX8_ofBuyer_75 : decode cX8_ofBuyer 75 = .ok (.goto 4, 3) := by decide +kernel
theorem dX8_ofBuyer_78 : decode cX8_ofBuyer 78 = .ok (.iconst 0, 1) := by decide +kernel
theorem dX8_ofBuyer_79 : decode cX8_ofBuyer 79 = .ok (.ireturn, 1) := by decide +kernel
theorem dX8_ofBuyer_80 : decode cX8_ofBuyer 80 = .ok (.bipush (-2), 2) := by decide +kernel
theorem dX8_ofBuyer_82 : decode cX8_ofBuyer 82 = .ok (.ireturn, 1) := by decide +kernel
theorem dX8_worth_0 : decode cX8_worth 0 = .ok (.aload_n 0, 1) := by decide +kernel
theorem dX8_worth_1 : decode cX8_worth 1 = .ok (.getfield 28, 3) := by decide +kernel
theorem dX8_worth_4 : decode cX8_worth 4 = .ok (.iload_n 1, 1) := by decide +kernel
theorem dX8_worth_5 : decode cX8_worth 5 = .ok (.invokevirtual 83, 3) := by decide +kernel
theorem dX8_worth_8 : decode cX8_worth 8 = .ok (.astore 4, 2) := by decide +kernel
theorem dX8_worth_10 : decode cX8_worth 10 = .ok (.aload 4, 2) := by decide +kernel
theorem dX8_worth_12 : decode cX8_worth 12 = .ok (.ifnull 10, 3) := by decide +kernel
theorem dX8_worth_15 : decode cX8_worth 15 = .ok (.iload_n 2, 1) := by decide +kernel
theorem dX8_worth_16 : decode cX8_worth 16 = .ok (.invokestatic 103, 3) := by decide +kernel
theorem dX8_worth_19 : decode cX8_worth 19 = .ok (.ifCond .ne 5, 3) := by decide +kernel
theorem dX8_worth_22 : decode cX8_worth 22 = .ok (.iconst (-1), 1) := by decide +kernel
theorem dX8_worth_23 : decode cX8_worth 23 = .ok (.ireturn, 1) := by decide +kernel
theorem dX8_worth_24 : decode cX8_worth 24 = .ok (.iload_n 3, 1) := by decide +kernel
theorem dX8_worth_25 : decode cX8_worth 25 = .ok (.ifCond .lt 9, 3) := by decide +kernel
theorem dX8_worth_28 : decode cX8_worth 28 = .ok (.iload_n 3, 1) := by decide +kernel
theorem dX8_worth_29 : decode cX8_worth 29 = .ok (.bipush 99, 2) := by decide +kernel
theorem dX8_worth_31 : decode cX8_worth 31 = .ok (.if_icmp .le 6, 3) := by decide +kernel
theorem dX8_worth_34 : decode cX8_worth 34 = .ok (.bipush (-2), 2) := by decide +kernel
theorem dX8_worth_36 : decode cX8_worth 36 = .ok (.ireturn, 1) := by decide +kernel
theorem dX8_worth_37 : decode cX8_worth 37 = .ok (.aload 4, 2) := by decide +kernel
theorem dX8_worth_39 : decode cX8_worth 39 = .ok (.getfield 106, 3) := by decide +kernel
theorem dX8_worth_42 : decode cX8_worth 42 = .ok (.iload_n 2, 1) := by decide +kernel
theorem dX8_worth_43 : decode cX8_worth 43 = .ok (.iaload, 1) := by decide +kernel
theorem dX8_worth_44 : decode cX8_worth 44 = .ok (.istore 5, 2) := by decide +kernel
theorem dX8_worth_46 : decode cX8_worth 46 = .ok (.aload 4, 2) := by decide +kernel
theorem dX8_worth_48 : decode cX8_worth 48 = .ok (.getfield 106, 3) := by decide +kernel
theorem dX8_worth_51 : decode cX8_worth 51 = .ok (.iload_n 2, 1) := by decide +kernel
theorem dX8_worth_52 : decode cX8_worth 52 = .ok (.iload_n 3, 1) := by decide +kernel
theorem dX8_worth_53 : decode cX8_worth 53 = .ok (.iastore, 1) := by decide +kernel
theorem dX8_worth_54 : decode cX8_worth 54 = .ok (.iload 5, 2) := by decide +kernel
theorem dX8_worth_56 : decode cX8_worth 56 = .ok (.ireturn, 1) := by decide +kernel
theorem dX8_limit_0 : decode cX8_limit 0 = .ok (.aload_n 0, 1) := by decide +kernel
theorem dX8_limit_1 : decode cX8_limit 1 = .ok (.getfield 28, 3) := by decide +kernel
theorem dX8_limit_4 : decode cX8_limit 4 = .ok (.iload_n 1, 1) := by decide +kernel
theorem dX8_limit_5 : decode cX8_limit 5 = .ok (.invokevirtual 83, 3) := by decide +kernel
theorem dX8_limit_8 : decode cX8_limit 8 = .ok (.astore_n 3, 1) := by decide +kernel
theorem dX8_limit_9 : decode cX8_limit 9 = .ok (.aload_n 3, 1) := by decide +kernel
theorem dX8_limit_10 : decode cX8_limit 10 = .ok (.ifnull 10, 3) := by decide +kernel
theorem dX8_limit_13 : decode cX8_limit 13 = .ok (.iload_n 2, 1) := by decide +kernel
theorem dX8_limit_14 : decode cX8_limit 14 = .ok (.invokestatic 103, 3) := by decide +kernel
theorem dX8_limit_17 : decode cX8_limit 17 = .ok (.ifCond .ne 5, 3) := by decide +kernel
theorem dX8_limit_20 : decode cX8_limit 20 = .ok (.iconst (-1), 1) := by decide +kernel
theorem dX8_limit_21 : decode cX8_limit 21 = .ok (.ireturn, 1) := by decide +kernel
theorem dX8_limit_22 : decode cX8_limit 22 = .ok (.aload_n 3, 1) := by decide +kernel
theorem dX8_limit_23 : decode cX8_limit 23 = .ok (.aload_n 3, 1) := by decide +kernel
theorem dX8_limit_24 : decode cX8_limit 24 = .ok (.getfield 106, 3) := by decide +kernel
theorem dX8_limit_27 : decode cX8_limit 27 = .ok (.iload_n 2, 1) := by decide +kernel
theorem dX8_limit_28 : decode cX8_limit 28 = .ok (.iaload, 1) := by decide +kernel
theorem dX8_limit_29 : decode cX8_limit 29 = .ok (.aload_n 3, 1) := by decide +kernel
theorem dX8_limit_30 : decode cX8_limit 30 = .ok (.getfield 96, 3) := by decide +kernel
theorem dX8_limit_33 : decode cX8_limit 33 = .ok (.invokevirtual 110, 3) := by decide +kernel
theorem dX8_limit_36 : decode cX8_limit 36 = .ok (.ireturn, 1) := by decide +kernel
theorem dX8_sit_0 : decode cX8_sit 0 = .ok (.aload_n 0, 1) := by decide +kernel
theorem dX8_sit_1 : decode cX8_sit 1 = .ok (.getfield 28, 3) := by decide +kernel
theorem dX8_sit_4 : decode cX8_sit 4 = .ok (.iload_n 1, 1) := by decide +kernel
theorem dX8_sit_5 : decode cX8_sit 5 = .ok (.invokevirtual 83, 3) := by decide +kernel
theorem dX8_sit_8 : decode cX8_sit 8 = .ok (.astore_n 3, 1) := by decide +kernel
theorem dX8_sit_9 : decode cX8_sit 9 = .ok (.aload_n 3, 1) := by decide +kernel
theorem dX8_sit_10 : decode cX8_sit 10 = .ok (.ifnull 17, 3) := by decide +kernel
theorem dX8_sit_13 : decode cX8_sit 13 = .ok (.iload_n 2, 1) := by decide +kernel
theorem dX8_sit_14 : decode cX8_sit 14 = .ok (.aload_n 0, 1) := by decide +kernel
theorem dX8_sit_15 : decode cX8_sit 15 = .ok (.getfield 28, 3) := by decide +kernel
theorem dX8_sit_18 : decode cX8_sit 18 = .ok (.getfield 114, 3) := by decide +kernel
theorem dX8_sit_21 : decode cX8_sit 21 = .ok (.invokestatic 117, 3) := by decide +kernel
theorem dX8_sit_24 : decode cX8_sit 24 = .ok (.ifCond .ne 5, 3) := by decide +kernel
theorem dX8_sit_27 : decode cX8_sit 27 = .ok (.iconst (-1), 1) := by decide +kernel
theorem dX8_sit_28 : decode cX8_sit 28 = .ok (.ireturn, 1) := by decide +kernel
theorem dX8_sit_29 : decode cX8_sit 29 = .ok (.aload_n 0, 1) := by decide +kernel
theorem dX8_sit_30 : decode cX8_sit 30 = .ok (.getfield 28, 3) := by decide +kernel
theorem dX8_sit_33 : decode cX8_sit 33 = .ok (.aload_n 3, 1) := by decide +kernel
theorem dX8_sit_34 : decode cX8_sit 34 = .ok (.iload_n 2, 1) := by decide +kernel
theorem dX8_sit_35 : decode cX8_sit 35 = .ok (.invokevirtual 121, 3) := by decide +kernel
theorem dX8_sit_38 : decode cX8_sit 38 = .ok (.ifCond .ne 6, 3) := by decide +kernel
theorem dX8_sit_41 : decode cX8_sit 41 = .ok (.bipush (-3), 2) := by decide +kernel
theorem dX8_sit_43 : decode cX8_sit 43 = .ok (.ireturn, 1) := by decide +kernel
theorem dX8_sit_44 : decode cX8_sit 44 = .ok (.aload_n 3, 1) := by decide +kernel
theorem dX8_sit_45 : decode cX8_sit 45 = .ok (.getfield 93, 3) := by decide +kernel
theorem dX8_sit_48 : decode cX8_sit 48 = .ok (.istore 4, 2) := by decide +kernel
theorem dX8_sit_50 : decode cX8_sit 50 = .ok (.aload_n 3, 1) := by decide +kernel
theorem dX8_sit_51 : decode cX8_sit 51 = .ok (.iload_n 2, 1) := by decide +kernel
theorem dX8_sit_52 : decode cX8_sit 52 = .ok (.putfield 93, 3) := by decide +kernel
theorem dX8_sit_55 : decode cX8_sit 55 = .ok (.iload 4, 2) := by decide +kernel
theorem dX8_sit_57 : decode cX8_sit 57 = .ok (.ireturn, 1) := by decide +kernel
theorem dX8_law_0 : decode cX8_law 0 = .ok (.iload_n 1, 1) := by decide +kernel
theorem dX8_law_1 : decode cX8_law 1 = .ok (.iconst 3, 1) := by decide +kernel
theorem dX8_law_2 : decode cX8_law 2 = .ok (.invokestatic 117, 3) := by decide +kernel
theorem dX8_law_5 : decode cX8_law 5 = .ok (.ifCond .ne 6, 3) := by decide +kernel
theorem dX8_law_8 : decode cX8_law 8 = .ok (.bipush (-2), 2) := by decide +kernel
theorem dX8_law_10 : decode cX8_law 10 = .ok (.ireturn, 1) := by decide +kernel
theorem dX8_law_11 : decode cX8_law 11 = .ok (.aload_n 0, 1) := by decide +kernel
theorem dX8_law_12 : decode cX8_law 12 = .ok (.getfield 28, 3) := by decide +kernel
theorem dX8_law_15 : decode cX8_law 15 = .ok (.invokevirtual 125, 3) := by decide +kernel
theorem dX8_law_18 : decode cX8_law 18 = .ok (.ifCond .ne 6, 3) := by decide +kernel
theorem dX8_law_21 : decode cX8_law 21 = .ok (.bipush (-3), 2) := by decide +kernel
theorem dX8_law_23 : decode cX8_law 23 = .ok (.ireturn, 1) := by decide +kernel
theorem dX8_law_24 : decode cX8_law 24 = .ok (.aload_n 0, 1) := by decide +kernel
theorem dX8_law_25 : decode cX8_law 25 = .ok (.getfield 28, 3) := by decide +kernel
theorem dX8_law_28 : decode cX8_law 28 = .ok (.getfield 129, 3) := by decide +kernel
theorem dX8_law_31 : decode cX8_law 31 = .ok (.istore_n 2, 1) := by decide +kernel
theorem dX8_law_32 : decode cX8_law 32 = .ok (.aload_n 0, 1) := by decide +kernel
theorem dX8_law_33 : decode cX8_law 33 = .ok (.getfield 28, 3) := by decide +kernel
theorem dX8_law_36 : decode cX8_law 36 = .ok (.iload_n 1, 1) := by decide +kernel
theorem dX8_law_37 : decode cX8_law 37 = .ok (.putfield 129, 3) := by decide +kernel
theorem dX8_law_40 : decode cX8_law 40 = .ok (.iload_n 2, 1) := by decide +kernel
theorem dX8_law_41 : decode cX8_law 41 = .ok (.ireturn, 1) := by decide +kernel
theorem dX8_sale_0 : decode cX8_sale 0 = .ok (.iload_n 1, 1) := by decide +kernel
theorem dX8_sale_1 : decode cX8_sale 1 = .ok (.invokestatic 103, 3) := by decide +kernel
theorem dX8_sale_4 : decode cX8_sale 4 = .ok (.ifCond .ne 5, 3) := by decide +kernel
theorem dX8_sale_7 : decode cX8_sale 7 = .ok (.iconst (-1), 1) := by decide +kernel
theorem dX8_sale_8 : decode cX8_sale 8 = .ok (.ireturn, 1) := by decide +kernel
theorem dX8_sale_9 : decode cX8_sale 9 = .ok (.iload_n 2, 1) := by decide +kernel
theorem dX8_sale_10 : decode cX8_sale 10 = .ok (.iconst 3, 1) := by decide +kernel
theorem dX8_sale_11 : decode cX8_sale 11 = .ok (.invokestatic 117, 3) := by decide +kernel
theorem dX8_sale_14 : decode cX8_sale 14 = .ok (.ifCond .ne 6, 3) := by decide +kernel
theorem dX8_sale_17 : decode cX8_sale 17 = .ok (.bipush (-2), 2) := by decide +kernel
theorem dX8_sale_19 : decode cX8_sale 19 = .ok (.ireturn, 1) := by decide +kernel
theorem dX8_sale_20 : decode cX8_sale 20 = .ok (.aload_n 0, 1) := by decide +kernel
theorem dX8_sale_21 : decode cX8_sale 21 = .ok (.getfield 28, 3) := by decide +kernel
theorem dX8_sale_24 : decode cX8_sale 24 = .ok (.invokevirtual 125, 3) := by decide +kernel
theorem dX8_sale_27 : decode cX8_sale 27 = .ok (.ifCond .ne 6, 3) := by decide +kernel
theorem dX8_sale_30 : decode cX8_sale 30 = .ok (.bipush (-3), 2) := by decide +kernel
theorem dX8_sale_32 : decode cX8_sale 32 = .ok (.ireturn, 1) := by decide +kernel
theorem dX8_sale_33 : decode cX8_sale 33 = .ok (.aload_n 0, 1) := by decide +kernel
theorem dX8_sale_34 : decode cX8_sale 34 = .ok (.bipush 63, 2) := by decide +kernel
theorem dX8_sale_36 : decode cX8_sale 36 = .ok (.iload_n 1, 1) := by decide +kernel
theorem dX8_sale_37 : decode cX8_sale 37 = .ok (.invokevirtual 132, 3) := by decide +kernel
theorem dX8_sale_40 : decode cX8_sale 40 = .ok (.iload_n 2, 1) := by decide +kernel
theorem dX8_sale_41 : decode cX8_sale 41 = .ok (.ifCond .ne 11, 3) := by decide +kernel
theorem dX8_sale_44 : decode cX8_sale 44 = .ok (.aload_n 0, 1) := by decide +kernel
theorem dX8_sale_45 : decode cX8_sale 45 = .ok (.getfield 37, 3) := by decide +kernel
theorem dX8_sale_48 : decode cX8_sale 48 = .ok (.getfield 136, 3) := by decide +kernel
theorem dX8_sale_51 : decode cX8_sale 51 = .ok (.ireturn, 1) := by decide +kernel
theorem dX8_sale_52 : decode cX8_sale 52 = .ok (.iload_n 2, 1) := by decide +kernel
theorem dX8_sale_53 : decode cX8_sale 53 = .ok (.iconst 1, 1) := by decide +kernel
theorem dX8_sale_54 : decode cX8_sale 54 = .ok (.if_icmp .ne 13, 3) := by decide +kernel
theorem dX8_sale_57 : decode cX8_sale 57 = .ok (.aload_n 0, 1) := by decide +kernel
theorem dX8_sale_58 : decode cX8_sale 58 = .ok (.getfield 37, 3) := by decide +kernel
theorem dX8_sale_61 : decode cX8_sale 61 = .ok (.getfield 139, 3) := by decide +kernel
theorem dX8_sale_64 : decode cX8_sale 64 = .ok (.goto 10, 3) := by decide +kernel
theorem dX8_sale_67 : decode cX8_sale 67 = .ok (.aload_n 0, 1) := by decide +kernel
theorem dX8_sale_68 : decode cX8_sale 68 = .ok (.getfield 37, 3) := by decide +kernel
theorem dX8_sale_71 : decode cX8_sale 71 = .ok (.getfield 142, 3) := by decide +kernel
theorem dX8_sale_74 : decode cX8_sale 74 = .ok (.ireturn, 1) := by decide +kernel
theorem dX8_bid_0 : decode cX8_bid 0 = .ok (.iload_n 1, 1) := by decide +kernel
theorem dX8_bid_1 : decode cX8_bid 1 = .ok (.invokestatic 103, 3) := by decide +kernel
theorem dX8_bid_4 : decode cX8_bid 4 = .ok (.ifCond .eq 7, 3) := by decide +kernel
theorem dX8_bid_7 : decode cX8_bid 7 = .ok (.iload_n 2, 1) := by decide +kernel
theorem dX8_bid_8 : decode cX8_bid 8 = .ok (.ifCond .ge 5, 3) := by decide +kernel
theorem dX8_bid_11 : decode cX8_bid 11 = .ok (.iconst (-1), 1) := by decide +kernel
theorem dX8_bid_12 : decode cX8_bid 12 = .ok (.ireturn, 1) := by decide +kernel
theorem dX8_bid_13 : decode cX8_bid 13 = .ok (.aload_n 0, 1) := by decide +kernel
theorem dX8_bid_14 : decode cX8_bid 14 = .ok (.getfield 28, 3) := by decide +kernel
theorem dX8_bid_17 : decode cX8_bid 17 = .ok (.invokevirtual 125, 3) := by decide +kernel
theorem dX8_bid_20 : decode cX8_bid 20 = .ok (.ifCond .ne 6, 3) := by decide +kernel
theorem dX8_bid_23 : decode cX8_bid 23 = .ok (.bipush (-3), 2) := by decide +kernel
theorem dX8_bid_25 : decode cX8_bid 25 = .ok (.ireturn, 1) := by decide +kernel
theorem dX8_bid_26 : decode cX8_bid 26 = .ok (.aload_n 0, 1) := by decide +kernel
theorem dX8_bid_27 : decode cX8_bid 27 = .ok (.bipush 63, 2) := by decide +kernel
theorem dX8_bid_29 : decode cX8_bid 29 = .ok (.iload_n 1, 1) := by decide +kernel
theorem dX8_bid_30 : decode cX8_bid 30 = .ok (.invokevirtual 132, 3) := by decide +kernel
theorem dX8_bid_33 : decode cX8_bid 33 = .ok (.aload_n 0, 1) := by decide +kernel
theorem dX8_bid_34 : decode cX8_bid 34 = .ok (.getfield 37, 3) := by decide +kernel
theorem dX8_bid_37 : decode cX8_bid 37 = .ok (.iload_n 2, 1) := by decide +kernel
theorem dX8_bid_38 : decode cX8_bid 38 = .ok (.invokevirtual 145, 3) := by decide +kernel
theorem dX8_bid_41 : decode cX8_bid 41 = .ok (.ireturn, 1) := by decide +kernel
theorem dX8_ends_0 : decode cX8_ends 0 = .ok (.aload_n 0, 1) := by decide +kernel
theorem dX8_ends_1 : decode cX8_ends 1 = .ok (.getfield 28, 3) := by decide +kernel
theorem dX8_ends_4 : decode cX8_ends 4 = .ok (.iload_n 1, 1) := by decide +kernel
theorem dX8_ends_5 : decode cX8_ends 5 = .ok (.invokevirtual 83, 3) := by decide +kernel
theorem dX8_ends_8 : decode cX8_ends 8 = .ok (.ifnull 10, 3) := by decide +kernel
theorem dX8_ends_11 : decode cX8_ends 11 = .ok (.iload_n 2, 1) := by decide +kernel
theorem dX8_ends_12 : decode cX8_ends 12 = .ok (.invokestatic 103, 3) := by decide +kernel
theorem dX8_ends_15 : decode cX8_ends 15 = .ok (.ifCond .ne 5, 3) := by decide +kernel
theorem dX8_ends_18 : decode cX8_ends 18 = .ok (.iconst (-1), 1) := by decide +kernel
theorem dX8_ends_19 : decode cX8_ends 19 = .ok (.ireturn, 1) := by decide +kernel
theorem dX8_ends_20 : decode cX8_ends 20 = .ok (.aload_n 0, 1) := by decide +kernel
theorem dX8_ends_21 : decode cX8_ends 21 = .ok (.bipush 63, 2) := by decide +kernel
theorem dX8_ends_23 : decode cX8_ends 23 = .ok (.iload_n 2, 1) := by decide +kernel
theorem dX8_ends_24 : decode cX8_ends 24 = .ok (.invokevirtual 132, 3) := by decide +kernel
theorem dX8_ends_27 : decode cX8_ends 27 = .ok (.aload_n 0, 1) := by decide +kernel
theorem dX8_ends_28 : decode cX8_ends 28 = .ok (.getfield 37, 3) := by decide +kernel
theorem dX8_ends_31 : decode cX8_ends 31 = .ok (.getfield 148, 3) := by decide +kernel
theorem dX8_ends_34 : decode cX8_ends 34 = .ok (.iload_n 1, 1) := by decide +kernel
theorem dX8_ends_35 : decode cX8_ends 35 = .ok (.iaload, 1) := by decide +kernel
theorem dX8_ends_36 : decode cX8_ends 36 = .ok (.ireturn, 1) := by decide +kernel
theorem dX8_row_0 : decode cX8_row 0 = .ok (.aload_n 0, 1) := by decide +kernel
theorem dX8_row_1 : decode cX8_row 1 = .ok (.iconst 0, 1) := by decide +kernel
theorem dX8_row_2 : decode cX8_row 2 = .ok (.putfield 48, 3) := by decide +kernel
theorem dX8_row_5 : decode cX8_row 5 = .ok (.aload_n 0, 1) := by decide +kernel
theorem dX8_row_6 : decode cX8_row 6 = .ok (.iload_n 2, 1) := by decide +kernel
theorem dX8_row_7 : decode cX8_row 7 = .ok (.invokevirtual 52, 3) := by decide +kernel
theorem dX8_row_10 : decode cX8_row 10 = .ok (.astore 6, 2) := by decide +kernel
theorem dX8_row_12 : decode cX8_row 12 = .ok (.iload_n 1, 1) := by decide +kernel
theorem dX8_row_13 : decode cX8_row 13 = .ok (.iconst (-1), 1) := by decide +kernel
theorem dX8_row_14 : decode cX8_row 14 = .ok (.if_icmp .eq 14, 3) := by decide +kernel
theorem dX8_row_17 : decode cX8_row 17 = .ok (.aload_n 0, 1) := by decide +kernel
theorem dX8_row_18 : decode cX8_row 18 = .ok (.getfield 28, 3) := by decide +kernel
theorem dX8_row_21 : decode cX8_row 21 = .ok (.iload_n 1, 1) := by decide +kernel
theorem dX8_row_22 : decode cX8_row 22 = .ok (.invokevirtual 83, 3) := by decide +kernel
theorem dX8_row_25 : decode cX8_row 25 = .ok (.ifnull 7, 3) := by decide +kernel
theorem dX8_row_28 : decode cX8_row 28 = .ok (.iconst 1, 1) := by decide +kernel
theorem dX8_row_29 : decode cX8_row 29 = .ok (.goto 4, 3) := by decide +kernel
theorem dX8_row_32 : decode cX8_row 32 = .ok (.iconst 0, 1) := by decide +kernel
theorem dX8_row_33 : decode cX8_row 33 = .ok (.istore 7, 2) := by decide +kernel
theorem dX8_row_35 : decode cX8_row 35 = .ok (.iload 7, 2) := by decide +kernel
theorem dX8_row_37 : decode cX8_row 37 = .ok (.ifCond .eq 8, 3) := by decide +kernel
theorem dX8_row_40 : decode cX8_row 40 = .ok (.aload 6, 2) := by decide +kernel
theorem dX8_row_42 : decode cX8_row 42 = .ok (.ifnonnull 5, 3) := by decide +kernel
theorem dX8_row_45 : decode cX8_row 45 = .ok (.iconst (-1), 1) := by decide +kernel
theorem dX8_row_46 : decode cX8_row 46 = .ok (.ireturn, 1) := by decide +kernel
theorem dX8_row_47 : decode cX8_row 47 = .ok (.iload_n 3, 1) := by decide +kernel
theorem dX8_row_48 : decode cX8_row 48 = .ok (.invokestatic 56, 3) := by decide +kernel
theorem dX8_row_51 : decode cX8_row 51 = .ok (.ifCond .ne 6, 3) := by decide +kernel
theorem dX8_row_54 : decode cX8_row 54 = .ok (.bipush (-2), 2) := by decide +kernel
theorem dX8_row_56 : decode cX8_row 56 = .ok (.ireturn, 1) := by decide +kernel
theorem dX8_row_57 : decode cX8_row 57 = .ok (.aload_n 0, 1) := by decide +kernel
theorem dX8_row_58 : decode cX8_row 58 = .ok (.getfield 28, 3) := by decide +kernel
theorem dX8_row_61 : decode cX8_row 61 = .ok (.invokevirtual 125, 3) := by decide +kernel
theorem dX8_row_64 : decode cX8_row 64 = .ok (.ifCond .ne 6, 3) := by decide +kernel
theorem dX8_row_67 : decode cX8_row 67 = .ok (.bipush (-3), 2) := by decide +kernel
theorem dX8_row_69 : decode cX8_row 69 = .ok (.ireturn, 1) := by decide +kernel
theorem dX8_row_70 : decode cX8_row 70 = .ok (.aload 6, 2) := by decide +kernel
theorem dX8_row_72 : decode cX8_row 72 = .ok (.iload_n 3, 1) := by decide +kernel
theorem dX8_row_73 : decode cX8_row 73 = .ok (.iload 4, 2) := by decide +kernel
theorem dX8_row_75 : decode cX8_row 75 = .ok (.iload 5, 2) := by decide +kernel
theorem dX8_row_77 : decode cX8_row 77 = .ok (.invokevirtual 60, 3) := by decide +kernel
theorem dX8_row_80 : decode cX8_row 80 = .ok (.istore 8, 2) := by decide +kernel
theorem dX8_row_82 : decode cX8_row 82 = .ok (.iload 8, 2) := by decide +kernel
theorem dX8_row_84 : decode cX8_row 84 = .ok (.ifCond .eq 10, 3) := by decide +kernel
theorem dX8_row_87 : decode cX8_row 87 = .ok (.aload_n 0, 1) := by decide +kernel
theorem dX8_row_88 : decode cX8_row 88 = .ok (.iload 8, 2) := by decide +kernel
theorem dX8_row_90 : decode cX8_row 90 = .ok (.invokevirtual 64, 3) := by decide +kernel
theorem dX8_row_93 : decode cX8_row 93 = .ok (.ireturn, 1) := by decide +kernel
theorem dX8_row_94 : decode cX8_row 94 = .ok (.aload 6, 2) := by decide +kernel
theorem dX8_row_96 : decode cX8_row 96 = .ok (.iload 4, 2) := by decide +kernel
theorem dX8_row_98 : decode cX8_row 98 = .ok (.iload 5, 2) := by decide +kernel
theorem dX8_row_100 : decode cX8_row 100 = .ok (.invokestatic 151, 3) := by decide +kernel
theorem dX8_row_103 : decode cX8_row 103 = .ok (.ifCond .ne 5, 3) := by decide +kernel
theorem dX8_row_106 : decode cX8_row 106 = .ok (.iconst (-1), 1) := by decide +kernel
theorem dX8_row_107 : decode cX8_row 107 = .ok (.ireturn, 1) := by decide +kernel
theorem dX8_row_108 : decode cX8_row 108 = .ok (.aload_n 0, 1) := by decide +kernel
theorem dX8_row_109 : decode cX8_row 109 = .ok (.aload 6, 2) := by decide +kernel
theorem dX8_row_111 : decode cX8_row 111 = .ok (.iload 4, 2) := by decide +kernel
theorem dX8_row_113 : decode cX8_row 113 = .ok (.iload 5, 2) := by decide +kernel
theorem dX8_row_115 : decode cX8_row 115 = .ok (.invokevirtual 155, 3) := by decide +kernel
theorem dX8_row_118 : decode cX8_row 118 = .ok (.istore 9, 2) := by decide +kernel
theorem dX8_row_120 : decode cX8_row 120 = .ok (.iload_n 1, 1) := by decide +kernel
theorem dX8_row_121 : decode cX8_row 121 = .ok (.iconst (-1), 1) := by decide +kernel
theorem dX8_row_122 : decode cX8_row 122 = .ok (.if_icmp .ne 8, 3) := by decide +kernel
theorem dX8_row_125 : decode cX8_row 125 = .ok (.iload 9, 2) := by decide +kernel
theorem dX8_row_127 : decode cX8_row 127 = .ok (.goto 12, 3) := by decide +kernel
theorem dX8_row_130 : decode cX8_row 130 = .ok (.aload_n 0, 1) := by decide +kernel
theorem dX8_row_131 : decode cX8_row 131 = .ok (.getfield 37, 3) := by decide +kernel
theorem dX8_row_134 : decode cX8_row 134 = .ok (.getfield 158, 3) := by decide +kernel
theorem dX8_row_137 : decode cX8_row 137 = .ok (.iload_n 1, 1) := by decide +kernel
theorem dX8_row_138 : decode cX8_row 138 = .ok (.iaload, 1) := by decide +kernel
theorem dX8_row_139 : decode cX8_row 139 = .ok (.ireturn, 1) := by decide +kernel
theorem dX8_gain_0 : decode cX8_gain 0 = .ok (.aload_n 0, 1) := by decide +kernel
theorem dX8_gain_1 : decode cX8_gain 1 = .ok (.getfield 28, 3) := by decide +kernel
theorem dX8_gain_4 : decode cX8_gain 4 = .ok (.iload_n 1, 1) := by decide +kernel
theorem dX8_gain_5 : decode cX8_gain 5 = .ok (.invokevirtual 83, 3) := by decide +kernel
theorem dX8_gain_8 : decode cX8_gain 8 = .ok (.astore_n 3, 1) := by decide +kernel
theorem dX8_gain_9 : decode cX8_gain 9 = .ok (.aload_n 3, 1) := by decide +kernel
theorem dX8_gain_10 : decode cX8_gain 10 = .ok (.ifnull 10, 3) := by decide +kernel
theorem dX8_gain_13 : decode cX8_gain 13 = .ok (.iload_n 2, 1) := by decide +kernel
theorem dX8_gain_14 : decode cX8_gain 14 = .ok (.invokestatic 103, 3) := by decide +kernel
theorem dX8_gain_17 : decode cX8_gain 17 = .ok (.ifCond .ne 5, 3) := by decide +kernel
theorem dX8_gain_20 : decode cX8_gain 20 = .ok (.iconst (-1), 1) := by decide +kernel
theorem dX8_gain_21 : decode cX8_gain 21 = .ok (.ireturn, 1) := by decide +kernel
theorem dX8_gain_22 : decode cX8_gain 22 = .ok (.bipush 100, 2) := by decide +kernel
theorem dX8_gain_24 : decode cX8_gain 24 = .ok (.aload_n 0, 1) := by decide +kernel
theorem dX8_gain_25 : decode cX8_gain 25 = .ok (.aload_n 3, 1) := by decide +kernel
theorem dX8_gain_26 : decode cX8_gain 26 = .ok (.aload_n 3, 1) := by decide +kernel
theorem dX8_gain_27 : decode cX8_gain 27 = .ok (.getfield 93, 3) := by decide +kernel
theorem dX8_gain_30 : decode cX8_gain 30 = .ok (.iload_n 2, 1) := by decide +kernel
theorem dX8_gain_31 : decode cX8_gain 31 = .ok (.invokevirtual 161, 3) := by decide +kernel
theorem dX8_gain_34 : decode cX8_gain 34 = .ok (.iadd, 1) := by decide +kernel
theorem dX8_gain_35 : decode cX8_gain 35 = .ok (.ireturn, 1) := by decide +kernel
theorem dX8_best_0 : decode cX8_best 0 = .ok (.aload_n 0, 1) := by decide +kernel
theorem dX8_best_1 : decode cX8_best 1 = .ok (.getfield 28, 3) := by decide +kernel
theorem dX8_best_4 : decode cX8_best 4 = .ok (.iload_n 1, 1) := by decide +kernel
theorem dX8_best_5 : decode cX8_best 5 = .ok (.invokevirtual 83, 3) := by decide +kernel
theorem dX8_best_8 : decode cX8_best 8 = .ok (.astore 4, 2) := by decide +kernel
theorem dX8_best_10 : decode cX8_best 10 = .ok (.aload 4, 2) := by decide +kernel
theorem dX8_best_12 : decode cX8_best 12 = .ok (.ifnull 10, 3) := by decide +kernel
theorem dX8_best_15 : decode cX8_best 15 = .ok (.iload_n 2, 1) := by decide +kernel
theorem dX8_best_16 : decode cX8_best 16 = .ok (.invokestatic 103, 3) := by decide +kernel
theorem dX8_best_19 : decode cX8_best 19 = .ok (.ifCond .ne 5, 3) := by decide +kernel
theorem dX8_best_22 : decode cX8_best 22 = .ok (.iconst (-1), 1) := by decide +kernel
theorem dX8_best_23 : decode cX8_best 23 = .ok (.ireturn, 1) := by decide +kernel
theorem dX8_best_24 : decode cX8_best 24 = .ok (.iload_n 3, 1) := by decide +kernel
theorem dX8_best_25 : decode cX8_best 25 = .ok (.iconst 2, 1) := by decide +kernel
theorem dX8_best_26 : decode cX8_best 26 = .ok (.invokestatic 117, 3) := by decide +kernel
theorem dX8_best_29 : decode cX8_best 29 = .ok (.ifCond .ne 6, 3) := by decide +kernel
theorem dX8_best_32 : decode cX8_best 32 = .ok (.bipush (-2), 2) := by decide +kernel
theorem dX8_best_34 : decode cX8_best 34 = .ok (.ireturn, 1) := by decide +kernel
theorem dX8_best_35 : decode cX8_best 35 = .ok (.aload 4, 2) := by decide +kernel
theorem dX8_best_37 : decode cX8_best 37 = .ok (.getfield 93, 3) := by decide +kernel
theorem dX8_best_40 : decode cX8_best 40 = .ok (.istore 5, 2) := by decide +kernel
theorem dX8_best_42 : decode cX8_best 42 = .ok (.bipush (-9), 2) := by decide +kernel
theorem dX8_best_44 : decode cX8_best 44 = .ok (.istore 6, 2) := by decide +kernel
theorem dX8_best_46 : decode cX8_best 46 = .ok (.iconst 0, 1) := by decide +kernel
theorem dX8_best_47 : decode cX8_best 47 = .ok (.istore 7, 2) := by decide +kernel
theorem dX8_best_49 : decode cX8_best 49 = .ok (.iload 7, 2) := by decide +kernel
theorem dX8_best_51 : decode cX8_best 51 = .ok (.aload_n 0, 1) := by decide +kernel
theorem dX8_best_52 : decode cX8_best 52 = .ok (.getfield 28, 3) := by decide +kernel
theorem dX8_best_55 : decode cX8_best 55 = .ok (.getfield 114, 3) := by decide +kernel
theorem dX8_best_58 : decode cX8_best 58 = .ok (.if_icmp .ge 52, 3) := by decide +kernel
theorem dX8_best_61 : decode cX8_best 61 = .ok (.aload_n 0, 1) := by decide +kernel
theorem dX8_best_62 : decode cX8_best 62 = .ok (.getfield 28, 3) := by decide +kernel
theorem dX8_best_65 : decode cX8_best 65 = .ok (.aload 4, 2) := by decide +kernel
theorem dX8_best_67 : decode cX8_best 67 = .ok (.iload 7, 2) := by decide +kernel
theorem dX8_best_69 : decode cX8_best 69 = .ok (.invokevirtual 121, 3) := by decide +kernel
theorem dX8_best_72 : decode cX8_best 72 = .ok (.ifCond .ne 6, 3) := by decide +kernel
theorem dX8_best_75 : decode cX8_best 75 = .ok (.goto 29, 3) := by decide +kernel
theorem dX8_best_78 : decode cX8_best 78 = .ok (.aload_n 0, 1) := by decide +kernel
theorem dX8_best_79 : decode cX8_best 79 = .ok (.aload 4, 2) := by decide +kernel
theorem dX8_best_81 : decode cX8_best 81 = .ok (.iload 7, 2) := by decide +kernel
theorem dX8_best_83 : decode cX8_best 83 = .ok (.iload_n 2, 1) := by decide +kernel
theorem dX8_best_84 : decode cX8_best 84 = .ok (.invokevirtual 161, 3) := by decide +kernel
theorem dX8_best_87 : decode cX8_best 87 = .ok (.istore 8, 2) := by decide +kernel
theorem dX8_best_89 : decode cX8_best 89 = .ok (.iload 8, 2) := by decide +kernel
theorem dX8_best_91 : decode cX8_best 91 = .ok (.iload 6, 2) := by decide +kernel
theorem dX8_best_93 : decode cX8_best 93 = .ok (.if_icmp .le 11, 3) := by decide +kernel
theorem dX8_best_96 : decode cX8_best 96 = .ok (.iload 8, 2) := by decide +kernel
theorem dX8_best_98 : decode cX8_best 98 = .ok (.istore 6, 2) := by decide +kernel
theorem dX8_best_100 : decode cX8_best 100 = .ok (.iload 7, 2) := by decide +kernel
theorem dX8_best_102 : decode cX8_best 102 = .ok (.istore 5, 2) := by decide +kernel
theorem dX8_best_104 : decode cX8_best 104 = .ok (.iinc 7 1, 3) := by decide +kernel
theorem dX8_best_107 : decode cX8_best 107 = .ok (.goto (-58), 3) := by decide +kernel
theorem dX8_best_110 : decode cX8_best 110 = .ok (.iload_n 3, 1) := by decide +kernel
theorem dX8_best_111 : decode cX8_best 111 = .ok (.ifCond .ne 8, 3) := by decide +kernel
theorem dX8_best_114 : decode cX8_best 114 = .ok (.iload 5, 2) := by decide +kernel
theorem dX8_best_116 : decode cX8_best 116 = .ok (.goto 8, 3) := by decide +kernel
theorem dX8_best_119 : decode cX8_best 119 = .ok (.bipush 100, 2) := by decide +kernel
theorem dX8_best_121 : decode cX8_best 121 = .ok (.iload 6, 2) := by decide +kernel
theorem dX8_best_123 : decode cX8_best 123 = .ok (.iadd, 1) := by decide +kernel
theorem dX8_best_124 : decode cX8_best 124 = .ok (.ireturn, 1) := by decide +kernel
theorem dX8_order_0 : decode cX8_order 0 = .ok (.iload_n 1, 1) := by decide +kernel
theorem dX8_order_1 : decode cX8_order 1 = .ok (.iconst (-1), 1) := by decide +kernel
theorem dX8_order_2 : decode cX8_order 2 = .ok (.if_icmp .eq 13, 3) := by decide +kernel
theorem dX8_order_5 : decode cX8_order 5 = .ok (.iload_n 1, 1) := by decide +kernel
theorem dX8_order_6 : decode cX8_order 6 = .ok (.iconst 4, 1) := by decide +kernel
theorem dX8_order_7 : decode cX8_order 7 = .ok (.invokestatic 117, 3) := by decide +kernel
theorem dX8_order_10 : decode cX8_order 10 = .ok (.ifCond .ne 5, 3) := by decide +kernel
theorem dX8_order_13 : decode cX8_order 13 = .ok (.iconst (-1), 1) := by decide +kernel
theorem dX8_order_14 : decode cX8_order 14 = .ok (.ireturn, 1) := by decide +kernel
theorem dX8_order_15 : decode cX8_order 15 = .ok (.aload_n 0, 1) := by decide +kernel
theorem dX8_order_16 : decode cX8_order 16 = .ok (.getfield 28, 3) := by decide +kernel
theorem dX8_order_19 : decode cX8_order 19 = .ok (.invokevirtual 125, 3) := by decide +kernel
theorem dX8_order_22 : decode cX8_order 22 = .ok (.ifCond .ne 6, 3) := by decide +kernel
theorem dX8_order_25 : decode cX8_order 25 = .ok (.bipush (-3), 2) := by decide +kernel
theorem dX8_order_27 : decode cX8_order 27 = .ok (.ireturn, 1) := by decide +kernel
theorem dX8_order_28 : decode cX8_order 28 = .ok (.bipush (-9), 2) := by decide +kernel
theorem dX8_order_30 : decode cX8_order 30 = .ok (.istore_n 2, 1) := by decide +kernel
theorem dX8_order_31 : decode cX8_order 31 = .ok (.iconst 0, 1) := by decide +kernel
theorem dX8_order_32 : decode cX8_order 32 = .ok (.istore_n 3, 1) := by decide +kernel
theorem dX8_order_33 : decode cX8_order 33 = .ok (.iconst 0, 1) := by decide +kernel
theorem dX8_order_34 : decode cX8_order 34 = .ok (.istore 4, 2) := by decide +kernel
theorem dX8_order_36 : decode cX8_order 36 = .ok (.iload 4, 2) := by decide +kernel
theorem dX8_order_38 : decode cX8_order 38 = .ok (.sipush 256, 3) := by decide +kernel
theorem dX8_order_41 : decode cX8_order 41 = .ok (.if_icmp .ge 40, 3) := by decide +kernel
theorem dX8_order_44 : decode cX8_order 44 = .ok (.iload 4, 2) := by decide +kernel
theorem dX8_order_46 : decode cX8_order 46 = .ok (.invokestatic 165, 3) := by decide +kernel
theorem dX8_order_49 : decode cX8_order 49 = .ok (.ifCond .ne 6, 3) := by decide +kernel
theorem dX8_order_52 : decode cX8_order 52 = .ok (.goto 23, 3) := by decide +kernel
theorem dX8_order_55 : decode cX8_order 55 = .ok (.aload_n 0, 1) := by decide +kernel
theorem dX8_order_56 : decode cX8_order 56 = .ok (.iload 4, 2) := by decide +kernel
theorem dX8_order_58 : decode cX8_order 58 = .ok (.invokevirtual 168, 3) := by decide +kernel
theorem dX8_order_61 : decode cX8_order 61 = .ok (.istore 5, 2) := by decide +kernel
theorem dX8_order_63 : decode cX8_order 63 = .ok (.iload 5, 2) := by decide +kernel
theorem dX8_order_65 : decode cX8_order 65 = .ok (.iload_n 2, 1) := by decide +kernel
theorem dX8_order_66 : decode cX8_order 66 = .ok (.if_icmp .le 9, 3) := by decide +kernel
theorem dX8_order_69 : decode cX8_order 69 = .ok (.iload 5, 2) := by decide +kernel
theorem dX8_order_71 : decode cX8_order 71 = .ok (.istore_n 2, 1) := by decide +kernel
theorem dX8_order_72 : decode cX8_order 72 = .ok (.iload 4, 2) := by decide +kernel
theorem dX8_order_74 : decode cX8_order 74 = .ok (.istore_n 3, 1) := by decide +kernel
theorem dX8_order_75 : decode cX8_order 75 = .ok (.iinc 4 1, 3) := by decide +kernel
theorem dX8_order_78 : decode cX8_order 78 = .ok (.goto (-42), 3) := by decide +kernel
theorem dX8_order_81 : decode cX8_order 81 = .ok (.iload_n 1, 1) := by decide +kernel
theorem dX8_order_82 : decode cX8_order 82 = .ok (.iconst (-1), 1) := by decide +kernel
theorem dX8_order_83 : decode cX8_order 83 = .ok (.if_icmp .ne 7, 3) := by decide +kernel
theorem dX8_order_86 : decode cX8_order 86 = .ok (.iload_n 2, 1) := by decide +kernel
theorem dX8_order_87 : decode cX8_order 87 = .ok (.goto 8, 3) := by decide +kernel
theorem dX8_order_90 : decode cX8_order 90 = .ok (.iload_n 3, 1) := by decide +kernel
theorem dX8_order_91 : decode cX8_order 91 = .ok (.iload_n 1, 1) := by decide +kernel
theorem dX8_order_92 : decode cX8_order 92 = .ok (.invokestatic 171, 3) := by decide +kernel
theorem dX8_order_95 : decode cX8_order 95 = .ok (.ireturn, 1) := by decide +kernel
theorem dX8_ring_0 : decode cX8_ring 0 = .ok (.iload_n 2, 1) := by decide +kernel
theorem dX8_ring_1 : decode cX8_ring 1 = .ok (.invokestatic 103, 3) := by decide +kernel
theorem dX8_ring_4 : decode cX8_ring 4 = .ok (.ifCond .ne 5, 3) := by decide +kernel
theorem dX8_ring_7 : decode cX8_ring 7 = .ok (.iconst (-1), 1) := by decide +kernel
theorem dX8_ring_8 : decode cX8_ring 8 = .ok (.ireturn, 1) := by decide +kernel
theorem dX8_ring_9 : decode cX8_ring 9 = .ok (.iload_n 1, 1) := by decide +kernel
theorem dX8_ring_10 : decode cX8_ring 10 = .ok (.aload_n 0, 1) := by decide +kernel
theorem dX8_ring_11 : decode cX8_ring 11 = .ok (.getfield 28, 3) := by decide +kernel
theorem dX8_ring_14 : decode cX8_ring 14 = .ok (.invokevirtual 174, 3) := by decide +kernel
theorem dX8_ring_17 : decode cX8_ring 17 = .ok (.iconst (-1), 1) := by decide +kernel
theorem dX8_ring_18 : decode cX8_ring 18 = .ok (.ixor, 1) := by decide +kernel
theorem dX8_ring_19 : decode cX8_ring 19 = .ok (.iand, 1) := by decide +kernel
theorem dX8_ring_20 : decode cX8_ring 20 = .ok (.ifCond .eq 6, 3) := by decide +kernel
theorem dX8_ring_23 : decode cX8_ring 23 = .ok (.bipush (-2), 2) := by decide +kernel
theorem dX8_ring_25 : decode cX8_ring 25 = .ok (.ireturn, 1) := by decide +kernel
theorem dX8_ring_26 : decode cX8_ring 26 = .ok (.aload_n 0, 1) := by decide +kernel
theorem dX8_ring_27 : decode cX8_ring 27 = .ok (.getfield 28, 3) := by decide +kernel
theorem dX8_ring_30 : decode cX8_ring 30 = .ok (.invokevirtual 125, 3) := by decide +kernel
theorem dX8_ring_33 : decode cX8_ring 33 = .ok (.ifCond .ne 6, 3) := by decide +kernel
theorem dX8_ring_36 : decode cX8_ring 36 = .ok (.bipush (-3), 2) := by decide +kernel
theorem dX8_ring_38 : decode cX8_ring 38 = .ok (.ireturn, 1) := by decide +kernel
theorem dX8_ring_39 : decode cX8_ring 39 = .ok (.aload_n 0, 1) := by decide +kernel
theorem dX8_ring_40 : decode cX8_ring 40 = .ok (.getfield 37, 3) := by decide +kernel
theorem dX8_ring_43 : decode cX8_ring 43 = .ok (.bipush 63, 2) := by decide +kernel
theorem dX8_ring_45 : decode cX8_ring 45 = .ok (.invokevirtual 177, 3) := by decide +kernel
theorem dX8_ring_48 : decode cX8_ring 48 = .ok (.aload_n 0, 1) := by decide +kernel
theorem dX8_ring_49 : decode cX8_ring 49 = .ok (.getfield 37, 3) := by decide +kernel
theorem dX8_ring_52 : decode cX8_ring 52 = .ok (.iload_n 2, 1) := by decide +kernel
theorem dX8_ring_53 : decode cX8_ring 53 = .ok (.invokevirtual 180, 3) := by decide +kernel
theorem dX8_ring_56 : decode cX8_ring 56 = .ok (.aload_n 0, 1) := by decide +kernel
theorem dX8_ring_57 : decode cX8_ring 57 = .ok (.getfield 37, 3) := by decide +kernel
theorem dX8_ring_60 : decode cX8_ring 60 = .ok (.iload_n 1, 1) := by decide +kernel
theorem dX8_ring_61 : decode cX8_ring 61 = .ok (.invokevirtual 183, 3) := by decide +kernel
theorem dX8_ring_64 : decode cX8_ring 64 = .ok (.aload_n 0, 1) := by decide +kernel
theorem dX8_ring_65 : decode cX8_ring 65 = .ok (.getfield 37, 3) := by decide +kernel
theorem dX8_ring_68 : decode cX8_ring 68 = .ok (.invokevirtual 186, 3) := by decide +kernel
theorem dX8_ring_71 : decode cX8_ring 71 = .ok (.aload_n 0, 1) := by decide +kernel
theorem dX8_ring_72 : decode cX8_ring 72 = .ok (.getfield 37, 3) := by decide +kernel
theorem dX8_ring_75 : decode cX8_ring 75 = .ok (.getfield 136, 3) := by decide +kernel
theorem dX8_ring_78 : decode cX8_ring 78 = .ok (.ireturn, 1) := by decide +kernel
theorem dX8_mean_0 : decode cX8_mean 0 = .ok (.iload_n 1, 1) := by decide +kernel
theorem dX8_mean_1 : decode cX8_mean 1 = .ok (.invokestatic 103, 3) := by decide +kernel
theorem dX8_mean_4 : decode cX8_mean 4 = .ok (.ifCond .eq 21, 3) := by decide +kernel
theorem dX8_mean_7 : decode cX8_mean 7 = .ok (.iload_n 2, 1) := by decide +kernel
theorem dX8_mean_8 : decode cX8_mean 8 = .ok (.iconst 2, 1) := by decide +kernel
theorem dX8_mean_9 : decode cX8_mean 9 = .ok (.invokestatic 117, 3) := by decide +kernel
theorem dX8_mean_12 : decode cX8_mean 12 = .ok (.ifCond .eq 13, 3) := by decide +kernel
theorem dX8_mean_15 : decode cX8_mean 15 = .ok (.aload_n 0, 1) := by decide +kernel
theorem dX8_mean_16 : decode cX8_mean 16 = .ok (.getfield 28, 3) := by decide +kernel
theorem dX8_mean_19 : decode cX8_mean 19 = .ok (.invokevirtual 125, 3) := by decide +kernel
theorem dX8_mean_22 : decode cX8_mean 22 = .ok (.ifCond .ne 7, 3) := by decide +kernel
theorem dX8_mean_25 : decode cX8_mean 25 = .ok (.ldc2_w 189, 3) := by decide +kernel
theorem dX8_mean_28 : decode cX8_mean 28 = .ok (.lreturn, 1) := by decide +kernel
theorem dX8_mean_29 : decode cX8_mean 29 = .ok (.aload_n 0, 1) := by decide +kernel
theorem dX8_mean_30 : decode cX8_mean 30 = .ok (.getfield 28, 3) := by decide +kernel
theorem dX8_mean_33 : decode cX8_mean 33 = .ok (.invokevirtual 174, 3) := by decide +kernel
theorem dX8_mean_36 : decode cX8_mean 36 = .ok (.istore_n 3, 1) := by decide +kernel
theorem dX8_mean_37 : decode cX8_mean 37 = .ok (.lconst 0, 1) := by decide +kernel
theorem dX8_mean_38 : decode cX8_mean 38 = .ok (.lstore 4, 2) := by decide +kernel
theorem dX8_mean_40 : decode cX8_mean 40 = .ok (.iconst 0, 1) := by decide +kernel
theorem dX8_mean_41 : decode cX8_mean 41 = .ok (.istore 6, 2) := by decide +kernel
theorem dX8_mean_43 : decode cX8_mean 43 = .ok (.iload 6, 2) := by decide +kernel
theorem dX8_mean_45 : decode cX8_mean 45 = .ok (.iload_n 3, 1) := by decide +kernel
theorem dX8_mean_46 : decode cX8_mean 46 = .ok (.if_icmp .gt 29, 3) := by decide +kernel
theorem dX8_mean_49 : decode cX8_mean 49 = .ok (.aload_n 0, 1) := by decide +kernel
theorem dX8_mean_50 : decode cX8_mean 50 = .ok (.iload 6, 2) := by decide +kernel
theorem dX8_mean_52 : decode cX8_mean 52 = .ok (.iload_n 1, 1) := by decide +kernel
theorem dX8_mean_53 : decode cX8_mean 53 = .ok (.invokevirtual 132, 3) := by decide +kernel
theorem dX8_mean_56 : decode cX8_mean 56 = .ok (.lload 4, 2) := by decide +kernel
theorem dX8_mean_58 : decode cX8_mean 58 = .ok (.aload_n 0, 1) := by decide +kernel
theorem dX8_mean_59 : decode cX8_mean 59 = .ok (.getfield 37, 3) := by decide +kernel
theorem dX8_mean_62 : decode cX8_mean 62 = .ok (.getfield 136, 3) := by decide +kernel
theorem dX8_mean_65 : decode cX8_mean 65 = .ok (.i2l, 1) := by decide +kernel
theorem dX8_mean_66 : decode cX8_mean 66 = .ok (.ladd, 1) := by decide +kernel
theorem dX8_mean_67 : decode cX8_mean 67 = .ok (.lstore 4, 2) := by decide +kernel
theorem dX8_mean_69 : decode cX8_mean 69 = .ok (.iinc 6 1, 3) := by decide +kernel
theorem dX8_mean_72 : decode cX8_mean 72 = .ok (.goto (-29), 3) := by decide +kernel
theorem dX8_mean_75 : decode cX8_mean 75 = .ok (.iload_n 3, 1) := by decide +kernel
theorem dX8_mean_76 : decode cX8_mean 76 = .ok (.i2l, 1) := by decide +kernel
theorem dX8_mean_77 : decode cX8_mean 77 = .ok (.lconst 1, 1) := by decide +kernel
theorem dX8_mean_78 : decode cX8_mean 78 = .ok (.ladd, 1) := by decide +kernel
theorem dX8_mean_79 : decode cX8_mean 79 = .ok (.lstore 6, 2) := by decide +kernel
theorem dX8_mean_81 : decode cX8_mean 81 = .ok (.lload 6, 2) := by decide +kernel
theorem dX8_mean_83 : decode cX8_mean 83 = .ok (.lconst 1, 1) := by decide +kernel
theorem dX8_mean_84 : decode cX8_mean 84 = .ok (.lcmp, 1) := by decide +kernel
theorem dX8_mean_85 : decode cX8_mean 85 = .ok (.ifCond .le 27, 3) := by decide +kernel
theorem dX8_mean_88 : decode cX8_mean 88 = .ok (.lload 4, 2) := by decide +kernel
theorem dX8_mean_90 : decode cX8_mean 90 = .ok (.lconst 1, 1) := by decide +kernel
theorem dX8_mean_91 : decode cX8_mean 91 = .ok (.land, 1) := by decide +kernel
theorem dX8_mean_92 : decode cX8_mean 92 = .ok (.lconst 0, 1) := by decide +kernel
theorem dX8_mean_93 : decode cX8_mean 93 = .ok (.lcmp, 1) := by decide +kernel
theorem dX8_mean_94 : decode cX8_mean 94 = .ok (.ifCond .ne 18, 3) := by decide +kernel
theorem dX8_mean_97 : decode cX8_mean 97 = .ok (.lload 6, 2) := by decide +kernel
theorem dX8_mean_99 : decode cX8_mean 99 = .ok (.iconst 1, 1) := by decide +kernel
theorem dX8_mean_100 : decode cX8_mean 100 = .ok (.lshr, 1) := by decide +kernel
theorem dX8_mean_101 : decode cX8_mean 101 = .ok (.lstore 6, 2) := by decide +kernel
theorem dX8_mean_103 : decode cX8_mean 103 = .ok (.lload 4, 2) := by decide +kernel
theorem dX8_mean_105 : decode cX8_mean 105 = .ok (.iconst 1, 1) := by decide +kernel
theorem dX8_mean_106 : decode cX8_mean 106 = .ok (.lshr, 1) := by decide +kernel
theorem dX8_mean_107 : decode cX8_mean 107 = .ok (.lstore 4, 2) := by decide +kernel
theorem dX8_mean_109 : decode cX8_mean 109 = .ok (.goto (-28), 3) := by decide +kernel
theorem dX8_mean_112 : decode cX8_mean 112 = .ok (.iload_n 2, 1) := by decide +kernel
theorem dX8_mean_113 : decode cX8_mean 113 = .ok (.ifCond .ne 8, 3) := by decide +kernel
theorem dX8_mean_116 : decode cX8_mean 116 = .ok (.lload 4, 2) := by decide +kernel
theorem dX8_mean_118 : decode cX8_mean 118 = .ok (.goto 5, 3) := by decide +kernel
theorem dX8_mean_121 : decode cX8_mean 121 = .ok (.lload 6, 2) := by decide +kernel
theorem dX8_mean_123 : decode cX8_mean 123 = .ok (.lreturn, 1) := by decide +kernel
theorem dX8_hangs_0 : decode cX8_hangs 0 = .ok (.iload_n 1, 1) := by decide +kernel
theorem dX8_hangs_1 : decode cX8_hangs 1 = .ok (.invokestatic 103, 3) := by decide +kernel
theorem dX8_hangs_4 : decode cX8_hangs 4 = .ok (.ifCond .ne 5, 3) := by decide +kernel
theorem dX8_hangs_7 : decode cX8_hangs 7 = .ok (.iconst (-1), 1) := by decide +kernel
theorem dX8_hangs_8 : decode cX8_hangs 8 = .ok (.ireturn, 1) := by decide +kernel
theorem dX8_hangs_9 : decode cX8_hangs 9 = .ok (.aload_n 0, 1) := by decide +kernel
theorem dX8_hangs_10 : decode cX8_hangs 10 = .ok (.getfield 28, 3) := by decide +kernel
theorem dX8_hangs_13 : decode cX8_hangs 13 = .ok (.invokevirtual 125, 3) := by decide +kernel
theorem dX8_hangs_16 : decode cX8_hangs 16 = .ok (.ifCond .ne 6, 3) := by decide +kernel
theorem dX8_hangs_19 : decode cX8_hangs 19 = .ok (.bipush (-3), 2) := by decide +kernel
theorem dX8_hangs_21 : decode cX8_hangs 21 = .ok (.ireturn, 1) := by decide +kernel
theorem dX8_hangs_22 : decode cX8_hangs 22 = .ok (.aload_n 0, 1) := by decide +kernel
theorem dX8_hangs_23 : decode cX8_hangs 23 = .ok (.bipush 63, 2) := by decide +kernel
theorem dX8_hangs_25 : decode cX8_hangs 25 = .ok (.iload_n 1, 1) := by decide +kernel
theorem dX8_hangs_26 : decode cX8_hangs 26 = .ok (.invokevirtual 132, 3) := by decide +kernel
theorem dX8_hangs_29 : decode cX8_hangs 29 = .ok (.aload_n 0, 1) := by decide +kernel
theorem dX8_hangs_30 : decode cX8_hangs 30 = .ok (.getfield 37, 3) := by decide +kernel
theorem dX8_hangs_33 : decode cX8_hangs 33 = .ok (.getfield 139, 3) := by decide +kernel
theorem dX8_hangs_36 : decode cX8_hangs 36 = .ok (.istore_n 2, 1) := by decide +kernel
theorem dX8_hangs_37 : decode cX8_hangs 37 = .ok (.iconst 0, 1) := by decide +kernel
theorem dX8_hangs_38 : decode cX8_hangs 38 = .ok (.istore_n 3, 1) := by decide +kernel
theorem dX8_hangs_39 : decode cX8_hangs 39 = .ok (.iconst 0, 1) := by decide +kernel
theorem dX8_hangs_40 : decode cX8_hangs 40 = .ok (.istore 4, 2) := by decide +kernel
theorem dX8_hangs_42 : decode cX8_hangs 42 = .ok (.iload 4, 2) := by decide +kernel
theorem dX8_hangs_44 : decode cX8_hangs 44 = .ok (.aload_n 0, 1) := by decide +kernel
theorem dX8_hangs_45 : decode cX8_hangs 45 = .ok (.getfield 28, 3) := by decide +kernel
theorem dX8_hangs_48 : decode cX8_hangs 48 = .ok (.getfield 80, 3) := by decide +kernel
theorem dX8_hangs_51 : decode cX8_hangs 51 = .ok (.if_icmp .ge 41, 3) := by decide +kernel
theorem dX8_hangs_54 : decode cX8_hangs 54 = .ok (.aload_n 0, 1) := by decide +kernel
theorem dX8_hangs_55 : decode cX8_hangs 55 = .ok (.bipush 63, 2) := by decide +kernel
theorem dX8_hangs_57 : decode cX8_hangs 57 = .ok (.iconst 1, 1) := by decide +kernel
theorem dX8_hangs_58 : decode cX8_hangs 58 = .ok (.iload 4, 2) := by decide +kernel
theorem dX8_hangs_60 : decode cX8_hangs 60 = .ok (.ishl, 1) := by decide +kernel
theorem dX8_hangs_61 : decode cX8_hangs 61 = .ok (.iconst (-1), 1) := by decide +kernel
theorem dX8_hangs_62 : decode cX8_hangs 62 = .ok (.ixor, 1) := by decide +kernel
theorem dX8_hangs_63 : decode cX8_hangs 63 = .ok (.iand, 1) := by decide +kernel
theorem dX8_hangs_64 : decode cX8_hangs 64 = .ok (.iload_n 1, 1) := by decide +kernel
theorem dX8_hangs_65 : decode cX8_hangs 65 = .ok (.invokevirtual 132, 3) := by decide +kernel
theorem dX8_hangs_68 : decode cX8_hangs 68 = .ok (.aload_n 0, 1) := by decide +kernel
theorem dX8_hangs_69 : decode cX8_hangs 69 = .ok (.getfield 37, 3) := by decide +kernel
theorem dX8_hangs_72 : decode cX8_hangs 72 = .ok (.getfield 139, 3) := by decide +kernel
theorem dX8_hangs_75 : decode cX8_hangs 75 = .ok (.iload_n 2, 1) := by decide +kernel
theorem dX8_hangs_76 : decode cX8_hangs 76 = .ok (.if_icmp .eq 10, 3) := by decide +kernel
theorem dX8_hangs_79 : decode cX8_hangs 79 = .ok (.iload_n 3, 1) := by decide +kernel
theorem dX8_hangs_80 : decode cX8_hangs 80 = .ok (.iconst 1, 1) := by decide +kernel
theorem dX8_hangs_81 : decode cX8_hangs 81 = .ok (.iload 4, 2) := by decide +kernel
theorem dX8_hangs_83 : decode cX8_hangs 83 = .ok (.ishl, 1) := by decide +kernel
theorem dX8_hangs_84 : decode cX8_hangs 84 = .ok (.ior, 1) := by decide +kernel
theorem dX8_hangs_85 : decode cX8_hangs 85 = .ok (.istore_n 3, 1) := by decide +kernel
theorem dX8_hangs_86 : decode cX8_hangs 86 = .ok (.iinc 4 1, 3) := by decide +kernel
theorem dX8_hangs_89 : decode cX8_hangs 89 = .ok (.goto (-47), 3) := by decide +kernel
theorem dX8_hangs_92 : decode cX8_hangs 92 = .ok (.iload_n 3, 1) := by decide +kernel
theorem dX8_hangs_93 : decode cX8_hangs 93 = .ok (.ireturn, 1) := by decide +kernel
theorem dX8_reading_0 : decode cX8_reading 0 = .ok (.iload_n 1, 1) := by decide +kernel
theorem dX8_reading_1 : decode cX8_reading 1 = .ok (.invokestatic 103, 3) := by decide +kernel
theorem dX8_reading_4 : decode cX8_reading 4 = .ok (.ifCond .ne 5, 3) := by decide +kernel
theorem dX8_reading_7 : decode cX8_reading 7 = .ok (.iconst (-1), 1) := by decide +kernel
theorem dX8_reading_8 : decode cX8_reading 8 = .ok (.ireturn, 1) := by decide +kernel
theorem dX8_reading_9 : decode cX8_reading 9 = .ok (.iload_n 2, 1) := by decide +kernel
theorem dX8_reading_10 : decode cX8_reading 10 = .ok (.ifCond .lt 9, 3) := by decide +kernel
theorem dX8_reading_13 : decode cX8_reading 13 = .ok (.iload_n 2, 1) := by decide +kernel
theorem dX8_reading_14 : decode cX8_reading 14 = .ok (.bipush 99, 2) := by decide +kernel
theorem dX8_reading_16 : decode cX8_reading 16 = .ok (.if_icmp .le 6, 3) := by decide +kernel
theorem dX8_reading_19 : decode cX8_reading 19 = .ok (.bipush (-2), 2) := by decide +kernel
theorem dX8_reading_21 : decode cX8_reading 21 = .ok (.ireturn, 1) := by decide +kernel
theorem dX8_reading_22 : decode cX8_reading 22 = .ok (.aload_n 0, 1) := by decide +kernel
theorem dX8_reading_23 : decode cX8_reading 23 = .ok (.getfield 28, 3) := by decide +kernel
theorem dX8_reading_26 : decode cX8_reading 26 = .ok (.invokevirtual 125, 3) := by decide +kernel
theorem dX8_reading_29 : decode cX8_reading 29 = .ok (.ifCond .ne 6, 3) := by decide +kernel
theorem dX8_reading_32 : decode cX8_reading 32 = .ok (.bipush (-3), 2) := by decide +kernel
theorem dX8_reading_34 : decode cX8_reading 34 = .ok (.ireturn, 1) := by decide +kernel
theorem dX8_reading_35 : decode cX8_reading 35 = .ok (.aload_n 0, 1) := by decide +kernel
theorem dX8_reading_36 : decode cX8_reading 36 = .ok (.getfield 44, 3) := by decide +kernel
theorem dX8_reading_39 : decode cX8_reading 39 = .ok (.getfield 191, 3) := by decide +kernel
theorem dX8_reading_42 : decode cX8_reading 42 = .ok (.bipush 6, 2) := by decide +kernel
theorem dX8_reading_44 : decode cX8_reading 44 = .ok (.if_icmp .lt 6, 3) := by decide +kernel
theorem dX8_reading_47 : decode cX8_reading 47 = .ok (.bipush (-4), 2) := by decide +kernel
theorem dX8_reading_49 : decode cX8_reading 49 = .ok (.ireturn, 1) := by decide +kernel
theorem dX8_reading_50 : decode cX8_reading 50 = .ok (.aload_n 0, 1) := by decide +kernel
theorem dX8_reading_51 : decode cX8_reading 51 = .ok (.getfield 44, 3) := by decide +kernel
theorem dX8_reading_54 : decode cX8_reading 54 = .ok (.iload_n 1, 1) := by decide +kernel
theorem dX8_reading_55 : decode cX8_reading 55 = .ok (.iload_n 2, 1) := by decide +kernel
theorem dX8_reading_56 : decode cX8_reading 56 = .ok (.invokevirtual 192, 3) := by decide +kernel
theorem dX8_reading_59 : decode cX8_reading 59 = .ok (.aload_n 0, 1) := by decide +kernel
theorem dX8_reading_60 : decode cX8_reading 60 = .ok (.getfield 44, 3) := by decide +kernel
theorem dX8_reading_63 : decode cX8_reading 63 = .ok (.getfield 191, 3) := by decide +kernel
theorem dX8_reading_66 : decode cX8_reading 66 = .ok (.iconst 1, 1) := by decide +kernel
theorem dX8_reading_67 : decode cX8_reading 67 = .ok (.isub, 1) := by decide +kernel
theorem dX8_reading_68 : decode cX8_reading 68 = .ok (.ireturn, 1) := by decide +kernel
theorem dX8_back_0 : decode cX8_back 0 = .ok (.iload_n 1, 1) := by decide +kernel
theorem dX8_back_1 : decode cX8_back 1 = .ok (.ifCond .lt 14, 3) := by decide +kernel
theorem dX8_back_4 : decode cX8_back 4 = .ok (.iload_n 1, 1) := by decide +kernel
theorem dX8_back_5 : decode cX8_back 5 = .ok (.aload_n 0, 1) := by decide +kernel
theorem dX8_back_6 : decode cX8_back 6 = .ok (.getfield 44, 3) := by decide +kernel
theorem dX8_back_9 : decode cX8_back 9 = .ok (.getfield 191, 3) := by decide +kernel
theorem dX8_back_12 : decode cX8_back 12 = .ok (.if_icmp .le 6, 3) := by decide +kernel
theorem dX8_back_15 : decode cX8_back 15 = .ok (.bipush (-2), 2) := by decide +kernel
theorem dX8_back_17 : decode cX8_back 17 = .ok (.ireturn, 1) := by decide +kernel
theorem dX8_back_18 : decode cX8_back 18 = .ok (.aload_n 0, 1) := by decide +kernel
theorem dX8_back_19 : decode cX8_back 19 = .ok (.getfield 44, 3) := by decide +kernel
theorem dX8_back_22 : decode cX8_back 22 = .ok (.aload_n 0, 1) := by decide +kernel
theorem dX8_back_23 : decode cX8_back 23 = .ok (.getfield 44, 3) := by decide +kernel
theorem dX8_back_26 : decode cX8_back 26 = .ok (.getfield 191, 3) := by decide +kernel
theorem dX8_back_29 : decode cX8_back 29 = .ok (.iload_n 1, 1) := by decide +kernel
theorem dX8_back_30 : decode cX8_back 30 = .ok (.isub, 1) := by decide +kernel
theorem dX8_back_31 : decode cX8_back 31 = .ok (.invokevirtual 76, 3) := by decide +kernel
theorem dX8_back_34 : decode cX8_back 34 = .ok (.aload_n 0, 1) := by decide +kernel
theorem dX8_back_35 : decode cX8_back 35 = .ok (.getfield 44, 3) := by decide +kernel
theorem dX8_back_38 : decode cX8_back 38 = .ok (.getfield 191, 3) := by decide +kernel
theorem dX8_back_41 : decode cX8_back 41 = .ok (.ireturn, 1) := by decide +kernel
theorem dX8_values_0 : decode cX8_values 0 = .ok (.aload_n 0, 1) := by decide +kernel
theorem dX8_values_1 : decode cX8_values 1 = .ok (.getfield 28, 3) := by decide +kernel
theorem dX8_values_4 : decode cX8_values 4 = .ok (.iload_n 1, 1) := by decide +kernel
theorem dX8_values_5 : decode cX8_values 5 = .ok (.invokevirtual 83, 3) := by decide +kernel
theorem dX8_values_8 : decode cX8_values 8 = .ok (.astore 4, 2) := by decide +kernel
theorem dX8_values_10 : decode cX8_values 10 = .ok (.aload 4, 2) := by decide +kernel
theorem dX8_values_12 : decode cX8_values 12 = .ok (.ifnull 15, 3) := by decide +kernel
theorem dX8_values_15 : decode cX8_values 15 = .ok (.iload_n 2, 1) := by decide +kernel
theorem dX8_values_16 : decode cX8_values 16 = .ok (.invokestatic 103, 3) := by decide +kernel
theorem dX8_values_19 : decode cX8_values 19 = .ok (.ifCond .eq 8, 3) := by decide +kernel
theorem dX8_values_22 : decode cX8_values 22 = .ok (.iload_n 3, 1) := by decide +kernel
theorem dX8_values_23 : decode cX8_values 23 = .ok (.iconst (-1), 1) := by decide +kernel
theorem dX8_values_24 : decode cX8_values 24 = .ok (.if_icmp .ge 5, 3) := by decide +kernel
theorem dX8_values_27 : decode cX8_values 27 = .ok (.iconst (-1), 1) := by decide +kernel
theorem dX8_values_28 : decode cX8_values 28 = .ok (.ireturn, 1) := by decide +kernel
theorem dX8_values_29 : decode cX8_values 29 = .ok (.iconst 0, 1) := by decide +kernel
theorem dX8_values_30 : decode cX8_values 30 = .ok (.istore 5, 2) := by decide +kernel
theorem dX8_values_32 : decode cX8_values 32 = .ok (.bipush (-9), 2) := by decide +kernel
theorem dX8_values_34 : decode cX8_values 34 = .ok (.istore 6, 2) := by decide +kernel
theorem dX8_values_36 : decode cX8_values 36 = .ok (.iconst 0, 1) := by decide +kernel
theorem dX8_values_37 : decode cX8_values 37 = .ok (.istore 7, 2) := by decide +kernel
theorem dX8_values_39 : decode cX8_values 39 = .ok (.aload_n 0, 1) := by decide +kernel
theorem dX8_values_40 : decode cX8_values 40 = .ok (.iload_n 1, 1) := by decide +kernel
theorem dX8_values_41 : decode cX8_values 41 = .ok (.aload 4, 2) := by decide +kernel
theorem dX8_values_43 : decode cX8_values 43 = .ok (.getfield 93, 3) := by decide +kernel
theorem dX8_values_46 : decode cX8_values 46 = .ok (.iload_n 2, 1) := by decide +kernel
theorem dX8_values_47 : decode cX8_values 47 = .ok (.invokevirtual 195, 3) := by decide +kernel
theorem dX8_values_50 : decode cX8_values 50 = .ok (.istore 8, 2) := by decide +kernel
theorem dX8_values_52 : decode cX8_values 52 = .ok (.iconst 0, 1) := by decide +kernel
theorem dX8_values_53 : decode cX8_values 53 = .ok (.istore 9, 2) := by decide +kernel
theorem dX8_values_55 : decode cX8_values 55 = .ok (.iload 8, 2) := by decide +kernel
theorem dX8_values_57 : decode cX8_values 57 = .ok (.ifCond .eq 80, 3) := by decide +kernel
theorem dX8_values_60 : decode cX8_values 60 = .ok (.iload 9, 2) := by decide +kernel
theorem dX8_values_62 : decode cX8_values 62 = .ok (.bipush 99, 2) := by decide +kernel
theorem dX8_values_64 : decode cX8_values 64 = .ok (.if_icmp .gt 73, 3) := by decide +kernel
theorem dX8_values_67 : decode cX8_values 67 = .ok (.aload 4, 2) := by decide +kernel
theorem dX8_values_69 : decode cX8_values 69 = .ok (.iload 9, 2) := by decide +kernel
theorem dX8_values_71 : decode cX8_values 71 = .ok (.aload 4, 2) := by decide +kernel
theorem dX8_values_73 : decode cX8_values 73 = .ok (.getfield 96, 3) := by decide +kernel
theorem dX8_values_76 : decode cX8_values 76 = .ok (.invokevirtual 110, 3) := by decide +kernel
theorem dX8_values_79 : decode cX8_values 79 = .ok (.istore 10, 2) := by decide +kernel
theorem dX8_values_81 : decode cX8_values 81 = .ok (.iload 10, 2) := by decide +kernel
theorem dX8_values_83 : decode cX8_values 83 = .ok (.iload 6, 2) := by decide +kernel
theorem dX8_values_85 : decode cX8_values 85 = .ok (.if_icmp .eq 17, 3) := by decide +kernel
theorem dX8_values_88 : decode cX8_values 88 = .ok (.iload 10, 2) := by decide +kernel
theorem dX8_values_90 : decode cX8_values 90 = .ok (.istore 6, 2) := by decide +kernel
theorem dX8_values_92 : decode cX8_values 92 = .ok (.aload_n 0, 1) := by decide +kernel
theorem dX8_values_93 : decode cX8_values 93 = .ok (.iload_n 1, 1) := by decide +kernel
theorem dX8_values_94 : decode cX8_values 94 = .ok (.iload_n 2, 1) := by decide +kernel
theorem dX8_values_95 : decode cX8_values 95 = .ok (.iload 6, 2) := by decide +kernel
theorem dX8_values_97 : decode cX8_values 97 = .ok (.invokevirtual 199, 3) := by decide +kernel
theorem dX8_values_100 : decode cX8_values 100 = .ok (.istore 7, 2) := by decide +kernel
theorem dX8_values_102 : decode cX8_values 102 = .ok (.iload 7, 2) := by decide +kernel
theorem dX8_values_104 : decode cX8_values 104 = .ok (.ifCond .eq 12, 3) := by decide +kernel
theorem dX8_values_107 : decode cX8_values 107 = .ok (.iload 5, 2) := by decide +kernel
theorem dX8_values_109 : decode cX8_values 109 = .ok (.iload_n 3, 1) := by decide +kernel
theorem dX8_values_110 : decode cX8_values 110 = .ok (.if_icmp .ne 6, 3) := by decide +kernel
theorem dX8_values_113 : decode cX8_values 113 = .ok (.iload 9, 2) := by decide +kernel
theorem dX8_values_115 : decode cX8_values 115 = .ok (.ireturn, 1) := by decide +kernel
theorem dX8_values_116 : decode cX8_values 116 = .ok (.iload 5, 2) := by decide +kernel
theorem dX8_values_118 : decode cX8_values 118 = .ok (.iload 7, 2) := by decide +kernel
theorem dX8_values_120 : decode cX8_values 120 = .ok (.ifCond .eq 7, 3) := by decide +kernel
theorem dX8_values_123 : decode cX8_values 123 = .ok (.iconst 1, 1) := by decide +kernel
theorem dX8_values_124 : decode cX8_values 124 = .ok (.goto 4, 3) := by decide +kernel
theorem dX8_values_127 : decode cX8_values 127 = .ok (.iconst 0, 1) := by decide +kernel
theorem dX8_values_128 : decode cX8_values 128 = .ok (.iadd, 1) := by decide +kernel
theorem dX8_values_129 : decode cX8_values 129 = .ok (.istore 5, 2) := by decide +kernel
theorem dX8_values_131 : decode cX8_values 131 = .ok (.iinc 9 1, 3) := by decide +kernel
theorem dX8_values_134 : decode cX8_values 134 = .ok (.goto (-79), 3) := by decide +kernel
theorem dX8_values_137 : decode cX8_values 137 = .ok (.iload_n 3, 1) := by decide +kernel
theorem dX8_values_138 : decode cX8_values 138 = .ok (.iconst (-1), 1) := by decide +kernel
theorem dX8_values_139 : decode cX8_values 139 = .ok (.if_icmp .ne 8, 3) := by decide +kernel
theorem dX8_values_142 : decode cX8_values 142 = .ok (.iload 5, 2) := by decide +kernel
theorem dX8_values_144 : decode cX8_values 144 = .ok (.goto 5, 3) := by decide +kernel
theorem dX8_values_147 : decode cX8_values 147 = .ok (.bipush (-9), 2) := by decide +kernel
theorem dX8_values_149 : decode cX8_values 149 = .ok (.ireturn, 1) := by decide +kernel
theorem dX8_places_0 : decode cX8_places 0 = .ok (.aload_n 0, 1) := by decide +kernel
theorem dX8_places_1 : decode cX8_places 1 = .ok (.getfield 28, 3) := by decide +kernel
theorem dX8_places_4 : decode cX8_places 4 = .ok (.iload_n 1, 1) := by decide +kernel
theorem dX8_places_5 : decode cX8_places 5 = .ok (.invokevirtual 83, 3) := by decide +kernel
theorem dX8_places_8 : decode cX8_places 8 = .ok (.astore_n 2, 1) := by decide +kernel
theorem dX8_places_9 : decode cX8_places 9 = .ok (.aload_n 2, 1) := by decide +kernel
theorem dX8_places_10 : decode cX8_places 10 = .ok (.ifnonnull 5, 3) := by decide +kernel
theorem dX8_places_13 : decode cX8_places 13 = .ok (.iconst (-1), 1) := by decide +kernel
theorem dX8_places_14 : decode cX8_places 14 = .ok (.ireturn, 1) := by decide +kernel
theorem dX8_places_15 : decode cX8_places 15 = .ok (.iconst 0, 1) := by decide +kernel
theorem dX8_places_16 : decode cX8_places 16 = .ok (.istore_n 3, 1) := by decide +kernel
theorem dX8_places_17 : decode cX8_places 17 = .ok (.iconst 0, 1) := by decide +kernel
theorem dX8_places_18 : decode cX8_places 18 = .ok (.istore 4, 2) := by decide +kernel
theorem dX8_places_20 : decode cX8_places 20 = .ok (.iload 4, 2) := by decide +kernel
theorem dX8_places_22 : decode cX8_places 22 = .ok (.aload_n 0, 1) := by decide +kernel
theorem dX8_places_23 : decode cX8_places 23 = .ok (.getfield 28, 3) := by decide +kernel
theorem dX8_places_26 : decode cX8_places 26 = .ok (.getfield 114, 3) := by decide +kernel
theorem dX8_places_29 : decode cX8_places 29 = .ok (.if_icmp .ge 41, 3) := by decide +kernel
theorem dX8_places_32 : decode cX8_places 32 = .ok (.aload_n 0, 1) := by decide +kernel
theorem dX8_places_33 : decode cX8_places 33 = .ok (.getfield 28, 3) := by decide +kernel
theorem dX8_places_36 : decode cX8_places 36 = .ok (.aload_n 2, 1) := by decide +kernel
theorem dX8_places_37 : decode cX8_places 37 = .ok (.iload 4, 2) := by decide +kernel
theorem dX8_places_39 : decode cX8_places 39 = .ok (.invokevirtual 121, 3) := by decide +kernel
theorem dX8_places_42 : decode cX8_places 42 = .ok (.ifCond .eq 22, 3) := by decide +kernel
theorem dX8_places_45 : decode cX8_places 45 = .ok (.aload_n 0, 1) := by decide +kernel
theorem dX8_places_46 : decode cX8_places 46 = .ok (.iload_n 1, 1) := by decide +kernel
theorem dX8_places_47 : decode cX8_places 47 = .ok (.iload 4, 2) := by decide +kernel
theorem dX8_places_49 : decode cX8_places 49 = .ok (.bipush (-9), 2) := by decide +kernel
theorem dX8_places_51 : decode cX8_places 51 = .ok (.invokevirtual 195, 3) := by decide +kernel
theorem dX8_places_54 : decode cX8_places 54 = .ok (.ifCond .eq 10, 3) := by decide +kernel
theorem dX8_places_57 : decode cX8_places 57 = .ok (.iload_n 3, 1) := by decide +kernel
theorem dX8_places_58 : decode cX8_places 58 = .ok (.iconst 1, 1) := by decide +kernel
theorem dX8_places_59 : decode cX8_places 59 = .ok (.iload 4, 2) := by decide +kernel
theorem dX8_places_61 : decode cX8_places 61 = .ok (.ishl, 1) := by decide +kernel
theorem dX8_places_62 : decode cX8_places 62 = .ok (.ior, 1) := by decide +kernel
theorem dX8_places_63 : decode cX8_places 63 = .ok (.istore_n 3, 1) := by decide +kernel
theorem dX8_places_64 : decode cX8_places 64 = .ok (.iinc 4 1, 3) := by decide +kernel
theorem dX8_places_67 : decode cX8_places 67 = .ok (.goto (-47), 3) := by decide +kernel
theorem dX8_places_70 : decode cX8_places 70 = .ok (.iload_n 3, 1) := by decide +kernel
theorem dX8_places_71 : decode cX8_places 71 = .ok (.ireturn, 1) := by decide +kernel
theorem dX8_sheet_0 : decode cX8_sheet 0 = .ok (.aload_n 0, 1) := by decide +kernel
theorem dX8_sheet_1 : decode cX8_sheet 1 = .ok (.iconst 0, 1) := by decide +kernel
theorem dX8_sheet_2 : decode cX8_sheet 2 = .ok (.putfield 48, 3) := by decide +kernel
theorem dX8_sheet_5 : decode cX8_sheet 5 = .ok (.aload_n 0, 1) := by decide +kernel
theorem dX8_sheet_6 : decode cX8_sheet 6 = .ok (.iload_n 1, 1) := by decide +kernel
theorem dX8_sheet_7 : decode cX8_sheet 7 = .ok (.invokevirtual 52, 3) := by decide +kernel
theorem dX8_sheet_10 : decode cX8_sheet 10 = .ok (.astore 4, 2) := by decide +kernel
theorem dX8_sheet_12 : decode cX8_sheet 12 = .ok (.aload 4, 2) := by decide +kernel
theorem dX8_sheet_14 : decode cX8_sheet 14 = .ok (.ifnonnull 5, 3) := by decide +kernel
theorem dX8_sheet_17 : decode cX8_sheet 17 = .ok (.iconst (-1), 1) := by decide +kernel
theorem dX8_sheet_18 : decode cX8_sheet 18 = .ok (.ireturn, 1) := by decide +kernel
theorem dX8_sheet_19 : decode cX8_sheet 19 = .ok (.iload_n 2, 1) := by decide +kernel
theorem dX8_sheet_20 : decode cX8_sheet 20 = .ok (.invokestatic 56, 3) := by decide +kernel
theorem dX8_sheet_23 : decode cX8_sheet 23 = .ok (.ifCond .eq 9, 3) := by decide +kernel
theorem dX8_sheet_26 : decode cX8_sheet 26 = .ok (.iload_n 3, 1) := by decide +kernel
theorem dX8_sheet_27 : decode cX8_sheet 27 = .ok (.bipush 60, 2) := by decide +kernel
theorem dX8_sheet_29 : decode cX8_sheet 29 = .ok (.if_icmp .le 6, 3) := by decide +kernel
theorem dX8_sheet_32 : decode cX8_sheet 32 = .ok (.bipush (-2), 2) := by decide +kernel
theorem dX8_sheet_34 : decode cX8_sheet 34 = .ok (.ireturn, 1) := by decide +kernel
theorem dX8_sheet_35 : decode cX8_sheet 35 = .ok (.iload_n 3, 1) := by decide +kernel
theorem dX8_sheet_36 : decode cX8_sheet 36 = .ok (.ifCond .ge 9, 3) := by decide +kernel
theorem dX8_sheet_39 : decode cX8_sheet 39 = .ok (.aload_n 0, 1) := by decide +kernel
theorem dX8_sheet_40 : decode cX8_sheet 40 = .ok (.iconst 4, 1) := by decide +kernel
theorem dX8_sheet_41 : decode cX8_sheet 41 = .ok (.invokevirtual 64, 3) := by decide +kernel
theorem dX8_sheet_44 : decode cX8_sheet 44 = .ok (.ireturn, 1) := by decide +kernel
theorem dX8_sheet_45 : decode cX8_sheet 45 = .ok (.aload 4, 2) := by decide +kernel
theorem dX8_sheet_47 : decode cX8_sheet 47 = .ok (.iload_n 2, 1) := by decide +kernel
theorem dX8_sheet_48 : decode cX8_sheet 48 = .ok (.iload_n 3, 1) := by decide +kernel
theorem dX8_sheet_49 : decode cX8_sheet 49 = .ok (.invokevirtual 202, 3) := by decide +kernel
theorem dX8_sheet_52 : decode cX8_sheet 52 = .ok (.iconst 1, 1) := by decide +kernel
theorem dX8_sheet_53 : decode cX8_sheet 53 = .ok (.ireturn, 1) := by decide +kernel
theorem dX8_lose_0 : decode cX8_lose 0 = .ok (.aload_n 0, 1) := by decide +kernel
theorem dX8_lose_1 : decode cX8_lose 1 = .ok (.iload_n 1, 1) := by decide +kernel
theorem dX8_lose_2 : decode cX8_lose 2 = .ok (.invokevirtual 52, 3) := by decide +kernel
theorem dX8_lose_5 : decode cX8_lose 5 = .ok (.astore_n 2, 1) := by decide +kernel
theorem dX8_lose_6 : decode cX8_lose 6 = .ok (.aload_n 2, 1) := by decide +kernel
theorem dX8_lose_7 : decode cX8_lose 7 = .ok (.ifnonnull 5, 3) := by decide +kernel
theorem dX8_lose_10 : decode cX8_lose 10 = .ok (.iconst (-1), 1) := by decide +kernel
theorem dX8_lose_11 : decode cX8_lose 11 = .ok (.ireturn, 1) := by decide +kernel
theorem dX8_lose_12 : decode cX8_lose 12 = .ok (.aload_n 2, 1) := by decide +kernel
theorem dX8_lose_13 : decode cX8_lose 13 = .ok (.getfield 205, 3) := by decide +kernel
theorem dX8_lose_16 : decode cX8_lose 16 = .ok (.iconst (-1), 1) := by decide +kernel
theorem dX8_lose_17 : decode cX8_lose 17 = .ok (.if_icmp .ne 5, 3) := by decide +kernel
theorem dX8_lose_20 : decode cX8_lose 20 = .ok (.iconst 0, 1) := by decide +kernel
theorem dX8_lose_21 : decode cX8_lose 21 = .ok (.ireturn, 1) := by decide +kernel
theorem dX8_lose_22 : decode cX8_lose 22 = .ok (.aload_n 2, 1) := by decide +kernel
theorem dX8_lose_23 : decode cX8_lose 23 = .ok (.iconst (-1), 1) := by decide +kernel
theorem dX8_lose_24 : decode cX8_lose 24 = .ok (.iconst 0, 1) := by decide +kernel
theorem dX8_lose_25 : decode cX8_lose 25 = .ok (.invokevirtual 202, 3) := by decide +kernel
theorem dX8_lose_28 : decode cX8_lose 28 = .ok (.iconst 1, 1) := by decide +kernel
theorem dX8_lose_29 : decode cX8_lose 29 = .ok (.ireturn, 1) := by decide +kernel
theorem dX8_put_0 : decode cX8_put 0 = .ok (.aload_n 0, 1) := by decide +kernel
theorem dX8_put_1 : decode cX8_put 1 = .ok (.iconst 0, 1) := by decide +kernel
theorem dX8_put_2 : decode cX8_put 2 = .ok (.putfield 48, 3) := by decide +kernel
theorem dX8_put_5 : decode cX8_put 5 = .ok (.aload_n 0, 1) := by decide +kernel
theorem dX8_put_6 : decode cX8_put 6 = .ok (.iload_n 1, 1) := by decide +kernel
theorem dX8_put_7 : decode cX8_put 7 = .ok (.invokevirtual 52, 3) := by decide +kernel
theorem dX8_put_10 : decode cX8_put 10 = .ok (.astore 4, 2) := by decide +kernel
theorem dX8_put_12 : decode cX8_put 12 = .ok (.aload 4, 2) := by decide +kernel
theorem dX8_put_14 : decode cX8_put 14 = .ok (.ifnonnull 5, 3) := by decide +kernel
theorem dX8_put_17 : decode cX8_put 17 = .ok (.iconst (-1), 1) := by decide +kernel
theorem dX8_put_18 : decode cX8_put 18 = .ok (.ireturn, 1) := by decide +kernel
theorem dX8_put_19 : decode cX8_put 19 = .ok (.aload 4, 2) := by decide +kernel
theorem dX8_put_21 : decode cX8_put 21 = .ok (.aload 4, 2) := by decide +kernel
theorem dX8_put_23 : decode cX8_put 23 = .ok (.getfield 205, 3) := by decide +kernel
theorem dX8_put_26 : decode cX8_put 26 = .ok (.iload_n 2, 1) := by decide +kernel
theorem dX8_put_27 : decode cX8_put 27 = .ok (.iconst 1, 1) := by decide +kernel
theorem dX8_put_28 : decode cX8_put 28 = .ok (.invokevirtual 60, 3) := by decide +kernel
theorem dX8_put_31 : decode cX8_put 31 = .ok (.istore 5, 2) := by decide +kernel
theorem dX8_put_33 : decode cX8_put 33 = .ok (.iload 5, 2) := by decide +kernel
theorem dX8_put_35 : decode cX8_put 35 = .ok (.ifCond .eq 10, 3) := by decide +kernel
theorem dX8_put_38 : decode cX8_put 38 = .ok (.aload_n 0, 1) := by decide +kernel
theorem dX8_put_39 : decode cX8_put 39 = .ok (.iload 5, 2) := by decide +kernel
theorem dX8_put_41 : decode cX8_put 41 = .ok (.invokevirtual 64, 3) := by decide +kernel
theorem dX8_put_44 : decode cX8_put 44 = .ok (.ireturn, 1) := by decide +kernel
theorem dX8_put_45 : decode cX8_put 45 = .ok (.aload 4, 2) := by decide +kernel
theorem dX8_put_47 : decode cX8_put 47 = .ok (.iload_n 2, 1) := by decide +kernel
theorem dX8_put_48 : decode cX8_put 48 = .ok (.iload_n 3, 1) := by decide +kernel
theorem dX8_put_49 : decode cX8_put 49 = .ok (.invokevirtual 208, 3) := by decide +kernel
theorem dX8_put_52 : decode cX8_put 52 = .ok (.iconst 1, 1) := by decide +kernel
theorem dX8_put_53 : decode cX8_put 53 = .ok (.ireturn, 1) := by decide +kernel
theorem dX8_cell_0 : decode cX8_cell 0 = .ok (.aload_n 0, 1) := by decide +kernel
theorem dX8_cell_1 : decode cX8_cell 1 = .ok (.iconst 0, 1) := by decide +kernel
theorem dX8_cell_2 : decode cX8_cell 2 = .ok (.putfield 48, 3) := by decide +kernel
theorem dX8_cell_5 : decode cX8_cell 5 = .ok (.aload_n 0, 1) := by decide +kernel
theorem dX8_cell_6 : decode cX8_cell 6 = .ok (.iload_n 1, 1) := by decide +kernel
theorem dX8_cell_7 : decode cX8_cell 7 = .ok (.invokevirtual 52, 3) := by decide +kernel
theorem dX8_cell_10 : decode cX8_cell 10 = .ok (.astore 4, 2) := by decide +kernel
theorem dX8_cell_12 : decode cX8_cell 12 = .ok (.aload 4, 2) := by decide +kernel
theorem dX8_cell_14 : decode cX8_cell 14 = .ok (.ifnull 10, 3) := by decide +kernel
theorem dX8_cell_17 : decode cX8_cell 17 = .ok (.iload_n 3, 1) := by decide +kernel
theorem dX8_cell_18 : decode cX8_cell 18 = .ok (.invokestatic 56, 3) := by decide +kernel
theorem dX8_cell_21 : decode cX8_cell 21 = .ok (.ifCond .ne 7, 3) := by decide +kernel
theorem dX8_cell_24 : decode cX8_cell 24 = .ok (.ldc2_w 189, 3) := by decide +kernel
theorem dX8_cell_27 : decode cX8_cell 27 = .ok (.lreturn, 1) := by decide +kernel
theorem dX8_cell_28 : decode cX8_cell 28 = .ok (.aload 4, 2) := by decide +kernel
theorem dX8_cell_30 : decode cX8_cell 30 = .ok (.iload_n 3, 1) := by decide +kernel
theorem dX8_cell_31 : decode cX8_cell 31 = .ok (.iload_n 2, 1) := by decide +kernel
theorem dX8_cell_32 : decode cX8_cell 32 = .ok (.iconst 1, 1) := by decide +kernel
theorem dX8_cell_33 : decode cX8_cell 33 = .ok (.invokevirtual 60, 3) := by decide +kernel
theorem dX8_cell_36 : decode cX8_cell 36 = .ok (.istore 5, 2) := by decide +kernel
theorem dX8_cell_38 : decode cX8_cell 38 = .ok (.iload 5, 2) := by decide +kernel
theorem dX8_cell_40 : decode cX8_cell 40 = .ok (.ifCond .eq 14, 3) := by decide +kernel
theorem dX8_cell_43 : decode cX8_cell 43 = .ok (.aload_n 0, 1) := by decide +kernel
theorem dX8_cell_44 : decode cX8_cell 44 = .ok (.iload 5, 2) := by decide +kernel
theorem dX8_cell_46 : decode cX8_cell 46 = .ok (.invokevirtual 64, 3) := by decide +kernel
theorem dX8_cell_49 : decode cX8_cell 49 = .ok (.pop, 1) := by decide +kernel
theorem dX8_cell_50 : decode cX8_cell 50 = .ok (.ldc2_w 189, 3) := by decide +kernel
theorem dX8_cell_53 : decode cX8_cell 53 = .ok (.lreturn, 1) := by decide +kernel
theorem dX8_cell_54 : decode cX8_cell 54 = .ok (.aload 4, 2) := by decide +kernel
theorem dX8_cell_56 : decode cX8_cell 56 = .ok (.iload_n 2, 1) := by decide +kernel
theorem dX8_cell_57 : decode cX8_cell 57 = .ok (.invokevirtual 209, 3) := by decide +kernel
theorem dX8_cell_60 : decode cX8_cell 60 = .ok (.i2l, 1) := by decide +kernel
theorem dX8_cell_61 : decode cX8_cell 61 = .ok (.lreturn, 1) := by decide +kernel
theorem dX8_copy_0 : decode cX8_copy 0 = .ok (.aload_n 0, 1) := by decide +kernel
theorem dX8_copy_1 : decode cX8_copy 1 = .ok (.iconst 0, 1) := by decide +kernel
theorem dX8_copy_2 : decode cX8_copy 2 = .ok (.putfield 48, 3) := by decide +kernel
theorem dX8_copy_5 : decode cX8_copy 5 = .ok (.aload_n 0, 1) := by decide +kernel
theorem dX8_copy_6 : decode cX8_copy 6 = .ok (.iload_n 1, 1) := by decide +kernel
theorem dX8_copy_7 : decode cX8_copy 7 = .ok (.invokevirtual 52, 3) := by decide +kernel
theorem dX8_copy_10 : decode cX8_copy 10 = .ok (.astore 6, 2) := by decide +kernel
theorem dX8_copy_12 : decode cX8_copy 12 = .ok (.aload_n 0, 1) := by decide +kernel
theorem dX8_copy_13 : decode cX8_copy 13 = .ok (.iload_n 3, 1) := by decide +kernel
theorem dX8_copy_14 : decode cX8_copy 14 = .ok (.invokevirtual 52, 3) := by decide +kernel
theorem dX8_copy_17 : decode cX8_copy 17 = .ok (.astore 7, 2) := by decide +kernel
theorem dX8_copy_19 : decode cX8_copy 19 = .ok (.aload 6, 2) := by decide +kernel
theorem dX8_copy_21 : decode cX8_copy 21 = .ok (.ifnull 8, 3) := by decide +kernel
theorem dX8_copy_24 : decode cX8_copy 24 = .ok (.aload 7, 2) := by decide +kernel
theorem dX8_copy_26 : decode cX8_copy 26 = .ok (.ifnonnull 5, 3) := by decide +kernel
theorem dX8_copy_29 : decode cX8_copy 29 = .ok (.iconst (-1), 1) := by decide +kernel
theorem dX8_copy_30 : decode cX8_copy 30 = .ok (.ireturn, 1) := by decide +kernel
theorem dX8_copy_31 : decode cX8_copy 31 = .ok (.aload 6, 2) := by decide +kernel
theorem dX8_copy_33 : decode cX8_copy 33 = .ok (.getfield 205, 3) := by decide +kernel
theorem dX8_copy_36 : decode cX8_copy 36 = .ok (.iconst (-1), 1) := by decide +kernel
theorem dX8_copy_37 : decode cX8_copy 37 = .ok (.if_icmp .eq 12, 3) := by decide +kernel
theorem dX8_copy_40 : decode cX8_copy 40 = .ok (.aload 7, 2) := by decide +kernel
theorem dX8_copy_42 : decode cX8_copy 42 = .ok (.getfield 205, 3) := by decide +kernel
theorem dX8_copy_45 : decode cX8_copy 45 = .ok (.iconst (-1), 1) := by decide +kernel
theorem dX8_copy_46 : decode cX8_copy 46 = .ok (.if_icmp .ne 9, 3) := by decide +kernel
theorem dX8_copy_49 : decode cX8_copy 49 = .ok (.aload_n 0, 1) := by decide +kernel
theorem dX8_copy_50 : decode cX8_copy 50 = .ok (.iconst 1, 1) := by decide +kernel
theorem dX8_copy_51 : decode cX8_copy 51 = .ok (.invokevirtual 64, 3) := by decide +kernel
theorem dX8_copy_54 : decode cX8_copy 54 = .ok (.ireturn, 1) := by decide +kernel
theorem dX8_copy_55 : decode cX8_copy 55 = .ok (.aload 6, 2) := by decide +kernel
theorem dX8_copy_57 : decode cX8_copy 57 = .ok (.getfield 205, 3) := by decide +kernel
theorem dX8_copy_60 : decode cX8_copy 60 = .ok (.aload 7, 2) := by decide +kernel
theorem dX8_copy_62 : decode cX8_copy 62 = .ok (.getfield 205, 3) := by decide +kernel
theorem dX8_copy_65 : decode cX8_copy 65 = .ok (.if_icmp .eq 9, 3) := by decide +kernel
theorem dX8_copy_68 : decode cX8_copy 68 = .ok (.aload_n 0, 1) := by decide +kernel
theorem dX8_copy_69 : decode cX8_copy 69 = .ok (.iconst 2, 1) := by decide +kernel
theorem dX8_copy_70 : decode cX8_copy 70 = .ok (.invokevirtual 64, 3) := by decide +kernel
theorem dX8_copy_73 : decode cX8_copy 73 = .ok (.ireturn, 1) := by decide +kernel
theorem dX8_copy_74 : decode cX8_copy 74 = .ok (.iload 5, 2) := by decide +kernel
theorem dX8_copy_76 : decode cX8_copy 76 = .ok (.ifCond .lt 26, 3) := by decide +kernel
theorem dX8_copy_79 : decode cX8_copy 79 = .ok (.aload 6, 2) := by decide +kernel
theorem dX8_copy_81 : decode cX8_copy 81 = .ok (.iload_n 2, 1) := by decide +kernel
theorem dX8_copy_82 : decode cX8_copy 82 = .ok (.iload 5, 2) := by decide +kernel
theorem dX8_copy_84 : decode cX8_copy 84 = .ok (.invokevirtual 212, 3) := by decide +kernel
theorem dX8_copy_87 : decode cX8_copy 87 = .ok (.ifCond .eq 15, 3) := by decide +kernel
theorem dX8_copy_90 : decode cX8_copy 90 = .ok (.aload 7, 2) := by decide +kernel
theorem dX8_copy_92 : decode cX8_copy 92 = .ok (.iload 4, 2) := by decide +kernel
theorem dX8_copy_94 : decode cX8_copy 94 = .ok (.iload 5, 2) := by decide +kernel
theorem dX8_copy_96 : decode cX8_copy 96 = .ok (.invokevirtual 212, 3) := by decide +kernel
theorem dX8_copy_99 : decode cX8_copy 99 = .ok (.ifCond .ne 9, 3) := by decide +kernel
theorem dX8_copy_102 : decode cX8_copy 102 = .ok (.aload_n 0, 1) := by decide +kernel
theorem dX8_copy_103 : decode cX8_copy 103 = .ok (.iconst 3, 1) := by decide +kernel
theorem dX8_copy_104 : decode cX8_copy 104 = .ok (.invokevirtual 64, 3) := by decide +kernel
theorem dX8_copy_107 : decode cX8_copy 107 = .ok (.ireturn, 1) := by decide +kernel
theorem dX8_copy_108 : decode cX8_copy 108 = .ok (.aload 6, 2) := by decide +kernel
theorem dX8_copy_110 : decode cX8_copy 110 = .ok (.getfield 215, 3) := by decide +kernel
theorem dX8_copy_113 : decode cX8_copy 113 = .ok (.iload_n 2, 1) := by decide +kernel
theorem dX8_copy_114 : decode cX8_copy 114 = .ok (.aload 7, 2) := by decide +kernel
theorem dX8_copy_116 : decode cX8_copy 116 = .ok (.getfield 215, 3) := by decide +kernel
theorem dX8_copy_119 : decode cX8_copy 119 = .ok (.iload 4, 2) := by decide +kernel
theorem dX8_copy_121 : decode cX8_copy 121 = .ok (.iload 5, 2) := by decide +kernel
theorem dX8_copy_123 : decode cX8_copy 123 = .ok (.invokestatic 218, 3) := by decide +kernel
theorem dX8_copy_126 : decode cX8_copy 126 = .ok (.iload 5, 2) := by decide +kernel
theorem dX8_copy_128 : decode cX8_copy 128 = .ok (.ireturn, 1) := by decide +kernel
theorem dX8_tell_0 : decode cX8_tell 0 = .ok (.aload_n 0, 1) := by decide +kernel
theorem dX8_tell_1 : decode cX8_tell 1 = .ok (.getfield 28, 3) := by decide +kernel
theorem dX8_tell_4 : decode cX8_tell 4 = .ok (.iload_n 1, 1) := by decide +kernel
theorem dX8_tell_5 : decode cX8_tell 5 = .ok (.invokevirtual 83, 3) := by decide +kernel
theorem dX8_tell_8 : decode cX8_tell 8 = .ok (.astore_n 2, 1) := by decide +kernel
theorem dX8_tell_9 : decode cX8_tell 9 = .ok (.aload_n 2, 1) := by decide +kernel
theorem dX8_tell_10 : decode cX8_tell 10 = .ok (.ifnonnull 7, 3) := by decide +kernel
theorem dX8_tell_13 : decode cX8_tell 13 = .ok (.iconst (-1), 1) := by decide +kernel
theorem dX8_tell_14 : decode cX8_tell 14 = .ok (.goto 11, 3) := by decide +kernel
theorem dX8_tell_17 : decode cX8_tell 17 = .ok (.aload_n 2, 1) := by decide +kernel
theorem dX8_tell_18 : decode cX8_tell 18 = .ok (.aload_n 0, 1) := by decide +kernel
theorem dX8_tell_19 : decode cX8_tell 19 = .ok (.getfield 21, 3) := by decide +kernel
theorem dX8_tell_22 : decode cX8_tell 22 = .ok (.invokevirtual 224, 3) := by decide +kernel
theorem dX8_tell_25 : decode cX8_tell 25 = .ok (.ireturn, 1) := by decide +kernel
theorem dX8_nod_0 : decode cX8_nod 0 = .ok (.aload_n 0, 1) := by decide +kernel
theorem dX8_nod_1 : decode cX8_nod 1 = .ok (.getfield 28, 3) := by decide +kernel
theorem dX8_nod_4 : decode cX8_nod 4 = .ok (.iload_n 1, 1) := by decide +kernel
theorem dX8_nod_5 : decode cX8_nod 5 = .ok (.invokevirtual 83, 3) := by decide +kernel
theorem dX8_nod_8 : decode cX8_nod 8 = .ok (.astore_n 2, 1) := by decide +kernel
theorem dX8_nod_9 : decode cX8_nod 9 = .ok (.aload_n 2, 1) := by decide +kernel
theorem dX8_nod_10 : decode cX8_nod 10 = .ok (.ifnonnull 7, 3) := by decide +kernel
theorem dX8_nod_13 : decode cX8_nod 13 = .ok (.iconst (-1), 1) := by decide +kernel
theorem dX8_nod_14 : decode cX8_nod 14 = .ok (.goto 11, 3) := by decide +kernel
theorem dX8_nod_17 : decode cX8_nod 17 = .ok (.aload_n 2, 1) := by decide +kernel
theorem dX8_nod_18 : decode cX8_nod 18 = .ok (.aload_n 0, 1) := by decide +kernel
theorem dX8_nod_19 : decode cX8_nod 19 = .ok (.getfield 21, 3) := by decide +kernel
theorem dX8_nod_22 : decode cX8_nod 22 = .ok (.invokevirtual 228, 3) := by decide +kernel
theorem dX8_nod_25 : decode cX8_nod 25 = .ok (.ireturn, 1) := by decide +kernel
theorem dX8_as_0 : decode cX8_as 0 = .ok (.aload_n 0, 1) := by decide +kernel
theorem dX8_as_1 : decode cX8_as 1 = .ok (.iconst 0, 1) := by decide +kernel
theorem dX8_as_2 : decode cX8_as 2 = .ok (.putfield 48, 3) := by decide +kernel
theorem dX8_as_5 : decode cX8_as 5 = .ok (.aload_n 0, 1) := by decide +kernel
theorem dX8_as_6 : decode cX8_as 6 = .ok (.getfield 28, 3) := by decide +kernel
theorem dX8_as_9 : decode cX8_as 9 = .ok (.iload_n 1, 1) := by decide +kernel
theorem dX8_as_10 : decode cX8_as 10 = .ok (.invokevirtual 83, 3) := by decide +kernel
theorem dX8_as_13 : decode cX8_as 13 = .ok (.astore_n 3, 1) := by decide +kernel
theorem dX8_as_14 : decode cX8_as 14 = .ok (.aload_n 3, 1) := by decide +kernel
theorem dX8_as_15 : decode cX8_as 15 = .ok (.ifnonnull 5, 3) := by decide +kernel
theorem dX8_as_18 : decode cX8_as 18 = .ok (.iconst (-1), 1) := by decide +kernel
theorem dX8_as_19 : decode cX8_as 19 = .ok (.ireturn, 1) := by decide +kernel
theorem dX8_as_20 : decode cX8_as 20 = .ok (.iload_n 2, 1) := by decide +kernel
theorem dX8_as_21 : decode cX8_as 21 = .ok (.iconst 3, 1) := by decide +kernel
theorem dX8_as_22 : decode cX8_as 22 = .ok (.invokestatic 117, 3) := by decide +kernel
theorem dX8_as_25 : decode cX8_as 25 = .ok (.ifCond .ne 6, 3) := by decide +kernel
theorem dX8_as_28 : decode cX8_as 28 = .ok (.bipush (-2), 2) := by decide +kernel
theorem dX8_as_30 : decode cX8_as 30 = .ok (.ireturn, 1) := by decide +kernel
theorem dX8_as_31 : decode cX8_as 31 = .ok (.iload_n 2, 1) := by decide +kernel
theorem dX8_as_32 : decode cX8_as 32 = .ok (.ifCond .eq 27, 3) := by decide +kernel
theorem dX8_as_35 : decode cX8_as 35 = .ok (.iload_n 2, 1) := by decide +kernel
theorem dX8_as_36 : decode cX8_as 36 = .ok (.iconst 1, 1) := by decide +kernel
theorem dX8_as_37 : decode cX8_as 37 = .ok (.if_icmp .ne 10, 3) := by decide +kernel
theorem dX8_as_40 : decode cX8_as 40 = .ok (.aload_n 3, 1) := by decide +kernel
theorem dX8_as_41 : decode cX8_as 41 = .ok (.instanceof 231, 3) := by decide +kernel
theorem dX8_as_44 : decode cX8_as 44 = .ok (.ifCond .ne 15, 3) := by decide +kernel
theorem dX8_as_47 : decode cX8_as 47 = .ok (.iload_n 2, 1) := by decide +kernel
theorem dX8_as_48 : decode cX8_as 48 = .ok (.iconst 2, 1) := by decide +kernel
theorem dX8_as_49 : decode cX8_as 49 = .ok (.if_icmp .ne 14, 3) := by decide +kernel
theorem dX8_as_52 : decode cX8_as 52 = .ok (.aload_n 3, 1) := by decide +kernel
theorem dX8_as_53 : decode cX8_as 53 = .ok (.instanceof 233, 3) := by decide +kernel
theorem dX8_as_56 : decode cX8_as 56 = .ok (.ifCond .eq 7, 3) := by decide +kernel
theorem dX8_as_59 : decode cX8_as 59 = .ok (.iconst 1, 1) := by decide +kernel
theorem dX8_as_60 : decode cX8_as 60 = .ok (.goto 4, 3) := by decide +kernel
theorem dX8_as_63 : decode cX8_as 63 = .ok (.iconst 0, 1) := by decide +kernel
theorem dX8_as_64 : decode cX8_as 64 = .ok (.istore 4, 2) := by decide +kernel
theorem dX8_as_66 : decode cX8_as 66 = .ok (.iload 4, 2) := by decide +kernel
theorem dX8_as_68 : decode cX8_as 68 = .ok (.ifCond .eq 7, 3) := by decide +kernel
theorem dX8_as_71 : decode cX8_as 71 = .ok (.iconst 1, 1) := by decide +kernel
theorem dX8_as_72 : decode cX8_as 72 = .ok (.goto 8, 3) := by decide +kernel
theorem dX8_as_75 : decode cX8_as 75 = .ok (.aload_n 0, 1) := by decide +kernel
theorem dX8_as_76 : decode cX8_as 76 = .ok (.iconst 2, 1) := by decide +kernel
theorem dX8_as_77 : decode cX8_as 77 = .ok (.invokevirtual 64, 3) := by decide +kernel
theorem dX8_as_80 : decode cX8_as 80 = .ok (.ireturn, 1) := by decide +kernel
theorem dX8_trace_0 : decode cX8_trace 0 = .ok (.aload_n 0, 1) := by decide +kernel
theorem dX8_trace_1 : decode cX8_trace 1 = .ok (.getfield 21, 3) := by decide +kernel
theorem dX8_trace_4 : decode cX8_trace 4 = .ok (.getfield 235, 3) := by decide +kernel
theorem dX8_trace_7 : decode cX8_trace 7 = .ok (.ireturn, 1) := by decide +kernel
theorem dX8_fault_0 : decode cX8_fault 0 = .ok (.aload_n 0, 1) := by decide +kernel
theorem dX8_fault_1 : decode cX8_fault 1 = .ok (.getfield 48, 3) := by decide +kernel
theorem dX8_fault_4 : decode cX8_fault 4 = .ok (.ireturn, 1) := by decide +kernel
theorem dX8_many_0 : decode cX8_many 0 = .ok (.iload_n 1, 1) := by decide +kernel
theorem dX8_many_1 : decode cX8_many 1 = .ok (.tableswitch 63 0 3 #[31, 39, 47, 55], 31) := by decide +kernel
theorem dX8_many_32 : decode cX8_many 32 = .ok (.aload_n 0, 1) := by decide +kernel
theorem dX8_many_33 : decode cX8_many 33 = .ok (.getfield 28, 3) := by decide +kernel
theorem dX8_many_36 : decode cX8_many 36 = .ok (.getfield 80, 3) := by decide +kernel
theorem dX8_many_39 : decode cX8_many 39 = .ok (.ireturn, 1) := by decide +kernel
theorem dX8_many_40 : decode cX8_many 40 = .ok (.aload_n 0, 1) := by decide +kernel
theorem dX8_many_41 : decode cX8_many 41 = .ok (.getfield 28, 3) := by decide +kernel
theorem dX8_many_44 : decode cX8_many 44 = .ok (.getfield 114, 3) := by decide +kernel
theorem dX8_many_47 : decode cX8_many 47 = .ok (.ireturn, 1) := by decide +kernel
theorem dX8_many_48 : decode cX8_many 48 = .ok (.aload_n 0, 1) := by decide +kernel
theorem dX8_many_49 : decode cX8_many 49 = .ok (.getfield 28, 3) := by decide +kernel
theorem dX8_many_52 : decode cX8_many 52 = .ok (.getfield 129, 3) := by decide +kernel
theorem dX8_many_55 : decode cX8_many 55 = .ok (.ireturn, 1) := by decide +kernel
theorem dX8_many_56 : decode cX8_many 56 = .ok (.aload_n 0, 1) := by decide +kernel
theorem dX8_many_57 : decode cX8_many 57 = .ok (.getfield 44, 3) := by decide +kernel
theorem dX8_many_60 : decode cX8_many 60 = .ok (.getfield 191, 3) := by decide +kernel
theorem dX8_many_63 : decode cX8_many 63 = .ok (.ireturn, 1) := by decide +kernel
theorem dX8_many_64 : decode cX8_many 64 = .ok (.bipush (-2), 2) := by decide +kernel
theorem dX8_many_66 : decode cX8_many 66 = .ok (.ireturn, 1) := by decide +kernel
theorem dX8_isBelow_0 : decode cX8_isBelow 0 = .ok (.iload_n 0, 1) := by decide +kernel
theorem dX8_isBelow_1 : decode cX8_isBelow 1 = .ok (.ifCond .lt 12, 3) := by decide +kernel
theorem dX8_isBelow_4 : decode cX8_isBelow 4 = .ok (.iload_n 0, 1) := by decide +kernel
theorem dX8_isBelow_5 : decode cX8_isBelow 5 = .ok (.iload_n 1, 1) := by decide +kernel
theorem dX8_isBelow_6 : decode cX8_isBelow 6 = .ok (.if_icmp .ge 7, 3) := by decide +kernel
theorem dX8_isBelow_9 : decode cX8_isBelow 9 = .ok (.iconst 1, 1) := by decide +kernel
theorem dX8_isBelow_10 : decode cX8_isBelow 10 = .ok (.goto 4, 3) := by decide +kernel
theorem dX8_isBelow_13 : decode cX8_isBelow 13 = .ok (.iconst 0, 1) := by decide +kernel
theorem dX8_isBelow_14 : decode cX8_isBelow 14 = .ok (.ireturn, 1) := by decide +kernel
theorem dX8_isIn_0 : decode cX8_isIn 0 = .ok (.iload_n 0, 1) := by decide +kernel
theorem dX8_isIn_1 : decode cX8_isIn 1 = .ok (.iload_n 1, 1) := by decide +kernel
theorem dX8_isIn_2 : decode cX8_isIn 2 = .ok (.ishr, 1) := by decide +kernel
theorem dX8_isIn_3 : decode cX8_isIn 3 = .ok (.iconst 1, 1) := by decide +kernel
theorem dX8_isIn_4 : decode cX8_isIn 4 = .ok (.iand, 1) := by decide +kernel
theorem dX8_isIn_5 : decode cX8_isIn 5 = .ok (.iconst 1, 1) := by decide +kernel
theorem dX8_isIn_6 : decode cX8_isIn 6 = .ok (.if_icmp .ne 7, 3) := by decide +kernel
theorem dX8_isIn_9 : decode cX8_isIn 9 = .ok (.iconst 1, 1) := by decide +kernel
theorem dX8_isIn_10 : decode cX8_isIn 10 = .ok (.goto 4, 3) := by decide +kernel
theorem dX8_isIn_13 : decode cX8_isIn 13 = .ok (.iconst 0, 1) := by decide +kernel
theorem dX8_isIn_14 : decode cX8_isIn 14 = .ok (.ireturn, 1) := by decide +kernel
theorem dX8_isLot_0 : decode cX8_isLot 0 = .ok (.iload_n 0, 1) := by decide +kernel
theorem dX8_isLot_1 : decode cX8_isLot 1 = .ok (.iconst 4, 1) := by decide +kernel
theorem dX8_isLot_2 : decode cX8_isLot 2 = .ok (.invokestatic 117, 3) := by decide +kernel
theorem dX8_isLot_5 : decode cX8_isLot 5 = .ok (.ireturn, 1) := by decide +kernel
theorem dX8_isLane_0 : decode cX8_isLane 0 = .ok (.iload_n 0, 1) := by decide +kernel
theorem dX8_isLane_1 : decode cX8_isLane 1 = .ok (.iconst 3, 1) := by decide +kernel
theorem dX8_isLane_2 : decode cX8_isLane 2 = .ok (.invokestatic 117, 3) := by decide +kernel
theorem dX8_isLane_5 : decode cX8_isLane 5 = .ok (.ireturn, 1) := by decide +kernel
theorem dX8_sheetOf_0 : decode cX8_sheetOf 0 = .ok (.iload_n 1, 1) := by decide +kernel
theorem dX8_sheetOf_1 : decode cX8_sheetOf 1 = .ok (.iconst 4, 1) := by decide +kernel
theorem dX8_sheetOf_2 : decode cX8_sheetOf 2 = .ok (.invokestatic 117, 3) := by decide +kernel
theorem dX8_sheetOf_5 : decode cX8_sheetOf 5 = .ok (.ifCond .eq 12, 3) := by decide +kernel
theorem dX8_sheetOf_8 : decode cX8_sheetOf 8 = .ok (.aload_n 0, 1) := by decide +kernel
theorem dX8_sheetOf_9 : decode cX8_sheetOf 9 = .ok (.getfield 13, 3) := by decide +kernel
theorem dX8_sheetOf_12 : decode cX8_sheetOf 12 = .ok (.iload_n 1, 1) := by decide +kernel
theorem dX8_sheetOf_13 : decode cX8_sheetOf 13 = .ok (.aaload, 1) := by decide +kernel
theorem dX8_sheetOf_14 : decode cX8_sheetOf 14 = .ok (.goto 4, 3) := by decide +kernel
theorem dX8_sheetOf_17 : decode cX8_sheetOf 17 = .ok (.aconst_null, 1) := by decide +kernel
theorem dX8_sheetOf_18 : decode cX8_sheetOf 18 = .ok (.areturn, 1) := by decide +kernel
theorem dX8_meet_0 : decode cX8_meet 0 = .ok (.aload_n 0, 1) := by decide +kernel
theorem dX8_meet_1 : decode cX8_meet 1 = .ok (.iload_n 1, 1) := by decide +kernel
theorem dX8_meet_2 : decode cX8_meet 2 = .ok (.putfield 48, 3) := by decide +kernel
theorem dX8_meet_5 : decode cX8_meet 5 = .ok (.bipush (-10), 2) := by decide +kernel
theorem dX8_meet_7 : decode cX8_meet 7 = .ok (.iload_n 1, 1) := by decide +kernel
theorem dX8_meet_8 : decode cX8_meet 8 = .ok (.isub, 1) := by decide +kernel
theorem dX8_meet_9 : decode cX8_meet 9 = .ok (.ireturn, 1) := by decide +kernel
theorem dX8_firstFault_0 : decode cX8_firstFault 0 = .ok (.iconst 0, 1) := by decide +kernel
theorem dX8_firstFault_1 : decode cX8_firstFault 1 = .ok (.istore_n 3, 1) := by decide +kernel
theorem dX8_firstFault_2 : decode cX8_firstFault 2 = .ok (.iload_n 3, 1) := by decide +kernel
theorem dX8_firstFault_3 : decode cX8_firstFault 3 = .ok (.iload_n 2, 1) := by decide +kernel
theorem dX8_firstFault_4 : decode cX8_firstFault 4 = .ok (.if_icmp .ge 20, 3) := by decide +kernel
theorem dX8_firstFault_7 : decode cX8_firstFault 7 = .ok (.aload_n 0, 1) := by decide +kernel
theorem dX8_firstFault_8 : decode cX8_firstFault 8 = .ok (.iload_n 1, 1) := by decide +kernel
theorem dX8_firstFault_9 : decode cX8_firstFault 9 = .ok (.iload_n 3, 1) := by decide +kernel
theorem dX8_firstFault_10 : decode cX8_firstFault 10 = .ok (.invokestatic 238, 3) := by decide +kernel
theorem dX8_firstFault_13 : decode cX8_firstFault 13 = .ok (.ifCond .ne 5, 3) := by decide +kernel
theorem dX8_firstFault_16 : decode cX8_firstFault 16 = .ok (.iload_n 3, 1) := by decide +kernel
theorem dX8_firstFault_17 : decode cX8_firstFault 17 = .ok (.ireturn, 1) := by decide +kernel
theorem dX8_firstFault_18 : decode cX8_firstFault 18 = .ok (.iinc 3 1, 3) := by decide +kernel
theorem dX8_firstFault_21 : decode cX8_firstFault 21 = .ok (.goto (-19), 3) := by decide +kernel
theorem dX8_firstFault_24 : decode cX8_firstFault 24 = .ok (.iload_n 2, 1) := by decide +kernel
theorem dX8_firstFault_25 : decode cX8_firstFault 25 = .ok (.bipush 11, 2) := by decide +kernel
theorem dX8_firstFault_27 : decode cX8_firstFault 27 = .ok (.if_icmp .lt 15, 3) := by decide +kernel
theorem dX8_firstFault_30 : decode cX8_firstFault 30 = .ok (.iload_n 2, 1) := by decide +kernel
theorem dX8_firstFault_31 : decode cX8_firstFault 31 = .ok (.iconst 3, 1) := by decide +kernel
theorem dX8_firstFault_32 : decode cX8_firstFault 32 = .ok (.isub, 1) := by decide +kernel
theorem dX8_firstFault_33 : decode cX8_firstFault 33 = .ok (.iconst 4, 1) := by decide +kernel
theorem dX8_firstFault_34 : decode cX8_firstFault 34 = .ok (.irem, 1) := by decide +kernel
theorem dX8_firstFault_35 : decode cX8_firstFault 35 = .ok (.ifCond .ne 7, 3) := by decide +kernel
theorem dX8_firstFault_38 : decode cX8_firstFault 38 = .ok (.iconst 1, 1) := by decide +kernel
theorem dX8_firstFault_39 : decode cX8_firstFault 39 = .ok (.goto 4, 3) := by decide +kernel
theorem dX8_firstFault_42 : decode cX8_firstFault 42 = .ok (.iconst 0, 1) := by decide +kernel
theorem dX8_firstFault_43 : decode cX8_firstFault 43 = .ok (.istore_n 3, 1) := by decide +kernel
theorem dX8_firstFault_44 : decode cX8_firstFault 44 = .ok (.iload_n 3, 1) := by decide +kernel
theorem dX8_firstFault_45 : decode cX8_firstFault 45 = .ok (.ifCond .eq 7, 3) := by decide +kernel
theorem dX8_firstFault_48 : decode cX8_firstFault 48 = .ok (.iconst (-1), 1) := by decide +kernel
theorem dX8_firstFault_49 : decode cX8_firstFault 49 = .ok (.goto 4, 3) := by decide +kernel
theorem dX8_firstFault_52 : decode cX8_firstFault 52 = .ok (.iload_n 2, 1) := by decide +kernel
theorem dX8_firstFault_53 : decode cX8_firstFault 53 = .ok (.ireturn, 1) := by decide +kernel
theorem dX8_goesOn_0 : decode cX8_goesOn 0 = .ok (.aload_n 0, 1) := by decide +kernel
theorem dX8_goesOn_1 : decode cX8_goesOn 1 = .ok (.iload_n 1, 1) := by decide +kernel
theorem dX8_goesOn_2 : decode cX8_goesOn 2 = .ok (.iload_n 2, 1) := by decide +kernel
theorem dX8_goesOn_3 : decode cX8_goesOn 3 = .ok (.iadd, 1) := by decide +kernel
theorem dX8_goesOn_4 : decode cX8_goesOn 4 = .ok (.invokevirtual 209, 3) := by decide +kernel
theorem dX8_goesOn_7 : decode cX8_goesOn 7 = .ok (.istore_n 3, 1) := by decide +kernel
theorem dX8_goesOn_8 : decode cX8_goesOn 8 = .ok (.iload_n 2, 1) := by decide +kernel
theorem dX8_goesOn_9 : decode cX8_goesOn 9 = .ok (.ifCond .ne 15, 3) := by decide +kernel
theorem dX8_goesOn_12 : decode cX8_goesOn 12 = .ok (.iload_n 3, 1) := by decide +kernel
theorem dX8_goesOn_13 : decode cX8_goesOn 13 = .ok (.bipush 97, 2) := by decide +kernel
theorem dX8_goesOn_15 : decode cX8_goesOn 15 = .ok (.if_icmp .ne 7, 3) := by decide +kernel
theorem dX8_goesOn_18 : decode cX8_goesOn 18 = .ok (.iconst 1, 1) := by decide +kernel
theorem dX8_goesOn_19 : decode cX8_goesOn 19 = .ok (.goto 4, 3) := by decide +kernel
theorem dX8_goesOn_22 : decode cX8_goesOn 22 = .ok (.iconst 0, 1) := by decide +kernel
theorem dX8_goesOn_23 : decode cX8_goesOn 23 = .ok (.ireturn, 1) := by decide +kernel
theorem dX8_goesOn_24 : decode cX8_goesOn 24 = .ok (.iload_n 2, 1) := by decide +kernel
theorem dX8_goesOn_25 : decode cX8_goesOn 25 = .ok (.iconst 1, 1) := by decide +kernel
theorem dX8_goesOn_26 : decode cX8_goesOn 26 = .ok (.if_icmp .ne 12, 3) := by decide +kernel
theorem dX8_goesOn_29 : decode cX8_goesOn 29 = .ok (.iload_n 3, 1) := by decide +kernel
theorem dX8_goesOn_30 : decode cX8_goesOn 30 = .ok (.bipush 49, 2) := by decide +kernel
theorem dX8_goesOn_32 : decode cX8_goesOn 32 = .ok (.bipush 52, 2) := by decide +kernel
theorem dX8_goesOn_34 : decode cX8_goesOn 34 = .ok (.invokestatic 241, 3) := by decide +kernel
theorem dX8_goesOn_37 : decode cX8_goesOn 37 = .ok (.ireturn, 1) := by decide +kernel
theorem dX8_goesOn_38 : decode cX8_goesOn 38 = .ok (.iload_n 2, 1) := by decide +kernel
theorem dX8_goesOn_39 : decode cX8_goesOn 39 = .ok (.iconst 2, 1) := by decide +kernel
theorem dX8_goesOn_40 : decode cX8_goesOn 40 = .ok (.if_icmp .ne 12, 3) := by decide +kernel
theorem dX8_goesOn_43 : decode cX8_goesOn 43 = .ok (.iload_n 3, 1) := by decide +kernel
theorem dX8_goesOn_44 : decode cX8_goesOn 44 = .ok (.bipush 50, 2) := by decide +kernel
theorem dX8_goesOn_46 : decode cX8_goesOn 46 = .ok (.bipush 54, 2) := by decide +kernel
theorem dX8_goesOn_48 : decode cX8_goesOn 48 = .ok (.invokestatic 241, 3) := by decide +kernel
theorem dX8_goesOn_51 : decode cX8_goesOn 51 = .ok (.ireturn, 1) := by decide +kernel
theorem dX8_goesOn_52 : decode cX8_goesOn 52 = .ok (.iload_n 2, 1) := by decide +kernel
theorem dX8_goesOn_53 : decode cX8_goesOn 53 = .ok (.iconst 3, 1) := by decide +kernel
theorem dX8_goesOn_54 : decode cX8_goesOn 54 = .ok (.isub, 1) := by decide +kernel
theorem dX8_goesOn_55 : decode cX8_goesOn 55 = .ok (.iconst 4, 1) := by decide +kernel
theorem dX8_goesOn_56 : decode cX8_goesOn 56 = .ok (.irem, 1) := by decide +kernel
theorem dX8_goesOn_57 : decode cX8_goesOn 57 = .ok (.tableswitch 81 0 2 #[27, 48, 72], 27) := by decide +kernel
theorem dX8_goesOn_84 : decode cX8_goesOn 84 = .ok (.iload_n 3, 1) := by decide +kernel
theorem dX8_goesOn_85 : decode cX8_goesOn 85 = .ok (.bipush 59, 2) := by decide +kernel
theorem dX8_goesOn_87 : decode cX8_goesOn 87 = .ok (.if_icmp .ne 16, 3) := by decide +kernel
theorem dX8_goesOn_90 : decode cX8_goesOn 90 = .ok (.aload_n 0, 1) := by decide +kernel
theorem dX8_goesOn_91 : decode cX8_goesOn 91 = .ok (.iload_n 1, 1) := by decide +kernel
theorem dX8_goesOn_92 : decode cX8_goesOn 92 = .ok (.iload_n 2, 1) := by decide +kernel
theorem dX8_goesOn_93 : decode cX8_goesOn 93 = .ok (.invokestatic 244, 3) := by decide +kernel
theorem dX8_goesOn_96 : decode cX8_goesOn 96 = .ok (.ifCond .eq 7, 3) := by decide +kernel
theorem dX8_goesOn_99 : decode cX8_goesOn 99 = .ok (.iconst 1, 1) := by decide +kernel
theorem dX8_goesOn_100 : decode cX8_goesOn 100 = .ok (.goto 4, 3) := by decide +kernel
theorem dX8_goesOn_103 : decode cX8_goesOn 103 = .ok (.iconst 0, 1) := by decide +kernel
theorem dX8_goesOn_104 : decode cX8_goesOn 104 = .ok (.ireturn, 1) := by decide +kernel
theorem dX8_goesOn_105 : decode cX8_goesOn 105 = .ok (.iload_n 3, 1) := by decide +kernel
theorem dX8_goesOn_106 : decode cX8_goesOn 106 = .ok (.bipush 98, 2) := by decide +kernel
theorem dX8_goesOn_108 : decode cX8_goesOn 108 = .ok (.if_icmp .eq 15, 3) := by decide +kernel
theorem dX8_goesOn_111 : decode cX8_goesOn 111 = .ok (.iload_n 3, 1) := by decide +kernel
theorem dX8_goesOn_112 : decode cX8_goesOn 112 = .ok (.bipush 104, 2) := by decide +kernel
theorem dX8_goesOn_114 : decode cX8_goesOn 114 = .ok (.if_icmp .eq 9, 3) := by decide +kernel
theorem dX8_goesOn_117 : decode cX8_goesOn 117 = .ok (.iload_n 3, 1) := by decide +kernel
theorem dX8_goesOn_118 : decode cX8_goesOn 118 = .ok (.bipush 110, 2) := by decide +kernel
theorem dX8_goesOn_120 : decode cX8_goesOn 120 = .ok (.if_icmp .ne 7, 3) := by decide +kernel
theorem dX8_goesOn_123 : decode cX8_goesOn 123 = .ok (.iconst 1, 1) := by decide +kernel
theorem dX8_goesOn_124 : decode cX8_goesOn 124 = .ok (.goto 4, 3) := by decide +kernel
theorem dX8_goesOn_127 : decode cX8_goesOn 127 = .ok (.iconst 0, 1) := by decide +kernel
theorem dX8_goesOn_128 : decode cX8_goesOn 128 = .ok (.ireturn, 1) := by decide +kernel
theorem dX8_goesOn_129 : decode cX8_goesOn 129 = .ok (.iload_n 3, 1) := by decide +kernel
theorem dX8_goesOn_130 : decode cX8_goesOn 130 = .ok (.bipush 48, 2) := by decide +kernel
theorem dX8_goesOn_132 : decode cX8_goesOn 132 = .ok (.bipush 57, 2) := by decide +kernel
theorem dX8_goesOn_134 : decode cX8_goesOn 134 = .ok (.invokestatic 241, 3) := by decide +kernel
theorem dX8_goesOn_137 : decode cX8_goesOn 137 = .ok (.ireturn, 1) := by decide +kernel
theorem dX8_goesOn_138 : decode cX8_goesOn 138 = .ok (.iload_n 3, 1) := by decide +kernel
theorem dX8_goesOn_139 : decode cX8_goesOn 139 = .ok (.aload_n 0, 1) := by decide +kernel
theorem dX8_goesOn_140 : decode cX8_goesOn 140 = .ok (.iload_n 1, 1) := by decide +kernel
theorem dX8_goesOn_141 : decode cX8_goesOn 141 = .ok (.iload_n 2, 1) := by decide +kernel
theorem dX8_goesOn_142 : decode cX8_goesOn 142 = .ok (.iadd, 1) := by decide +kernel
theorem dX8_goesOn_143 : decode cX8_goesOn 143 = .ok (.iconst 1, 1) := by decide +kernel
theorem dX8_goesOn_144 : decode cX8_goesOn 144 = .ok (.isub, 1) := by decide +kernel
theorem dX8_goesOn_145 : decode cX8_goesOn 145 = .ok (.invokevirtual 209, 3) := by decide +kernel
theorem dX8_goesOn_148 : decode cX8_goesOn 148 = .ok (.bipush 48, 2) := by decide +kernel
theorem dX8_goesOn_150 : decode cX8_goesOn 150 = .ok (.if_icmp .ne 8, 3) := by decide +kernel
theorem dX8_goesOn_153 : decode cX8_goesOn 153 = .ok (.bipush 49, 2) := by decide +kernel
theorem dX8_goesOn_155 : decode cX8_goesOn 155 = .ok (.goto 5, 3) := by decide +kernel
theorem dX8_goesOn_158 : decode cX8_goesOn 158 = .ok (.bipush 48, 2) := by decide +kernel
theorem dX8_goesOn_160 : decode cX8_goesOn 160 = .ok (.bipush 57, 2) := by decide +kernel
theorem dX8_goesOn_162 : decode cX8_goesOn 162 = .ok (.invokestatic 241, 3) := by decide +kernel
theorem dX8_goesOn_165 : decode cX8_goesOn 165 = .ok (.ireturn, 1) := by decide +kernel
theorem dX8_isAmong_0 : decode cX8_isAmong 0 = .ok (.iload_n 0, 1) := by decide +kernel
theorem dX8_isAmong_1 : decode cX8_isAmong 1 = .ok (.iload_n 1, 1) := by decide +kernel
theorem dX8_isAmong_2 : decode cX8_isAmong 2 = .ok (.if_icmp .lt 12, 3) := by decide +kernel
theorem dX8_isAmong_5 : decode cX8_isAmong 5 = .ok (.iload_n 0, 1) := by decide +kernel
theorem dX8_isAmong_6 : decode cX8_isAmong 6 = .ok (.iload_n 2, 1) := by decide +kernel
theorem dX8_isAmong_7 : decode cX8_isAmong 7 = .ok (.if_icmp .gt 7, 3) := by decide +kernel
theorem dX8_isAmong_10 : decode cX8_isAmong 10 = .ok (.iconst 1, 1) := by decide +kernel
theorem dX8_isAmong_11 : decode cX8_isAmong 11 = .ok (.goto 4, 3) := by decide +kernel
theorem dX8_isAmong_14 : decode cX8_isAmong 14 = .ok (.iconst 0, 1) := by decide +kernel
theorem dX8_isAmong_15 : decode cX8_isAmong 15 = .ok (.ireturn, 1) := by decide +kernel
theorem dX8_isOneMoreLetIn_0 : decode cX8_isOneMoreLetIn 0 = .ok (.iload_n 2, 1) := by decide +kernel
theorem dX8_isOneMoreLetIn_1 : decode cX8_isOneMoreLetIn 1 = .ok (.iconst 3, 1) := by decide +kernel
theorem dX8_isOneMoreLetIn_2 : decode cX8_isOneMoreLetIn 2 = .ok (.isub, 1) := by decide +kernel
theorem dX8_isOneMoreLetIn_3 : decode cX8_isOneMoreLetIn 3 = .ok (.iconst 4, 1) := by decide +kernel
theorem dX8_isOneMoreLetIn_4 : decode cX8_isOneMoreLetIn 4 = .ok (.idiv, 1) := by decide +kernel
theorem dX8_isOneMoreLetIn_5 : decode cX8_isOneMoreLetIn 5 = .ok (.istore_n 3, 1) := by decide +kernel
theorem dX8_isOneMoreLetIn_6 : decode cX8_isOneMoreLetIn 6 = .ok (.aload_n 0, 1) := by decide +kernel
theorem dX8_isOneMoreLetIn_7 : decode cX8_isOneMoreLetIn 7 = .ok (.iload_n 1, 1) := by decide +kernel
theorem dX8_isOneMoreLetIn_8 : decode cX8_isOneMoreLetIn 8 = .ok (.iconst 1, 1) := by decide +kernel
theorem dX8_isOneMoreLetIn_9 : decode cX8_isOneMoreLetIn 9 = .ok (.iadd, 1) := by decide +kernel
theorem dX8_isOneMoreLetIn_10 : decode cX8_isOneMoreLetIn 10 = .ok (.invokestatic 247, 3) := by decide +kernel
theorem dX8_isOneMoreLetIn_13 : decode cX8_isOneMoreLetIn 13 = .ok (.aload_n 0, 1) := by decide +kernel
theorem dX8_isOneMoreLetIn_14 : decode cX8_isOneMoreLetIn 14 = .ok (.iload_n 1, 1) := by decide +kernel
theorem dX8_isOneMoreLetIn_15 : decode cX8_isOneMoreLetIn 15 = .ok (.iconst 2, 1) := by decide +kernel
theorem dX8_isOneMoreLetIn_16 : decode cX8_isOneMoreLetIn 16 = .ok (.iadd, 1) := by decide +kernel
theorem dX8_isOneMoreLetIn_17 : decode cX8_isOneMoreLetIn 17 = .ok (.invokestatic 247, 3) := by decide +kernel
theorem dX8_isOneMoreLetIn_20 : decode cX8_isOneMoreLetIn 20 = .ok (.imul, 1) := by decide +kernel
theorem dX8_isOneMoreLetIn_21 : decode cX8_isOneMoreLetIn 21 = .ok (.istore 4, 2) := by decide +kernel
theorem dX8_isOneMoreLetIn_23 : decode cX8_isOneMoreLetIn 23 = .ok (.iload_n 3, 1) := by decide +kernel
theorem dX8_isOneMoreLetIn_24 : decode cX8_isOneMoreLetIn 24 = .ok (.bipush 6, 2) := by decide +kernel
theorem dX8_isOneMoreLetIn_26 : decode cX8_isOneMoreLetIn 26 = .ok (.if_icmp .ge 13, 3) := by decide +kernel
theorem dX8_isOneMoreLetIn_29 : decode cX8_isOneMoreLetIn 29 = .ok (.iload_n 3, 1) := by decide +kernel
theorem dX8_isOneMoreLetIn_30 : decode cX8_isOneMoreLetIn 30 = .ok (.iload 4, 2) := by decide +kernel
theorem dX8_isOneMoreLetIn_32 : decode cX8_isOneMoreLetIn 32 = .ok (.if_icmp .ge 7, 3) := by decide +kernel
theorem dX8_isOneMoreLetIn_35 : decode cX8_isOneMoreLetIn 35 = .ok (.iconst 1, 1) := by decide +kernel
theorem dX8_isOneMoreLetIn_36 : decode cX8_isOneMoreLetIn 36 = .ok (.goto 4, 3) := by decide +kernel
theorem dX8_isOneMoreLetIn_39 : decode cX8_isOneMoreLetIn 39 = .ok (.iconst 0, 1) := by decide +kernel
theorem dX8_isOneMoreLetIn_40 : decode cX8_isOneMoreLetIn 40 = .ok (.ireturn, 1) := by decide +kernel
theorem dX8_digitAt_0 : decode cX8_digitAt 0 = .ok (.aload_n 0, 1) := by decide +kernel
theorem dX8_digitAt_1 : decode cX8_digitAt 1 = .ok (.iload_n 1, 1) := by decide +kernel
theorem dX8_digitAt_2 : decode cX8_digitAt 2 = .ok (.invokevirtual 209, 3) := by decide +kernel
theorem dX8_digitAt_5 : decode cX8_digitAt 5 = .ok (.bipush 48, 2) := by decide +kernel
theorem dX8_digitAt_7 : decode cX8_digitAt 7 = .ok (.isub, 1) := by decide +kernel
theorem dX8_digitAt_8 : decode cX8_digitAt 8 = .ok (.ireturn, 1) := by decide +kernel
theorem dX8_fillRoom_0 : decode cX8_fillRoom 0 = .ok (.aload_n 0, 1) := by decide +kernel
theorem dX8_fillRoom_1 : decode cX8_fillRoom 1 = .ok (.getfield 28, 3) := by decide +kernel
theorem dX8_fillRoom_4 : decode cX8_fillRoom 4 = .ok (.aload_n 1, 1) := by decide +kernel
theorem dX8_fillRoom_5 : decode cX8_fillRoom 5 = .ok (.iload_n 2, 1) := by decide +kernel
theorem dX8_fillRoom_6 : decode cX8_fillRoom 6 = .ok (.iconst 1, 1) := by decide +kernel
theorem dX8_fillRoom_7 : decode cX8_fillRoom 7 = .ok (.iadd, 1) := by decide +kernel
theorem dX8_fillRoom_8 : decode cX8_fillRoom 8 = .ok (.invokestatic 247, 3) := by decide +kernel
theorem dX8_fillRoom_11 : decode cX8_fillRoom 11 = .ok (.aload_n 1, 1) := by decide +kernel
theorem dX8_fillRoom_12 : decode cX8_fillRoom 12 = .ok (.iload_n 2, 1) := by decide +kernel
theorem dX8_fillRoom_13 : decode cX8_fillRoom 13 = .ok (.iconst 2, 1) := by decide +kernel
theorem dX8_fillRoom_14 : decode cX8_fillRoom 14 = .ok (.iadd, 1) := by decide +kernel
theorem dX8_fillRoom_15 : decode cX8_fillRoom 15 = .ok (.invokestatic 247, 3) := by decide +kernel
theorem dX8_fillRoom_18 : decode cX8_fillRoom 18 = .ok (.invokevirtual 251, 3) := by decide +kernel
theorem dX8_fillRoom_21 : decode cX8_fillRoom 21 = .ok (.iconst 3, 1) := by decide +kernel
theorem dX8_fillRoom_22 : decode cX8_fillRoom 22 = .ok (.istore 4, 2) := by decide +kernel
theorem dX8_fillRoom_24 : decode cX8_fillRoom 24 = .ok (.iload 4, 2) := by decide +kernel
theorem dX8_fillRoom_26 : decode cX8_fillRoom 26 = .ok (.iload_n 3, 1) := by decide +kernel
theorem dX8_fillRoom_27 : decode cX8_fillRoom 27 = .ok (.if_icmp .ge 64, 3) := by decide +kernel
theorem dX8_fillRoom_30 : decode cX8_fillRoom 30 = .ok (.bipush 10, 2) := by decide +kernel
theorem dX8_fillRoom_32 : decode cX8_fillRoom 32 = .ok (.aload_n 1, 1) := by decide +kernel
theorem dX8_fillRoom_33 : decode cX8_fillRoom 33 = .ok (.iload_n 2, 1) := by decide +kernel
theorem dX8_fillRoom_34 : decode cX8_fillRoom 34 = .ok (.iload 4, 2) := by decide +kernel
theorem dX8_fillRoom_36 : decode cX8_fillRoom 36 = .ok (.iadd, 1) := by decide +kernel
theorem dX8_fillRoom_37 : decode cX8_fillRoom 37 = .ok (.iconst 2, 1) := by decide +kernel
theorem dX8_fillRoom_38 : decode cX8_fillRoom 38 = .ok (.iadd, 1) := by decide +kernel
theorem dX8_fillRoom_39 : decode cX8_fillRoom 39 = .ok (.invokestatic 247, 3) := by decide +kernel
theorem dX8_fillRoom_42 : decode cX8_fillRoom 42 = .ok (.imul, 1) := by decide +kernel
theorem dX8_fillRoom_43 : decode cX8_fillRoom 43 = .ok (.aload_n 1, 1) := by decide +kernel
theorem dX8_fillRoom_44 : decode cX8_fillRoom 44 = .ok (.iload_n 2, 1) := by decide +kernel
theorem dX8_fillRoom_45 : decode cX8_fillRoom 45 = .ok (.iload 4, 2) := by decide +kernel
theorem dX8_fillRoom_47 : decode cX8_fillRoom 47 = .ok (.iadd, 1) := by decide +kernel
theorem dX8_fillRoom_48 : decode cX8_fillRoom 48 = .ok (.iconst 3, 1) := by decide +kernel
theorem dX8_fillRoom_49 : decode cX8_fillRoom 49 = .ok (.iadd, 1) := by decide +kernel
theorem dX8_fillRoom_50 : decode cX8_fillRoom 50 = .ok (.invokestatic 247, 3) := by decide +kernel
theorem dX8_fillRoom_53 : decode cX8_fillRoom 53 = .ok (.iadd, 1) := by decide +kernel
theorem dX8_fillRoom_54 : decode cX8_fillRoom 54 = .ok (.istore 5, 2) := by decide +kernel
theorem dX8_fillRoom_56 : decode cX8_fillRoom 56 = .ok (.aload_n 0, 1) := by decide +kernel
theorem dX8_fillRoom_57 : decode cX8_fillRoom 57 = .ok (.getfield 28, 3) := by decide +kernel
theorem dX8_fillRoom_60 : decode cX8_fillRoom 60 = .ok (.aload_n 1, 1) := by decide +kernel
theorem dX8_fillRoom_61 : decode cX8_fillRoom 61 = .ok (.iload_n 2, 1) := by decide +kernel
theorem dX8_fillRoom_62 : decode cX8_fillRoom 62 = .ok (.iload 4, 2) := by decide +kernel
theorem dX8_fillRoom_64 : decode cX8_fillRoom 64 = .ok (.iadd, 1) := by decide +kernel
theorem dX8_fillRoom_65 : decode cX8_fillRoom 65 = .ok (.iconst 1, 1) := by decide +kernel
theorem dX8_fillRoom_66 : decode cX8_fillRoom 66 = .ok (.iadd, 1) := by decide +kernel
theorem dX8_fillRoom_67 : decode cX8_fillRoom 67 = .ok (.invokevirtual 209, 3) := by decide +kernel
theorem dX8_fillRoom_70 : decode cX8_fillRoom 70 = .ok (.aload_n 0, 1) := by decide +kernel
theorem dX8_fillRoom_71 : decode cX8_fillRoom 71 = .ok (.getfield 28, 3) := by decide +kernel
theorem dX8_fillRoom_74 : decode cX8_fillRoom 74 = .ok (.getfield 80, 3) := by decide +kernel
theorem dX8_fillRoom_77 : decode cX8_fillRoom 77 = .ok (.iload 5, 2) := by decide +kernel
theorem dX8_fillRoom_79 : decode cX8_fillRoom 79 = .ok (.invokestatic 252, 3) := by decide +kernel
theorem dX8_fillRoom_82 : decode cX8_fillRoom 82 = .ok (.invokevirtual 256, 3) := by decide +kernel
theorem dX8_fillRoom_85 : decode cX8_fillRoom 85 = .ok (.iinc 4 4, 3) := by decide +kernel
theorem dX8_fillRoom_88 : decode cX8_fillRoom 88 = .ok (.goto (-64), 3) := by decide +kernel
theorem dX8_fillRoom_91 : decode cX8_fillRoom 91 = .ok (.return_, 1) := by decide +kernel
theorem dX8_buyerBy_0 : decode cX8_buyerBy 0 = .ok (.iload_n 0, 1) := by decide +kernel
theorem dX8_buyerBy_1 : decode cX8_buyerBy 1 = .ok (.bipush 110, 2) := by decide +kernel
theorem dX8_buyerBy_3 : decode cX8_buyerBy 3 = .ok (.if_icmp .ne 13, 3) := by decide +kernel
theorem dX8_buyerBy_6 : decode cX8_buyerBy 6 = .ok (.new 233, 3) := by decide +kernel
theorem dX8_buyerBy_9 : decode cX8_buyerBy 9 = .ok (.dup, 1) := by decide +kernel
theorem dX8_buyerBy_10 : decode cX8_buyerBy 10 = .ok (.iload_n 1, 1) := by decide +kernel
theorem dX8_buyerBy_11 : decode cX8_buyerBy 11 = .ok (.iload_n 2, 1) := by decide +kernel
theorem dX8_buyerBy_12 : decode cX8_buyerBy 12 = .ok (.invokespecial 260, 3) := by decide +kernel
theorem dX8_buyerBy_15 : decode cX8_buyerBy 15 = .ok (.areturn, 1) := by decide +kernel
theorem dX8_buyerBy_16 : decode cX8_buyerBy 16 = .ok (.iload_n 0, 1) := by decide +kernel
theorem dX8_buyerBy_17 : decode cX8_buyerBy 17 = .ok (.bipush 104, 2) := by decide +kernel
theorem dX8_buyerBy_19 : decode cX8_buyerBy 19 = .ok (.if_icmp .ne 15, 3) := by decide +kernel
theorem dX8_buyerBy_22 : decode cX8_buyerBy 22 = .ok (.new 231, 3) := by decide +kernel
theorem dX8_buyerBy_25 : decode cX8_buyerBy 25 = .ok (.dup, 1) := by decide +kernel
theorem dX8_buyerBy_26 : decode cX8_buyerBy 26 = .ok (.iload_n 1, 1) := by decide +kernel
theorem dX8_buyerBy_27 : decode cX8_buyerBy 27 = .ok (.iload_n 2, 1) := by decide +kernel
theorem dX8_buyerBy_28 : decode cX8_buyerBy 28 = .ok (.invokespecial 262, 3) := by decide +kernel
theorem dX8_buyerBy_31 : decode cX8_buyerBy 31 = .ok (.goto 12, 3) := by decide +kernel
theorem dX8_buyerBy_34 : decode cX8_buyerBy 34 = .ok (.new 88, 3) := by decide +kernel
theorem dX8_buyerBy_37 : decode cX8_buyerBy 37 = .ok (.dup, 1) := by decide +kernel
theorem dX8_buyerBy_38 : decode cX8_buyerBy 38 = .ok (.iload_n 1, 1) := by decide +kernel
theorem dX8_buyerBy_39 : decode cX8_buyerBy 39 = .ok (.iload_n 2, 1) := by decide +kernel
theorem dX8_buyerBy_40 : decode cX8_buyerBy 40 = .ok (.invokespecial 263, 3) := by decide +kernel
theorem dX8_buyerBy_43 : decode cX8_buyerBy 43 = .ok (.areturn, 1) := by decide +kernel
theorem dX8_sellTo_0 : decode cX8_sellTo 0 = .ok (.aload_n 0, 1) := by decide +kernel
theorem dX8_sellTo_1 : decode cX8_sellTo 1 = .ok (.getfield 37, 3) := by decide +kernel
theorem dX8_sellTo_4 : decode cX8_sellTo 4 = .ok (.iload_n 1, 1) := by decide +kernel
theorem dX8_sellTo_5 : decode cX8_sellTo 5 = .ok (.invokevirtual 177, 3) := by decide +kernel
theorem dX8_sellTo_8 : decode cX8_sellTo 8 = .ok (.aload_n 0, 1) := by decide +kernel
theorem dX8_sellTo_9 : decode cX8_sellTo 9 = .ok (.getfield 37, 3) := by decide +kernel
theorem dX8_sellTo_12 : decode cX8_sellTo 12 = .ok (.iload_n 2, 1) := by decide +kernel
theorem dX8_sellTo_13 : decode cX8_sellTo 13 = .ok (.invokevirtual 180, 3) := by decide +kernel
theorem dX8_sellTo_16 : decode cX8_sellTo 16 = .ok (.aload_n 0, 1) := by decide +kernel
theorem dX8_sellTo_17 : decode cX8_sellTo 17 = .ok (.getfield 37, 3) := by decide +kernel
theorem dX8_sellTo_20 : decode cX8_sellTo 20 = .ok (.invokevirtual 186, 3) := by decide +kernel
theorem dX8_sellTo_23 : decode cX8_sellTo 23 = .ok (.return_, 1) := by decide +kernel
theorem dX8_sellFrom_0 : decode cX8_sellFrom 0 = .ok (.aload_n 0, 1) := by decide +kernel
theorem dX8_sellFrom_1 : decode cX8_sellFrom 1 = .ok (.getfield 37, 3) := by decide +kernel
theorem dX8_sellFrom_4 : decode cX8_sellFrom 4 = .ok (.bipush 63, 2) := by decide +kernel
theorem dX8_sellFrom_6 : decode cX8_sellFrom 6 = .ok (.invokevirtual 177, 3) := by decide +kernel
theorem dX8_sellFrom_9 : decode cX8_sellFrom 9 = .ok (.aload_n 0, 1) := by decide +kernel
theorem dX8_sellFrom_10 : decode cX8_sellFrom 10 = .ok (.getfield 37, 3) := by decide +kernel
theorem dX8_sellFrom_13 : decode cX8_sellFrom 13 = .ok (.getfield 148, 3) := by decide +kernel
theorem dX8_sellFrom_16 : decode cX8_sellFrom 16 = .ok (.iload_n 1, 1) := by decide +kernel
theorem dX8_sellFrom_17 : decode cX8_sellFrom 17 = .ok (.iload_n 2, 1) := by decide +kernel
theorem dX8_sellFrom_18 : decode cX8_sellFrom 18 = .ok (.iastore, 1) := by decide +kernel
theorem dX8_sellFrom_19 : decode cX8_sellFrom 19 = .ok (.aload_n 0, 1) := by decide +kernel
theorem dX8_sellFrom_20 : decode cX8_sellFrom 20 = .ok (.getfield 37, 3) := by decide +kernel
theorem dX8_sellFrom_23 : decode cX8_sellFrom 23 = .ok (.iload_n 3, 1) := by decide +kernel
theorem dX8_sellFrom_24 : decode cX8_sellFrom 24 = .ok (.invokevirtual 180, 3) := by decide +kernel
theorem dX8_sellFrom_27 : decode cX8_sellFrom 27 = .ok (.aload_n 0, 1) := by decide +kernel
theorem dX8_sellFrom_28 : decode cX8_sellFrom 28 = .ok (.getfield 37, 3) := by decide +kernel
theorem dX8_sellFrom_31 : decode cX8_sellFrom 31 = .ok (.invokevirtual 186, 3) := by decide +kernel
theorem dX8_sellFrom_34 : decode cX8_sellFrom 34 = .ok (.return_, 1) := by decide +kernel
theorem dX8_gainFrom_0 : decode cX8_gainFrom 0 = .ok (.aload_n 0, 1) := by decide +kernel
theorem dX8_gainFrom_1 : decode cX8_gainFrom 1 = .ok (.aload_n 1, 1) := by decide +kernel
theorem dX8_gainFrom_2 : decode cX8_gainFrom 2 = .ok (.getfield 264, 3) := by decide +kernel
theorem dX8_gainFrom_5 : decode cX8_gainFrom 5 = .ok (.iload_n 2, 1) := by decide +kernel
theorem dX8_gainFrom_6 : decode cX8_gainFrom 6 = .ok (.iload_n 3, 1) := by decide +kernel
theorem dX8_gainFrom_7 : decode cX8_gainFrom 7 = .ok (.invokevirtual 267, 3) := by decide +kernel
theorem dX8_gainFrom_10 : decode cX8_gainFrom 10 = .ok (.aload_n 0, 1) := by decide +kernel
theorem dX8_gainFrom_11 : decode cX8_gainFrom 11 = .ok (.getfield 37, 3) := by decide +kernel
theorem dX8_gainFrom_14 : decode cX8_gainFrom 14 = .ok (.getfield 139, 3) := by decide +kernel
theorem dX8_gainFrom_17 : decode cX8_gainFrom 17 = .ok (.aload_n 1, 1) := by decide +kernel
theorem dX8_gainFrom_18 : decode cX8_gainFrom 18 = .ok (.getfield 264, 3) := by decide +kernel
theorem dX8_gainFrom_21 : decode cX8_gainFrom 21 = .ok (.if_icmp .ne 20, 3) := by decide +kernel
theorem dX8_gainFrom_24 : decode cX8_gainFrom 24 = .ok (.aload_n 1, 1) := by decide +kernel
theorem dX8_gainFrom_25 : decode cX8_gainFrom 25 = .ok (.getfield 106, 3) := by decide +kernel
theorem dX8_gainFrom_28 : decode cX8_gainFrom 28 = .ok (.iload_n 3, 1) := by decide +kernel
theorem dX8_gainFrom_29 : decode cX8_gainFrom 29 = .ok (.iaload, 1) := by decide +kernel
theorem dX8_gainFrom_30 : decode cX8_gainFrom 30 = .ok (.aload_n 0, 1) := by decide +kernel
theorem dX8_gainFrom_31 : decode cX8_gainFrom 31 = .ok (.getfield 37, 3) := by decide +kernel
theorem dX8_gainFrom_34 : decode cX8_gainFrom 34 = .ok (.getfield 136, 3) := by decide +kernel
theorem dX8_gainFrom_37 : decode cX8_gainFrom 37 = .ok (.isub, 1) := by decide +kernel
theorem dX8_gainFrom_38 : decode cX8_gainFrom 38 = .ok (.goto 4, 3) := by decide +kernel
theorem dX8_gainFrom_41 : decode cX8_gainFrom 41 = .ok (.iconst 0, 1) := by decide +kernel
theorem dX8_gainFrom_42 : decode cX8_gainFrom 42 = .ok (.ireturn, 1) := by decide +kernel
theorem dX8_areLotsOnce_0 : decode cX8_areLotsOnce 0 = .ok (.iconst 0, 1) := by decide +kernel
theorem dX8_areLotsOnce_1 : decode cX8_areLotsOnce 1 = .ok (.istore_n 3, 1) := by decide +kernel
theorem dX8_areLotsOnce_2 : decode cX8_areLotsOnce 2 = .ok (.iconst 0, 1) := by decide +kernel
theorem dX8_areLotsOnce_3 : decode cX8_areLotsOnce 3 = .ok (.istore 4, 2) := by decide +kernel
theorem dX8_areLotsOnce_5 : decode cX8_areLotsOnce 5 = .ok (.iload 4, 2) := by decide +kernel
theorem dX8_areLotsOnce_7 : decode cX8_areLotsOnce 7 = .ok (.iload_n 2, 1) := by decide +kernel
theorem dX8_areLotsOnce_8 : decode cX8_areLotsOnce 8 = .ok (.if_icmp .ge 45, 3) := by decide +kernel
theorem dX8_areLotsOnce_11 : decode cX8_areLotsOnce 11 = .ok (.aload_n 0, 1) := by decide +kernel
theorem dX8_areLotsOnce_12 : decode cX8_areLotsOnce 12 = .ok (.iload_n 1, 1) := by decide +kernel
theorem dX8_areLotsOnce_13 : decode cX8_areLotsOnce 13 = .ok (.iload 4, 2) := by decide +kernel
theorem dX8_areLotsOnce_15 : decode cX8_areLotsOnce 15 = .ok (.iadd, 1) := by decide +kernel
theorem dX8_areLotsOnce_16 : decode cX8_areLotsOnce 16 = .ok (.invokevirtual 209, 3) := by decide +kernel
theorem dX8_areLotsOnce_19 : decode cX8_areLotsOnce 19 = .ok (.istore 5, 2) := by decide +kernel
theorem dX8_areLotsOnce_21 : decode cX8_areLotsOnce 21 = .ok (.iload 5, 2) := by decide +kernel
theorem dX8_areLotsOnce_23 : decode cX8_areLotsOnce 23 = .ok (.invokestatic 103, 3) := by decide +kernel
theorem dX8_areLotsOnce_26 : decode cX8_areLotsOnce 26 = .ok (.ifCond .eq 12, 3) := by decide +kernel
theorem dX8_areLotsOnce_29 : decode cX8_areLotsOnce 29 = .ok (.iload_n 3, 1) := by decide +kernel
theorem dX8_areLotsOnce_30 : decode cX8_areLotsOnce 30 = .ok (.iload 5, 2) := by decide +kernel
theorem dX8_areLotsOnce_32 : decode cX8_areLotsOnce 32 = .ok (.invokestatic 271, 3) := by decide +kernel
theorem dX8_areLotsOnce_35 : decode cX8_areLotsOnce 35 = .ok (.ifCond .eq 5, 3) := by decide +kernel
theorem dX8_areLotsOnce_38 : decode cX8_areLotsOnce 38 = .ok (.iconst 0, 1) := by decide +kernel
theorem dX8_areLotsOnce_39 : decode cX8_areLotsOnce 39 = .ok (.ireturn, 1) := by decide +kernel
theorem dX8_areLotsOnce_40 : decode cX8_areLotsOnce 40 = .ok (.iload_n 3, 1) := by decide +kernel
theorem dX8_areLotsOnce_41 : decode cX8_areLotsOnce 41 = .ok (.iconst 1, 1) := by decide +kernel
theorem dX8_areLotsOnce_42 : decode cX8_areLotsOnce 42 = .ok (.iload 5, 2) := by decide +kernel
theorem dX8_areLotsOnce_44 : decode cX8_areLotsOnce 44 = .ok (.ishl, 1) := by decide +kernel
theorem dX8_areLotsOnce_45 : decode cX8_areLotsOnce 45 = .ok (.ior, 1) := by decide +kernel
theorem dX8_areLotsOnce_46 : decode cX8_areLotsOnce 46 = .ok (.istore_n 3, 1) := by decide +kernel
theorem dX8_areLotsOnce_47 : decode cX8_areLotsOnce 47 = .ok (.iinc 4 1, 3) := by decide +kernel
theorem dX8_areLotsOnce_50 : decode cX8_areLotsOnce 50 = .ok (.goto (-45), 3) := by decide +kernel
theorem dX8_areLotsOnce_53 : decode cX8_areLotsOnce 53 = .ok (.iconst 1, 1) := by decide +kernel
theorem dX8_areLotsOnce_54 : decode cX8_areLotsOnce 54 = .ok (.ireturn, 1) := by decide +kernel
theorem dX8_sellRow_0 : decode cX8_sellRow 0 = .ok (.iconst 0, 1) := by decide +kernel
theorem dX8_sellRow_1 : decode cX8_sellRow 1 = .ok (.istore 4, 2) := by decide +kernel
theorem dX8_sellRow_3 : decode cX8_sellRow 3 = .ok (.aload_n 0, 1) := by decide +kernel
theorem dX8_sellRow_4 : decode cX8_sellRow 4 = .ok (.getfield 37, 3) := by decide +kernel
theorem dX8_sellRow_7 : decode cX8_sellRow 7 = .ok (.bipush 63, 2) := by decide +kernel
theorem dX8_sellRow_9 : decode cX8_sellRow 9 = .ok (.invokevirtual 177, 3) := by decide +kernel
theorem dX8_sellRow_12 : decode cX8_sellRow 12 = .ok (.iconst 0, 1) := by decide +kernel
theorem dX8_sellRow_13 : decode cX8_sellRow 13 = .ok (.istore 5, 2) := by decide +kernel
theorem dX8_sellRow_15 : decode cX8_sellRow 15 = .ok (.iload 5, 2) := by decide +kernel
theorem dX8_sellRow_17 : decode cX8_sellRow 17 = .ok (.iload_n 3, 1) := by decide +kernel
theorem dX8_sellRow_18 : decode cX8_sellRow 18 = .ok (.if_icmp .ge 29, 3) := by decide +kernel
theorem dX8_sellRow_21 : decode cX8_sellRow 21 = .ok (.iload 4, 2) := by decide +kernel
theorem dX8_sellRow_23 : decode cX8_sellRow 23 = .ok (.aload_n 0, 1) := by decide +kernel
theorem dX8_sellRow_24 : decode cX8_sellRow 24 = .ok (.getfield 37, 3) := by decide +kernel
theorem dX8_sellRow_27 : decode cX8_sellRow 27 = .ok (.aload_n 1, 1) := by decide +kernel
theorem dX8_sellRow_28 : decode cX8_sellRow 28 = .ok (.iload_n 2, 1) := by decide +kernel
theorem dX8_sellRow_29 : decode cX8_sellRow 29 = .ok (.iload 5, 2) := by decide +kernel
theorem dX8_sellRow_31 : decode cX8_sellRow 31 = .ok (.iadd, 1) := by decide +kernel
theorem dX8_sellRow_32 : decode cX8_sellRow 32 = .ok (.invokevirtual 209, 3) := by decide +kernel
theorem dX8_sellRow_35 : decode cX8_sellRow 35 = .ok (.invokevirtual 274, 3) := by decide +kernel
theorem dX8_sellRow_38 : decode cX8_sellRow 38 = .ok (.iadd, 1) := by decide +kernel
theorem dX8_sellRow_39 : decode cX8_sellRow 39 = .ok (.istore 4, 2) := by decide +kernel
theorem dX8_sellRow_41 : decode cX8_sellRow 41 = .ok (.iinc 5 1, 3) := by decide +kernel
theorem dX8_sellRow_44 : decode cX8_sellRow 44 = .ok (.goto (-29), 3) := by decide +kernel
theorem dX8_sellRow_47 : decode cX8_sellRow 47 = .ok (.iload 4, 2) := by decide +kernel
theorem dX8_sellRow_49 : decode cX8_sellRow 49 = .ok (.ireturn, 1) := by decide +kernel
theorem dX8_lotOfOrder_0 : decode cX8_lotOfOrder 0 = .ok (.iload_n 0, 1) := by decide +kernel
theorem dX8_lotOfOrder_1 : decode cX8_lotOfOrder 1 = .ok (.iconst 2, 1) := by decide +kernel
theorem dX8_lotOfOrder_2 : decode cX8_lotOfOrder 2 = .ok (.iconst 3, 1) := by decide +kernel
theorem dX8_lotOfOrder_3 : decode cX8_lotOfOrder 3 = .ok (.iload_n 1, 1) := by decide +kernel
theorem dX8_lotOfOrder_4 : decode cX8_lotOfOrder 4 = .ok (.isub, 1) := by decide +kernel
theorem dX8_lotOfOrder_5 : decode cX8_lotOfOrder 5 = .ok (.imul, 1) := by decide +kernel
theorem dX8_lotOfOrder_6 : decode cX8_lotOfOrder 6 = .ok (.ishr, 1) := by decide +kernel
theorem dX8_lotOfOrder_7 : decode cX8_lotOfOrder 7 = .ok (.iconst 3, 1) := by decide +kernel
theorem dX8_lotOfOrder_8 : decode cX8_lotOfOrder 8 = .ok (.iand, 1) := by decide +kernel
theorem dX8_lotOfOrder_9 : decode cX8_lotOfOrder 9 = .ok (.ireturn, 1) := by decide +kernel
theorem dX8_isEachLotOnce_0 : decode cX8_isEachLotOnce 0 = .ok (.iconst 0, 1) := by decide +kernel
theorem dX8_isEachLotOnce_1 : decode cX8_isEachLotOnce 1 = .ok (.istore_n 1, 1) := by decide +kernel
theorem dX8_isEachLotOnce_2 : decode cX8_isEachLotOnce 2 = .ok (.iconst 0, 1) := by decide +kernel
theorem dX8_isEachLotOnce_3 : decode cX8_isEachLotOnce 3 = .ok (.istore_n 2, 1) := by decide +kernel
theorem dX8_isEachLotOnce_4 : decode cX8_isEachLotOnce 4 = .ok (.iload_n 2, 1) := by decide +kernel
theorem dX8_isEachLotOnce_5 : decode cX8_isEachLotOnce 5 = .ok (.iconst 4, 1) := by decide +kernel
theorem dX8_isEachLotOnce_6 : decode cX8_isEachLotOnce 6 = .ok (.if_icmp .ge 19, 3) := by decide +kernel
theorem dX8_isEachLotOnce_9 : decode cX8_isEachLotOnce 9 = .ok (.iload_n 1, 1) := by decide +kernel
theorem dX8_isEachLotOnce_10 : decode cX8_isEachLotOnce 10 = .ok (.iconst 1, 1) := by decide +kernel
theorem dX8_isEachLotOnce_11 : decode cX8_isEachLotOnce 11 = .ok (.iload_n 0, 1) := by decide +kernel
theorem dX8_isEachLotOnce_12 : decode cX8_isEachLotOnce 12 = .ok (.iload_n 2, 1) := by decide +kernel
theorem dX8_isEachLotOnce_13 : decode cX8_isEachLotOnce 13 = .ok (.invokestatic 171, 3) := by decide +kernel
theorem dX8_isEachLotOnce_16 : decode cX8_isEachLotOnce 16 = .ok (.ishl, 1) := by decide +kernel
theorem dX8_isEachLotOnce_17 : decode cX8_isEachLotOnce 17 = .ok (.ior, 1) := by decide +kernel
theorem dX8_isEachLotOnce_18 : decode cX8_isEachLotOnce 18 = .ok (.istore_n 1, 1) := by decide +kernel
theorem dX8_isEachLotOnce_19 : decode cX8_isEachLotOnce 19 = .ok (.iinc 2 1, 3) := by decide +kernel
theorem dX8_isEachLotOnce_22 : decode cX8_isEachLotOnce 22 = .ok (.goto (-18), 3) := by decide +kernel
theorem dX8_isEachLotOnce_25 : decode cX8_isEachLotOnce 25 = .ok (.iload_n 1, 1) := by decide +kernel
theorem dX8_isEachLotOnce_26 : decode cX8_isEachLotOnce 26 = .ok (.bipush 15, 2) := by decide +kernel
theorem dX8_isEachLotOnce_28 : decode cX8_isEachLotOnce 28 = .ok (.if_icmp .ne 7, 3) := by decide +kernel
theorem dX8_isEachLotOnce_31 : decode cX8_isEachLotOnce 31 = .ok (.iconst 1, 1) := by decide +kernel
theorem dX8_isEachLotOnce_32 : decode cX8_isEachLotOnce 32 = .ok (.goto 4, 3) := by decide +kernel
theorem dX8_isEachLotOnce_35 : decode cX8_isEachLotOnce 35 = .ok (.iconst 0, 1) := by decide +kernel
theorem dX8_isEachLotOnce_36 : decode cX8_isEachLotOnce 36 = .ok (.ireturn, 1) := by decide +kernel
theorem dX8_sellOrder_0 : decode cX8_sellOrder 0 = .ok (.iconst 0, 1) := by decide +kernel
theorem dX8_sellOrder_1 : decode cX8_sellOrder 1 = .ok (.istore_n 2, 1) := by decide +kernel
theorem dX8_sellOrder_2 : decode cX8_sellOrder 2 = .ok (.aload_n 0, 1) := by decide +kernel
theorem dX8_sellOrder_3 : decode cX8_sellOrder 3 = .ok (.getfield 37, 3) := by decide +kernel
theorem dX8_sellOrder_6 : decode cX8_sellOrder 6 = .ok (.bipush 63, 2) := by decide +kernel
theorem dX8_sellOrder_8 : decode cX8_sellOrder 8 = .ok (.invokevirtual 177, 3) := by decide +kernel
theorem dX8_sellOrder_11 : decode cX8_sellOrder 11 = .ok (.iconst 0, 1) := by decide +kernel
theorem dX8_sellOrder_12 : decode cX8_sellOrder 12 = .ok (.istore_n 3, 1) := by decide +kernel
theorem dX8_sellOrder_13 : decode cX8_sellOrder 13 = .ok (.iload_n 3, 1) := by decide +kernel
theorem dX8_sellOrder_14 : decode cX8_sellOrder 14 = .ok (.iconst 4, 1) := by decide +kernel
theorem dX8_sellOrder_15 : decode cX8_sellOrder 15 = .ok (.if_icmp .ge 24, 3) := by decide +kernel
theorem dX8_sellOrder_18 : decode cX8_sellOrder 18 = .ok (.iload_n 2, 1) := by decide +kernel
theorem dX8_sellOrder_19 : decode cX8_sellOrder 19 = .ok (.aload_n 0, 1) := by decide +kernel
theorem dX8_sellOrder_20 : decode cX8_sellOrder 20 = .ok (.getfield 37, 3) := by decide +kernel
theorem dX8_sellOrder_23 : decode cX8_sellOrder 23 = .ok (.iload_n 1, 1) := by decide +kernel
theorem dX8_sellOrder_24 : decode cX8_sellOrder 24 = .ok (.iload_n 3, 1) := by decide +kernel
theorem dX8_sellOrder_25 : decode cX8_sellOrder 25 = .ok (.invokestatic 171, 3) := by decide +kernel
theorem dX8_sellOrder_28 : decode cX8_sellOrder 28 = .ok (.invokevirtual 274, 3) := by decide +kernel
theorem dX8_sellOrder_31 : decode cX8_sellOrder 31 = .ok (.iadd, 1) := by decide +kernel
theorem dX8_sellOrder_32 : decode cX8_sellOrder 32 = .ok (.istore_n 2, 1) := by decide +kernel
theorem dX8_sellOrder_33 : decode cX8_sellOrder 33 = .ok (.iinc 3 1, 3) := by decide +kernel
theorem dX8_sellOrder_36 : decode cX8_sellOrder 36 = .ok (.goto (-23), 3) := by decide +kernel
theorem dX8_sellOrder_39 : decode cX8_sellOrder 39 = .ok (.iload_n 2, 1) := by decide +kernel
theorem dX8_sellOrder_40 : decode cX8_sellOrder 40 = .ok (.ireturn, 1) := by decide +kernel
theorem dX8_areReadingsSo_0 : decode cX8_areReadingsSo 0 = .ok (.iconst 0, 1) := by decide +kernel
theorem dX8_areReadingsSo_1 : decode cX8_areReadingsSo 1 = .ok (.istore 4, 2) := by decide +kernel
theorem dX8_areReadingsSo_3 : decode cX8_areReadingsSo 3 = .ok (.iload 4, 2) := by decide +kernel
theorem dX8_areReadingsSo_5 : decode cX8_areReadingsSo 5 = .ok (.iconst 4, 1) := by decide +kernel
theorem dX8_areReadingsSo_6 : decode cX8_areReadingsSo 6 = .ok (.if_icmp .ge 59, 3) := by decide +kernel
theorem dX8_areReadingsSo_9 : decode cX8_areReadingsSo 9 = .ok (.iload 4, 2) := by decide +kernel
theorem dX8_areReadingsSo_11 : decode cX8_areReadingsSo 11 = .ok (.iload_n 3, 1) := by decide +kernel
theorem dX8_areReadingsSo_12 : decode cX8_areReadingsSo 12 = .ok (.if_icmp .eq 47, 3) := by decide +kernel
theorem dX8_areReadingsSo_15 : decode cX8_areReadingsSo 15 = .ok (.aload_n 0, 1) := by decide +kernel
theorem dX8_areReadingsSo_16 : decode cX8_areReadingsSo 16 = .ok (.getfield 44, 3) := by decide +kernel
theorem dX8_areReadingsSo_19 : decode cX8_areReadingsSo 19 = .ok (.iload 4, 2) := by decide +kernel
theorem dX8_areReadingsSo_21 : decode cX8_areReadingsSo 21 = .ok (.invokevirtual 277, 3) := by decide +kernel
theorem dX8_areReadingsSo_24 : decode cX8_areReadingsSo 24 = .ok (.ifCond .ne 6, 3) := by decide +kernel
theorem dX8_areReadingsSo_27 : decode cX8_areReadingsSo 27 = .ok (.goto 32, 3) := by decide +kernel
theorem dX8_areReadingsSo_30 : decode cX8_areReadingsSo 30 = .ok (.aload_n 0, 1) := by decide +kernel
theorem dX8_areReadingsSo_31 : decode cX8_areReadingsSo 31 = .ok (.iload_n 1, 1) := by decide +kernel
theorem dX8_areReadingsSo_32 : decode cX8_areReadingsSo 32 = .ok (.iload_n 2, 1) := by decide +kernel
theorem dX8_areReadingsSo_33 : decode cX8_areReadingsSo 33 = .ok (.iload 4, 2) := by decide +kernel
theorem dX8_areReadingsSo_35 : decode cX8_areReadingsSo 35 = .ok (.invokevirtual 267, 3) := by decide +kernel
theorem dX8_areReadingsSo_38 : decode cX8_areReadingsSo 38 = .ok (.aload_n 0, 1) := by decide +kernel
theorem dX8_areReadingsSo_39 : decode cX8_areReadingsSo 39 = .ok (.getfield 44, 3) := by decide +kernel
theorem dX8_areReadingsSo_42 : decode cX8_areReadingsSo 42 = .ok (.iload 4, 2) := by decide +kernel
theorem dX8_areReadingsSo_44 : decode cX8_areReadingsSo 44 = .ok (.aload_n 0, 1) := by decide +kernel
theorem dX8_areReadingsSo_45 : decode cX8_areReadingsSo 45 = .ok (.getfield 37, 3) := by decide +kernel
theorem dX8_areReadingsSo_48 : decode cX8_areReadingsSo 48 = .ok (.getfield 136, 3) := by decide +kernel
theorem dX8_areReadingsSo_51 : decode cX8_areReadingsSo 51 = .ok (.invokevirtual 280, 3) := by decide +kernel
theorem dX8_areReadingsSo_54 : decode cX8_areReadingsSo 54 = .ok (.ifCond .ne 5, 3) := by decide +kernel
theorem dX8_areReadingsSo_57 : decode cX8_areReadingsSo 57 = .ok (.iconst 0, 1) := by decide +kernel
theorem dX8_areReadingsSo_58 : decode cX8_areReadingsSo 58 = .ok (.ireturn, 1) := by decide +kernel
theorem dX8_areReadingsSo_59 : decode cX8_areReadingsSo 59 = .ok (.iinc 4 1, 3) := by decide +kernel
theorem dX8_areReadingsSo_62 : decode cX8_areReadingsSo 62 = .ok (.goto (-59), 3) := by decide +kernel
theorem dX8_areReadingsSo_65 : decode cX8_areReadingsSo 65 = .ok (.iconst 1, 1) := by decide +kernel
theorem dX8_areReadingsSo_66 : decode cX8_areReadingsSo 66 = .ok (.ireturn, 1) := by decide +kernel
theorem dX8_isReadingSo_0 : decode cX8_isReadingSo 0 = .ok (.aload_n 0, 1) := by decide +kernel
theorem dX8_isReadingSo_1 : decode cX8_isReadingSo 1 = .ok (.getfield 44, 3) := by decide +kernel
theorem dX8_isReadingSo_4 : decode cX8_isReadingSo 4 = .ok (.iload_n 2, 1) := by decide +kernel
theorem dX8_isReadingSo_5 : decode cX8_isReadingSo 5 = .ok (.invokevirtual 277, 3) := by decide +kernel
theorem dX8_isReadingSo_8 : decode cX8_isReadingSo 8 = .ok (.ifCond .ne 5, 3) := by decide +kernel
theorem dX8_isReadingSo_11 : decode cX8_isReadingSo 11 = .ok (.iconst 1, 1) := by decide +kernel
theorem dX8_isReadingSo_12 : decode cX8_isReadingSo 12 = .ok (.ireturn, 1) := by decide +kernel
theorem dX8_isReadingSo_13 : decode cX8_isReadingSo 13 = .ok (.aload_n 0, 1) := by decide +kernel
theorem dX8_isReadingSo_14 : decode cX8_isReadingSo 14 = .ok (.getfield 37, 3) := by decide +kernel
theorem dX8_isReadingSo_17 : decode cX8_isReadingSo 17 = .ok (.bipush 63, 2) := by decide +kernel
theorem dX8_isReadingSo_19 : decode cX8_isReadingSo 19 = .ok (.invokevirtual 177, 3) := by decide +kernel
theorem dX8_isReadingSo_22 : decode cX8_isReadingSo 22 = .ok (.aload_n 0, 1) := by decide +kernel
theorem dX8_isReadingSo_23 : decode cX8_isReadingSo 23 = .ok (.getfield 37, 3) := by decide +kernel
theorem dX8_isReadingSo_26 : decode cX8_isReadingSo 26 = .ok (.iload_n 2, 1) := by decide +kernel
theorem dX8_isReadingSo_27 : decode cX8_isReadingSo 27 = .ok (.invokevirtual 180, 3) := by decide +kernel
theorem dX8_isReadingSo_30 : decode cX8_isReadingSo 30 = .ok (.aload_n 0, 1) := by decide +kernel
theorem dX8_isReadingSo_31 : decode cX8_isReadingSo 31 = .ok (.getfield 37, 3) := by decide +kernel
theorem dX8_isReadingSo_34 : decode cX8_isReadingSo 34 = .ok (.getfield 283, 3) := by decide +kernel
theorem dX8_isReadingSo_37 : decode cX8_isReadingSo 37 = .ok (.iload_n 1, 1) := by decide +kernel
theorem dX8_isReadingSo_38 : decode cX8_isReadingSo 38 = .ok (.iload_n 3, 1) := by decide +kernel
theorem dX8_isReadingSo_39 : decode cX8_isReadingSo 39 = .ok (.iastore, 1) := by decide +kernel
theorem dX8_isReadingSo_40 : decode cX8_isReadingSo 40 = .ok (.aload_n 0, 1) := by decide +kernel
theorem dX8_isReadingSo_41 : decode cX8_isReadingSo 41 = .ok (.getfield 37, 3) := by decide +kernel
theorem dX8_isReadingSo_44 : decode cX8_isReadingSo 44 = .ok (.invokevirtual 186, 3) := by decide +kernel
theorem dX8_isReadingSo_47 : decode cX8_isReadingSo 47 = .ok (.aload_n 0, 1) := by decide +kernel
theorem dX8_isReadingSo_48 : decode cX8_isReadingSo 48 = .ok (.getfield 44, 3) := by decide +kernel
theorem dX8_isReadingSo_51 : decode cX8_isReadingSo 51 = .ok (.iload_n 2, 1) := by decide +kernel
theorem dX8_isReadingSo_52 : decode cX8_isReadingSo 52 = .ok (.aload_n 0, 1) := by decide +kernel
theorem dX8_isReadingSo_53 : decode cX8_isReadingSo 53 = .ok (.getfield 37, 3) := by decide +kernel
theorem dX8_isReadingSo_56 : decode cX8_isReadingSo 56 = .ok (.getfield 136, 3) := by decide +kernel
theorem dX8_isReadingSo_59 : decode cX8_isReadingSo 59 = .ok (.invokevirtual 280, 3) := by decide +kernel
theorem dX8_isReadingSo_62 : decode cX8_isReadingSo 62 = .ok (.ireturn, 1) := by decide +kernel
