theorem dX7_init_0 : decode cX7_init 0 = .ok (.aload_n 0, 1) := by decide +kernel
theorem dX7_init_1 : decode cX7_init 1 = .ok (.invokespecial 3, 3) := by decide +kernel
theorem dX7_init_4 : decode cX7_init 4 = .ok (.aload_n 0, 1) := by decide +kernel
theorem dX7_init_5 : decode cX7_init 5 = .ok (.new 9, 3) := by decide +kernel
theorem dX7_init_8 : decode cX7_init 8 = .ok (.dup, 1) := by decide +kernel
theorem dX7_init_9 : decode cX7_init 9 = .ok (.invokespecial 11, 3) := by decide +kernel
theorem dX7_init_12 : decode cX7_init 12 = .ok (.putfield 12, 3) := by decide +kernel
theorem dX7_init_15 : decode cX7_init 15 = .ok (.aload_n 0, 1) := by decide +kernel
theorem dX7_init_16 : decode cX7_init 16 = .ok (.new 18, 3) := by decide +kernel
theorem dX7_init_19 : decode cX7_init 19 = .ok (.dup, 1) := by decide +kernel
theorem dX7_init_20 : decode cX7_init 20 = .ok (.invokespecial 20, 3) := by decide +kernel
theorem dX7_init_23 : decode cX7_init 23 = .ok (.putfield 21, 3) := by decide +kernel
theorem dX7_init_26 : decode cX7_init 26 = .ok (.aload_n 0, 1) := by decide +kernel
theorem dX7_init_27 : decode cX7_init 27 = .ok (.bipush 6, 2) := by decide +kernel
theorem dX7_init_29 : decode cX7_init 29 = .ok (.anewarray 25, 3) := by decide +kernel
theorem dX7_init_32 : decode cX7_init 32 = .ok (.putfield 27, 3) := by decide +kernel
theorem dX7_init_35 : decode cX7_init 35 = .ok (.aload_n 0, 1) := by decide +kernel
theorem dX7_init_36 : decode cX7_init 36 = .ok (.iconst 5, 1) := by decide +kernel
theorem dX7_init_37 : decode cX7_init 37 = .ok (.anewarray 31, 3) := by decide +kernel
theorem dX7_init_40 : decode cX7_init 40 = .ok (.putfield 33, 3) := by decide +kernel
theorem dX7_init_43 : decode cX7_init 43 = .ok (.aload_n 0, 1) := by decide +kernel
theorem dX7_init_44 : decode cX7_init 44 = .ok (.bipush 10, 2) := by decide +kernel
theorem dX7_init_46 : decode cX7_init 46 = .ok (.newarray .int, 2) := by decide +kernel
theorem dX7_init_48 : decode cX7_init 48 = .ok (.putfield 37, 3) := by decide +kernel
theorem dX7_init_51 : decode cX7_init 51 = .ok (.aload_n 0, 1) := by decide +kernel
theorem dX7_init_52 : decode cX7_init 52 = .ok (.bipush 6, 2) := by decide +kernel
theorem dX7_init_54 : decode cX7_init 54 = .ok (.anewarray 41, 3) := by decide +kernel
theorem dX7_init_57 : decode cX7_init 57 = .ok (.putfield 43, 3) := by decide +kernel
theorem dX7_init_60 : decode cX7_init 60 = .ok (.aload_n 0, 1) := by decide +kernel
theorem dX7_init_61 : decode cX7_init 61 = .ok (.new 47, 3) := by decide +kernel
theorem dX7_init_64 : decode cX7_init 64 = .ok (.dup, 1) := by decide +kernel
theorem dX7_init_65 : decode cX7_init 65 = .ok (.invokespecial 49, 3) := by decide +kernel
theorem dX7_init_68 : decode cX7_init 68 = .ok (.putfield 50, 3) := by decide +kernel
theorem dX7_init_71 : decode cX7_init 71 = .ok (.aload_n 0, 1) := by decide +kernel
theorem dX7_init_72 : decode cX7_init 72 = .ok (.new 54, 3) := by decide +kernel
theorem dX7_init_75 : decode cX7_init 75 = .ok (.dup, 1) := by decide +kernel
theorem dX7_init_76 : decode cX7_init 76 = .ok (.invokespecial 56, 3) := by decide +kernel
theorem dX7_init_79 : decode cX7_init 79 = .ok (.putfield 57, 3) := by decide +kernel
theorem dX7_init_82 : decode cX7_init 82 = .ok (.iconst 0, 1) := by decide +kernel
theorem dX7_init_83 : decode cX7_init 83 = .ok (.istore_n 1, 1) := by decide +kernel
theorem dX7_init_84 : decode cX7_init 84 = .ok (.iload_n 1, 1) := by decide +kernel
theorem dX7_init_85 : decode cX7_init 85 = .ok (.aload_n 0, 1) := by decide +kernel
theorem dX7_init_86 : decode cX7_init 86 = .ok (.getfield 37, 3) := by decide +kernel
theorem dX7_init_89 : decode cX7_init 89 = .ok (.arraylength, 1) := by decide +kernel
theorem dX7_init_90 : decode cX7_init 90 = .ok (.if_icmp .ge 16, 3) := by decide +kernel
theorem dX7_init_93 : decode cX7_init 93 = .ok (.aload_n 0, 1) := by decide +kernel
theorem dX7_init_94 : decode cX7_init 94 = .ok (.getfield 37, 3) := by decide +kernel
theorem dX7_init_97 : decode cX7_init 97 = .ok (.iload_n 1, 1) := by decide +kernel
theorem dX7_init_98 : decode cX7_init 98 = .ok (.iconst 5, 1) := by decide +kernel
theorem dX7_init_99 : decode cX7_init 99 = .ok (.iastore, 1) := by decide +kernel
theorem dX7_init_100 : decode cX7_init 100 = .ok (.iinc 1 1, 3) := by decide +kernel
theorem dX7_init_103 : decode cX7_init 103 = .ok (.goto (-19), 3) := by decide +kernel
theorem dX7_init_106 : decode cX7_init 106 = .ok (.iconst 0, 1) := by decide +kernel
theorem dX7_init_107 : decode cX7_init 107 = .ok (.istore_n 1, 1) := by decide +kernel
theorem dX7_init_108 : decode cX7_init 108 = .ok (.iload_n 1, 1) := by decide +kernel
theorem dX7_init_109 : decode cX7_init 109 = .ok (.aload_n 0, 1) := by decide +kernel
theorem dX7_init_110 : decode cX7_init 110 = .ok (.getfield 43, 3) := by decide +kernel
theorem dX7_init_113 : decode cX7_init 113 = .ok (.arraylength, 1) := by decide +kernel
theorem dX7_init_114 : decode cX7_init 114 = .ok (.if_icmp .ge 22, 3) := by decide +kernel
theorem dX7_init_117 : decode cX7_init 117 = .ok (.aload_n 0, 1) := by decide +kernel
theorem dX7_init_118 : decode cX7_init 118 = .ok (.getfield 43, 3) := by decide +kernel
theorem dX7_init_121 : decode cX7_init 121 = .ok (.iload_n 1, 1) := by decide +kernel
theorem dX7_init_122 : decode cX7_init 122 = .ok (.new 41, 3) := by decide +kernel
theorem dX7_init_125 : decode cX7_init 125 = .ok (.dup, 1) := by decide +kernel
theorem dX7_init_126 : decode cX7_init 126 = .ok (.invokespecial 61, 3) := by decide +kernel
theorem dX7_init_129 : decode cX7_init 129 = .ok (.aastore, 1) := by decide +kernel
theorem dX7_init_130 : decode cX7_init 130 = .ok (.iinc 1 1, 3) := by decide +kernel
theorem dX7_init_133 : decode cX7_init 133 = .ok (.goto (-25), 3) := by decide +kernel
theorem dX7_init_136 : decode cX7_init 136 = .ok (.return_, 1) := by decide +kernel
theorem dX7_feed_0 : decode cX7_feed 0 = .ok (.iload_n 2, 1) := by decide +kernel
theorem dX7_feed_1 : decode cX7_feed 1 = .ok (.ifCond .lt 8, 3) := by decide +kernel
theorem dX7_feed_4 : decode cX7_feed 4 = .ok (.iload_n 2, 1) := by decide +kernel
theorem dX7_feed_5 : decode cX7_feed 5 = .ok (.iconst 4, 1) := by decide +kernel
theorem dX7_feed_6 : decode cX7_feed 6 = .ok (.if_icmp .le 6, 3) := by decide +kernel
theorem dX7_feed_9 : decode cX7_feed 9 = .ok (.bipush (-2), 2) := by decide +kernel
theorem dX7_feed_11 : decode cX7_feed 11 = .ok (.ireturn, 1) := by decide +kernel
theorem dX7_feed_12 : decode cX7_feed 12 = .ok (.aload_n 0, 1) := by decide +kernel
theorem dX7_feed_13 : decode cX7_feed 13 = .ok (.getfield 12, 3) := by decide +kernel
theorem dX7_feed_16 : decode cX7_feed 16 = .ok (.invokevirtual 62, 3) := by decide +kernel
theorem dX7_feed_19 : decode cX7_feed 19 = .ok (.iload_n 2, 1) := by decide +kernel
theorem dX7_feed_20 : decode cX7_feed 20 = .ok (.iadd, 1) := by decide +kernel
theorem dX7_feed_21 : decode cX7_feed 21 = .ok (.bipush 100, 2) := by decide +kernel
theorem dX7_feed_23 : decode cX7_feed 23 = .ok (.if_icmp .le 6, 3) := by decide +kernel
theorem dX7_feed_26 : decode cX7_feed 26 = .ok (.bipush (-4), 2) := by decide +kernel
theorem dX7_feed_28 : decode cX7_feed 28 = .ok (.ireturn, 1) := by decide +kernel
theorem dX7_feed_29 : decode cX7_feed 29 = .ok (.iload_n 2, 1) := by decide +kernel
theorem dX7_feed_30 : decode cX7_feed 30 = .ok (.iconst 1, 1) := by decide +kernel
theorem dX7_feed_31 : decode cX7_feed 31 = .ok (.isub, 1) := by decide +kernel
theorem dX7_feed_32 : decode cX7_feed 32 = .ok (.istore_n 3, 1) := by decide +kernel
theorem dX7_feed_33 : decode cX7_feed 33 = .ok (.iload_n 3, 1) := by decide +kernel
theorem dX7_feed_34 : decode cX7_feed 34 = .ok (.ifCond .lt 26, 3) := by decide +kernel
theorem dX7_feed_37 : decode cX7_feed 37 = .ok (.aload_n 0, 1) := by decide +kernel
theorem dX7_feed_38 : decode cX7_feed 38 = .ok (.getfield 12, 3) := by decide +kernel
theorem dX7_feed_41 : decode cX7_feed 41 = .ok (.iload_n 1, 1) := by decide +kernel
theorem dX7_feed_42 : decode cX7_feed 42 = .ok (.bipush 8, 2) := by decide +kernel
theorem dX7_feed_44 : decode cX7_feed 44 = .ok (.iload_n 3, 1) := by decide +kernel
theorem dX7_feed_45 : decode cX7_feed 45 = .ok (.imul, 1) := by decide +kernel
theorem dX7_feed_46 : decode cX7_feed 46 = .ok (.ishr, 1) := by decide +kernel
theorem dX7_feed_47 : decode cX7_feed 47 = .ok (.sipush 255, 3) := by decide +kernel
theorem dX7_feed_50 : decode cX7_feed 50 = .ok (.iand, 1) := by decide +kernel
theorem dX7_feed_51 : decode cX7_feed 51 = .ok (.invokevirtual 66, 3) := by decide +kernel
theorem dX7_feed_54 : decode cX7_feed 54 = .ok (.iinc 3 (-1), 3) := by decide +kernel
theorem dX7_feed_57 : decode cX7_feed 57 = .ok (.goto (-24), 3) := by decide +kernel
theorem dX7_feed_60 : decode cX7_feed 60 = .ok (.aload_n 0, 1) := by decide +kernel
theorem dX7_feed_61 : decode cX7_feed 61 = .ok (.getfield 12, 3) := by decide +kernel
theorem dX7_feed_64 : decode cX7_feed 64 = .ok (.invokevirtual 62, 3) := by decide +kernel
theorem dX7_feed_67 : decode cX7_feed 67 = .ok (.ireturn, 1) := by decide +kernel
theorem dX7_text_0 : decode cX7_text 0 = .ok (.iload_n 1, 1) := by decide +kernel
theorem dX7_text_1 : decode cX7_text 1 = .ok (.ifCond .eq 10, 3) := by decide +kernel
theorem dX7_text_4 : decode cX7_text 4 = .ok (.iload_n 1, 1) := by decide +kernel
theorem dX7_text_5 : decode cX7_text 5 = .ok (.iconst 1, 1) := by decide +kernel
theorem dX7_text_6 : decode cX7_text 6 = .ok (.if_icmp .eq 5, 3) := by decide +kernel
theorem dX7_text_9 : decode cX7_text 9 = .ok (.iconst (-1), 1) := by decide +kernel
theorem dX7_text_10 : decode cX7_text 10 = .ok (.ireturn, 1) := by decide +kernel
theorem dX7_text_11 : decode cX7_text 11 = .ok (.iload_n 1, 1) := by decide +kernel
theorem dX7_text_12 : decode cX7_text 12 = .ok (.ifCond .ne 18, 3) := by decide +kernel
theorem dX7_text_15 : decode cX7_text 15 = .ok (.aload_n 0, 1) := by decide +kernel
theorem dX7_text_16 : decode cX7_text 16 = .ok (.getfield 70, 3) := by decide +kernel
theorem dX7_text_19 : decode cX7_text 19 = .ok (.aload_n 0, 1) := by decide +kernel
theorem dX7_text_20 : decode cX7_text 20 = .ok (.getfield 27, 3) := by decide +kernel
theorem dX7_text_23 : decode cX7_text 23 = .ok (.arraylength, 1) := by decide +kernel
theorem dX7_text_24 : decode cX7_text 24 = .ok (.if_icmp .lt 21, 3) := by decide +kernel
theorem dX7_text_27 : decode cX7_text 27 = .ok (.goto 15, 3) := by decide +kernel
theorem dX7_text_30 : decode cX7_text 30 = .ok (.aload_n 0, 1) := by decide +kernel
theorem dX7_text_31 : decode cX7_text 31 = .ok (.getfield 74, 3) := by decide +kernel
theorem dX7_text_34 : decode cX7_text 34 = .ok (.aload_n 0, 1) := by decide +kernel
theorem dX7_text_35 : decode cX7_text 35 = .ok (.getfield 33, 3) := by decide +kernel
theorem dX7_text_38 : decode cX7_text 38 = .ok (.arraylength, 1) := by decide +kernel
theorem dX7_text_39 : decode cX7_text 39 = .ok (.if_icmp .lt 6, 3) := by decide +kernel
theorem dX7_text_42 : decode cX7_text 42 = .ok (.bipush (-4), 2) := by decide +kernel
theorem dX7_text_44 : decode cX7_text 44 = .ok (.ireturn, 1) := by decide +kernel
theorem dX7_text_45 : decode cX7_text 45 = .ok (.iload_n 1, 1) := by decide +kernel
theorem dX7_text_46 : decode cX7_text 46 = .ok (.ifCond .ne 13, 3) := by decide +kernel
theorem dX7_text_49 : decode cX7_text 49 = .ok (.aload_n 0, 1) := by decide +kernel
theorem dX7_text_50 : decode cX7_text 50 = .ok (.getfield 12, 3) := by decide +kernel
theorem dX7_text_53 : decode cX7_text 53 = .ok (.invokestatic 77, 3) := by decide +kernel
theorem dX7_text_56 : decode cX7_text 56 = .ok (.goto 14, 3) := by decide +kernel
theorem dX7_text_59 : decode cX7_text 59 = .ok (.aload_n 0, 1) := by decide +kernel
theorem dX7_text_60 : decode cX7_text 60 = .ok (.getfield 21, 3) := by decide +kernel
theorem dX7_text_63 : decode cX7_text 63 = .ok (.aload_n 0, 1) := by decide +kernel
theorem dX7_text_64 : decode cX7_text 64 = .ok (.getfield 12, 3) := by decide +kernel
theorem dX7_text_67 : decode cX7_text 67 = .ok (.invokevirtual 81, 3) := by decide +kernel
theorem dX7_text_70 : decode cX7_text 70 = .ok (.istore_n 2, 1) := by decide +kernel
theorem dX7_text_71 : decode cX7_text 71 = .ok (.bipush (-10), 2) := by decide +kernel
theorem dX7_text_73 : decode cX7_text 73 = .ok (.iload_n 2, 1) := by decide +kernel
theorem dX7_text_74 : decode cX7_text 74 = .ok (.isub, 1) := by decide +kernel
theorem dX7_text_75 : decode cX7_text 75 = .ok (.istore_n 3, 1) := by decide +kernel
theorem dX7_text_76 : decode cX7_text 76 = .ok (.iload_n 2, 1) := by decide +kernel
theorem dX7_text_77 : decode cX7_text 77 = .ok (.ifCond .ge 19, 3) := by decide +kernel
theorem dX7_text_80 : decode cX7_text 80 = .ok (.iload_n 1, 1) := by decide +kernel
theorem dX7_text_81 : decode cX7_text 81 = .ok (.ifCond .ne 10, 3) := by decide +kernel
theorem dX7_text_84 : decode cX7_text 84 = .ok (.aload_n 0, 1) := by decide +kernel
theorem dX7_text_85 : decode cX7_text 85 = .ok (.invokevirtual 82, 3) := by decide +kernel
theorem dX7_text_88 : decode cX7_text 88 = .ok (.goto 7, 3) := by decide +kernel
theorem dX7_text_91 : decode cX7_text 91 = .ok (.aload_n 0, 1) := by decide +kernel
theorem dX7_text_92 : decode cX7_text 92 = .ok (.invokevirtual 85, 3) := by decide +kernel
theorem dX7_text_95 : decode cX7_text 95 = .ok (.istore_n 3, 1) := by decide +kernel
theorem dX7_text_96 : decode cX7_text 96 = .ok (.aload_n 0, 1) := by decide +kernel
theorem dX7_text_97 : decode cX7_text 97 = .ok (.getfield 12, 3) := by decide +kernel
theorem dX7_text_100 : decode cX7_text 100 = .ok (.invokevirtual 88, 3) := by decide +kernel
theorem dX7_text_103 : decode cX7_text 103 = .ok (.iload_n 3, 1) := by decide +kernel
theorem dX7_text_104 : decode cX7_text 104 = .ok (.ireturn, 1) := by decide +kernel
theorem dX7_word_0 : decode cX7_word 0 = .ok (.aload_n 0, 1) := by decide +kernel
theorem dX7_word_1 : decode cX7_word 1 = .ok (.iload_n 1, 1) := by decide +kernel
theorem dX7_word_2 : decode cX7_word 2 = .ok (.invokevirtual 91, 3) := by decide +kernel
theorem dX7_word_5 : decode cX7_word 5 = .ok (.astore_n 3, 1) := by decide +kernel
theorem dX7_word_6 : decode cX7_word 6 = .ok (.aload_n 3, 1) := by decide +kernel
theorem dX7_word_7 : decode cX7_word 7 = .ok (.ifnull 16, 3) := by decide +kernel
theorem dX7_word_10 : decode cX7_word 10 = .ok (.iload_n 2, 1) := by decide +kernel
theorem dX7_word_11 : decode cX7_word 11 = .ok (.iconst (-1), 1) := by decide +kernel
theorem dX7_word_12 : decode cX7_word 12 = .ok (.if_icmp .lt 11, 3) := by decide +kernel
theorem dX7_word_15 : decode cX7_word 15 = .ok (.iload_n 2, 1) := by decide +kernel
theorem dX7_word_16 : decode cX7_word 16 = .ok (.aload_n 3, 1) := by decide +kernel
theorem dX7_word_17 : decode cX7_word 17 = .ok (.invokevirtual 95, 3) := by decide +kernel
theorem dX7_word_20 : decode cX7_word 20 = .ok (.if_icmp .lt 5, 3) := by decide +kernel
theorem dX7_word_23 : decode cX7_word 23 = .ok (.iconst (-1), 1) := by decide +kernel
theorem dX7_word_24 : decode cX7_word 24 = .ok (.ireturn, 1) := by decide +kernel
theorem dX7_word_25 : decode cX7_word 25 = .ok (.iload_n 2, 1) := by decide +kernel
theorem dX7_word_26 : decode cX7_word 26 = .ok (.iconst (-1), 1) := by decide +kernel
theorem dX7_word_27 : decode cX7_word 27 = .ok (.if_icmp .ne 10, 3) := by decide +kernel
theorem dX7_word_30 : decode cX7_word 30 = .ok (.aload_n 3, 1) := by decide +kernel
theorem dX7_word_31 : decode cX7_word 31 = .ok (.invokevirtual 95, 3) := by decide +kernel
theorem dX7_word_34 : decode cX7_word 34 = .ok (.goto 8, 3) := by decide +kernel
theorem dX7_word_37 : decode cX7_word 37 = .ok (.aload_n 3, 1) := by decide +kernel
theorem dX7_word_38 : decode cX7_word 38 = .ok (.iload_n 2, 1) := by decide +kernel
theorem dX7_word_39 : decode cX7_word 39 = .ok (.invokevirtual 96, 3) := by decide +kernel
theorem dX7_word_42 : decode cX7_word 42 = .ok (.ireturn, 1) := by decide +kernel
theorem dX7_price_0 : decode cX7_price 0 = .ok (.iload_n 1, 1) := by decide +kernel
theorem dX7_price_1 : decode cX7_price 1 = .ok (.ifCond .lt 12, 3) := by decide +kernel
theorem dX7_price_4 : decode cX7_price 4 = .ok (.iload_n 1, 1) := by decide +kernel
theorem dX7_price_5 : decode cX7_price 5 = .ok (.aload_n 0, 1) := by decide +kernel
theorem dX7_price_6 : decode cX7_price 6 = .ok (.getfield 37, 3) := by decide +kernel
theorem dX7_price_9 : decode cX7_price 9 = .ok (.arraylength, 1) := by decide +kernel
theorem dX7_price_10 : decode cX7_price 10 = .ok (.if_icmp .lt 5, 3) := by decide +kernel
theorem dX7_price_13 : decode cX7_price 13 = .ok (.iconst (-1), 1) := by decide +kernel
theorem dX7_price_14 : decode cX7_price 14 = .ok (.ireturn, 1) := by decide +kernel
theorem dX7_price_15 : decode cX7_price 15 = .ok (.iload_n 2, 1) := by decide +kernel
theorem dX7_price_16 : decode cX7_price 16 = .ok (.ifCond .lt 9, 3) := by decide +kernel
theorem dX7_price_19 : decode cX7_price 19 = .ok (.iload_n 2, 1) := by decide +kernel
theorem dX7_price_20 : decode cX7_price 20 = .ok (.bipush 99, 2) := by decide +kernel
theorem dX7_price_22 : decode cX7_price 22 = .ok (.if_icmp .le 6, 3) := by decide +kernel
theorem dX7_price_25 : decode cX7_price 25 = .ok (.bipush (-2), 2) := by decide +kernel
theorem dX7_price_27 : decode cX7_price 27 = .ok (.ireturn, 1) := by decide +kernel
theorem dX7_price_28 : decode cX7_price 28 = .ok (.aload_n 0, 1) := by decide +kernel
theorem dX7_price_29 : decode cX7_price 29 = .ok (.getfield 37, 3) := by decide +kernel
theorem dX7_price_32 : decode cX7_price 32 = .ok (.iload_n 1, 1) := by decide +kernel
theorem dX7_price_33 : decode cX7_price 33 = .ok (.iaload, 1) := by decide +kernel
theorem dX7_price_34 : decode cX7_price 34 = .ok (.istore_n 3, 1) := by decide +kernel
theorem dX7_price_35 : decode cX7_price 35 = .ok (.aload_n 0, 1) := by decide +kernel
theorem dX7_price_36 : decode cX7_price 36 = .ok (.getfield 37, 3) := by decide +kernel
theorem dX7_price_39 : decode cX7_price 39 = .ok (.iload_n 1, 1) := by decide +kernel
theorem dX7_price_40 : decode cX7_price 40 = .ok (.iload_n 2, 1) := by decide +kernel
theorem dX7_price_41 : decode cX7_price 41 = .ok (.iastore, 1) := by decide +kernel
theorem dX7_price_42 : decode cX7_price 42 = .ok (.iload_n 3, 1) := by decide +kernel
theorem dX7_price_43 : decode cX7_price 43 = .ok (.ireturn, 1) := by decide +kernel
theorem dX7_reads_0 : decode cX7_reads 0 = .ok (.aload_n 0, 1) := by decide +kernel
theorem dX7_reads_1 : decode cX7_reads 1 = .ok (.iload_n 1, 1) := by decide +kernel
theorem dX7_reads_2 : decode cX7_reads 2 = .ok (.invokevirtual 91, 3) := by decide +kernel
theorem dX7_reads_5 : decode cX7_reads 5 = .ok (.astore_n 3, 1) := by decide +kernel
theorem dX7_reads_6 : decode cX7_reads 6 = .ok (.aload_n 3, 1) := by decide +kernel
theorem dX7_reads_7 : decode cX7_reads 7 = .ok (.ifnonnull 5, 3) := by decide +kernel
theorem dX7_reads_10 : decode cX7_reads 10 = .ok (.iconst (-1), 1) := by decide +kernel
theorem dX7_reads_11 : decode cX7_reads 11 = .ok (.ireturn, 1) := by decide +kernel
theorem dX7_reads_12 : decode cX7_reads 12 = .ok (.aload_n 3, 1) := by decide +kernel
theorem dX7_reads_13 : decode cX7_reads 13 = .ok (.iload_n 2, 1) := by decide +kernel
theorem dX7_reads_14 : decode cX7_reads 14 = .ok (.invokevirtual 100, 3) := by decide +kernel
theorem dX7_reads_17 : decode cX7_reads 17 = .ok (.ifCond .ne 6, 3) := by decide +kernel
theorem dX7_reads_20 : decode cX7_reads 20 = .ok (.bipush (-2), 2) := by decide +kernel
theorem dX7_reads_22 : decode cX7_reads 22 = .ok (.ireturn, 1) := by decide +kernel
theorem dX7_reads_23 : decode cX7_reads 23 = .ok (.aload_n 3, 1) := by decide +kernel
theorem dX7_reads_24 : decode cX7_reads 24 = .ok (.iload_n 2, 1) := by decide +kernel
theorem dX7_reads_25 : decode cX7_reads 25 = .ok (.invokevirtual 104, 3) := by decide +kernel
theorem dX7_reads_28 : decode cX7_reads 28 = .ok (.ifCond .eq 7, 3) := by decide +kernel
theorem dX7_reads_31 : decode cX7_reads 31 = .ok (.iconst 1, 1) := by decide +kernel
theorem dX7_reads_32 : decode cX7_reads 32 = .ok (.goto 4, 3) := by decide +kernel
theorem dX7_reads_35 : decode cX7_reads 35 = .ok (.iconst 0, 1) := by decide +kernel
theorem dX7_reads_36 : decode cX7_reads 36 = .ok (.ireturn, 1) := by decide +kernel
theorem dX7_means_0 : decode cX7_means 0 = .ok (.aload_n 0, 1) := by decide +kernel
theorem dX7_means_1 : decode cX7_means 1 = .ok (.iload_n 1, 1) := by decide +kernel
theorem dX7_means_2 : decode cX7_means 2 = .ok (.invokevirtual 91, 3) := by decide +kernel
theorem dX7_means_5 : decode cX7_means 5 = .ok (.astore 4, 2) := by decide +kernel
theorem dX7_means_7 : decode cX7_means 7 = .ok (.aload 4, 2) := by decide +kernel
theorem dX7_means_9 : decode cX7_means 9 = .ok (.ifnull 12, 3) := by decide +kernel
theorem dX7_means_12 : decode cX7_means 12 = .ok (.aload 4, 2) := by decide +kernel
theorem dX7_means_14 : decode cX7_means 14 = .ok (.iload_n 2, 1) := by decide +kernel
theorem dX7_means_15 : decode cX7_means 15 = .ok (.invokevirtual 104, 3) := by decide +kernel
theorem dX7_means_18 : decode cX7_means 18 = .ok (.ifCond .ne 7, 3) := by decide +kernel
theorem dX7_means_21 : decode cX7_means 21 = .ok (.ldc2_w 107, 3) := by decide +kernel
theorem dX7_means_24 : decode cX7_means 24 = .ok (.lreturn, 1) := by decide +kernel
theorem dX7_means_25 : decode cX7_means 25 = .ok (.aload 4, 2) := by decide +kernel
theorem dX7_means_27 : decode cX7_means 27 = .ok (.iload_n 2, 1) := by decide +kernel
theorem dX7_means_28 : decode cX7_means 28 = .ok (.aload_n 0, 1) := by decide +kernel
theorem dX7_means_29 : decode cX7_means 29 = .ok (.getfield 57, 3) := by decide +kernel
theorem dX7_means_32 : decode cX7_means 32 = .ok (.invokevirtual 109, 3) := by decide +kernel
theorem dX7_means_35 : decode cX7_means 35 = .ok (.iload_n 3, 1) := by decide +kernel
theorem dX7_means_36 : decode cX7_means 36 = .ok (.iconst (-1), 1) := by decide +kernel
theorem dX7_means_37 : decode cX7_means 37 = .ok (.if_icmp .lt 14, 3) := by decide +kernel
theorem dX7_means_40 : decode cX7_means 40 = .ok (.iload_n 3, 1) := by decide +kernel
theorem dX7_means_41 : decode cX7_means 41 = .ok (.aload_n 0, 1) := by decide +kernel
theorem dX7_means_42 : decode cX7_means 42 = .ok (.getfield 57, 3) := by decide +kernel
theorem dX7_means_45 : decode cX7_means 45 = .ok (.invokevirtual 113, 3) := by decide +kernel
theorem dX7_means_48 : decode cX7_means 48 = .ok (.if_icmp .lt 7, 3) := by decide +kernel
theorem dX7_means_51 : decode cX7_means 51 = .ok (.ldc2_w 107, 3) := by decide +kernel
theorem dX7_means_54 : decode cX7_means 54 = .ok (.lreturn, 1) := by decide +kernel
theorem dX7_means_55 : decode cX7_means 55 = .ok (.iload_n 3, 1) := by decide +kernel
theorem dX7_means_56 : decode cX7_means 56 = .ok (.iconst (-1), 1) := by decide +kernel
theorem dX7_means_57 : decode cX7_means 57 = .ok (.if_icmp .ne 14, 3) := by decide +kernel
theorem dX7_means_60 : decode cX7_means 60 = .ok (.aload_n 0, 1) := by decide +kernel
theorem dX7_means_61 : decode cX7_means 61 = .ok (.getfield 57, 3) := by decide +kernel
theorem dX7_means_64 : decode cX7_means 64 = .ok (.invokevirtual 113, 3) := by decide +kernel
theorem dX7_means_67 : decode cX7_means 67 = .ok (.i2l, 1) := by decide +kernel
theorem dX7_means_68 : decode cX7_means 68 = .ok (.goto 12, 3) := by decide +kernel
theorem dX7_means_71 : decode cX7_means 71 = .ok (.aload_n 0, 1) := by decide +kernel
theorem dX7_means_72 : decode cX7_means 72 = .ok (.getfield 57, 3) := by decide +kernel
theorem dX7_means_75 : decode cX7_means 75 = .ok (.iload_n 3, 1) := by decide +kernel
theorem dX7_means_76 : decode cX7_means 76 = .ok (.invokevirtual 114, 3) := by decide +kernel
theorem dX7_means_79 : decode cX7_means 79 = .ok (.i2l, 1) := by decide +kernel
theorem dX7_means_80 : decode cX7_means 80 = .ok (.lreturn, 1) := by decide +kernel
theorem dX7_lawful_0 : decode cX7_lawful 0 = .ok (.aload_n 0, 1) := by decide +kernel
theorem dX7_lawful_1 : decode cX7_lawful 1 = .ok (.iload_n 1, 1) := by decide +kernel
theorem dX7_lawful_2 : decode cX7_lawful 2 = .ok (.invokevirtual 91, 3) := by decide +kernel
theorem dX7_lawful_5 : decode cX7_lawful 5 = .ok (.astore 4, 2) := by decide +kernel
theorem dX7_lawful_7 : decode cX7_lawful 7 = .ok (.aload_n 0, 1) := by decide +kernel
theorem dX7_lawful_8 : decode cX7_lawful 8 = .ok (.iload_n 3, 1) := by decide +kernel
theorem dX7_lawful_9 : decode cX7_lawful 9 = .ok (.invokevirtual 117, 3) := by decide +kernel
theorem dX7_lawful_12 : decode cX7_lawful 12 = .ok (.astore 5, 2) := by decide +kernel
theorem dX7_lawful_14 : decode cX7_lawful 14 = .ok (.aload 4, 2) := by decide +kernel
theorem dX7_lawful_16 : decode cX7_lawful 16 = .ok (.ifnull 8, 3) := by decide +kernel
theorem dX7_lawful_19 : decode cX7_lawful 19 = .ok (.aload 5, 2) := by decide +kernel
theorem dX7_lawful_21 : decode cX7_lawful 21 = .ok (.ifnonnull 5, 3) := by decide +kernel
theorem dX7_lawful_24 : decode cX7_lawful 24 = .ok (.iconst (-1), 1) := by decide +kernel
theorem dX7_lawful_25 : decode cX7_lawful 25 = .ok (.ireturn, 1) := by decide +kernel
theorem dX7_lawful_26 : decode cX7_lawful 26 = .ok (.aload 4, 2) := by decide +kernel
theorem dX7_lawful_28 : decode cX7_lawful 28 = .ok (.iload_n 2, 1) := by decide +kernel
theorem dX7_lawful_29 : decode cX7_lawful 29 = .ok (.invokevirtual 100, 3) := by decide +kernel
theorem dX7_lawful_32 : decode cX7_lawful 32 = .ok (.ifCond .ne 6, 3) := by decide +kernel
theorem dX7_lawful_35 : decode cX7_lawful 35 = .ok (.bipush (-2), 2) := by decide +kernel
theorem dX7_lawful_37 : decode cX7_lawful 37 = .ok (.ireturn, 1) := by decide +kernel
theorem dX7_lawful_38 : decode cX7_lawful 38 = .ok (.aload 4, 2) := by decide +kernel
theorem dX7_lawful_40 : decode cX7_lawful 40 = .ok (.iload_n 2, 1) := by decide +kernel
theorem dX7_lawful_41 : decode cX7_lawful 41 = .ok (.invokevirtual 104, 3) := by decide +kernel
theorem dX7_lawful_44 : decode cX7_lawful 44 = .ok (.ifCond .ne 5, 3) := by decide +kernel
theorem dX7_lawful_47 : decode cX7_lawful 47 = .ok (.iconst 0, 1) := by decide +kernel
theorem dX7_lawful_48 : decode cX7_lawful 48 = .ok (.ireturn, 1) := by decide +kernel
theorem dX7_lawful_49 : decode cX7_lawful 49 = .ok (.aload 4, 2) := by decide +kernel
theorem dX7_lawful_51 : decode cX7_lawful 51 = .ok (.iload_n 2, 1) := by decide +kernel
theorem dX7_lawful_52 : decode cX7_lawful 52 = .ok (.aload_n 0, 1) := by decide +kernel
theorem dX7_lawful_53 : decode cX7_lawful 53 = .ok (.getfield 57, 3) := by decide +kernel
theorem dX7_lawful_56 : decode cX7_lawful 56 = .ok (.invokevirtual 109, 3) := by decide +kernel
theorem dX7_lawful_59 : decode cX7_lawful 59 = .ok (.aload 5, 2) := by decide +kernel
theorem dX7_lawful_61 : decode cX7_lawful 61 = .ok (.aload_n 0, 1) := by decide +kernel
theorem dX7_lawful_62 : decode cX7_lawful 62 = .ok (.getfield 57, 3) := by decide +kernel
theorem dX7_lawful_65 : decode cX7_lawful 65 = .ok (.iconst 0, 1) := by decide +kernel
theorem dX7_lawful_66 : decode cX7_lawful 66 = .ok (.invokevirtual 121, 3) := by decide +kernel
theorem dX7_lawful_69 : decode cX7_lawful 69 = .ok (.ifCond .eq 7, 3) := by decide +kernel
theorem dX7_lawful_72 : decode cX7_lawful 72 = .ok (.iconst 1, 1) := by decide +kernel
theorem dX7_lawful_73 : decode cX7_lawful 73 = .ok (.goto 4, 3) := by decide +kernel
theorem dX7_lawful_76 : decode cX7_lawful 76 = .ok (.iconst 0, 1) := by decide +kernel
theorem dX7_lawful_77 : decode cX7_lawful 77 = .ok (.ireturn, 1) := by decide +kernel
theorem dX7_barred_0 : decode cX7_barred 0 = .ok (.aload_n 0, 1) := by decide +kernel
theorem dX7_barred_1 : decode cX7_barred 1 = .ok (.iload_n 1, 1) := by decide +kernel
theorem dX7_barred_2 : decode cX7_barred 2 = .ok (.invokevirtual 91, 3) := by decide +kernel
theorem dX7_barred_5 : decode cX7_barred 5 = .ok (.astore 4, 2) := by decide +kernel
theorem dX7_barred_7 : decode cX7_barred 7 = .ok (.aload_n 0, 1) := by decide +kernel
theorem dX7_barred_8 : decode cX7_barred 8 = .ok (.iload_n 3, 1) := by decide +kernel
theorem dX7_barred_9 : decode cX7_barred 9 = .ok (.invokevirtual 117, 3) := by decide +kernel
theorem dX7_barred_12 : decode cX7_barred 12 = .ok (.astore 5, 2) := by decide +kernel
theorem dX7_barred_14 : decode cX7_barred 14 = .ok (.aload 4, 2) := by decide +kernel
theorem dX7_barred_16 : decode cX7_barred 16 = .ok (.ifnull 8, 3) := by decide +kernel
theorem dX7_barred_19 : decode cX7_barred 19 = .ok (.aload 5, 2) := by decide +kernel
theorem dX7_barred_21 : decode cX7_barred 21 = .ok (.ifnonnull 5, 3) := by decide +kernel
theorem dX7_barred_24 : decode cX7_barred 24 = .ok (.iconst (-1), 1) := by decide +kernel
theorem dX7_barred_25 : decode cX7_barred 25 = .ok (.ireturn, 1) := by decide +kernel
theorem dX7_barred_26 : decode cX7_barred 26 = .ok (.aload 4, 2) := by decide +kernel
theorem dX7_barred_28 : decode cX7_barred 28 = .ok (.iload_n 2, 1) := by decide +kernel
theorem dX7_barred_29 : decode cX7_barred 29 = .ok (.invokevirtual 100, 3) := by decide +kernel
theorem dX7_barred_32 : decode cX7_barred 32 = .ok (.ifCond .ne 6, 3) := by decide +kernel
theorem dX7_barred_35 : decode cX7_barred 35 = .ok (.bipush (-2), 2) := by decide +kernel
theorem dX7_barred_37 : decode cX7_barred 37 = .ok (.ireturn, 1) := by decide +kernel
theorem dX7_barred_38 : decode cX7_barred 38 = .ok (.aload 4, 2) := by decide +kernel
theorem dX7_barred_40 : decode cX7_barred 40 = .ok (.iload_n 2, 1) := by decide +kernel
theorem dX7_barred_41 : decode cX7_barred 41 = .ok (.invokevirtual 104, 3) := by decide +kernel
theorem dX7_barred_44 : decode cX7_barred 44 = .ok (.ifCond .ne 6, 3) := by decide +kernel
theorem dX7_barred_47 : decode cX7_barred 47 = .ok (.bipush (-3), 2) := by decide +kernel
theorem dX7_barred_49 : decode cX7_barred 49 = .ok (.ireturn, 1) := by decide +kernel
theorem dX7_barred_50 : decode cX7_barred 50 = .ok (.aload 4, 2) := by decide +kernel
theorem dX7_barred_52 : decode cX7_barred 52 = .ok (.iload_n 2, 1) := by decide +kernel
theorem dX7_barred_53 : decode cX7_barred 53 = .ok (.aload_n 0, 1) := by decide +kernel
theorem dX7_barred_54 : decode cX7_barred 54 = .ok (.getfield 57, 3) := by decide +kernel
theorem dX7_barred_57 : decode cX7_barred 57 = .ok (.invokevirtual 109, 3) := by decide +kernel
theorem dX7_barred_60 : decode cX7_barred 60 = .ok (.aload 5, 2) := by decide +kernel
theorem dX7_barred_62 : decode cX7_barred 62 = .ok (.aload_n 0, 1) := by decide +kernel
theorem dX7_barred_63 : decode cX7_barred 63 = .ok (.getfield 57, 3) := by decide +kernel
theorem dX7_barred_66 : decode cX7_barred 66 = .ok (.invokevirtual 125, 3) := by decide +kernel
theorem dX7_barred_69 : decode cX7_barred 69 = .ok (.ireturn, 1) := by decide +kernel
theorem dX7_let_0 : decode cX7_let 0 = .ok (.aload_n 0, 1) := by decide +kernel
theorem dX7_let_1 : decode cX7_let 1 = .ok (.iload_n 2, 1) := by decide +kernel
theorem dX7_let_2 : decode cX7_let 2 = .ok (.invokevirtual 91, 3) := by decide +kernel
theorem dX7_let_5 : decode cX7_let 5 = .ok (.astore 4, 2) := by decide +kernel
theorem dX7_let_7 : decode cX7_let 7 = .ok (.iload_n 1, 1) := by decide +kernel
theorem dX7_let_8 : decode cX7_let 8 = .ok (.invokestatic 129, 3) := by decide +kernel
theorem dX7_let_11 : decode cX7_let 11 = .ok (.ifCond .eq 8, 3) := by decide +kernel
theorem dX7_let_14 : decode cX7_let 14 = .ok (.aload 4, 2) := by decide +kernel
theorem dX7_let_16 : decode cX7_let 16 = .ok (.ifnonnull 5, 3) := by decide +kernel
theorem dX7_let_19 : decode cX7_let 19 = .ok (.iconst (-1), 1) := by decide +kernel
theorem dX7_let_20 : decode cX7_let 20 = .ok (.ireturn, 1) := by decide +kernel
theorem dX7_let_21 : decode cX7_let 21 = .ok (.aload 4, 2) := by decide +kernel
theorem dX7_let_23 : decode cX7_let 23 = .ok (.iload_n 3, 1) := by decide +kernel
theorem dX7_let_24 : decode cX7_let 24 = .ok (.invokevirtual 100, 3) := by decide +kernel
theorem dX7_let_27 : decode cX7_let 27 = .ok (.ifCond .ne 6, 3) := by decide +kernel
theorem dX7_let_30 : decode cX7_let 30 = .ok (.bipush (-2), 2) := by decide +kernel
theorem dX7_let_32 : decode cX7_let 32 = .ok (.ireturn, 1) := by decide +kernel
theorem dX7_let_33 : decode cX7_let 33 = .ok (.aload_n 0, 1) := by decide +kernel
theorem dX7_let_34 : decode cX7_let 34 = .ok (.iload_n 1, 1) := by decide +kernel
theorem dX7_let_35 : decode cX7_let 35 = .ok (.aload 4, 2) := by decide +kernel
theorem dX7_let_37 : decode cX7_let 37 = .ok (.iload_n 3, 1) := by decide +kernel
theorem dX7_let_38 : decode cX7_let 38 = .ok (.invokevirtual 132, 3) := by decide +kernel
theorem dX7_let_41 : decode cX7_let 41 = .ok (.ifCond .eq 7, 3) := by decide +kernel
theorem dX7_let_44 : decode cX7_let 44 = .ok (.iconst 1, 1) := by decide +kernel
theorem dX7_let_45 : decode cX7_let 45 = .ok (.goto 4, 3) := by decide +kernel
theorem dX7_let_48 : decode cX7_let 48 = .ok (.iconst 0, 1) := by decide +kernel
theorem dX7_let_49 : decode cX7_let 49 = .ok (.ireturn, 1) := by decide +kernel
theorem dX7_good_0 : decode cX7_good 0 = .ok (.aload_n 0, 1) := by decide +kernel
theorem dX7_good_1 : decode cX7_good 1 = .ok (.iload_n 2, 1) := by decide +kernel
theorem dX7_good_2 : decode cX7_good 2 = .ok (.invokevirtual 91, 3) := by decide +kernel
theorem dX7_good_5 : decode cX7_good 5 = .ok (.astore 5, 2) := by decide +kernel
theorem dX7_good_7 : decode cX7_good 7 = .ok (.aload_n 0, 1) := by decide +kernel
theorem dX7_good_8 : decode cX7_good 8 = .ok (.iload_n 3, 1) := by decide +kernel
theorem dX7_good_9 : decode cX7_good 9 = .ok (.invokevirtual 117, 3) := by decide +kernel
theorem dX7_good_12 : decode cX7_good 12 = .ok (.astore 6, 2) := by decide +kernel
theorem dX7_good_14 : decode cX7_good 14 = .ok (.iload_n 1, 1) := by decide +kernel
theorem dX7_good_15 : decode cX7_good 15 = .ok (.invokestatic 129, 3) := by decide +kernel
theorem dX7_good_18 : decode cX7_good 18 = .ok (.ifCond .eq 19, 3) := by decide +kernel
theorem dX7_good_21 : decode cX7_good 21 = .ok (.aload 5, 2) := by decide +kernel
theorem dX7_good_23 : decode cX7_good 23 = .ok (.ifnull 14, 3) := by decide +kernel
theorem dX7_good_26 : decode cX7_good 26 = .ok (.aload 6, 2) := by decide +kernel
theorem dX7_good_28 : decode cX7_good 28 = .ok (.ifnull 9, 3) := by decide +kernel
theorem dX7_good_31 : decode cX7_good 31 = .ok (.iload 4, 2) := by decide +kernel
theorem dX7_good_33 : decode cX7_good 33 = .ok (.iconst (-1), 1) := by decide +kernel
theorem dX7_good_34 : decode cX7_good 34 = .ok (.if_icmp .ge 5, 3) := by decide +kernel
theorem dX7_good_37 : decode cX7_good 37 = .ok (.iconst (-1), 1) := by decide +kernel
theorem dX7_good_38 : decode cX7_good 38 = .ok (.ireturn, 1) := by decide +kernel
theorem dX7_good_39 : decode cX7_good 39 = .ok (.iconst 0, 1) := by decide +kernel
theorem dX7_good_40 : decode cX7_good 40 = .ok (.istore 7, 2) := by decide +kernel
theorem dX7_good_42 : decode cX7_good 42 = .ok (.iconst 0, 1) := by decide +kernel
theorem dX7_good_43 : decode cX7_good 43 = .ok (.istore 8, 2) := by decide +kernel
theorem dX7_good_45 : decode cX7_good 45 = .ok (.iload 8, 2) := by decide +kernel
theorem dX7_good_47 : decode cX7_good 47 = .ok (.aload 5, 2) := by decide +kernel
theorem dX7_good_49 : decode cX7_good 49 = .ok (.invokevirtual 136, 3) := by decide +kernel
theorem dX7_good_52 : decode cX7_good 52 = .ok (.if_icmp .ge 49, 3) := by decide +kernel
theorem dX7_good_55 : decode cX7_good 55 = .ok (.aload_n 0, 1) := by decide +kernel
theorem dX7_good_56 : decode cX7_good 56 = .ok (.iload_n 1, 1) := by decide +kernel
theorem dX7_good_57 : decode cX7_good 57 = .ok (.aload 5, 2) := by decide +kernel
theorem dX7_good_59 : decode cX7_good 59 = .ok (.aload 6, 2) := by decide +kernel
theorem dX7_good_61 : decode cX7_good 61 = .ok (.aload 5, 2) := by decide +kernel
theorem dX7_good_63 : decode cX7_good 63 = .ok (.iload 8, 2) := by decide +kernel
theorem dX7_good_65 : decode cX7_good 65 = .ok (.invokevirtual 139, 3) := by decide +kernel
theorem dX7_good_68 : decode cX7_good 68 = .ok (.invokevirtual 142, 3) := by decide +kernel
theorem dX7_good_71 : decode cX7_good 71 = .ok (.ifCond .ne 6, 3) := by decide +kernel
theorem dX7_good_74 : decode cX7_good 74 = .ok (.goto 21, 3) := by decide +kernel
theorem dX7_good_77 : decode cX7_good 77 = .ok (.iload 7, 2) := by decide +kernel
theorem dX7_good_79 : decode cX7_good 79 = .ok (.iload 4, 2) := by decide +kernel
theorem dX7_good_81 : decode cX7_good 81 = .ok (.if_icmp .ne 11, 3) := by decide +kernel
theorem dX7_good_84 : decode cX7_good 84 = .ok (.aload 5, 2) := by decide +kernel
theorem dX7_good_86 : decode cX7_good 86 = .ok (.iload 8, 2) := by decide +kernel
theorem dX7_good_88 : decode cX7_good 88 = .ok (.invokevirtual 139, 3) := by decide +kernel
theorem dX7_good_91 : decode cX7_good 91 = .ok (.ireturn, 1) := by decide +kernel
theorem dX7_good_92 : decode cX7_good 92 = .ok (.iinc 7 1, 3) := by decide +kernel
theorem dX7_good_95 : decode cX7_good 95 = .ok (.iinc 8 1, 3) := by decide +kernel
theorem dX7_good_98 : decode cX7_good 98 = .ok (.goto (-53), 3) := by decide +kernel
theorem dX7_good_101 : decode cX7_good 101 = .ok (.iload 4, 2) := by decide +kernel
theorem dX7_good_103 : decode cX7_good 103 = .ok (.iconst (-1), 1) := by decide +kernel
theorem dX7_good_104 : decode cX7_good 104 = .ok (.if_icmp .ne 8, 3) := by decide +kernel
theorem dX7_good_107 : decode cX7_good 107 = .ok (.iload 7, 2) := by decide +kernel
theorem dX7_good_109 : decode cX7_good 109 = .ok (.goto 4, 3) := by decide +kernel
theorem dX7_good_112 : decode cX7_good 112 = .ok (.iconst (-1), 1) := by decide +kernel
theorem dX7_good_113 : decode cX7_good 113 = .ok (.ireturn, 1) := by decide +kernel
theorem dX7_next_0 : decode cX7_next 0 = .ok (.aload_n 0, 1) := by decide +kernel
theorem dX7_next_1 : decode cX7_next 1 = .ok (.iload_n 2, 1) := by decide +kernel
theorem dX7_next_2 : decode cX7_next 2 = .ok (.invokevirtual 91, 3) := by decide +kernel
theorem dX7_next_5 : decode cX7_next 5 = .ok (.astore 5, 2) := by decide +kernel
theorem dX7_next_7 : decode cX7_next 7 = .ok (.aload_n 0, 1) := by decide +kernel
theorem dX7_next_8 : decode cX7_next 8 = .ok (.iload_n 3, 1) := by decide +kernel
theorem dX7_next_9 : decode cX7_next 9 = .ok (.invokevirtual 117, 3) := by decide +kernel
theorem dX7_next_12 : decode cX7_next 12 = .ok (.astore 6, 2) := by decide +kernel
theorem dX7_next_14 : decode cX7_next 14 = .ok (.iload_n 1, 1) := by decide +kernel
theorem dX7_next_15 : decode cX7_next 15 = .ok (.invokestatic 129, 3) := by decide +kernel
theorem dX7_next_18 : decode cX7_next 18 = .ok (.ifCond .eq 13, 3) := by decide +kernel
theorem dX7_next_21 : decode cX7_next 21 = .ok (.aload 5, 2) := by decide +kernel
theorem dX7_next_23 : decode cX7_next 23 = .ok (.ifnull 8, 3) := by decide +kernel
theorem dX7_next_26 : decode cX7_next 26 = .ok (.aload 6, 2) := by decide +kernel
theorem dX7_next_28 : decode cX7_next 28 = .ok (.ifnonnull 5, 3) := by decide +kernel
theorem dX7_next_31 : decode cX7_next 31 = .ok (.iconst (-1), 1) := by decide +kernel
theorem dX7_next_32 : decode cX7_next 32 = .ok (.ireturn, 1) := by decide +kernel
theorem dX7_next_33 : decode cX7_next 33 = .ok (.iload 4, 2) := by decide +kernel
theorem dX7_next_35 : decode cX7_next 35 = .ok (.iconst (-1), 1) := by decide +kernel
theorem dX7_next_36 : decode cX7_next 36 = .ok (.if_icmp .eq 16, 3) := by decide +kernel
theorem dX7_next_39 : decode cX7_next 39 = .ok (.aload 5, 2) := by decide +kernel
theorem dX7_next_41 : decode cX7_next 41 = .ok (.iload 4, 2) := by decide +kernel
theorem dX7_next_43 : decode cX7_next 43 = .ok (.invokevirtual 100, 3) := by decide +kernel
theorem dX7_next_46 : decode cX7_next 46 = .ok (.ifCond .ne 6, 3) := by decide +kernel
theorem dX7_next_49 : decode cX7_next 49 = .ok (.bipush (-2), 2) := by decide +kernel
theorem dX7_next_51 : decode cX7_next 51 = .ok (.ireturn, 1) := by decide +kernel
theorem dX7_next_52 : decode cX7_next 52 = .ok (.iconst 0, 1) := by decide +kernel
theorem dX7_next_53 : decode cX7_next 53 = .ok (.istore 7, 2) := by decide +kernel
theorem dX7_next_55 : decode cX7_next 55 = .ok (.iload 7, 2) := by decide +kernel
theorem dX7_next_57 : decode cX7_next 57 = .ok (.aload 5, 2) := by decide +kernel
theorem dX7_next_59 : decode cX7_next 59 = .ok (.invokevirtual 136, 3) := by decide +kernel
theorem dX7_next_62 : decode cX7_next 62 = .ok (.if_icmp .ge 42, 3) := by decide +kernel
theorem dX7_next_65 : decode cX7_next 65 = .ok (.aload 5, 2) := by decide +kernel
theorem dX7_next_67 : decode cX7_next 67 = .ok (.iload 7, 2) := by decide +kernel
theorem dX7_next_69 : decode cX7_next 69 = .ok (.invokevirtual 139, 3) := by decide +kernel
theorem dX7_next_72 : decode cX7_next 72 = .ok (.istore 8, 2) := by decide +kernel
theorem dX7_next_74 : decode cX7_next 74 = .ok (.iload 8, 2) := by decide +kernel
theorem dX7_next_76 : decode cX7_next 76 = .ok (.iload 4, 2) := by decide +kernel
theorem dX7_next_78 : decode cX7_next 78 = .ok (.if_icmp .le 20, 3) := by decide +kernel
theorem dX7_next_81 : decode cX7_next 81 = .ok (.aload_n 0, 1) := by decide +kernel
theorem dX7_next_82 : decode cX7_next 82 = .ok (.iload_n 1, 1) := by decide +kernel
theorem dX7_next_83 : decode cX7_next 83 = .ok (.aload 5, 2) := by decide +kernel
theorem dX7_next_85 : decode cX7_next 85 = .ok (.aload 6, 2) := by decide +kernel
theorem dX7_next_87 : decode cX7_next 87 = .ok (.iload 8, 2) := by decide +kernel
theorem dX7_next_89 : decode cX7_next 89 = .ok (.invokevirtual 142, 3) := by decide +kernel
theorem dX7_next_92 : decode cX7_next 92 = .ok (.ifCond .eq 6, 3) := by decide +kernel
theorem dX7_next_95 : decode cX7_next 95 = .ok (.iload 8, 2) := by decide +kernel
theorem dX7_next_97 : decode cX7_next 97 = .ok (.ireturn, 1) := by decide +kernel
theorem dX7_next_98 : decode cX7_next 98 = .ok (.iinc 7 1, 3) := by decide +kernel
theorem dX7_next_101 : decode cX7_next 101 = .ok (.goto (-46), 3) := by decide +kernel
theorem dX7_next_104 : decode cX7_next 104 = .ok (.bipush (-5), 2) := by decide +kernel
theorem dX7_next_106 : decode cX7_next 106 = .ok (.ireturn, 1) := by decide +kernel
theorem dX7_least_0 : decode cX7_least 0 = .ok (.aload_n 0, 1) := by decide +kernel
theorem dX7_least_1 : decode cX7_least 1 = .ok (.iload_n 2, 1) := by decide +kernel
theorem dX7_least_2 : decode cX7_least 2 = .ok (.invokevirtual 91, 3) := by decide +kernel
theorem dX7_least_5 : decode cX7_least 5 = .ok (.astore 4, 2) := by decide +kernel
theorem dX7_least_7 : decode cX7_least 7 = .ok (.aload_n 0, 1) := by decide +kernel
theorem dX7_least_8 : decode cX7_least 8 = .ok (.iload_n 3, 1) := by decide +kernel
theorem dX7_least_9 : decode cX7_least 9 = .ok (.invokevirtual 117, 3) := by decide +kernel
theorem dX7_least_12 : decode cX7_least 12 = .ok (.astore 5, 2) := by decide +kernel
theorem dX7_least_14 : decode cX7_least 14 = .ok (.iload_n 1, 1) := by decide +kernel
theorem dX7_least_15 : decode cX7_least 15 = .ok (.invokestatic 129, 3) := by decide +kernel
theorem dX7_least_18 : decode cX7_least 18 = .ok (.ifCond .eq 13, 3) := by decide +kernel
theorem dX7_least_21 : decode cX7_least 21 = .ok (.aload 4, 2) := by decide +kernel
theorem dX7_least_23 : decode cX7_least 23 = .ok (.ifnull 8, 3) := by decide +kernel
theorem dX7_least_26 : decode cX7_least 26 = .ok (.aload 5, 2) := by decide +kernel
theorem dX7_least_28 : decode cX7_least 28 = .ok (.ifnonnull 5, 3) := by decide +kernel
theorem dX7_least_31 : decode cX7_least 31 = .ok (.iconst (-1), 1) := by decide +kernel
theorem dX7_least_32 : decode cX7_least 32 = .ok (.ireturn, 1) := by decide +kernel
theorem dX7_least_33 : decode cX7_least 33 = .ok (.bipush (-5), 2) := by decide +kernel
theorem dX7_least_35 : decode cX7_least 35 = .ok (.istore 6, 2) := by decide +kernel
theorem dX7_least_37 : decode cX7_least 37 = .ok (.iconst 0, 1) := by decide +kernel
theorem dX7_least_38 : decode cX7_least 38 = .ok (.istore 7, 2) := by decide +kernel
theorem dX7_least_40 : decode cX7_least 40 = .ok (.iload 7, 2) := by decide +kernel
theorem dX7_least_42 : decode cX7_least 42 = .ok (.aload 4, 2) := by decide +kernel
theorem dX7_least_44 : decode cX7_least 44 = .ok (.invokevirtual 136, 3) := by decide +kernel
theorem dX7_least_47 : decode cX7_least 47 = .ok (.if_icmp .ge 66, 3) := by decide +kernel
theorem dX7_least_50 : decode cX7_least 50 = .ok (.aload 4, 2) := by decide +kernel
theorem dX7_least_52 : decode cX7_least 52 = .ok (.iload 7, 2) := by decide +kernel
theorem dX7_least_54 : decode cX7_least 54 = .ok (.invokevirtual 139, 3) := by decide +kernel
theorem dX7_least_57 : decode cX7_least 57 = .ok (.istore 8, 2) := by decide +kernel
theorem dX7_least_59 : decode cX7_least 59 = .ok (.iload 6, 2) := by decide +kernel
theorem dX7_least_61 : decode cX7_least 61 = .ok (.ifCond .lt 16, 3) := by decide +kernel
theorem dX7_least_64 : decode cX7_least 64 = .ok (.iload 8, 2) := by decide +kernel
theorem dX7_least_66 : decode cX7_least 66 = .ok (.invokestatic 146, 3) := by decide +kernel
theorem dX7_least_69 : decode cX7_least 69 = .ok (.iload 6, 2) := by decide +kernel
theorem dX7_least_71 : decode cX7_least 71 = .ok (.invokestatic 146, 3) := by decide +kernel
theorem dX7_least_74 : decode cX7_least 74 = .ok (.if_icmp .ge 7, 3) := by decide +kernel
theorem dX7_least_77 : decode cX7_least 77 = .ok (.iconst 1, 1) := by decide +kernel
theorem dX7_least_78 : decode cX7_least 78 = .ok (.goto 4, 3) := by decide +kernel
theorem dX7_least_81 : decode cX7_least 81 = .ok (.iconst 0, 1) := by decide +kernel
theorem dX7_least_82 : decode cX7_least 82 = .ok (.istore 9, 2) := by decide +kernel
theorem dX7_least_84 : decode cX7_least 84 = .ok (.iload 9, 2) := by decide +kernel
theorem dX7_least_86 : decode cX7_least 86 = .ok (.ifCond .eq 21, 3) := by decide +kernel
theorem dX7_least_89 : decode cX7_least 89 = .ok (.aload_n 0, 1) := by decide +kernel
theorem dX7_least_90 : decode cX7_least 90 = .ok (.iload_n 1, 1) := by decide +kernel
theorem dX7_least_91 : decode cX7_least 91 = .ok (.aload 4, 2) := by decide +kernel
theorem dX7_least_93 : decode cX7_least 93 = .ok (.aload 5, 2) := by decide +kernel
theorem dX7_least_95 : decode cX7_least 95 = .ok (.iload 8, 2) := by decide +kernel
theorem dX7_least_97 : decode cX7_least 97 = .ok (.invokevirtual 142, 3) := by decide +kernel
theorem dX7_least_100 : decode cX7_least 100 = .ok (.ifCond .eq 7, 3) := by decide +kernel
theorem dX7_least_103 : decode cX7_least 103 = .ok (.iload 8, 2) := by decide +kernel
theorem dX7_least_105 : decode cX7_least 105 = .ok (.istore 6, 2) := by decide +kernel
theorem dX7_least_107 : decode cX7_least 107 = .ok (.iinc 7 1, 3) := by decide +kernel
theorem dX7_least_110 : decode cX7_least 110 = .ok (.goto (-70), 3) := by decide +kernel
theorem dX7_least_113 : decode cX7_least 113 = .ok (.iload 6, 2) := by decide +kernel
theorem dX7_least_115 : decode cX7_least 115 = .ok (.ireturn, 1) := by decide +kernel
theorem dX7_inAll_0 : decode cX7_inAll 0 = .ok (.aload_n 0, 1) := by decide +kernel
theorem dX7_inAll_1 : decode cX7_inAll 1 = .ok (.iload_n 2, 1) := by decide +kernel
theorem dX7_inAll_2 : decode cX7_inAll 2 = .ok (.invokevirtual 91, 3) := by decide +kernel
theorem dX7_inAll_5 : decode cX7_inAll 5 = .ok (.astore 4, 2) := by decide +kernel
theorem dX7_inAll_7 : decode cX7_inAll 7 = .ok (.aload_n 0, 1) := by decide +kernel
theorem dX7_inAll_8 : decode cX7_inAll 8 = .ok (.iload_n 3, 1) := by decide +kernel
theorem dX7_inAll_9 : decode cX7_inAll 9 = .ok (.invokevirtual 117, 3) := by decide +kernel
theorem dX7_inAll_12 : decode cX7_inAll 12 = .ok (.astore 5, 2) := by decide +kernel
theorem dX7_inAll_14 : decode cX7_inAll 14 = .ok (.iload_n 1, 1) := by decide +kernel
theorem dX7_inAll_15 : decode cX7_inAll 15 = .ok (.invokestatic 129, 3) := by decide +kernel
theorem dX7_inAll_18 : decode cX7_inAll 18 = .ok (.ifCond .eq 13, 3) := by decide +kernel
theorem dX7_inAll_21 : decode cX7_inAll 21 = .ok (.aload 4, 2) := by decide +kernel
theorem dX7_inAll_23 : decode cX7_inAll 23 = .ok (.ifnull 8, 3) := by decide +kernel
theorem dX7_inAll_26 : decode cX7_inAll 26 = .ok (.aload 5, 2) := by decide +kernel
theorem dX7_inAll_28 : decode cX7_inAll 28 = .ok (.ifnonnull 5, 3) := by decide +kernel
theorem dX7_inAll_31 : decode cX7_inAll 31 = .ok (.iconst (-1), 1) := by decide +kernel
theorem dX7_inAll_32 : decode cX7_inAll 32 = .ok (.ireturn, 1) := by decide +kernel
theorem dX7_inAll_33 : decode cX7_inAll 33 = .ok (.aload 4, 2) := by decide +kernel
theorem dX7_inAll_35 : decode cX7_inAll 35 = .ok (.invokevirtual 151, 3) := by decide +kernel
theorem dX7_inAll_38 : decode cX7_inAll 38 = .ok (.iconst 1, 1) := by decide +kernel
theorem dX7_inAll_39 : decode cX7_inAll 39 = .ok (.isub, 1) := by decide +kernel
theorem dX7_inAll_40 : decode cX7_inAll 40 = .ok (.istore 6, 2) := by decide +kernel
theorem dX7_inAll_42 : decode cX7_inAll 42 = .ok (.iconst 0, 1) := by decide +kernel
theorem dX7_inAll_43 : decode cX7_inAll 43 = .ok (.istore 7, 2) := by decide +kernel
theorem dX7_inAll_45 : decode cX7_inAll 45 = .ok (.iload 7, 2) := by decide +kernel
theorem dX7_inAll_47 : decode cX7_inAll 47 = .ok (.aload 4, 2) := by decide +kernel
theorem dX7_inAll_49 : decode cX7_inAll 49 = .ok (.invokevirtual 136, 3) := by decide +kernel
theorem dX7_inAll_52 : decode cX7_inAll 52 = .ok (.if_icmp .ge 40, 3) := by decide +kernel
theorem dX7_inAll_55 : decode cX7_inAll 55 = .ok (.aload_n 0, 1) := by decide +kernel
theorem dX7_inAll_56 : decode cX7_inAll 56 = .ok (.iload_n 1, 1) := by decide +kernel
theorem dX7_inAll_57 : decode cX7_inAll 57 = .ok (.aload 4, 2) := by decide +kernel
theorem dX7_inAll_59 : decode cX7_inAll 59 = .ok (.aload 5, 2) := by decide +kernel
theorem dX7_inAll_61 : decode cX7_inAll 61 = .ok (.aload 4, 2) := by decide +kernel
theorem dX7_inAll_63 : decode cX7_inAll 63 = .ok (.iload 7, 2) := by decide +kernel
theorem dX7_inAll_65 : decode cX7_inAll 65 = .ok (.invokevirtual 139, 3) := by decide +kernel
theorem dX7_inAll_68 : decode cX7_inAll 68 = .ok (.invokevirtual 142, 3) := by decide +kernel
theorem dX7_inAll_71 : decode cX7_inAll 71 = .ok (.ifCond .eq 15, 3) := by decide +kernel
theorem dX7_inAll_74 : decode cX7_inAll 74 = .ok (.iload 6, 2) := by decide +kernel
theorem dX7_inAll_76 : decode cX7_inAll 76 = .ok (.aload 4, 2) := by decide +kernel
theorem dX7_inAll_78 : decode cX7_inAll 78 = .ok (.iload 7, 2) := by decide +kernel
theorem dX7_inAll_80 : decode cX7_inAll 80 = .ok (.invokevirtual 139, 3) := by decide +kernel
theorem dX7_inAll_83 : decode cX7_inAll 83 = .ok (.iand, 1) := by decide +kernel
theorem dX7_inAll_84 : decode cX7_inAll 84 = .ok (.istore 6, 2) := by decide +kernel
theorem dX7_inAll_86 : decode cX7_inAll 86 = .ok (.iinc 7 1, 3) := by decide +kernel
theorem dX7_inAll_89 : decode cX7_inAll 89 = .ok (.goto (-44), 3) := by decide +kernel
theorem dX7_inAll_92 : decode cX7_inAll 92 = .ok (.iload 6, 2) := by decide +kernel
theorem dX7_inAll_94 : decode cX7_inAll 94 = .ok (.ireturn, 1) := by decide +kernel
theorem dX7_plain_0 : decode cX7_plain 0 = .ok (.aload_n 0, 1) := by decide +kernel
theorem dX7_plain_1 : decode cX7_plain 1 = .ok (.iload_n 1, 1) := by decide +kernel
theorem dX7_plain_2 : decode cX7_plain 2 = .ok (.invokevirtual 91, 3) := by decide +kernel
theorem dX7_plain_5 : decode cX7_plain 5 = .ok (.astore_n 2, 1) := by decide +kernel
theorem dX7_plain_6 : decode cX7_plain 6 = .ok (.aload_n 2, 1) := by decide +kernel
theorem dX7_plain_7 : decode cX7_plain 7 = .ok (.ifnonnull 5, 3) := by decide +kernel
theorem dX7_plain_10 : decode cX7_plain 10 = .ok (.iconst (-1), 1) := by decide +kernel
theorem dX7_plain_11 : decode cX7_plain 11 = .ok (.ireturn, 1) := by decide +kernel
theorem dX7_plain_12 : decode cX7_plain 12 = .ok (.aload_n 2, 1) := by decide +kernel
theorem dX7_plain_13 : decode cX7_plain 13 = .ok (.iconst 0, 1) := by decide +kernel
theorem dX7_plain_14 : decode cX7_plain 14 = .ok (.invokevirtual 104, 3) := by decide +kernel
theorem dX7_plain_17 : decode cX7_plain 17 = .ok (.ifCond .ne 6, 3) := by decide +kernel
theorem dX7_plain_20 : decode cX7_plain 20 = .ok (.bipush (-3), 2) := by decide +kernel
theorem dX7_plain_22 : decode cX7_plain 22 = .ok (.ireturn, 1) := by decide +kernel
theorem dX7_plain_23 : decode cX7_plain 23 = .ok (.iconst 0, 1) := by decide +kernel
theorem dX7_plain_24 : decode cX7_plain 24 = .ok (.istore_n 3, 1) := by decide +kernel
theorem dX7_plain_25 : decode cX7_plain 25 = .ok (.iconst 0, 1) := by decide +kernel
theorem dX7_plain_26 : decode cX7_plain 26 = .ok (.istore 4, 2) := by decide +kernel
theorem dX7_plain_28 : decode cX7_plain 28 = .ok (.iload 4, 2) := by decide +kernel
theorem dX7_plain_30 : decode cX7_plain 30 = .ok (.aload_n 2, 1) := by decide +kernel
theorem dX7_plain_31 : decode cX7_plain 31 = .ok (.invokevirtual 136, 3) := by decide +kernel
theorem dX7_plain_34 : decode cX7_plain 34 = .ok (.if_icmp .ge 56, 3) := by decide +kernel
theorem dX7_plain_37 : decode cX7_plain 37 = .ok (.aload_n 2, 1) := by decide +kernel
theorem dX7_plain_38 : decode cX7_plain 38 = .ok (.iload 4, 2) := by decide +kernel
theorem dX7_plain_40 : decode cX7_plain 40 = .ok (.invokevirtual 139, 3) := by decide +kernel
theorem dX7_plain_43 : decode cX7_plain 43 = .ok (.istore 5, 2) := by decide +kernel
theorem dX7_plain_45 : decode cX7_plain 45 = .ok (.aload_n 2, 1) := by decide +kernel
theorem dX7_plain_46 : decode cX7_plain 46 = .ok (.iload 5, 2) := by decide +kernel
theorem dX7_plain_48 : decode cX7_plain 48 = .ok (.aload_n 0, 1) := by decide +kernel
theorem dX7_plain_49 : decode cX7_plain 49 = .ok (.getfield 57, 3) := by decide +kernel
theorem dX7_plain_52 : decode cX7_plain 52 = .ok (.invokevirtual 109, 3) := by decide +kernel
theorem dX7_plain_55 : decode cX7_plain 55 = .ok (.iload 5, 2) := by decide +kernel
theorem dX7_plain_57 : decode cX7_plain 57 = .ok (.invokestatic 146, 3) := by decide +kernel
theorem dX7_plain_60 : decode cX7_plain 60 = .ok (.iload_n 3, 1) := by decide +kernel
theorem dX7_plain_61 : decode cX7_plain 61 = .ok (.invokestatic 146, 3) := by decide +kernel
theorem dX7_plain_64 : decode cX7_plain 64 = .ok (.if_icmp .le 20, 3) := by decide +kernel
theorem dX7_plain_67 : decode cX7_plain 67 = .ok (.aload_n 0, 1) := by decide +kernel
theorem dX7_plain_68 : decode cX7_plain 68 = .ok (.getfield 57, 3) := by decide +kernel
theorem dX7_plain_71 : decode cX7_plain 71 = .ok (.aload_n 2, 1) := by decide +kernel
theorem dX7_plain_72 : decode cX7_plain 72 = .ok (.invokevirtual 154, 3) := by decide +kernel
theorem dX7_plain_75 : decode cX7_plain 75 = .ok (.invokevirtual 158, 3) := by decide +kernel
theorem dX7_plain_78 : decode cX7_plain 78 = .ok (.ifCond .eq 6, 3) := by decide +kernel
theorem dX7_plain_81 : decode cX7_plain 81 = .ok (.iload 5, 2) := by decide +kernel
theorem dX7_plain_83 : decode cX7_plain 83 = .ok (.istore_n 3, 1) := by decide +kernel
theorem dX7_plain_84 : decode cX7_plain 84 = .ok (.iinc 4 1, 3) := by decide +kernel
theorem dX7_plain_87 : decode cX7_plain 87 = .ok (.goto (-59), 3) := by decide +kernel
theorem dX7_plain_90 : decode cX7_plain 90 = .ok (.iload_n 3, 1) := by decide +kernel
theorem dX7_plain_91 : decode cX7_plain 91 = .ok (.ireturn, 1) := by decide +kernel
theorem dX7_cost_0 : decode cX7_cost 0 = .ok (.aload_n 0, 1) := by decide +kernel
theorem dX7_cost_1 : decode cX7_cost 1 = .ok (.iload_n 1, 1) := by decide +kernel
theorem dX7_cost_2 : decode cX7_cost 2 = .ok (.invokevirtual 91, 3) := by decide +kernel
theorem dX7_cost_5 : decode cX7_cost 5 = .ok (.astore 4, 2) := by decide +kernel
theorem dX7_cost_7 : decode cX7_cost 7 = .ok (.aload 4, 2) := by decide +kernel
theorem dX7_cost_9 : decode cX7_cost 9 = .ok (.ifnull 21, 3) := by decide +kernel
theorem dX7_cost_12 : decode cX7_cost 12 = .ok (.iload_n 3, 1) := by decide +kernel
theorem dX7_cost_13 : decode cX7_cost 13 = .ok (.ifCond .lt 17, 3) := by decide +kernel
theorem dX7_cost_16 : decode cX7_cost 16 = .ok (.iload_n 3, 1) := by decide +kernel
theorem dX7_cost_17 : decode cX7_cost 17 = .ok (.iconst 1, 1) := by decide +kernel
theorem dX7_cost_18 : decode cX7_cost 18 = .ok (.if_icmp .gt 12, 3) := by decide +kernel
theorem dX7_cost_21 : decode cX7_cost 21 = .ok (.aload 4, 2) := by decide +kernel
theorem dX7_cost_23 : decode cX7_cost 23 = .ok (.iload_n 2, 1) := by decide +kernel
theorem dX7_cost_24 : decode cX7_cost 24 = .ok (.invokevirtual 104, 3) := by decide +kernel
theorem dX7_cost_27 : decode cX7_cost 27 = .ok (.ifCond .ne 7, 3) := by decide +kernel
theorem dX7_cost_30 : decode cX7_cost 30 = .ok (.ldc2_w 107, 3) := by decide +kernel
theorem dX7_cost_33 : decode cX7_cost 33 = .ok (.lreturn, 1) := by decide +kernel
theorem dX7_cost_34 : decode cX7_cost 34 = .ok (.aload 4, 2) := by decide +kernel
theorem dX7_cost_36 : decode cX7_cost 36 = .ok (.iload_n 2, 1) := by decide +kernel
theorem dX7_cost_37 : decode cX7_cost 37 = .ok (.aload_n 0, 1) := by decide +kernel
theorem dX7_cost_38 : decode cX7_cost 38 = .ok (.getfield 57, 3) := by decide +kernel
theorem dX7_cost_41 : decode cX7_cost 41 = .ok (.invokevirtual 109, 3) := by decide +kernel
theorem dX7_cost_44 : decode cX7_cost 44 = .ok (.aload_n 0, 1) := by decide +kernel
theorem dX7_cost_45 : decode cX7_cost 45 = .ok (.getfield 57, 3) := by decide +kernel
theorem dX7_cost_48 : decode cX7_cost 48 = .ok (.iload_n 3, 1) := by decide +kernel
theorem dX7_cost_49 : decode cX7_cost 49 = .ok (.aload_n 0, 1) := by decide +kernel
theorem dX7_cost_50 : decode cX7_cost 50 = .ok (.getfield 37, 3) := by decide +kernel
theorem dX7_cost_53 : decode cX7_cost 53 = .ok (.invokevirtual 162, 3) := by decide +kernel
theorem dX7_cost_56 : decode cX7_cost 56 = .ok (.i2l, 1) := by decide +kernel
theorem dX7_cost_57 : decode cX7_cost 57 = .ok (.lreturn, 1) := by decide +kernel
theorem dX7_dear_0 : decode cX7_dear 0 = .ok (.aload_n 0, 1) := by decide +kernel
theorem dX7_dear_1 : decode cX7_dear 1 = .ok (.iload_n 2, 1) := by decide +kernel
theorem dX7_dear_2 : decode cX7_dear 2 = .ok (.invokevirtual 91, 3) := by decide +kernel
theorem dX7_dear_5 : decode cX7_dear 5 = .ok (.astore 5, 2) := by decide +kernel
theorem dX7_dear_7 : decode cX7_dear 7 = .ok (.aload_n 0, 1) := by decide +kernel
theorem dX7_dear_8 : decode cX7_dear 8 = .ok (.iload_n 3, 1) := by decide +kernel
theorem dX7_dear_9 : decode cX7_dear 9 = .ok (.invokevirtual 117, 3) := by decide +kernel
theorem dX7_dear_12 : decode cX7_dear 12 = .ok (.astore 6, 2) := by decide +kernel
theorem dX7_dear_14 : decode cX7_dear 14 = .ok (.iload_n 1, 1) := by decide +kernel
theorem dX7_dear_15 : decode cX7_dear 15 = .ok (.invokestatic 129, 3) := by decide +kernel
theorem dX7_dear_18 : decode cX7_dear 18 = .ok (.ifCond .eq 24, 3) := by decide +kernel
theorem dX7_dear_21 : decode cX7_dear 21 = .ok (.aload 5, 2) := by decide +kernel
theorem dX7_dear_23 : decode cX7_dear 23 = .ok (.ifnull 19, 3) := by decide +kernel
theorem dX7_dear_26 : decode cX7_dear 26 = .ok (.aload 6, 2) := by decide +kernel
theorem dX7_dear_28 : decode cX7_dear 28 = .ok (.ifnull 14, 3) := by decide +kernel
theorem dX7_dear_31 : decode cX7_dear 31 = .ok (.iload 4, 2) := by decide +kernel
theorem dX7_dear_33 : decode cX7_dear 33 = .ok (.ifCond .lt 9, 3) := by decide +kernel
theorem dX7_dear_36 : decode cX7_dear 36 = .ok (.iload 4, 2) := by decide +kernel
theorem dX7_dear_38 : decode cX7_dear 38 = .ok (.iconst 2, 1) := by decide +kernel
theorem dX7_dear_39 : decode cX7_dear 39 = .ok (.if_icmp .le 5, 3) := by decide +kernel
theorem dX7_dear_42 : decode cX7_dear 42 = .ok (.iconst (-1), 1) := by decide +kernel
theorem dX7_dear_43 : decode cX7_dear 43 = .ok (.ireturn, 1) := by decide +kernel
theorem dX7_dear_44 : decode cX7_dear 44 = .ok (.bipush (-5), 2) := by decide +kernel
theorem dX7_dear_46 : decode cX7_dear 46 = .ok (.istore 7, 2) := by decide +kernel
theorem dX7_dear_48 : decode cX7_dear 48 = .ok (.iconst 0, 1) := by decide +kernel
theorem dX7_dear_49 : decode cX7_dear 49 = .ok (.istore 8, 2) := by decide +kernel
theorem dX7_dear_51 : decode cX7_dear 51 = .ok (.iconst 0, 1) := by decide +kernel
theorem dX7_dear_52 : decode cX7_dear 52 = .ok (.istore 9, 2) := by decide +kernel
theorem dX7_dear_54 : decode cX7_dear 54 = .ok (.iload 9, 2) := by decide +kernel
theorem dX7_dear_56 : decode cX7_dear 56 = .ok (.aload 5, 2) := by decide +kernel
theorem dX7_dear_58 : decode cX7_dear 58 = .ok (.invokevirtual 136, 3) := by decide +kernel
theorem dX7_dear_61 : decode cX7_dear 61 = .ok (.if_icmp .ge 104, 3) := by decide +kernel
theorem dX7_dear_64 : decode cX7_dear 64 = .ok (.aload 5, 2) := by decide +kernel
theorem dX7_dear_66 : decode cX7_dear 66 = .ok (.iload 9, 2) := by decide +kernel
theorem dX7_dear_68 : decode cX7_dear 68 = .ok (.invokevirtual 139, 3) := by decide +kernel
theorem dX7_dear_71 : decode cX7_dear 71 = .ok (.istore 10, 2) := by decide +kernel
theorem dX7_dear_73 : decode cX7_dear 73 = .ok (.aload_n 0, 1) := by decide +kernel
theorem dX7_dear_74 : decode cX7_dear 74 = .ok (.iload_n 1, 1) := by decide +kernel
theorem dX7_dear_75 : decode cX7_dear 75 = .ok (.aload 5, 2) := by decide +kernel
theorem dX7_dear_77 : decode cX7_dear 77 = .ok (.aload 6, 2) := by decide +kernel
theorem dX7_dear_79 : decode cX7_dear 79 = .ok (.iload 10, 2) := by decide +kernel
theorem dX7_dear_81 : decode cX7_dear 81 = .ok (.invokevirtual 142, 3) := by decide +kernel
theorem dX7_dear_84 : decode cX7_dear 84 = .ok (.ifCond .ne 6, 3) := by decide +kernel
theorem dX7_dear_87 : decode cX7_dear 87 = .ok (.goto 72, 3) := by decide +kernel
theorem dX7_dear_90 : decode cX7_dear 90 = .ok (.aload_n 0, 1) := by decide +kernel
theorem dX7_dear_91 : decode cX7_dear 91 = .ok (.aload 5, 2) := by decide +kernel
theorem dX7_dear_93 : decode cX7_dear 93 = .ok (.iload 10, 2) := by decide +kernel
theorem dX7_dear_95 : decode cX7_dear 95 = .ok (.iload 4, 2) := by decide +kernel
theorem dX7_dear_97 : decode cX7_dear 97 = .ok (.invokevirtual 166, 3) := by decide +kernel
theorem dX7_dear_100 : decode cX7_dear 100 = .ok (.istore 11, 2) := by decide +kernel
theorem dX7_dear_102 : decode cX7_dear 102 = .ok (.iload 7, 2) := by decide +kernel
theorem dX7_dear_104 : decode cX7_dear 104 = .ok (.ifCond .lt 20, 3) := by decide +kernel
theorem dX7_dear_107 : decode cX7_dear 107 = .ok (.iload 10, 2) := by decide +kernel
theorem dX7_dear_109 : decode cX7_dear 109 = .ok (.invokestatic 146, 3) := by decide +kernel
theorem dX7_dear_112 : decode cX7_dear 112 = .ok (.iload 7, 2) := by decide +kernel
theorem dX7_dear_114 : decode cX7_dear 114 = .ok (.invokestatic 146, 3) := by decide +kernel
theorem dX7_dear_117 : decode cX7_dear 117 = .ok (.if_icmp .ge 7, 3) := by decide +kernel
theorem dX7_dear_120 : decode cX7_dear 120 = .ok (.iconst 1, 1) := by decide +kernel
theorem dX7_dear_121 : decode cX7_dear 121 = .ok (.goto 4, 3) := by decide +kernel
theorem dX7_dear_124 : decode cX7_dear 124 = .ok (.iconst 0, 1) := by decide +kernel
theorem dX7_dear_125 : decode cX7_dear 125 = .ok (.istore 12, 2) := by decide +kernel
theorem dX7_dear_127 : decode cX7_dear 127 = .ok (.iload 7, 2) := by decide +kernel
theorem dX7_dear_129 : decode cX7_dear 129 = .ok (.ifCond .lt 22, 3) := by decide +kernel
theorem dX7_dear_132 : decode cX7_dear 132 = .ok (.iload 11, 2) := by decide +kernel
theorem dX7_dear_134 : decode cX7_dear 134 = .ok (.iload 8, 2) := by decide +kernel
theorem dX7_dear_136 : decode cX7_dear 136 = .ok (.if_icmp .lt 15, 3) := by decide +kernel
theorem dX7_dear_139 : decode cX7_dear 139 = .ok (.iload 11, 2) := by decide +kernel
theorem dX7_dear_141 : decode cX7_dear 141 = .ok (.iload 8, 2) := by decide +kernel
theorem dX7_dear_143 : decode cX7_dear 143 = .ok (.if_icmp .ne 16, 3) := by decide +kernel
theorem dX7_dear_146 : decode cX7_dear 146 = .ok (.iload 12, 2) := by decide +kernel
theorem dX7_dear_148 : decode cX7_dear 148 = .ok (.ifCond .eq 11, 3) := by decide +kernel
theorem dX7_dear_151 : decode cX7_dear 151 = .ok (.iload 10, 2) := by decide +kernel
theorem dX7_dear_153 : decode cX7_dear 153 = .ok (.istore 7, 2) := by decide +kernel
theorem dX7_dear_155 : decode cX7_dear 155 = .ok (.iload 11, 2) := by decide +kernel
theorem dX7_dear_157 : decode cX7_dear 157 = .ok (.istore 8, 2) := by decide +kernel
theorem dX7_dear_159 : decode cX7_dear 159 = .ok (.iinc 9 1, 3) := by decide +kernel
theorem dX7_dear_162 : decode cX7_dear 162 = .ok (.goto (-108), 3) := by decide +kernel
theorem dX7_dear_165 : decode cX7_dear 165 = .ok (.iload 7, 2) := by decide +kernel
theorem dX7_dear_167 : decode cX7_dear 167 = .ok (.ireturn, 1) := by decide +kernel
theorem dX7_alone_0 : decode cX7_alone 0 = .ok (.aload_n 0, 1) := by decide +kernel
theorem dX7_alone_1 : decode cX7_alone 1 = .ok (.iload_n 2, 1) := by decide +kernel
theorem dX7_alone_2 : decode cX7_alone 2 = .ok (.invokevirtual 91, 3) := by decide +kernel
theorem dX7_alone_5 : decode cX7_alone 5 = .ok (.astore_n 3, 1) := by decide +kernel
theorem dX7_alone_6 : decode cX7_alone 6 = .ok (.iload_n 1, 1) := by decide +kernel
theorem dX7_alone_7 : decode cX7_alone 7 = .ok (.invokestatic 129, 3) := by decide +kernel
theorem dX7_alone_10 : decode cX7_alone 10 = .ok (.ifCond .eq 7, 3) := by decide +kernel
theorem dX7_alone_13 : decode cX7_alone 13 = .ok (.aload_n 3, 1) := by decide +kernel
theorem dX7_alone_14 : decode cX7_alone 14 = .ok (.ifnonnull 5, 3) := by decide +kernel
theorem dX7_alone_17 : decode cX7_alone 17 = .ok (.iconst (-1), 1) := by decide +kernel
theorem dX7_alone_18 : decode cX7_alone 18 = .ok (.ireturn, 1) := by decide +kernel
theorem dX7_alone_19 : decode cX7_alone 19 = .ok (.aload_n 3, 1) := by decide +kernel
theorem dX7_alone_20 : decode cX7_alone 20 = .ok (.iconst 0, 1) := by decide +kernel
theorem dX7_alone_21 : decode cX7_alone 21 = .ok (.invokevirtual 104, 3) := by decide +kernel
theorem dX7_alone_24 : decode cX7_alone 24 = .ok (.ifCond .eq 12, 3) := by decide +kernel
theorem dX7_alone_27 : decode cX7_alone 27 = .ok (.aload_n 0, 1) := by decide +kernel
theorem dX7_alone_28 : decode cX7_alone 28 = .ok (.iload_n 1, 1) := by decide +kernel
theorem dX7_alone_29 : decode cX7_alone 29 = .ok (.aload_n 3, 1) := by decide +kernel
theorem dX7_alone_30 : decode cX7_alone 30 = .ok (.invokevirtual 170, 3) := by decide +kernel
theorem dX7_alone_33 : decode cX7_alone 33 = .ok (.goto 5, 3) := by decide +kernel
theorem dX7_alone_36 : decode cX7_alone 36 = .ok (.bipush (-3), 2) := by decide +kernel
theorem dX7_alone_38 : decode cX7_alone 38 = .ok (.ireturn, 1) := by decide +kernel
theorem dX7_apart_0 : decode cX7_apart 0 = .ok (.aload_n 0, 1) := by decide +kernel
theorem dX7_apart_1 : decode cX7_apart 1 = .ok (.iload_n 2, 1) := by decide +kernel
theorem dX7_apart_2 : decode cX7_apart 2 = .ok (.invokevirtual 91, 3) := by decide +kernel
theorem dX7_apart_5 : decode cX7_apart 5 = .ok (.astore 4, 2) := by decide +kernel
theorem dX7_apart_7 : decode cX7_apart 7 = .ok (.aload_n 0, 1) := by decide +kernel
theorem dX7_apart_8 : decode cX7_apart 8 = .ok (.iload_n 3, 1) := by decide +kernel
theorem dX7_apart_9 : decode cX7_apart 9 = .ok (.invokevirtual 117, 3) := by decide +kernel
theorem dX7_apart_12 : decode cX7_apart 12 = .ok (.astore 5, 2) := by decide +kernel
theorem dX7_apart_14 : decode cX7_apart 14 = .ok (.iload_n 1, 1) := by decide +kernel
theorem dX7_apart_15 : decode cX7_apart 15 = .ok (.invokestatic 129, 3) := by decide +kernel
theorem dX7_apart_18 : decode cX7_apart 18 = .ok (.ifCond .eq 13, 3) := by decide +kernel
theorem dX7_apart_21 : decode cX7_apart 21 = .ok (.aload 4, 2) := by decide +kernel
theorem dX7_apart_23 : decode cX7_apart 23 = .ok (.ifnull 8, 3) := by decide +kernel
theorem dX7_apart_26 : decode cX7_apart 26 = .ok (.aload 5, 2) := by decide +kernel
theorem dX7_apart_28 : decode cX7_apart 28 = .ok (.ifnonnull 5, 3) := by decide +kernel
theorem dX7_apart_31 : decode cX7_apart 31 = .ok (.iconst (-1), 1) := by decide +kernel
theorem dX7_apart_32 : decode cX7_apart 32 = .ok (.ireturn, 1) := by decide +kernel
theorem dX7_apart_33 : decode cX7_apart 33 = .ok (.aload 4, 2) := by decide +kernel
theorem dX7_apart_35 : decode cX7_apart 35 = .ok (.iconst 0, 1) := by decide +kernel
theorem dX7_apart_36 : decode cX7_apart 36 = .ok (.invokevirtual 104, 3) := by decide +kernel
theorem dX7_apart_39 : decode cX7_apart 39 = .ok (.ifCond .ne 6, 3) := by decide +kernel
theorem dX7_apart_42 : decode cX7_apart 42 = .ok (.bipush (-3), 2) := by decide +kernel
theorem dX7_apart_44 : decode cX7_apart 44 = .ok (.ireturn, 1) := by decide +kernel
theorem dX7_apart_45 : decode cX7_apart 45 = .ok (.aload 5, 2) := by decide +kernel
theorem dX7_apart_47 : decode cX7_apart 47 = .ok (.aload 4, 2) := by decide +kernel
theorem dX7_apart_49 : decode cX7_apart 49 = .ok (.invokevirtual 154, 3) := by decide +kernel
theorem dX7_apart_52 : decode cX7_apart 52 = .ok (.invokevirtual 125, 3) := by decide +kernel
theorem dX7_apart_55 : decode cX7_apart 55 = .ok (.invokestatic 146, 3) := by decide +kernel
theorem dX7_apart_58 : decode cX7_apart 58 = .ok (.istore 6, 2) := by decide +kernel
theorem dX7_apart_60 : decode cX7_apart 60 = .ok (.aload 5, 2) := by decide +kernel
theorem dX7_apart_62 : decode cX7_apart 62 = .ok (.aload 4, 2) := by decide +kernel
theorem dX7_apart_64 : decode cX7_apart 64 = .ok (.invokevirtual 154, 3) := by decide +kernel
theorem dX7_apart_67 : decode cX7_apart 67 = .ok (.invokevirtual 125, 3) := by decide +kernel
theorem dX7_apart_70 : decode cX7_apart 70 = .ok (.aload_n 0, 1) := by decide +kernel
theorem dX7_apart_71 : decode cX7_apart 71 = .ok (.iload_n 1, 1) := by decide +kernel
theorem dX7_apart_72 : decode cX7_apart 72 = .ok (.aload 4, 2) := by decide +kernel
theorem dX7_apart_74 : decode cX7_apart 74 = .ok (.invokevirtual 170, 3) := by decide +kernel
theorem dX7_apart_77 : decode cX7_apart 77 = .ok (.iand, 1) := by decide +kernel
theorem dX7_apart_78 : decode cX7_apart 78 = .ok (.invokestatic 146, 3) := by decide +kernel
theorem dX7_apart_81 : decode cX7_apart 81 = .ok (.istore 7, 2) := by decide +kernel
theorem dX7_apart_83 : decode cX7_apart 83 = .ok (.iload 6, 2) := by decide +kernel
theorem dX7_apart_85 : decode cX7_apart 85 = .ok (.invokestatic 174, 3) := by decide +kernel
theorem dX7_apart_88 : decode cX7_apart 88 = .ok (.iload 7, 2) := by decide +kernel
theorem dX7_apart_90 : decode cX7_apart 90 = .ok (.invokestatic 174, 3) := by decide +kernel
theorem dX7_apart_93 : decode cX7_apart 93 = .ok (.isub, 1) := by decide +kernel
theorem dX7_apart_94 : decode cX7_apart 94 = .ok (.ireturn, 1) := by decide +kernel
theorem dX7_saves_0 : decode cX7_saves 0 = .ok (.aload_n 0, 1) := by decide +kernel
theorem dX7_saves_1 : decode cX7_saves 1 = .ok (.iload_n 1, 1) := by decide +kernel
theorem dX7_saves_2 : decode cX7_saves 2 = .ok (.invokevirtual 91, 3) := by decide +kernel
theorem dX7_saves_5 : decode cX7_saves 5 = .ok (.astore_n 3, 1) := by decide +kernel
theorem dX7_saves_6 : decode cX7_saves 6 = .ok (.aload_n 0, 1) := by decide +kernel
theorem dX7_saves_7 : decode cX7_saves 7 = .ok (.iload_n 2, 1) := by decide +kernel
theorem dX7_saves_8 : decode cX7_saves 8 = .ok (.invokevirtual 117, 3) := by decide +kernel
theorem dX7_saves_11 : decode cX7_saves 11 = .ok (.astore 4, 2) := by decide +kernel
theorem dX7_saves_13 : decode cX7_saves 13 = .ok (.aload_n 3, 1) := by decide +kernel
theorem dX7_saves_14 : decode cX7_saves 14 = .ok (.ifnull 8, 3) := by decide +kernel
theorem dX7_saves_17 : decode cX7_saves 17 = .ok (.aload 4, 2) := by decide +kernel
theorem dX7_saves_19 : decode cX7_saves 19 = .ok (.ifnonnull 5, 3) := by decide +kernel
theorem dX7_saves_22 : decode cX7_saves 22 = .ok (.iconst (-1), 1) := by decide +kernel
theorem dX7_saves_23 : decode cX7_saves 23 = .ok (.ireturn, 1) := by decide +kernel
theorem dX7_saves_24 : decode cX7_saves 24 = .ok (.aload_n 3, 1) := by decide +kernel
theorem dX7_saves_25 : decode cX7_saves 25 = .ok (.iconst 0, 1) := by decide +kernel
theorem dX7_saves_26 : decode cX7_saves 26 = .ok (.invokevirtual 104, 3) := by decide +kernel
theorem dX7_saves_29 : decode cX7_saves 29 = .ok (.ifCond .ne 6, 3) := by decide +kernel
theorem dX7_saves_32 : decode cX7_saves 32 = .ok (.bipush (-5), 2) := by decide +kernel
theorem dX7_saves_34 : decode cX7_saves 34 = .ok (.ireturn, 1) := by decide +kernel
theorem dX7_saves_35 : decode cX7_saves 35 = .ok (.iconst 0, 1) := by decide +kernel
theorem dX7_saves_36 : decode cX7_saves 36 = .ok (.istore 5, 2) := by decide +kernel
theorem dX7_saves_38 : decode cX7_saves 38 = .ok (.iload 5, 2) := by decide +kernel
theorem dX7_saves_40 : decode cX7_saves 40 = .ok (.bipush 60, 2) := by decide +kernel
theorem dX7_saves_42 : decode cX7_saves 42 = .ok (.if_icmp .gt 26, 3) := by decide +kernel
theorem dX7_saves_45 : decode cX7_saves 45 = .ok (.aload 4, 2) := by decide +kernel
theorem dX7_saves_47 : decode cX7_saves 47 = .ok (.aload_n 3, 1) := by decide +kernel
theorem dX7_saves_48 : decode cX7_saves 48 = .ok (.invokevirtual 154, 3) := by decide +kernel
theorem dX7_saves_51 : decode cX7_saves 51 = .ok (.iload 5, 2) := by decide +kernel
theorem dX7_saves_53 : decode cX7_saves 53 = .ok (.invokevirtual 121, 3) := by decide +kernel
theorem dX7_saves_56 : decode cX7_saves 56 = .ok (.ifCond .eq 6, 3) := by decide +kernel
theorem dX7_saves_59 : decode cX7_saves 59 = .ok (.iload 5, 2) := by decide +kernel
theorem dX7_saves_61 : decode cX7_saves 61 = .ok (.ireturn, 1) := by decide +kernel
theorem dX7_saves_62 : decode cX7_saves 62 = .ok (.iinc 5 1, 3) := by decide +kernel
theorem dX7_saves_65 : decode cX7_saves 65 = .ok (.goto (-27), 3) := by decide +kernel
theorem dX7_saves_68 : decode cX7_saves 68 = .ok (.bipush (-5), 2) := by decide +kernel
theorem dX7_saves_70 : decode cX7_saves 70 = .ok (.ireturn, 1) := by decide +kernel
theorem dX7_table_0 : decode cX7_table 0 = .ok (.aload_n 0, 1) := by decide +kernel
theorem dX7_table_1 : decode cX7_table 1 = .ok (.iload_n 1, 1) := by decide +kernel
theorem dX7_table_2 : decode cX7_table 2 = .ok (.invokevirtual 177, 3) := by decide +kernel
theorem dX7_table_5 : decode cX7_table 5 = .ok (.astore 6, 2) := by decide +kernel
theorem dX7_table_7 : decode cX7_table 7 = .ok (.aload_n 0, 1) := by decide +kernel
theorem dX7_table_8 : decode cX7_table 8 = .ok (.iload 4, 2) := by decide +kernel
theorem dX7_table_10 : decode cX7_table 10 = .ok (.invokevirtual 91, 3) := by decide +kernel
theorem dX7_table_13 : decode cX7_table 13 = .ok (.astore 7, 2) := by decide +kernel
theorem dX7_table_15 : decode cX7_table 15 = .ok (.aload_n 0, 1) := by decide +kernel
theorem dX7_table_16 : decode cX7_table 16 = .ok (.iload 5, 2) := by decide +kernel
theorem dX7_table_18 : decode cX7_table 18 = .ok (.invokevirtual 117, 3) := by decide +kernel
theorem dX7_table_21 : decode cX7_table 21 = .ok (.astore 8, 2) := by decide +kernel
theorem dX7_table_23 : decode cX7_table 23 = .ok (.aload 6, 2) := by decide +kernel
theorem dX7_table_25 : decode cX7_table 25 = .ok (.ifnull 20, 3) := by decide +kernel
theorem dX7_table_28 : decode cX7_table 28 = .ok (.iload_n 3, 1) := by decide +kernel
theorem dX7_table_29 : decode cX7_table 29 = .ok (.invokestatic 129, 3) := by decide +kernel
theorem dX7_table_32 : decode cX7_table 32 = .ok (.ifCond .eq 13, 3) := by decide +kernel
theorem dX7_table_35 : decode cX7_table 35 = .ok (.aload 7, 2) := by decide +kernel
theorem dX7_table_37 : decode cX7_table 37 = .ok (.ifnull 8, 3) := by decide +kernel
theorem dX7_table_40 : decode cX7_table 40 = .ok (.aload 8, 2) := by decide +kernel
theorem dX7_table_42 : decode cX7_table 42 = .ok (.ifnonnull 5, 3) := by decide +kernel
theorem dX7_table_45 : decode cX7_table 45 = .ok (.iconst (-1), 1) := by decide +kernel
theorem dX7_table_46 : decode cX7_table 46 = .ok (.ireturn, 1) := by decide +kernel
theorem dX7_table_47 : decode cX7_table 47 = .ok (.aload 6, 2) := by decide +kernel
theorem dX7_table_49 : decode cX7_table 49 = .ok (.invokevirtual 181, 3) := by decide +kernel
theorem dX7_table_52 : decode cX7_table 52 = .ok (.ifCond .eq 15, 3) := by decide +kernel
theorem dX7_table_55 : decode cX7_table 55 = .ok (.aload 6, 2) := by decide +kernel
theorem dX7_table_57 : decode cX7_table 57 = .ok (.invokevirtual 185, 3) := by decide +kernel
theorem dX7_table_60 : decode cX7_table 60 = .ok (.iconst 1, 1) := by decide +kernel
theorem dX7_table_61 : decode cX7_table 61 = .ok (.if_icmp .eq 6, 3) := by decide +kernel
theorem dX7_table_64 : decode cX7_table 64 = .ok (.bipush (-12), 2) := by decide +kernel
theorem dX7_table_66 : decode cX7_table 66 = .ok (.ireturn, 1) := by decide +kernel
theorem dX7_table_67 : decode cX7_table 67 = .ok (.iconst 0, 1) := by decide +kernel
theorem dX7_table_68 : decode cX7_table 68 = .ok (.istore 9, 2) := by decide +kernel
theorem dX7_table_70 : decode cX7_table 70 = .ok (.iconst 0, 1) := by decide +kernel
theorem dX7_table_71 : decode cX7_table 71 = .ok (.istore 10, 2) := by decide +kernel
theorem dX7_table_73 : decode cX7_table 73 = .ok (.iload 10, 2) := by decide +kernel
theorem dX7_table_75 : decode cX7_table 75 = .ok (.aload 7, 2) := by decide +kernel
theorem dX7_table_77 : decode cX7_table 77 = .ok (.invokevirtual 136, 3) := by decide +kernel
theorem dX7_table_80 : decode cX7_table 80 = .ok (.if_icmp .ge 81, 3) := by decide +kernel
theorem dX7_table_83 : decode cX7_table 83 = .ok (.aload_n 0, 1) := by decide +kernel
theorem dX7_table_84 : decode cX7_table 84 = .ok (.iload_n 3, 1) := by decide +kernel
theorem dX7_table_85 : decode cX7_table 85 = .ok (.aload 7, 2) := by decide +kernel
theorem dX7_table_87 : decode cX7_table 87 = .ok (.aload 8, 2) := by decide +kernel
theorem dX7_table_89 : decode cX7_table 89 = .ok (.aload 7, 2) := by decide +kernel
theorem dX7_table_91 : decode cX7_table 91 = .ok (.iload 10, 2) := by decide +kernel
theorem dX7_table_93 : decode cX7_table 93 = .ok (.invokevirtual 139, 3) := by decide +kernel
theorem dX7_table_96 : decode cX7_table 96 = .ok (.invokevirtual 142, 3) := by decide +kernel
theorem dX7_table_99 : decode cX7_table 99 = .ok (.ifCond .ne 6, 3) := by decide +kernel
theorem dX7_table_102 : decode cX7_table 102 = .ok (.goto 53, 3) := by decide +kernel
theorem dX7_table_105 : decode cX7_table 105 = .ok (.iload_n 2, 1) := by decide +kernel
theorem dX7_table_106 : decode cX7_table 106 = .ok (.ifCond .lt 15, 3) := by decide +kernel
theorem dX7_table_109 : decode cX7_table 109 = .ok (.iload_n 2, 1) := by decide +kernel
theorem dX7_table_110 : decode cX7_table 110 = .ok (.aload 6, 2) := by decide +kernel
theorem dX7_table_112 : decode cX7_table 112 = .ok (.invokevirtual 188, 3) := by decide +kernel
theorem dX7_table_115 : decode cX7_table 115 = .ok (.iload 9, 2) := by decide +kernel
theorem dX7_table_117 : decode cX7_table 117 = .ok (.isub, 1) := by decide +kernel
theorem dX7_table_118 : decode cX7_table 118 = .ok (.if_icmp .lt 10, 3) := by decide +kernel
theorem dX7_table_121 : decode cX7_table 121 = .ok (.sipush 1000, 3) := by decide +kernel
theorem dX7_table_124 : decode cX7_table 124 = .ok (.iload 9, 2) := by decide +kernel
theorem dX7_table_126 : decode cX7_table 126 = .ok (.iadd, 1) := by decide +kernel
theorem dX7_table_127 : decode cX7_table 127 = .ok (.ireturn, 1) := by decide +kernel
theorem dX7_table_128 : decode cX7_table 128 = .ok (.aload 6, 2) := by decide +kernel
theorem dX7_table_130 : decode cX7_table 130 = .ok (.iload_n 2, 1) := by decide +kernel
theorem dX7_table_131 : decode cX7_table 131 = .ok (.iload 9, 2) := by decide +kernel
theorem dX7_table_133 : decode cX7_table 133 = .ok (.iadd, 1) := by decide +kernel
theorem dX7_table_134 : decode cX7_table 134 = .ok (.invokevirtual 189, 3) := by decide +kernel
theorem dX7_table_137 : decode cX7_table 137 = .ok (.aload 7, 2) := by decide +kernel
theorem dX7_table_139 : decode cX7_table 139 = .ok (.iload 10, 2) := by decide +kernel
theorem dX7_table_141 : decode cX7_table 141 = .ok (.invokevirtual 139, 3) := by decide +kernel
theorem dX7_table_144 : decode cX7_table 144 = .ok (.i2l, 1) := by decide +kernel
theorem dX7_table_145 : decode cX7_table 145 = .ok (.lcmp, 1) := by decide +kernel
theorem dX7_table_146 : decode cX7_table 146 = .ok (.ifCond .eq 6, 3) := by decide +kernel
theorem dX7_table_149 : decode cX7_table 149 = .ok (.iload 9, 2) := by decide +kernel
theorem dX7_table_151 : decode cX7_table 151 = .ok (.ireturn, 1) := by decide +kernel
theorem dX7_table_152 : decode cX7_table 152 = .ok (.iinc 9 1, 3) := by decide +kernel
theorem dX7_table_155 : decode cX7_table 155 = .ok (.iinc 10 1, 3) := by decide +kernel
theorem dX7_table_158 : decode cX7_table 158 = .ok (.goto (-85), 3) := by decide +kernel
theorem dX7_table_161 : decode cX7_table 161 = .ok (.iload 9, 2) := by decide +kernel
theorem dX7_table_163 : decode cX7_table 163 = .ok (.ireturn, 1) := by decide +kernel
theorem dX7_act_0 : decode cX7_act 0 = .ok (.aload_n 0, 1) := by decide +kernel
theorem dX7_act_1 : decode cX7_act 1 = .ok (.getfield 50, 3) := by decide +kernel
theorem dX7_act_4 : decode cX7_act 4 = .ok (.iload_n 1, 1) := by decide +kernel
theorem dX7_act_5 : decode cX7_act 5 = .ok (.iload_n 2, 1) := by decide +kernel
theorem dX7_act_6 : decode cX7_act 6 = .ok (.iload_n 3, 1) := by decide +kernel
theorem dX7_act_7 : decode cX7_act 7 = .ok (.aload_n 0, 1) := by decide +kernel
theorem dX7_act_8 : decode cX7_act 8 = .ok (.getfield 70, 3) := by decide +kernel
theorem dX7_act_11 : decode cX7_act 11 = .ok (.aload_n 0, 1) := by decide +kernel
theorem dX7_act_12 : decode cX7_act 12 = .ok (.getfield 74, 3) := by decide +kernel
theorem dX7_act_15 : decode cX7_act 15 = .ok (.invokevirtual 192, 3) := by decide +kernel
theorem dX7_act_18 : decode cX7_act 18 = .ok (.ireturn, 1) := by decide +kernel
theorem dX7_trace_0 : decode cX7_trace 0 = .ok (.aload_n 0, 1) := by decide +kernel
theorem dX7_trace_1 : decode cX7_trace 1 = .ok (.getfield 50, 3) := by decide +kernel
theorem dX7_trace_4 : decode cX7_trace 4 = .ok (.iload_n 1, 1) := by decide +kernel
theorem dX7_trace_5 : decode cX7_trace 5 = .ok (.invokevirtual 196, 3) := by decide +kernel
theorem dX7_trace_8 : decode cX7_trace 8 = .ok (.ireturn, 1) := by decide +kernel
theorem dX7_taken_0 : decode cX7_taken 0 = .ok (.iload_n 2, 1) := by decide +kernel
theorem dX7_taken_1 : decode cX7_taken 1 = .ok (.invokestatic 129, 3) := by decide +kernel
theorem dX7_taken_4 : decode cX7_taken 4 = .ok (.ifCond .ne 6, 3) := by decide +kernel
theorem dX7_taken_7 : decode cX7_taken 7 = .ok (.bipush (-2), 2) := by decide +kernel
theorem dX7_taken_9 : decode cX7_taken 9 = .ok (.ireturn, 1) := by decide +kernel
theorem dX7_taken_10 : decode cX7_taken 10 = .ok (.iload_n 1, 1) := by decide +kernel
theorem dX7_taken_11 : decode cX7_taken 11 = .ok (.invokestatic 129, 3) := by decide +kernel
theorem dX7_taken_14 : decode cX7_taken 14 = .ok (.ifCond .ne 6, 3) := by decide +kernel
theorem dX7_taken_17 : decode cX7_taken 17 = .ok (.bipush (-11), 2) := by decide +kernel
theorem dX7_taken_19 : decode cX7_taken 19 = .ok (.ireturn, 1) := by decide +kernel
theorem dX7_taken_20 : decode cX7_taken 20 = .ok (.iload_n 1, 1) := by decide +kernel
theorem dX7_taken_21 : decode cX7_taken 21 = .ok (.istore_n 3, 1) := by decide +kernel
theorem dX7_taken_22 : decode cX7_taken 22 = .ok (.iconst 0, 1) := by decide +kernel
theorem dX7_taken_23 : decode cX7_taken 23 = .ok (.istore 4, 2) := by decide +kernel
theorem dX7_taken_25 : decode cX7_taken 25 = .ok (.iload 4, 2) := by decide +kernel
theorem dX7_taken_27 : decode cX7_taken 27 = .ok (.bipush 7, 2) := by decide +kernel
theorem dX7_taken_29 : decode cX7_taken 29 = .ok (.if_icmp .ge 19, 3) := by decide +kernel
theorem dX7_taken_32 : decode cX7_taken 32 = .ok (.iload_n 3, 1) := by decide +kernel
theorem dX7_taken_33 : decode cX7_taken 33 = .ok (.iload_n 2, 1) := by decide +kernel
theorem dX7_taken_34 : decode cX7_taken 34 = .ok (.if_icmp .eq 14, 3) := by decide +kernel
theorem dX7_taken_37 : decode cX7_taken 37 = .ok (.iload_n 3, 1) := by decide +kernel
theorem dX7_taken_38 : decode cX7_taken 38 = .ok (.invokestatic 199, 3) := by decide +kernel
theorem dX7_taken_41 : decode cX7_taken 41 = .ok (.istore_n 3, 1) := by decide +kernel
theorem dX7_taken_42 : decode cX7_taken 42 = .ok (.iinc 4 1, 3) := by decide +kernel
theorem dX7_taken_45 : decode cX7_taken 45 = .ok (.goto (-20), 3) := by decide +kernel
theorem dX7_taken_48 : decode cX7_taken 48 = .ok (.iload_n 3, 1) := by decide +kernel
theorem dX7_taken_49 : decode cX7_taken 49 = .ok (.iload_n 2, 1) := by decide +kernel
theorem dX7_taken_50 : decode cX7_taken 50 = .ok (.if_icmp .ne 7, 3) := by decide +kernel
theorem dX7_taken_53 : decode cX7_taken 53 = .ok (.iload_n 1, 1) := by decide +kernel
theorem dX7_taken_54 : decode cX7_taken 54 = .ok (.goto 5, 3) := by decide +kernel
theorem dX7_taken_57 : decode cX7_taken 57 = .ok (.bipush (-12), 2) := by decide +kernel
theorem dX7_taken_59 : decode cX7_taken 59 = .ok (.ireturn, 1) := by decide +kernel
theorem dX7_count_0 : decode cX7_count 0 = .ok (.iload_n 1, 1) := by decide +kernel
theorem dX7_count_1 : decode cX7_count 1 = .ok (.tableswitch 57 0 3 #[31, 36, 41, 49], 31) := by decide +kernel
theorem dX7_count_32 : decode cX7_count 32 = .ok (.aload_n 0, 1) := by decide +kernel
theorem dX7_count_33 : decode cX7_count 33 = .ok (.getfield 70, 3) := by decide +kernel
theorem dX7_count_36 : decode cX7_count 36 = .ok (.ireturn, 1) := by decide +kernel
theorem dX7_count_37 : decode cX7_count 37 = .ok (.aload_n 0, 1) := by decide +kernel
theorem dX7_count_38 : decode cX7_count 38 = .ok (.getfield 74, 3) := by decide +kernel
theorem dX7_count_41 : decode cX7_count 41 = .ok (.ireturn, 1) := by decide +kernel
theorem dX7_count_42 : decode cX7_count 42 = .ok (.aload_n 0, 1) := by decide +kernel
theorem dX7_count_43 : decode cX7_count 43 = .ok (.getfield 12, 3) := by decide +kernel
theorem dX7_count_46 : decode cX7_count 46 = .ok (.invokevirtual 62, 3) := by decide +kernel
theorem dX7_count_49 : decode cX7_count 49 = .ok (.ireturn, 1) := by decide +kernel
theorem dX7_count_50 : decode cX7_count 50 = .ok (.aload_n 0, 1) := by decide +kernel
theorem dX7_count_51 : decode cX7_count 51 = .ok (.getfield 50, 3) := by decide +kernel
theorem dX7_count_54 : decode cX7_count 54 = .ok (.invokevirtual 202, 3) := by decide +kernel
theorem dX7_count_57 : decode cX7_count 57 = .ok (.ireturn, 1) := by decide +kernel
theorem dX7_count_58 : decode cX7_count 58 = .ok (.bipush (-2), 2) := by decide +kernel
theorem dX7_count_60 : decode cX7_count 60 = .ok (.ireturn, 1) := by decide +kernel
theorem dX7_tape_0 : decode cX7_tape 0 = .ok (.aload_n 0, 1) := by decide +kernel
theorem dX7_tape_1 : decode cX7_tape 1 = .ok (.iload_n 1, 1) := by decide +kernel
theorem dX7_tape_2 : decode cX7_tape 2 = .ok (.invokevirtual 177, 3) := by decide +kernel
theorem dX7_tape_5 : decode cX7_tape 5 = .ok (.astore 4, 2) := by decide +kernel
theorem dX7_tape_7 : decode cX7_tape 7 = .ok (.aload 4, 2) := by decide +kernel
theorem dX7_tape_9 : decode cX7_tape 9 = .ok (.ifnonnull 5, 3) := by decide +kernel
theorem dX7_tape_12 : decode cX7_tape 12 = .ok (.iconst (-1), 1) := by decide +kernel
theorem dX7_tape_13 : decode cX7_tape 13 = .ok (.ireturn, 1) := by decide +kernel
theorem dX7_tape_14 : decode cX7_tape 14 = .ok (.iload_n 2, 1) := by decide +kernel
theorem dX7_tape_15 : decode cX7_tape 15 = .ok (.iconst (-1), 1) := by decide +kernel
theorem dX7_tape_16 : decode cX7_tape 16 = .ok (.if_icmp .ne 12, 3) := by decide +kernel
theorem dX7_tape_19 : decode cX7_tape 19 = .ok (.aload 4, 2) := by decide +kernel
theorem dX7_tape_21 : decode cX7_tape 21 = .ok (.iconst (-1), 1) := by decide +kernel
theorem dX7_tape_22 : decode cX7_tape 22 = .ok (.iconst 0, 1) := by decide +kernel
theorem dX7_tape_23 : decode cX7_tape 23 = .ok (.invokevirtual 205, 3) := by decide +kernel
theorem dX7_tape_26 : decode cX7_tape 26 = .ok (.iconst 1, 1) := by decide +kernel
theorem dX7_tape_27 : decode cX7_tape 27 = .ok (.ireturn, 1) := by decide +kernel
theorem dX7_tape_28 : decode cX7_tape 28 = .ok (.iload_n 2, 1) := by decide +kernel
theorem dX7_tape_29 : decode cX7_tape 29 = .ok (.ifCond .lt 14, 3) := by decide +kernel
theorem dX7_tape_32 : decode cX7_tape 32 = .ok (.iload_n 2, 1) := by decide +kernel
theorem dX7_tape_33 : decode cX7_tape 33 = .ok (.iconst 4, 1) := by decide +kernel
theorem dX7_tape_34 : decode cX7_tape 34 = .ok (.if_icmp .gt 9, 3) := by decide +kernel
theorem dX7_tape_37 : decode cX7_tape 37 = .ok (.iload_n 3, 1) := by decide +kernel
theorem dX7_tape_38 : decode cX7_tape 38 = .ok (.bipush 60, 2) := by decide +kernel
theorem dX7_tape_40 : decode cX7_tape 40 = .ok (.if_icmp .le 6, 3) := by decide +kernel
theorem dX7_tape_43 : decode cX7_tape 43 = .ok (.bipush (-2), 2) := by decide +kernel
theorem dX7_tape_45 : decode cX7_tape 45 = .ok (.ireturn, 1) := by decide +kernel
theorem dX7_tape_46 : decode cX7_tape 46 = .ok (.iload_n 3, 1) := by decide +kernel
theorem dX7_tape_47 : decode cX7_tape 47 = .ok (.ifCond .ge 6, 3) := by decide +kernel
theorem dX7_tape_50 : decode cX7_tape 50 = .ok (.bipush (-14), 2) := by decide +kernel
theorem dX7_tape_52 : decode cX7_tape 52 = .ok (.ireturn, 1) := by decide +kernel
theorem dX7_tape_53 : decode cX7_tape 53 = .ok (.aload 4, 2) := by decide +kernel
theorem dX7_tape_55 : decode cX7_tape 55 = .ok (.iload_n 2, 1) := by decide +kernel
theorem dX7_tape_56 : decode cX7_tape 56 = .ok (.iload_n 3, 1) := by decide +kernel
theorem dX7_tape_57 : decode cX7_tape 57 = .ok (.invokevirtual 205, 3) := by decide +kernel
theorem dX7_tape_60 : decode cX7_tape 60 = .ok (.iconst 1, 1) := by decide +kernel
theorem dX7_tape_61 : decode cX7_tape 61 = .ok (.ireturn, 1) := by decide +kernel
theorem dX7_item_0 : decode cX7_item 0 = .ok (.aload_n 0, 1) := by decide +kernel
theorem dX7_item_1 : decode cX7_item 1 = .ok (.iload_n 1, 1) := by decide +kernel
theorem dX7_item_2 : decode cX7_item 2 = .ok (.invokevirtual 177, 3) := by decide +kernel
theorem dX7_item_5 : decode cX7_item 5 = .ok (.astore 5, 2) := by decide +kernel
theorem dX7_item_7 : decode cX7_item 7 = .ok (.aload 5, 2) := by decide +kernel
theorem dX7_item_9 : decode cX7_item 9 = .ok (.ifnonnull 5, 3) := by decide +kernel
theorem dX7_item_12 : decode cX7_item 12 = .ok (.iconst (-1), 1) := by decide +kernel
theorem dX7_item_13 : decode cX7_item 13 = .ok (.ireturn, 1) := by decide +kernel
theorem dX7_item_14 : decode cX7_item 14 = .ok (.aload 5, 2) := by decide +kernel
theorem dX7_item_16 : decode cX7_item 16 = .ok (.invokevirtual 181, 3) := by decide +kernel
theorem dX7_item_19 : decode cX7_item 19 = .ok (.ifCond .ne 6, 3) := by decide +kernel
theorem dX7_item_22 : decode cX7_item 22 = .ok (.bipush (-11), 2) := by decide +kernel
theorem dX7_item_24 : decode cX7_item 24 = .ok (.ireturn, 1) := by decide +kernel
theorem dX7_item_25 : decode cX7_item 25 = .ok (.iload_n 2, 1) := by decide +kernel
theorem dX7_item_26 : decode cX7_item 26 = .ok (.ifCond .lt 12, 3) := by decide +kernel
theorem dX7_item_29 : decode cX7_item 29 = .ok (.iload_n 2, 1) := by decide +kernel
theorem dX7_item_30 : decode cX7_item 30 = .ok (.aload 5, 2) := by decide +kernel
theorem dX7_item_32 : decode cX7_item 32 = .ok (.invokevirtual 188, 3) := by decide +kernel
theorem dX7_item_35 : decode cX7_item 35 = .ok (.if_icmp .lt 6, 3) := by decide +kernel
theorem dX7_item_38 : decode cX7_item 38 = .ok (.bipush (-13), 2) := by decide +kernel
theorem dX7_item_40 : decode cX7_item 40 = .ok (.ireturn, 1) := by decide +kernel
theorem dX7_item_41 : decode cX7_item 41 = .ok (.aload 5, 2) := by decide +kernel
theorem dX7_item_43 : decode cX7_item 43 = .ok (.iload_n 2, 1) := by decide +kernel
theorem dX7_item_44 : decode cX7_item 44 = .ok (.lload_n 3, 1) := by decide +kernel
theorem dX7_item_45 : decode cX7_item 45 = .ok (.invokevirtual 209, 3) := by decide +kernel
theorem dX7_item_48 : decode cX7_item 48 = .ok (.iconst 1, 1) := by decide +kernel
theorem dX7_item_49 : decode cX7_item 49 = .ok (.ireturn, 1) := by decide +kernel
theorem dX7_read_0 : decode cX7_read 0 = .ok (.aload_n 0, 1) := by decide +kernel
theorem dX7_read_1 : decode cX7_read 1 = .ok (.iload_n 1, 1) := by decide +kernel
theorem dX7_read_2 : decode cX7_read 2 = .ok (.invokevirtual 177, 3) := by decide +kernel
theorem dX7_read_5 : decode cX7_read 5 = .ok (.astore_n 3, 1) := by decide +kernel
theorem dX7_read_6 : decode cX7_read 6 = .ok (.aload_n 3, 1) := by decide +kernel
theorem dX7_read_7 : decode cX7_read 7 = .ok (.ifnull 15, 3) := by decide +kernel
theorem dX7_read_10 : decode cX7_read 10 = .ok (.iload_n 2, 1) := by decide +kernel
theorem dX7_read_11 : decode cX7_read 11 = .ok (.ifCond .lt 11, 3) := by decide +kernel
theorem dX7_read_14 : decode cX7_read 14 = .ok (.iload_n 2, 1) := by decide +kernel
theorem dX7_read_15 : decode cX7_read 15 = .ok (.aload_n 3, 1) := by decide +kernel
theorem dX7_read_16 : decode cX7_read 16 = .ok (.invokevirtual 188, 3) := by decide +kernel
theorem dX7_read_19 : decode cX7_read 19 = .ok (.if_icmp .lt 7, 3) := by decide +kernel
theorem dX7_read_22 : decode cX7_read 22 = .ok (.ldc2_w 107, 3) := by decide +kernel
theorem dX7_read_25 : decode cX7_read 25 = .ok (.lreturn, 1) := by decide +kernel
theorem dX7_read_26 : decode cX7_read 26 = .ok (.aload_n 3, 1) := by decide +kernel
theorem dX7_read_27 : decode cX7_read 27 = .ok (.iload_n 2, 1) := by decide +kernel
theorem dX7_read_28 : decode cX7_read 28 = .ok (.invokevirtual 189, 3) := by decide +kernel
theorem dX7_read_31 : decode cX7_read 31 = .ok (.lreturn, 1) := by decide +kernel
theorem dX7_shift_0 : decode cX7_shift 0 = .ok (.aload_n 0, 1) := by decide +kernel
theorem dX7_shift_1 : decode cX7_shift 1 = .ok (.iload_n 1, 1) := by decide +kernel
theorem dX7_shift_2 : decode cX7_shift 2 = .ok (.invokevirtual 177, 3) := by decide +kernel
theorem dX7_shift_5 : decode cX7_shift 5 = .ok (.astore 6, 2) := by decide +kernel
theorem dX7_shift_7 : decode cX7_shift 7 = .ok (.aload_n 0, 1) := by decide +kernel
theorem dX7_shift_8 : decode cX7_shift 8 = .ok (.iload_n 3, 1) := by decide +kernel
theorem dX7_shift_9 : decode cX7_shift 9 = .ok (.invokevirtual 177, 3) := by decide +kernel
theorem dX7_shift_12 : decode cX7_shift 12 = .ok (.astore 7, 2) := by decide +kernel
theorem dX7_shift_14 : decode cX7_shift 14 = .ok (.aload 6, 2) := by decide +kernel
theorem dX7_shift_16 : decode cX7_shift 16 = .ok (.ifnull 8, 3) := by decide +kernel
theorem dX7_shift_19 : decode cX7_shift 19 = .ok (.aload 7, 2) := by decide +kernel
theorem dX7_shift_21 : decode cX7_shift 21 = .ok (.ifnonnull 5, 3) := by decide +kernel
theorem dX7_shift_24 : decode cX7_shift 24 = .ok (.iconst (-1), 1) := by decide +kernel
theorem dX7_shift_25 : decode cX7_shift 25 = .ok (.ireturn, 1) := by decide +kernel
theorem dX7_shift_26 : decode cX7_shift 26 = .ok (.aload 6, 2) := by decide +kernel
theorem dX7_shift_28 : decode cX7_shift 28 = .ok (.invokevirtual 181, 3) := by decide +kernel
theorem dX7_shift_31 : decode cX7_shift 31 = .ok (.ifCond .eq 11, 3) := by decide +kernel
theorem dX7_shift_34 : decode cX7_shift 34 = .ok (.aload 7, 2) := by decide +kernel
theorem dX7_shift_36 : decode cX7_shift 36 = .ok (.invokevirtual 181, 3) := by decide +kernel
theorem dX7_shift_39 : decode cX7_shift 39 = .ok (.ifCond .ne 6, 3) := by decide +kernel
theorem dX7_shift_42 : decode cX7_shift 42 = .ok (.bipush (-11), 2) := by decide +kernel
theorem dX7_shift_44 : decode cX7_shift 44 = .ok (.ireturn, 1) := by decide +kernel
theorem dX7_shift_45 : decode cX7_shift 45 = .ok (.aload 6, 2) := by decide +kernel
theorem dX7_shift_47 : decode cX7_shift 47 = .ok (.invokevirtual 185, 3) := by decide +kernel
theorem dX7_shift_50 : decode cX7_shift 50 = .ok (.aload 7, 2) := by decide +kernel
theorem dX7_shift_52 : decode cX7_shift 52 = .ok (.invokevirtual 185, 3) := by decide +kernel
theorem dX7_shift_55 : decode cX7_shift 55 = .ok (.if_icmp .eq 6, 3) := by decide +kernel
theorem dX7_shift_58 : decode cX7_shift 58 = .ok (.bipush (-12), 2) := by decide +kernel
theorem dX7_shift_60 : decode cX7_shift 60 = .ok (.ireturn, 1) := by decide +kernel
theorem dX7_shift_61 : decode cX7_shift 61 = .ok (.iload 5, 2) := by decide +kernel
theorem dX7_shift_63 : decode cX7_shift 63 = .ok (.ifCond .lt 37, 3) := by decide +kernel
theorem dX7_shift_66 : decode cX7_shift 66 = .ok (.iload_n 2, 1) := by decide +kernel
theorem dX7_shift_67 : decode cX7_shift 67 = .ok (.ifCond .lt 33, 3) := by decide +kernel
theorem dX7_shift_70 : decode cX7_shift 70 = .ok (.iload 4, 2) := by decide +kernel
theorem dX7_shift_72 : decode cX7_shift 72 = .ok (.ifCond .lt 28, 3) := by decide +kernel
theorem dX7_shift_75 : decode cX7_shift 75 = .ok (.iload 5, 2) := by decide +kernel
theorem dX7_shift_77 : decode cX7_shift 77 = .ok (.aload 6, 2) := by decide +kernel
theorem dX7_shift_79 : decode cX7_shift 79 = .ok (.invokevirtual 188, 3) := by decide +kernel
theorem dX7_shift_82 : decode cX7_shift 82 = .ok (.iload_n 2, 1) := by decide +kernel
theorem dX7_shift_83 : decode cX7_shift 83 = .ok (.isub, 1) := by decide +kernel
theorem dX7_shift_84 : decode cX7_shift 84 = .ok (.if_icmp .gt 16, 3) := by decide +kernel
theorem dX7_shift_87 : decode cX7_shift 87 = .ok (.iload 5, 2) := by decide +kernel
theorem dX7_shift_89 : decode cX7_shift 89 = .ok (.aload 7, 2) := by decide +kernel
theorem dX7_shift_91 : decode cX7_shift 91 = .ok (.invokevirtual 188, 3) := by decide +kernel
theorem dX7_shift_94 : decode cX7_shift 94 = .ok (.iload 4, 2) := by decide +kernel
theorem dX7_shift_96 : decode cX7_shift 96 = .ok (.isub, 1) := by decide +kernel
theorem dX7_shift_97 : decode cX7_shift 97 = .ok (.if_icmp .le 6, 3) := by decide +kernel
theorem dX7_shift_100 : decode cX7_shift 100 = .ok (.bipush (-13), 2) := by decide +kernel
theorem dX7_shift_102 : decode cX7_shift 102 = .ok (.ireturn, 1) := by decide +kernel
theorem dX7_shift_103 : decode cX7_shift 103 = .ok (.aload 7, 2) := by decide +kernel
theorem dX7_shift_105 : decode cX7_shift 105 = .ok (.aload 6, 2) := by decide +kernel
theorem dX7_shift_107 : decode cX7_shift 107 = .ok (.iload_n 2, 1) := by decide +kernel
theorem dX7_shift_108 : decode cX7_shift 108 = .ok (.iload 4, 2) := by decide +kernel
theorem dX7_shift_110 : decode cX7_shift 110 = .ok (.iload 5, 2) := by decide +kernel
theorem dX7_shift_112 : decode cX7_shift 112 = .ok (.invokevirtual 213, 3) := by decide +kernel
theorem dX7_shift_115 : decode cX7_shift 115 = .ok (.iload 5, 2) := by decide +kernel
theorem dX7_shift_117 : decode cX7_shift 117 = .ok (.ireturn, 1) := by decide +kernel
theorem dX7_bargainOf_0 : decode cX7_bargainOf 0 = .ok (.iload_n 1, 1) := by decide +kernel
theorem dX7_bargainOf_1 : decode cX7_bargainOf 1 = .ok (.ifCond .lt 21, 3) := by decide +kernel
theorem dX7_bargainOf_4 : decode cX7_bargainOf 4 = .ok (.iload_n 1, 1) := by decide +kernel
theorem dX7_bargainOf_5 : decode cX7_bargainOf 5 = .ok (.aload_n 0, 1) := by decide +kernel
theorem dX7_bargainOf_6 : decode cX7_bargainOf 6 = .ok (.getfield 27, 3) := by decide +kernel
theorem dX7_bargainOf_9 : decode cX7_bargainOf 9 = .ok (.arraylength, 1) := by decide +kernel
theorem dX7_bargainOf_10 : decode cX7_bargainOf 10 = .ok (.if_icmp .ge 12, 3) := by decide +kernel
theorem dX7_bargainOf_13 : decode cX7_bargainOf 13 = .ok (.aload_n 0, 1) := by decide +kernel
theorem dX7_bargainOf_14 : decode cX7_bargainOf 14 = .ok (.getfield 27, 3) := by decide +kernel
theorem dX7_bargainOf_17 : decode cX7_bargainOf 17 = .ok (.iload_n 1, 1) := by decide +kernel
theorem dX7_bargainOf_18 : decode cX7_bargainOf 18 = .ok (.aaload, 1) := by decide +kernel
theorem dX7_bargainOf_19 : decode cX7_bargainOf 19 = .ok (.goto 4, 3) := by decide +kernel
theorem dX7_bargainOf_22 : decode cX7_bargainOf 22 = .ok (.aconst_null, 1) := by decide +kernel
theorem dX7_bargainOf_23 : decode cX7_bargainOf 23 = .ok (.areturn, 1) := by decide +kernel
theorem dX7_lawOf_0 : decode cX7_lawOf 0 = .ok (.iload_n 1, 1) := by decide +kernel
theorem dX7_lawOf_1 : decode cX7_lawOf 1 = .ok (.ifCond .lt 21, 3) := by decide +kernel
theorem dX7_lawOf_4 : decode cX7_lawOf 4 = .ok (.iload_n 1, 1) := by decide +kernel
theorem dX7_lawOf_5 : decode cX7_lawOf 5 = .ok (.aload_n 0, 1) := by decide +kernel
theorem dX7_lawOf_6 : decode cX7_lawOf 6 = .ok (.getfield 33, 3) := by decide +kernel
theorem dX7_lawOf_9 : decode cX7_lawOf 9 = .ok (.arraylength, 1) := by decide +kernel
theorem dX7_lawOf_10 : decode cX7_lawOf 10 = .ok (.if_icmp .ge 12, 3) := by decide +kernel
theorem dX7_lawOf_13 : decode cX7_lawOf 13 = .ok (.aload_n 0, 1) := by decide +kernel
theorem dX7_lawOf_14 : decode cX7_lawOf 14 = .ok (.getfield 33, 3) := by decide +kernel
theorem dX7_lawOf_17 : decode cX7_lawOf 17 = .ok (.iload_n 1, 1) := by decide +kernel
theorem dX7_lawOf_18 : decode cX7_lawOf 18 = .ok (.aaload, 1) := by decide +kernel
theorem dX7_lawOf_19 : decode cX7_lawOf 19 = .ok (.goto 4, 3) := by decide +kernel
theorem dX7_lawOf_22 : decode cX7_lawOf 22 = .ok (.aconst_null, 1) := by decide +kernel
theorem dX7_lawOf_23 : decode cX7_lawOf 23 = .ok (.areturn, 1) := by decide +kernel
theorem dX7_tapeOf_0 : decode cX7_tapeOf 0 = .ok (.iload_n 1, 1) := by decide +kernel
theorem dX7_tapeOf_1 : decode cX7_tapeOf 1 = .ok (.ifCond .lt 21, 3) := by decide +kernel
theorem dX7_tapeOf_4 : decode cX7_tapeOf 4 = .ok (.iload_n 1, 1) := by decide +kernel
theorem dX7_tapeOf_5 : decode cX7_tapeOf 5 = .ok (.aload_n 0, 1) := by decide +kernel
theorem dX7_tapeOf_6 : decode cX7_tapeOf 6 = .ok (.getfield 43, 3) := by decide +kernel
theorem dX7_tapeOf_9 : decode cX7_tapeOf 9 = .ok (.arraylength, 1) := by decide +kernel
theorem dX7_tapeOf_10 : decode cX7_tapeOf 10 = .ok (.if_icmp .ge 12, 3) := by decide +kernel
theorem dX7_tapeOf_13 : decode cX7_tapeOf 13 = .ok (.aload_n 0, 1) := by decide +kernel
theorem dX7_tapeOf_14 : decode cX7_tapeOf 14 = .ok (.getfield 43, 3) := by decide +kernel
theorem dX7_tapeOf_17 : decode cX7_tapeOf 17 = .ok (.iload_n 1, 1) := by decide +kernel
theorem dX7_tapeOf_18 : decode cX7_tapeOf 18 = .ok (.aaload, 1) := by decide +kernel
theorem dX7_tapeOf_19 : decode cX7_tapeOf 19 = .ok (.goto 4, 3) := by decide +kernel
theorem dX7_tapeOf_22 : decode cX7_tapeOf 22 = .ok (.aconst_null, 1) := by decide +kernel
theorem dX7_tapeOf_23 : decode cX7_tapeOf 23 = .ok (.areturn, 1) := by decide +kernel
theorem dX7_addBargain_0 : decode cX7_addBargain 0 = .ok (.aload_n 0, 1) := by decide +kernel
theorem dX7_addBargain_1 : decode cX7_addBargain 1 = .ok (.getfield 70, 3) := by decide +kernel
theorem dX7_addBargain_4 : decode cX7_addBargain 4 = .ok (.istore_n 1, 1) := by decide +kernel
theorem dX7_addBargain_5 : decode cX7_addBargain 5 = .ok (.iload_n 1, 1) := by decide +kernel
theorem dX7_addBargain_6 : decode cX7_addBargain 6 = .ok (.ifCond .lt 39, 3) := by decide +kernel
theorem dX7_addBargain_9 : decode cX7_addBargain 9 = .ok (.iload_n 1, 1) := by decide +kernel
theorem dX7_addBargain_10 : decode cX7_addBargain 10 = .ok (.aload_n 0, 1) := by decide +kernel
theorem dX7_addBargain_11 : decode cX7_addBargain 11 = .ok (.getfield 27, 3) := by decide +kernel
theorem dX7_addBargain_14 : decode cX7_addBargain 14 = .ok (.arraylength, 1) := by decide +kernel
theorem dX7_addBargain_15 : decode cX7_addBargain 15 = .ok (.if_icmp .ge 30, 3) := by decide +kernel
theorem dX7_addBargain_18 : decode cX7_addBargain 18 = .ok (.aload_n 0, 1) := by decide +kernel
theorem dX7_addBargain_19 : decode cX7_addBargain 19 = .ok (.getfield 27, 3) := by decide +kernel
theorem dX7_addBargain_22 : decode cX7_addBargain 22 = .ok (.iload_n 1, 1) := by decide +kernel
theorem dX7_addBargain_23 : decode cX7_addBargain 23 = .ok (.new 25, 3) := by decide +kernel
theorem dX7_addBargain_26 : decode cX7_addBargain 26 = .ok (.dup, 1) := by decide +kernel
theorem dX7_addBargain_27 : decode cX7_addBargain 27 = .ok (.aload_n 0, 1) := by decide +kernel
theorem dX7_addBargain_28 : decode cX7_addBargain 28 = .ok (.getfield 12, 3) := by decide +kernel
theorem dX7_addBargain_31 : decode cX7_addBargain 31 = .ok (.invokespecial 217, 3) := by decide +kernel
theorem dX7_addBargain_34 : decode cX7_addBargain 34 = .ok (.aastore, 1) := by decide +kernel
theorem dX7_addBargain_35 : decode cX7_addBargain 35 = .ok (.aload_n 0, 1) := by decide +kernel
theorem dX7_addBargain_36 : decode cX7_addBargain 36 = .ok (.dup, 1) := by decide +kernel
theorem dX7_addBargain_37 : decode cX7_addBargain 37 = .ok (.getfield 70, 3) := by decide +kernel
theorem dX7_addBargain_40 : decode cX7_addBargain 40 = .ok (.iconst 1, 1) := by decide +kernel
theorem dX7_addBargain_41 : decode cX7_addBargain 41 = .ok (.iadd, 1) := by decide +kernel
theorem dX7_addBargain_42 : decode cX7_addBargain 42 = .ok (.putfield 70, 3) := by decide +kernel
theorem dX7_addBargain_45 : decode cX7_addBargain 45 = .ok (.iload_n 1, 1) := by decide +kernel
theorem dX7_addBargain_46 : decode cX7_addBargain 46 = .ok (.ireturn, 1) := by decide +kernel
theorem dX7_addLaw_0 : decode cX7_addLaw 0 = .ok (.aload_n 0, 1) := by decide +kernel
theorem dX7_addLaw_1 : decode cX7_addLaw 1 = .ok (.getfield 74, 3) := by decide +kernel
theorem dX7_addLaw_4 : decode cX7_addLaw 4 = .ok (.istore_n 1, 1) := by decide +kernel
theorem dX7_addLaw_5 : decode cX7_addLaw 5 = .ok (.iload_n 1, 1) := by decide +kernel
theorem dX7_addLaw_6 : decode cX7_addLaw 6 = .ok (.ifCond .lt 35, 3) := by decide +kernel
theorem dX7_addLaw_9 : decode cX7_addLaw 9 = .ok (.iload_n 1, 1) := by decide +kernel
theorem dX7_addLaw_10 : decode cX7_addLaw 10 = .ok (.aload_n 0, 1) := by decide +kernel
theorem dX7_addLaw_11 : decode cX7_addLaw 11 = .ok (.getfield 33, 3) := by decide +kernel
theorem dX7_addLaw_14 : decode cX7_addLaw 14 = .ok (.arraylength, 1) := by decide +kernel
theorem dX7_addLaw_15 : decode cX7_addLaw 15 = .ok (.if_icmp .ge 26, 3) := by decide +kernel
theorem dX7_addLaw_18 : decode cX7_addLaw 18 = .ok (.aload_n 0, 1) := by decide +kernel
theorem dX7_addLaw_19 : decode cX7_addLaw 19 = .ok (.getfield 33, 3) := by decide +kernel
theorem dX7_addLaw_22 : decode cX7_addLaw 22 = .ok (.iload_n 1, 1) := by decide +kernel
theorem dX7_addLaw_23 : decode cX7_addLaw 23 = .ok (.aload_n 0, 1) := by decide +kernel
theorem dX7_addLaw_24 : decode cX7_addLaw 24 = .ok (.getfield 21, 3) := by decide +kernel
theorem dX7_addLaw_27 : decode cX7_addLaw 27 = .ok (.invokevirtual 220, 3) := by decide +kernel
theorem dX7_addLaw_30 : decode cX7_addLaw 30 = .ok (.aastore, 1) := by decide +kernel
theorem dX7_addLaw_31 : decode cX7_addLaw 31 = .ok (.aload_n 0, 1) := by decide +kernel
theorem dX7_addLaw_32 : decode cX7_addLaw 32 = .ok (.dup, 1) := by decide +kernel
theorem dX7_addLaw_33 : decode cX7_addLaw 33 = .ok (.getfield 74, 3) := by decide +kernel
theorem dX7_addLaw_36 : decode cX7_addLaw 36 = .ok (.iconst 1, 1) := by decide +kernel
theorem dX7_addLaw_37 : decode cX7_addLaw 37 = .ok (.iadd, 1) := by decide +kernel
theorem dX7_addLaw_38 : decode cX7_addLaw 38 = .ok (.putfield 74, 3) := by decide +kernel
theorem dX7_addLaw_41 : decode cX7_addLaw 41 = .ok (.iload_n 1, 1) := by decide +kernel
theorem dX7_addLaw_42 : decode cX7_addLaw 42 = .ok (.ireturn, 1) := by decide +kernel
theorem dX7_isKind_0 : decode cX7_isKind 0 = .ok (.iload_n 0, 1) := by decide +kernel
theorem dX7_isKind_1 : decode cX7_isKind 1 = .ok (.ifCond .lt 13, 3) := by decide +kernel
theorem dX7_isKind_4 : decode cX7_isKind 4 = .ok (.iload_n 0, 1) := by decide +kernel
theorem dX7_isKind_5 : decode cX7_isKind 5 = .ok (.bipush 7, 2) := by decide +kernel
theorem dX7_isKind_7 : decode cX7_isKind 7 = .ok (.if_icmp .ge 7, 3) := by decide +kernel
theorem dX7_isKind_10 : decode cX7_isKind 10 = .ok (.iconst 1, 1) := by decide +kernel
theorem dX7_isKind_11 : decode cX7_isKind 11 = .ok (.goto 4, 3) := by decide +kernel
theorem dX7_isKind_14 : decode cX7_isKind 14 = .ok (.iconst 0, 1) := by decide +kernel
theorem dX7_isKind_15 : decode cX7_isKind 15 = .ok (.ireturn, 1) := by decide +kernel
theorem dX7_kindAbove_0 : decode cX7_kindAbove 0 = .ok (.iload_n 0, 1) := by decide +kernel
theorem dX7_kindAbove_1 : decode cX7_kindAbove 1 = .ok (.ifCond .lt 19, 3) := by decide +kernel
theorem dX7_kindAbove_4 : decode cX7_kindAbove 4 = .ok (.iload_n 0, 1) := by decide +kernel
theorem dX7_kindAbove_5 : decode cX7_kindAbove 5 = .ok (.getstatic 224, 3) := by decide +kernel
theorem dX7_kindAbove_8 : decode cX7_kindAbove 8 = .ok (.arraylength, 1) := by decide +kernel
theorem dX7_kindAbove_9 : decode cX7_kindAbove 9 = .ok (.if_icmp .ge 11, 3) := by decide +kernel
theorem dX7_kindAbove_12 : decode cX7_kindAbove 12 = .ok (.getstatic 224, 3) := by decide +kernel
theorem dX7_kindAbove_15 : decode cX7_kindAbove 15 = .ok (.iload_n 0, 1) := by decide +kernel
theorem dX7_kindAbove_16 : decode cX7_kindAbove 16 = .ok (.iaload, 1) := by decide +kernel
theorem dX7_kindAbove_17 : decode cX7_kindAbove 17 = .ok (.goto 4, 3) := by decide +kernel
theorem dX7_kindAbove_20 : decode cX7_kindAbove 20 = .ok (.iconst (-1), 1) := by decide +kernel
theorem dX7_kindAbove_21 : decode cX7_kindAbove 21 = .ok (.ireturn, 1) := by decide +kernel
theorem dX7_isLet_0 : decode cX7_isLet 0 = .ok (.iload_n 1, 1) := by decide +kernel
theorem dX7_isLet_1 : decode cX7_isLet 1 = .ok (.tableswitch 86 0 6 #[43, 45, 47, 53, 59, 65, 79], 43) := by decide +kernel
theorem dX7_isLet_44 : decode cX7_isLet 44 = .ok (.iconst 1, 1) := by decide +kernel
theorem dX7_isLet_45 : decode cX7_isLet 45 = .ok (.ireturn, 1) := by decide +kernel
theorem dX7_isLet_46 : decode cX7_isLet 46 = .ok (.iconst 1, 1) := by decide +kernel
theorem dX7_isLet_47 : decode cX7_isLet 47 = .ok (.ireturn, 1) := by decide +kernel
theorem dX7_isLet_48 : decode cX7_isLet 48 = .ok (.aload_n 2, 1) := by decide +kernel
theorem dX7_isLet_49 : decode cX7_isLet 49 = .ok (.iload_n 3, 1) := by decide +kernel
theorem dX7_isLet_50 : decode cX7_isLet 50 = .ok (.invokevirtual 227, 3) := by decide +kernel
theorem dX7_isLet_53 : decode cX7_isLet 53 = .ok (.ireturn, 1) := by decide +kernel
theorem dX7_isLet_54 : decode cX7_isLet 54 = .ok (.aload_n 2, 1) := by decide +kernel
theorem dX7_isLet_55 : decode cX7_isLet 55 = .ok (.iload_n 3, 1) := by decide +kernel
theorem dX7_isLet_56 : decode cX7_isLet 56 = .ok (.invokevirtual 230, 3) := by decide +kernel
theorem dX7_isLet_59 : decode cX7_isLet 59 = .ok (.ireturn, 1) := by decide +kernel
theorem dX7_isLet_60 : decode cX7_isLet 60 = .ok (.aload_n 2, 1) := by decide +kernel
theorem dX7_isLet_61 : decode cX7_isLet 61 = .ok (.iload_n 3, 1) := by decide +kernel
theorem dX7_isLet_62 : decode cX7_isLet 62 = .ok (.invokevirtual 233, 3) := by decide +kernel
theorem dX7_isLet_65 : decode cX7_isLet 65 = .ok (.ireturn, 1) := by decide +kernel
theorem dX7_isLet_66 : decode cX7_isLet 66 = .ok (.iload_n 3, 1) := by decide +kernel
theorem dX7_isLet_67 : decode cX7_isLet 67 = .ok (.iload_n 3, 1) := by decide +kernel
theorem dX7_isLet_68 : decode cX7_isLet 68 = .ok (.iconst 1, 1) := by decide +kernel
theorem dX7_isLet_69 : decode cX7_isLet 69 = .ok (.iadd, 1) := by decide +kernel
theorem dX7_isLet_70 : decode cX7_isLet 70 = .ok (.iand, 1) := by decide +kernel
theorem dX7_isLet_71 : decode cX7_isLet 71 = .ok (.ifCond .ne 7, 3) := by decide +kernel
theorem dX7_isLet_74 : decode cX7_isLet 74 = .ok (.iconst 1, 1) := by decide +kernel
theorem dX7_isLet_75 : decode cX7_isLet 75 = .ok (.goto 4, 3) := by decide +kernel
theorem dX7_isLet_78 : decode cX7_isLet 78 = .ok (.iconst 0, 1) := by decide +kernel
theorem dX7_isLet_79 : decode cX7_isLet 79 = .ok (.ireturn, 1) := by decide +kernel
theorem dX7_isLet_80 : decode cX7_isLet 80 = .ok (.aload_n 0, 1) := by decide +kernel
theorem dX7_isLet_81 : decode cX7_isLet 81 = .ok (.aload_n 2, 1) := by decide +kernel
theorem dX7_isLet_82 : decode cX7_isLet 82 = .ok (.iload_n 3, 1) := by decide +kernel
theorem dX7_isLet_83 : decode cX7_isLet 83 = .ok (.invokevirtual 236, 3) := by decide +kernel
theorem dX7_isLet_86 : decode cX7_isLet 86 = .ok (.ireturn, 1) := by decide +kernel
theorem dX7_isLet_87 : decode cX7_isLet 87 = .ok (.iconst 0, 1) := by decide +kernel
theorem dX7_isLet_88 : decode cX7_isLet 88 = .ok (.ireturn, 1) := by decide +kernel
theorem dX7_keepsSense_0 : decode cX7_keepsSense 0 = .ok (.aload_n 1, 1) := by decide +kernel
theorem dX7_keepsSense_1 : decode cX7_keepsSense 1 = .ok (.iconst 0, 1) := by decide +kernel
theorem dX7_keepsSense_2 : decode cX7_keepsSense 2 = .ok (.invokevirtual 104, 3) := by decide +kernel
theorem dX7_keepsSense_5 : decode cX7_keepsSense 5 = .ok (.ifCond .eq 11, 3) := by decide +kernel
theorem dX7_keepsSense_8 : decode cX7_keepsSense 8 = .ok (.aload_n 1, 1) := by decide +kernel
theorem dX7_keepsSense_9 : decode cX7_keepsSense 9 = .ok (.iload_n 2, 1) := by decide +kernel
theorem dX7_keepsSense_10 : decode cX7_keepsSense 10 = .ok (.invokevirtual 104, 3) := by decide +kernel
theorem dX7_keepsSense_13 : decode cX7_keepsSense 13 = .ok (.ifCond .ne 5, 3) := by decide +kernel
theorem dX7_keepsSense_16 : decode cX7_keepsSense 16 = .ok (.iconst 0, 1) := by decide +kernel
theorem dX7_keepsSense_17 : decode cX7_keepsSense 17 = .ok (.ireturn, 1) := by decide +kernel
theorem dX7_keepsSense_18 : decode cX7_keepsSense 18 = .ok (.aload_n 1, 1) := by decide +kernel
theorem dX7_keepsSense_19 : decode cX7_keepsSense 19 = .ok (.iload_n 2, 1) := by decide +kernel
theorem dX7_keepsSense_20 : decode cX7_keepsSense 20 = .ok (.aload_n 0, 1) := by decide +kernel
theorem dX7_keepsSense_21 : decode cX7_keepsSense 21 = .ok (.getfield 57, 3) := by decide +kernel
theorem dX7_keepsSense_24 : decode cX7_keepsSense 24 = .ok (.invokevirtual 109, 3) := by decide +kernel
theorem dX7_keepsSense_27 : decode cX7_keepsSense 27 = .ok (.aload_n 0, 1) := by decide +kernel
theorem dX7_keepsSense_28 : decode cX7_keepsSense 28 = .ok (.getfield 57, 3) := by decide +kernel
theorem dX7_keepsSense_31 : decode cX7_keepsSense 31 = .ok (.aload_n 1, 1) := by decide +kernel
theorem dX7_keepsSense_32 : decode cX7_keepsSense 32 = .ok (.invokevirtual 154, 3) := by decide +kernel
theorem dX7_keepsSense_35 : decode cX7_keepsSense 35 = .ok (.invokevirtual 240, 3) := by decide +kernel
theorem dX7_keepsSense_38 : decode cX7_keepsSense 38 = .ok (.ireturn, 1) := by decide +kernel
theorem dX7_isGood_0 : decode cX7_isGood 0 = .ok (.aload_n 0, 1) := by decide +kernel
theorem dX7_isGood_1 : decode cX7_isGood 1 = .ok (.iload_n 1, 1) := by decide +kernel
theorem dX7_isGood_2 : decode cX7_isGood 2 = .ok (.aload_n 2, 1) := by decide +kernel
theorem dX7_isGood_3 : decode cX7_isGood 3 = .ok (.iload 4, 2) := by decide +kernel
theorem dX7_isGood_5 : decode cX7_isGood 5 = .ok (.invokevirtual 132, 3) := by decide +kernel
theorem dX7_isGood_8 : decode cX7_isGood 8 = .ok (.ifCond .ne 5, 3) := by decide +kernel
theorem dX7_isGood_11 : decode cX7_isGood 11 = .ok (.iconst 0, 1) := by decide +kernel
theorem dX7_isGood_12 : decode cX7_isGood 12 = .ok (.ireturn, 1) := by decide +kernel
theorem dX7_isGood_13 : decode cX7_isGood 13 = .ok (.aload_n 3, 1) := by decide +kernel
theorem dX7_isGood_14 : decode cX7_isGood 14 = .ok (.invokevirtual 243, 3) := by decide +kernel
theorem dX7_isGood_17 : decode cX7_isGood 17 = .ok (.ifCond .eq 15, 3) := by decide +kernel
theorem dX7_isGood_20 : decode cX7_isGood 20 = .ok (.aload_n 0, 1) := by decide +kernel
theorem dX7_isGood_21 : decode cX7_isGood 21 = .ok (.aload_n 2, 1) := by decide +kernel
theorem dX7_isGood_22 : decode cX7_isGood 22 = .ok (.iload 4, 2) := by decide +kernel
theorem dX7_isGood_24 : decode cX7_isGood 24 = .ok (.invokevirtual 236, 3) := by decide +kernel
theorem dX7_isGood_27 : decode cX7_isGood 27 = .ok (.ifCond .ne 5, 3) := by decide +kernel
theorem dX7_isGood_30 : decode cX7_isGood 30 = .ok (.iconst 0, 1) := by decide +kernel
theorem dX7_isGood_31 : decode cX7_isGood 31 = .ok (.ireturn, 1) := by decide +kernel
theorem dX7_isGood_32 : decode cX7_isGood 32 = .ok (.aload_n 2, 1) := by decide +kernel
theorem dX7_isGood_33 : decode cX7_isGood 33 = .ok (.iload 4, 2) := by decide +kernel
theorem dX7_isGood_35 : decode cX7_isGood 35 = .ok (.aload_n 0, 1) := by decide +kernel
theorem dX7_isGood_36 : decode cX7_isGood 36 = .ok (.getfield 57, 3) := by decide +kernel
theorem dX7_isGood_39 : decode cX7_isGood 39 = .ok (.invokevirtual 109, 3) := by decide +kernel
theorem dX7_isGood_42 : decode cX7_isGood 42 = .ok (.aload_n 3, 1) := by decide +kernel
theorem dX7_isGood_43 : decode cX7_isGood 43 = .ok (.aload_n 0, 1) := by decide +kernel
theorem dX7_isGood_44 : decode cX7_isGood 44 = .ok (.getfield 57, 3) := by decide +kernel
theorem dX7_isGood_47 : decode cX7_isGood 47 = .ok (.iconst 0, 1) := by decide +kernel
theorem dX7_isGood_48 : decode cX7_isGood 48 = .ok (.invokevirtual 121, 3) := by decide +kernel
theorem dX7_isGood_51 : decode cX7_isGood 51 = .ok (.ireturn, 1) := by decide +kernel
theorem dX7_weightFor_0 : decode cX7_weightFor 0 = .ok (.aload_n 1, 1) := by decide +kernel
theorem dX7_weightFor_1 : decode cX7_weightFor 1 = .ok (.iload_n 2, 1) := by decide +kernel
theorem dX7_weightFor_2 : decode cX7_weightFor 2 = .ok (.aload_n 0, 1) := by decide +kernel
theorem dX7_weightFor_3 : decode cX7_weightFor 3 = .ok (.getfield 57, 3) := by decide +kernel
theorem dX7_weightFor_6 : decode cX7_weightFor 6 = .ok (.invokevirtual 109, 3) := by decide +kernel
theorem dX7_weightFor_9 : decode cX7_weightFor 9 = .ok (.iload_n 3, 1) := by decide +kernel
theorem dX7_weightFor_10 : decode cX7_weightFor 10 = .ok (.iconst 2, 1) := by decide +kernel
theorem dX7_weightFor_11 : decode cX7_weightFor 11 = .ok (.if_icmp .eq 16, 3) := by decide +kernel
theorem dX7_weightFor_14 : decode cX7_weightFor 14 = .ok (.aload_n 0, 1) := by decide +kernel
theorem dX7_weightFor_15 : decode cX7_weightFor 15 = .ok (.getfield 57, 3) := by decide +kernel
theorem dX7_weightFor_18 : decode cX7_weightFor 18 = .ok (.iload_n 3, 1) := by decide +kernel
theorem dX7_weightFor_19 : decode cX7_weightFor 19 = .ok (.aload_n 0, 1) := by decide +kernel
theorem dX7_weightFor_20 : decode cX7_weightFor 20 = .ok (.getfield 37, 3) := by decide +kernel
theorem dX7_weightFor_23 : decode cX7_weightFor 23 = .ok (.invokevirtual 162, 3) := by decide +kernel
theorem dX7_weightFor_26 : decode cX7_weightFor 26 = .ok (.ireturn, 1) := by decide +kernel
theorem dX7_weightFor_27 : decode cX7_weightFor 27 = .ok (.aload_n 0, 1) := by decide +kernel
theorem dX7_weightFor_28 : decode cX7_weightFor 28 = .ok (.getfield 57, 3) := by decide +kernel
theorem dX7_weightFor_31 : decode cX7_weightFor 31 = .ok (.iconst 0, 1) := by decide +kernel
theorem dX7_weightFor_32 : decode cX7_weightFor 32 = .ok (.aload_n 0, 1) := by decide +kernel
theorem dX7_weightFor_33 : decode cX7_weightFor 33 = .ok (.getfield 37, 3) := by decide +kernel
theorem dX7_weightFor_36 : decode cX7_weightFor 36 = .ok (.invokevirtual 162, 3) := by decide +kernel
theorem dX7_weightFor_39 : decode cX7_weightFor 39 = .ok (.aload_n 0, 1) := by decide +kernel
theorem dX7_weightFor_40 : decode cX7_weightFor 40 = .ok (.getfield 57, 3) := by decide +kernel
theorem dX7_weightFor_43 : decode cX7_weightFor 43 = .ok (.iconst 1, 1) := by decide +kernel
theorem dX7_weightFor_44 : decode cX7_weightFor 44 = .ok (.aload_n 0, 1) := by decide +kernel
theorem dX7_weightFor_45 : decode cX7_weightFor 45 = .ok (.getfield 37, 3) := by decide +kernel
theorem dX7_weightFor_48 : decode cX7_weightFor 48 = .ok (.invokevirtual 162, 3) := by decide +kernel
theorem dX7_weightFor_51 : decode cX7_weightFor 51 = .ok (.isub, 1) := by decide +kernel
theorem dX7_weightFor_52 : decode cX7_weightFor 52 = .ok (.invokestatic 246, 3) := by decide +kernel
theorem dX7_weightFor_55 : decode cX7_weightFor 55 = .ok (.ireturn, 1) := by decide +kernel
theorem dX7_aloneDuties_0 : decode cX7_aloneDuties 0 = .ok (.iconst 0, 1) := by decide +kernel
theorem dX7_aloneDuties_1 : decode cX7_aloneDuties 1 = .ok (.istore_n 3, 1) := by decide +kernel
theorem dX7_aloneDuties_2 : decode cX7_aloneDuties 2 = .ok (.iconst 0, 1) := by decide +kernel
theorem dX7_aloneDuties_3 : decode cX7_aloneDuties 3 = .ok (.istore 4, 2) := by decide +kernel
theorem dX7_aloneDuties_5 : decode cX7_aloneDuties 5 = .ok (.iload 4, 2) := by decide +kernel
theorem dX7_aloneDuties_7 : decode cX7_aloneDuties 7 = .ok (.aload_n 2, 1) := by decide +kernel
theorem dX7_aloneDuties_8 : decode cX7_aloneDuties 8 = .ok (.invokevirtual 136, 3) := by decide +kernel
theorem dX7_aloneDuties_11 : decode cX7_aloneDuties 11 = .ok (.if_icmp .ge 85, 3) := by decide +kernel
theorem dX7_aloneDuties_14 : decode cX7_aloneDuties 14 = .ok (.aload_n 2, 1) := by decide +kernel
theorem dX7_aloneDuties_15 : decode cX7_aloneDuties 15 = .ok (.iload 4, 2) := by decide +kernel
theorem dX7_aloneDuties_17 : decode cX7_aloneDuties 17 = .ok (.invokevirtual 139, 3) := by decide +kernel
theorem dX7_aloneDuties_20 : decode cX7_aloneDuties 20 = .ok (.istore 5, 2) := by decide +kernel
theorem dX7_aloneDuties_22 : decode cX7_aloneDuties 22 = .ok (.aload_n 0, 1) := by decide +kernel
theorem dX7_aloneDuties_23 : decode cX7_aloneDuties 23 = .ok (.iload_n 1, 1) := by decide +kernel
theorem dX7_aloneDuties_24 : decode cX7_aloneDuties 24 = .ok (.aload_n 2, 1) := by decide +kernel
theorem dX7_aloneDuties_25 : decode cX7_aloneDuties 25 = .ok (.iload 5, 2) := by decide +kernel
theorem dX7_aloneDuties_27 : decode cX7_aloneDuties 27 = .ok (.invokevirtual 132, 3) := by decide +kernel
theorem dX7_aloneDuties_30 : decode cX7_aloneDuties 30 = .ok (.ifCond .ne 6, 3) := by decide +kernel
theorem dX7_aloneDuties_33 : decode cX7_aloneDuties 33 = .ok (.goto 57, 3) := by decide +kernel
theorem dX7_aloneDuties_36 : decode cX7_aloneDuties 36 = .ok (.aload_n 2, 1) := by decide +kernel
theorem dX7_aloneDuties_37 : decode cX7_aloneDuties 37 = .ok (.iload 5, 2) := by decide +kernel
theorem dX7_aloneDuties_39 : decode cX7_aloneDuties 39 = .ok (.aload_n 0, 1) := by decide +kernel
theorem dX7_aloneDuties_40 : decode cX7_aloneDuties 40 = .ok (.getfield 57, 3) := by decide +kernel
theorem dX7_aloneDuties_43 : decode cX7_aloneDuties 43 = .ok (.invokevirtual 109, 3) := by decide +kernel
theorem dX7_aloneDuties_46 : decode cX7_aloneDuties 46 = .ok (.iconst 0, 1) := by decide +kernel
theorem dX7_aloneDuties_47 : decode cX7_aloneDuties 47 = .ok (.istore 6, 2) := by decide +kernel
theorem dX7_aloneDuties_49 : decode cX7_aloneDuties 49 = .ok (.iload 6, 2) := by decide +kernel
theorem dX7_aloneDuties_51 : decode cX7_aloneDuties 51 = .ok (.aload_n 2, 1) := by decide +kernel
theorem dX7_aloneDuties_52 : decode cX7_aloneDuties 52 = .ok (.invokevirtual 154, 3) := by decide +kernel
theorem dX7_aloneDuties_55 : decode cX7_aloneDuties 55 = .ok (.invokevirtual 113, 3) := by decide +kernel
theorem dX7_aloneDuties_58 : decode cX7_aloneDuties 58 = .ok (.if_icmp .ge 32, 3) := by decide +kernel
theorem dX7_aloneDuties_61 : decode cX7_aloneDuties 61 = .ok (.aload_n 0, 1) := by decide +kernel
theorem dX7_aloneDuties_62 : decode cX7_aloneDuties 62 = .ok (.getfield 57, 3) := by decide +kernel
theorem dX7_aloneDuties_65 : decode cX7_aloneDuties 65 = .ok (.aload_n 2, 1) := by decide +kernel
theorem dX7_aloneDuties_66 : decode cX7_aloneDuties 66 = .ok (.invokevirtual 154, 3) := by decide +kernel
theorem dX7_aloneDuties_69 : decode cX7_aloneDuties 69 = .ok (.iload 6, 2) := by decide +kernel
theorem dX7_aloneDuties_71 : decode cX7_aloneDuties 71 = .ok (.invokevirtual 251, 3) := by decide +kernel
theorem dX7_aloneDuties_74 : decode cX7_aloneDuties 74 = .ok (.ifCond .eq 10, 3) := by decide +kernel
theorem dX7_aloneDuties_77 : decode cX7_aloneDuties 77 = .ok (.iload_n 3, 1) := by decide +kernel
theorem dX7_aloneDuties_78 : decode cX7_aloneDuties 78 = .ok (.iconst 1, 1) := by decide +kernel
theorem dX7_aloneDuties_79 : decode cX7_aloneDuties 79 = .ok (.iload 6, 2) := by decide +kernel
theorem dX7_aloneDuties_81 : decode cX7_aloneDuties 81 = .ok (.ishl, 1) := by decide +kernel
theorem dX7_aloneDuties_82 : decode cX7_aloneDuties 82 = .ok (.ior, 1) := by decide +kernel
theorem dX7_aloneDuties_83 : decode cX7_aloneDuties 83 = .ok (.istore_n 3, 1) := by decide +kernel
theorem dX7_aloneDuties_84 : decode cX7_aloneDuties 84 = .ok (.iinc 6 1, 3) := by decide +kernel
theorem dX7_aloneDuties_87 : decode cX7_aloneDuties 87 = .ok (.goto (-38), 3) := by decide +kernel
theorem dX7_aloneDuties_90 : decode cX7_aloneDuties 90 = .ok (.iinc 4 1, 3) := by decide +kernel
theorem dX7_aloneDuties_93 : decode cX7_aloneDuties 93 = .ok (.goto (-88), 3) := by decide +kernel
theorem dX7_aloneDuties_96 : decode cX7_aloneDuties 96 = .ok (.iload_n 3, 1) := by decide +kernel
theorem dX7_aloneDuties_97 : decode cX7_aloneDuties 97 = .ok (.ireturn, 1) := by decide +kernel
theorem dX7_pairsOf_0 : decode cX7_pairsOf 0 = .ok (.iload_n 0, 1) := by decide +kernel
theorem dX7_pairsOf_1 : decode cX7_pairsOf 1 = .ok (.iload_n 0, 1) := by decide +kernel
theorem dX7_pairsOf_2 : decode cX7_pairsOf 2 = .ok (.iconst 1, 1) := by decide +kernel
theorem dX7_pairsOf_3 : decode cX7_pairsOf 3 = .ok (.isub, 1) := by decide +kernel
theorem dX7_pairsOf_4 : decode cX7_pairsOf 4 = .ok (.imul, 1) := by decide +kernel
theorem dX7_pairsOf_5 : decode cX7_pairsOf 5 = .ok (.iconst 2, 1) := by decide +kernel
theorem dX7_pairsOf_6 : decode cX7_pairsOf 6 = .ok (.idiv, 1) := by decide +kernel
theorem dX7_pairsOf_7 : decode cX7_pairsOf 7 = .ok (.ireturn, 1) := by decide +kernel
theorem dL_law_0 : decode cL_law 0 = .ok (.new 7, 3) := by decide +kernel
theorem dL_law_3 : decode cL_law 3 = .ok (.dup, 1) := by decide +kernel
theorem dL_law_4 : decode cL_law 4 = .ok (.invokespecial 9, 3) := by decide +kernel
theorem dL_law_7 : decode cL_law 7 = .ok (.astore_n 1, 1) := by decide +kernel
theorem dL_law_8 : decode cL_law 8 = .ok (.new 10, 3) := by decide +kernel
theorem dL_law_11 : decode cL_law 11 = .ok (.dup, 1) := by decide +kernel
theorem dL_law_12 : decode cL_law 12 = .ok (.invokespecial 12, 3) := by decide +kernel
theorem dL_law_15 : decode cL_law 15 = .ok (.astore_n 2, 1) := by decide +kernel
theorem dL_law_16 : decode cL_law 16 = .ok (.iconst 0, 1) := by decide +kernel
theorem dL_law_17 : decode cL_law 17 = .ok (.istore_n 3, 1) := by decide +kernel
theorem dL_law_18 : decode cL_law 18 = .ok (.iload_n 3, 1) := by decide +kernel
theorem dL_law_19 : decode cL_law 19 = .ok (.aload_n 0, 1) := by decide +kernel
theorem dL_law_20 : decode cL_law 20 = .ok (.arraylength, 1) := by decide +kernel
theorem dL_law_21 : decode cL_law 21 = .ok (.bipush 6, 2) := by decide +kernel
theorem dL_law_23 : decode cL_law 23 = .ok (.isub, 1) := by decide +kernel
theorem dL_law_24 : decode cL_law 24 = .ok (.if_icmp .gt 1289, 3) := by decide +kernel
theorem dL_law_27 : decode cL_law 27 = .ok (.aload_n 0, 1) := by decide +kernel
theorem dL_law_28 : decode cL_law 28 = .ok (.iload_n 3, 1) := by decide +kernel
theorem dL_law_29 : decode cL_law 29 = .ok (.iaload, 1) := by decide +kernel
theorem dL_law_30 : decode cL_law 30 = .ok (.bipush 31, 2) := by decide +kernel
theorem dL_law_32 : decode cL_law 32 = .ok (.iand, 1) := by decide +kernel
theorem dL_law_33 : decode cL_law 33 = .ok (.tableswitch 1274 0 27 #[127, 160, 183, 216, 249, 282, 326, 369, 412, 455, 508, 561, 604, 647, 670, 714, 767, 800, 843, 876, 939, 982, 1005, 1038, 1061, 1104, 1177, 1211], 127) := by decide +kernel
theorem dL_law_160 : decode cL_law 160 = .ok (.aload_n 1, 1) := by decide +kernel
theorem dL_law_161 : decode cL_law 161 = .ok (.aload_n 0, 1) := by decide +kernel
theorem dL_law_162 : decode cL_law 162 = .ok (.iload_n 3, 1) := by decide +kernel
theorem dL_law_163 : decode cL_law 163 = .ok (.iconst 1, 1) := by decide +kernel
theorem dL_law_164 : decode cL_law 164 = .ok (.iadd, 1) := by decide +kernel
theorem dL_law_165 : decode cL_law 165 = .ok (.iaload, 1) := by decide +kernel
theorem dL_law_166 : decode cL_law 166 = .ok (.aload_n 0, 1) := by decide +kernel
theorem dL_law_167 : decode cL_law 167 = .ok (.iload_n 3, 1) := by decide +kernel
theorem dL_law_168 : decode cL_law 168 = .ok (.iconst 2, 1) := by decide +kernel
theorem dL_law_169 : decode cL_law 169 = .ok (.iadd, 1) := by decide +kernel
theorem dL_law_170 : decode cL_law 170 = .ok (.iaload, 1) := by decide +kernel
theorem dL_law_171 : decode cL_law 171 = .ok (.invokevirtual 13, 3) := by decide +kernel
theorem dL_law_174 : decode cL_law 174 = .ok (.aload_n 2, 1) := by decide +kernel
theorem dL_law_175 : decode cL_law 175 = .ok (.aload_n 0, 1) := by decide +kernel
theorem dL_law_176 : decode cL_law 176 = .ok (.iload_n 3, 1) := by decide +kernel
theorem dL_law_177 : decode cL_law 177 = .ok (.iconst 1, 1) := by decide +kernel
theorem dL_law_178 : decode cL_law 178 = .ok (.iadd, 1) := by decide +kernel
theorem dL_law_179 : decode cL_law 179 = .ok (.iaload, 1) := by decide +kernel
theorem dL_law_180 : decode cL_law 180 = .ok (.aload_n 0, 1) := by decide +kernel
theorem dL_law_181 : decode cL_law 181 = .ok (.iload_n 3, 1) := by decide +kernel
theorem dL_law_182 : decode cL_law 182 = .ok (.iconst 2, 1) := by decide +kernel
theorem dL_law_183 : decode cL_law 183 = .ok (.iadd, 1) := by decide +kernel
theorem dL_law_184 : decode cL_law 184 = .ok (.iaload, 1) := by decide +kernel
theorem dL_law_185 : decode cL_law 185 = .ok (.invokevirtual 17, 3) := by decide +kernel
theorem dL_law_188 : decode cL_law 188 = .ok (.if_icmp .eq 1119, 3) := by decide +kernel
theorem dL_law_191 : decode cL_law 191 = .ok (.iconst 0, 1) := by decide +kernel
theorem dL_law_192 : decode cL_law 192 = .ok (.ireturn, 1) := by decide +kernel
theorem dL_law_193 : decode cL_law 193 = .ok (.aload_n 1, 1) := by decide +kernel
theorem dL_law_194 : decode cL_law 194 = .ok (.aload_n 0, 1) := by decide +kernel
theorem dL_law_195 : decode cL_law 195 = .ok (.iload_n 3, 1) := by decide +kernel
theorem dL_law_196 : decode cL_law 196 = .ok (.iconst 1, 1) := by decide +kernel
theorem dL_law_197 : decode cL_law 197 = .ok (.iadd, 1) := by decide +kernel
theorem dL_law_198 : decode cL_law 198 = .ok (.iaload, 1) := by decide +kernel
theorem dL_law_199 : decode cL_law 199 = .ok (.invokevirtual 18, 3) := by decide +kernel
theorem dL_law_202 : decode cL_law 202 = .ok (.aload_n 2, 1) := by decide +kernel
theorem dL_law_203 : decode cL_law 203 = .ok (.aload_n 0, 1) := by decide +kernel
theorem dL_law_204 : decode cL_law 204 = .ok (.iload_n 3, 1) := by decide +kernel
theorem dL_law_205 : decode cL_law 205 = .ok (.iconst 1, 1) := by decide +kernel
theorem dL_law_206 : decode cL_law 206 = .ok (.iadd, 1) := by decide +kernel
theorem dL_law_207 : decode cL_law 207 = .ok (.iaload, 1) := by decide +kernel
theorem dL_law_208 : decode cL_law 208 = .ok (.invokevirtual 22, 3) := by decide +kernel
theorem dL_law_211 : decode cL_law 211 = .ok (.if_icmp .eq 1096, 3) := by decide +kernel
theorem dL_law_214 : decode cL_law 214 = .ok (.iconst 0, 1) := by decide +kernel
theorem dL_law_215 : decode cL_law 215 = .ok (.ireturn, 1) := by decide +kernel
theorem dL_law_216 : decode cL_law 216 = .ok (.aload_n 1, 1) := by decide +kernel
theorem dL_law_217 : decode cL_law 217 = .ok (.aload_n 0, 1) := by decide +kernel
theorem dL_law_218 : decode cL_law 218 = .ok (.iload_n 3, 1) := by decide +kernel
theorem dL_law_219 : decode cL_law 219 = .ok (.iconst 1, 1) := by decide +kernel
theorem dL_law_220 : decode cL_law 220 = .ok (.iadd, 1) := by decide +kernel
theorem dL_law_221 : decode cL_law 221 = .ok (.iaload, 1) := by decide +kernel
theorem dL_law_222 : decode cL_law 222 = .ok (.aload_n 0, 1) := by decide +kernel
theorem dL_law_223 : decode cL_law 223 = .ok (.iload_n 3, 1) := by decide +kernel
theorem dL_law_224 : decode cL_law 224 = .ok (.iconst 2, 1) := by decide +kernel
theorem dL_law_225 : decode cL_law 225 = .ok (.iadd, 1) := by decide +kernel
theorem dL_law_226 : decode cL_law 226 = .ok (.iaload, 1) := by decide +kernel
theorem dL_law_227 : decode cL_law 227 = .ok (.invokevirtual 23, 3) := by decide +kernel
theorem dL_law_230 : decode cL_law 230 = .ok (.aload_n 2, 1) := by decide +kernel
theorem dL_law_231 : decode cL_law 231 = .ok (.aload_n 0, 1) := by decide +kernel
theorem dL_law_232 : decode cL_law 232 = .ok (.iload_n 3, 1) := by decide +kernel
theorem dL_law_233 : decode cL_law 233 = .ok (.iconst 1, 1) := by decide +kernel
theorem dL_law_234 : decode cL_law 234 = .ok (.iadd, 1) := by decide +kernel
theorem dL_law_235 : decode cL_law 235 = .ok (.iaload, 1) := by decide +kernel
theorem dL_law_236 : decode cL_law 236 = .ok (.aload_n 0, 1) := by decide +kernel
theorem dL_law_237 : decode cL_law 237 = .ok (.iload_n 3, 1) := by decide +kernel
theorem dL_law_238 : decode cL_law 238 = .ok (.iconst 2, 1) := by decide +kernel
theorem dL_law_239 : decode cL_law 239 = .ok (.iadd, 1) := by decide +kernel
theorem dL_law_240 : decode cL_law 240 = .ok (.iaload, 1) := by decide +kernel
theorem dL_law_241 : decode cL_law 241 = .ok (.invokevirtual 26, 3) := by decide +kernel
theorem dL_law_244 : decode cL_law 244 = .ok (.if_icmp .eq 1063, 3) := by decide +kernel
theorem dL_law_247 : decode cL_law 247 = .ok (.iconst 0, 1) := by decide +kernel
theorem dL_law_248 : decode cL_law 248 = .ok (.ireturn, 1) := by decide +kernel
theorem dL_law_249 : decode cL_law 249 = .ok (.aload_n 1, 1) := by decide +kernel
theorem dL_law_250 : decode cL_law 250 = .ok (.aload_n 0, 1) := by decide +kernel
theorem dL_law_251 : decode cL_law 251 = .ok (.iload_n 3, 1) := by decide +kernel
theorem dL_law_252 : decode cL_law 252 = .ok (.iconst 1, 1) := by decide +kernel
theorem dL_law_253 : decode cL_law 253 = .ok (.iadd, 1) := by decide +kernel
theorem dL_law_254 : decode cL_law 254 = .ok (.iaload, 1) := by decide +kernel
theorem dL_law_255 : decode cL_law 255 = .ok (.aload_n 0, 1) := by decide +kernel
theorem dL_law_256 : decode cL_law 256 = .ok (.iload_n 3, 1) := by decide +kernel
theorem dL_law_257 : decode cL_law 257 = .ok (.iconst 2, 1) := by decide +kernel
theorem dL_law_258 : decode cL_law 258 = .ok (.iadd, 1) := by decide +kernel
theorem dL_law_259 : decode cL_law 259 = .ok (.iaload, 1) := by decide +kernel
theorem dL_law_260 : decode cL_law 260 = .ok (.invokevirtual 27, 3) := by decide +kernel
theorem dL_law_263 : decode cL_law 263 = .ok (.aload_n 2, 1) := by decide +kernel
theorem dL_law_264 : decode cL_law 264 = .ok (.aload_n 0, 1) := by decide +kernel
theorem dL_law_265 : decode cL_law 265 = .ok (.iload_n 3, 1) := by decide +kernel
theorem dL_law_266 : decode cL_law 266 = .ok (.iconst 1, 1) := by decide +kernel
theorem dL_law_267 : decode cL_law 267 = .ok (.iadd, 1) := by decide +kernel
theorem dL_law_268 : decode cL_law 268 = .ok (.iaload, 1) := by decide +kernel
theorem dL_law_269 : decode cL_law 269 = .ok (.aload_n 0, 1) := by decide +kernel
theorem dL_law_270 : decode cL_law 270 = .ok (.iload_n 3, 1) := by decide +kernel
theorem dL_law_271 : decode cL_law 271 = .ok (.iconst 2, 1) := by decide +kernel
theorem dL_law_272 : decode cL_law 272 = .ok (.iadd, 1) := by decide +kernel
theorem dL_law_273 : decode cL_law 273 = .ok (.iaload, 1) := by decide +kernel
theorem dL_law_274 : decode cL_law 274 = .ok (.invokevirtual 30, 3) := by decide +kernel
theorem dL_law_277 : decode cL_law 277 = .ok (.if_icmp .eq 1030, 3) := by decide +kernel
theorem dL_law_280 : decode cL_law 280 = .ok (.iconst 0, 1) := by decide +kernel
theorem dL_law_281 : decode cL_law 281 = .ok (.ireturn, 1) := by decide +kernel
theorem dL_law_282 : decode cL_law 282 = .ok (.aload_n 1, 1) := by decide +kernel
theorem dL_law_283 : decode cL_law 283 = .ok (.aload_n 0, 1) := by decide +kernel
theorem dL_law_284 : decode cL_law 284 = .ok (.iload_n 3, 1) := by decide +kernel
theorem dL_law_285 : decode cL_law 285 = .ok (.iconst 1, 1) := by decide +kernel
theorem dL_law_286 : decode cL_law 286 = .ok (.iadd, 1) := by decide +kernel
theorem dL_law_287 : decode cL_law 287 = .ok (.iaload, 1) := by decide +kernel
theorem dL_law_288 : decode cL_law 288 = .ok (.aload_n 0, 1) := by decide +kernel
theorem dL_law_289 : decode cL_law 289 = .ok (.iload_n 3, 1) := by decide +kernel
theorem dL_law_290 : decode cL_law 290 = .ok (.iconst 2, 1) := by decide +kernel
theorem dL_law_291 : decode cL_law 291 = .ok (.iadd, 1) := by decide +kernel
theorem dL_law_292 : decode cL_law 292 = .ok (.iaload, 1) := by decide +kernel
theorem dL_law_293 : decode cL_law 293 = .ok (.invokevirtual 31, 3) := by decide +kernel
theorem dL_law_296 : decode cL_law 296 = .ok (.aload_n 2, 1) := by decide +kernel
theorem dL_law_297 : decode cL_law 297 = .ok (.aload_n 0, 1) := by decide +kernel
theorem dL_law_298 : decode cL_law 298 = .ok (.iload_n 3, 1) := by decide +kernel
theorem dL_law_299 : decode cL_law 299 = .ok (.iconst 1, 1) := by decide +kernel
theorem dL_law_300 : decode cL_law 300 = .ok (.iadd, 1) := by decide +kernel
theorem dL_law_301 : decode cL_law 301 = .ok (.iaload, 1) := by decide +kernel
theorem dL_law_302 : decode cL_law 302 = .ok (.aload_n 0, 1) := by decide +kernel
theorem dL_law_303 : decode cL_law 303 = .ok (.iload_n 3, 1) := by decide +kernel
theorem dL_law_304 : decode cL_law 304 = .ok (.iconst 2, 1) := by decide +kernel
theorem dL_law_305 : decode cL_law 305 = .ok (.iadd, 1) := by decide +kernel
theorem dL_law_306 : decode cL_law 306 = .ok (.iaload, 1) := by decide +kernel
theorem dL_law_307 : decode cL_law 307 = .ok (.invokevirtual 34, 3) := by decide +kernel
theorem dL_law_310 : decode cL_law 310 = .ok (.if_icmp .eq 997, 3) := by decide +kernel
theorem dL_law_313 : decode cL_law 313 = .ok (.iconst 0, 1) := by decide +kernel
theorem dL_law_314 : decode cL_law 314 = .ok (.ireturn, 1) := by decide +kernel
theorem dL_law_315 : decode cL_law 315 = .ok (.aload_n 1, 1) := by decide +kernel
theorem dL_law_316 : decode cL_law 316 = .ok (.aload_n 0, 1) := by decide +kernel
theorem dL_law_317 : decode cL_law 317 = .ok (.iload_n 3, 1) := by decide +kernel
theorem dL_law_318 : decode cL_law 318 = .ok (.iconst 1, 1) := by decide +kernel
theorem dL_law_319 : decode cL_law 319 = .ok (.iadd, 1) := by decide +kernel
theorem dL_law_320 : decode cL_law 320 = .ok (.iaload, 1) := by decide +kernel
theorem dL_law_321 : decode cL_law 321 = .ok (.aload_n 0, 1) := by decide +kernel
theorem dL_law_322 : decode cL_law 322 = .ok (.iload_n 3, 1) := by decide +kernel
theorem dL_law_323 : decode cL_law 323 = .ok (.iconst 2, 1) := by decide +kernel
theorem dL_law_324 : decode cL_law 324 = .ok (.iadd, 1) := by decide +kernel
theorem dL_law_325 : decode cL_law 325 = .ok (.iaload, 1) := by decide +kernel
theorem dL_law_326 : decode cL_law 326 = .ok (.aload_n 0, 1) := by decide +kernel
theorem dL_law_327 : decode cL_law 327 = .ok (.iload_n 3, 1) := by decide +kernel
theorem dL_law_328 : decode cL_law 328 = .ok (.iconst 3, 1) := by decide +kernel
theorem dL_law_329 : decode cL_law 329 = .ok (.iadd, 1) := by decide +kernel
theorem dL_law_330 : decode cL_law 330 = .ok (.iaload, 1) := by decide +kernel
theorem dL_law_331 : decode cL_law 331 = .ok (.invokevirtual 35, 3) := by decide +kernel
theorem dL_law_334 : decode cL_law 334 = .ok (.aload_n 2, 1) := by decide +kernel
theorem dL_law_335 : decode cL_law 335 = .ok (.aload_n 0, 1) := by decide +kernel
theorem dL_law_336 : decode cL_law 336 = .ok (.iload_n 3, 1) := by decide +kernel
theorem dL_law_337 : decode cL_law 337 = .ok (.iconst 1, 1) := by decide +kernel
theorem dL_law_338 : decode cL_law 338 = .ok (.iadd, 1) := by decide +kernel
theorem dL_law_339 : decode cL_law 339 = .ok (.iaload, 1) := by decide +kernel
theorem dL_law_340 : decode cL_law 340 = .ok (.aload_n 0, 1) := by decide +kernel
theorem dL_law_341 : decode cL_law 341 = .ok (.iload_n 3, 1) := by decide +kernel
theorem dL_law_342 : decode cL_law 342 = .ok (.iconst 2, 1) := by decide +kernel
theorem dL_law_343 : decode cL_law 343 = .ok (.iadd, 1) := by decide +kernel
theorem dL_law_344 : decode cL_law 344 = .ok (.iaload, 1) := by decide +kernel
theorem dL_law_345 : decode cL_law 345 = .ok (.aload_n 0, 1) := by decide +kernel
theorem dL_law_346 : decode cL_law 346 = .ok (.iload_n 3, 1) := by decide +kernel
theorem dL_law_347 : decode cL_law 347 = .ok (.iconst 3, 1) := by decide +kernel
theorem dL_law_348 : decode cL_law 348 = .ok (.iadd, 1) := by decide +kernel
theorem dL_law_349 : decode cL_law 349 = .ok (.iaload, 1) := by decide +kernel
theorem dL_law_350 : decode cL_law 350 = .ok (.invokevirtual 39, 3) := by decide +kernel
theorem dL_law_353 : decode cL_law 353 = .ok (.lcmp, 1) := by decide +kernel
theorem dL_law_354 : decode cL_law 354 = .ok (.ifCond .eq 953, 3) := by decide +kernel
theorem dL_law_357 : decode cL_law 357 = .ok (.iconst 0, 1) := by decide +kernel
theorem dL_law_358 : decode cL_law 358 = .ok (.ireturn, 1) := by decide +kernel
theorem dL_law_359 : decode cL_law 359 = .ok (.aload_n 1, 1) := by decide +kernel
theorem dL_law_360 : decode cL_law 360 = .ok (.aload_n 0, 1) := by decide +kernel
theorem dL_law_361 : decode cL_law 361 = .ok (.iload_n 3, 1) := by decide +kernel
theorem dL_law_362 : decode cL_law 362 = .ok (.iconst 1, 1) := by decide +kernel
theorem dL_law_363 : decode cL_law 363 = .ok (.iadd, 1) := by decide +kernel
theorem dL_law_364 : decode cL_law 364 = .ok (.iaload, 1) := by decide +kernel
theorem dL_law_365 : decode cL_law 365 = .ok (.aload_n 0, 1) := by decide +kernel
theorem dL_law_366 : decode cL_law 366 = .ok (.iload_n 3, 1) := by decide +kernel
theorem dL_law_367 : decode cL_law 367 = .ok (.iconst 2, 1) := by decide +kernel
theorem dL_law_368 : decode cL_law 368 = .ok (.iadd, 1) := by decide +kernel
theorem dL_law_369 : decode cL_law 369 = .ok (.iaload, 1) := by decide +kernel
theorem dL_law_370 : decode cL_law 370 = .ok (.aload_n 0, 1) := by decide +kernel
theorem dL_law_371 : decode cL_law 371 = .ok (.iload_n 3, 1) := by decide +kernel
theorem dL_law_372 : decode cL_law 372 = .ok (.iconst 3, 1) := by decide +kernel
theorem dL_law_373 : decode cL_law 373 = .ok (.iadd, 1) := by decide +kernel
theorem dL_law_374 : decode cL_law 374 = .ok (.iaload, 1) := by decide +kernel
theorem dL_law_375 : decode cL_law 375 = .ok (.invokevirtual 40, 3) := by decide +kernel
theorem dL_law_378 : decode cL_law 378 = .ok (.aload_n 2, 1) := by decide +kernel
theorem dL_law_379 : decode cL_law 379 = .ok (.aload_n 0, 1) := by decide +kernel
theorem dL_law_380 : decode cL_law 380 = .ok (.iload_n 3, 1) := by decide +kernel
theorem dL_law_381 : decode cL_law 381 = .ok (.iconst 1, 1) := by decide +kernel
theorem dL_law_382 : decode cL_law 382 = .ok (.iadd, 1) := by decide +kernel
theorem dL_law_383 : decode cL_law 383 = .ok (.iaload, 1) := by decide +kernel
theorem dL_law_384 : decode cL_law 384 = .ok (.aload_n 0, 1) := by decide +kernel
theorem dL_law_385 : decode cL_law 385 = .ok (.iload_n 3, 1) := by decide +kernel
theorem dL_law_386 : decode cL_law 386 = .ok (.iconst 2, 1) := by decide +kernel
theorem dL_law_387 : decode cL_law 387 = .ok (.iadd, 1) := by decide +kernel
theorem dL_law_388 : decode cL_law 388 = .ok (.iaload, 1) := by decide +kernel
theorem dL_law_389 : decode cL_law 389 = .ok (.aload_n 0, 1) := by decide +kernel
theorem dL_law_390 : decode cL_law 390 = .ok (.iload_n 3, 1) := by decide +kernel
theorem dL_law_391 : decode cL_law 391 = .ok (.iconst 3, 1) := by decide +kernel
theorem dL_law_392 : decode cL_law 392 = .ok (.iadd, 1) := by decide +kernel
theorem dL_law_393 : decode cL_law 393 = .ok (.iaload, 1) := by decide +kernel
theorem dL_law_394 : decode cL_law 394 = .ok (.invokevirtual 44, 3) := by decide +kernel
theorem dL_law_397 : decode cL_law 397 = .ok (.if_icmp .eq 910, 3) := by decide +kernel
theorem dL_law_400 : decode cL_law 400 = .ok (.iconst 0, 1) := by decide +kernel
theorem dL_law_401 : decode cL_law 401 = .ok (.ireturn, 1) := by decide +kernel
theorem dL_law_402 : decode cL_law 402 = .ok (.aload_n 1, 1) := by decide +kernel
theorem dL_law_403 : decode cL_law 403 = .ok (.aload_n 0, 1) := by decide +kernel
theorem dL_law_404 : decode cL_law 404 = .ok (.iload_n 3, 1) := by decide +kernel
theorem dL_law_405 : decode cL_law 405 = .ok (.iconst 1, 1) := by decide +kernel
theorem dL_law_406 : decode cL_law 406 = .ok (.iadd, 1) := by decide +kernel
theorem dL_law_407 : decode cL_law 407 = .ok (.iaload, 1) := by decide +kernel
theorem dL_law_408 : decode cL_law 408 = .ok (.aload_n 0, 1) := by decide +kernel
theorem dL_law_409 : decode cL_law 409 = .ok (.iload_n 3, 1) := by decide +kernel
theorem dL_law_410 : decode cL_law 410 = .ok (.iconst 2, 1) := by decide +kernel
theorem dL_law_411 : decode cL_law 411 = .ok (.iadd, 1) := by decide +kernel
theorem dL_law_412 : decode cL_law 412 = .ok (.iaload, 1) := by decide +kernel
theorem dL_law_413 : decode cL_law 413 = .ok (.aload_n 0, 1) := by decide +kernel
theorem dL_law_414 : decode cL_law 414 = .ok (.iload_n 3, 1) := by decide +kernel
theorem dL_law_415 : decode cL_law 415 = .ok (.iconst 3, 1) := by decide +kernel
theorem dL_law_416 : decode cL_law 416 = .ok (.iadd, 1) := by decide +kernel
theorem dL_law_417 : decode cL_law 417 = .ok (.iaload, 1) := by decide +kernel
theorem dL_law_418 : decode cL_law 418 = .ok (.invokevirtual 45, 3) := by decide +kernel
theorem dL_law_421 : decode cL_law 421 = .ok (.aload_n 2, 1) := by decide +kernel
theorem dL_law_422 : decode cL_law 422 = .ok (.aload_n 0, 1) := by decide +kernel
theorem dL_law_423 : decode cL_law 423 = .ok (.iload_n 3, 1) := by decide +kernel
theorem dL_law_424 : decode cL_law 424 = .ok (.iconst 1, 1) := by decide +kernel
theorem dL_law_425 : decode cL_law 425 = .ok (.iadd, 1) := by decide +kernel
theorem dL_law_426 : decode cL_law 426 = .ok (.iaload, 1) := by decide +kernel
theorem dL_law_427 : decode cL_law 427 = .ok (.aload_n 0, 1) := by decide +kernel
theorem dL_law_428 : decode cL_law 428 = .ok (.iload_n 3, 1) := by decide +kernel
theorem dL_law_429 : decode cL_law 429 = .ok (.iconst 2, 1) := by decide +kernel
theorem dL_law_430 : decode cL_law 430 = .ok (.iadd, 1) := by decide +kernel
theorem dL_law_431 : decode cL_law 431 = .ok (.iaload, 1) := by decide +kernel
theorem dL_law_432 : decode cL_law 432 = .ok (.aload_n 0, 1) := by decide +kernel
theorem dL_law_433 : decode cL_law 433 = .ok (.iload_n 3, 1) := by decide +kernel
theorem dL_law_434 : decode cL_law 434 = .ok (.iconst 3, 1) := by decide +kernel
theorem dL_law_435 : decode cL_law 435 = .ok (.iadd, 1) := by decide +kernel
theorem dL_law_436 : decode cL_law 436 = .ok (.iaload, 1) := by decide +kernel
theorem dL_law_437 : decode cL_law 437 = .ok (.invokevirtual 48, 3) := by decide +kernel
theorem dL_law_440 : decode cL_law 440 = .ok (.if_icmp .eq 867, 3) := by decide +kernel
theorem dL_law_443 : decode cL_law 443 = .ok (.iconst 0, 1) := by decide +kernel
theorem dL_law_444 : decode cL_law 444 = .ok (.ireturn, 1) := by decide +kernel
theorem dL_law_445 : decode cL_law 445 = .ok (.aload_n 1, 1) := by decide +kernel
theorem dL_law_446 : decode cL_law 446 = .ok (.aload_n 0, 1) := by decide +kernel
theorem dL_law_447 : decode cL_law 447 = .ok (.iload_n 3, 1) := by decide +kernel
theorem dL_law_448 : decode cL_law 448 = .ok (.iconst 1, 1) := by decide +kernel
theorem dL_law_449 : decode cL_law 449 = .ok (.iadd, 1) := by decide +kernel
theorem dL_law_450 : decode cL_law 450 = .ok (.iaload, 1) := by decide +kernel
theorem dL_law_451 : decode cL_law 451 = .ok (.aload_n 0, 1) := by decide +kernel
theorem dL_law_452 : decode cL_law 452 = .ok (.iload_n 3, 1) := by decide +kernel
theorem dL_law_453 : decode cL_law 453 = .ok (.iconst 2, 1) := by decide +kernel
theorem dL_law_454 : decode cL_law 454 = .ok (.iadd, 1) := by decide +kernel
theorem dL_law_455 : decode cL_law 455 = .ok (.iaload, 1) := by decide +kernel
theorem dL_law_456 : decode cL_law 456 = .ok (.aload_n 0, 1) := by decide +kernel
theorem dL_law_457 : decode cL_law 457 = .ok (.iload_n 3, 1) := by decide +kernel
theorem dL_law_458 : decode cL_law 458 = .ok (.iconst 3, 1) := by decide +kernel
theorem dL_law_459 : decode cL_law 459 = .ok (.iadd, 1) := by decide +kernel
theorem dL_law_460 : decode cL_law 460 = .ok (.iaload, 1) := by decide +kernel
theorem dL_law_461 : decode cL_law 461 = .ok (.invokevirtual 49, 3) := by decide +kernel
theorem dL_law_464 : decode cL_law 464 = .ok (.aload_n 2, 1) := by decide +kernel
theorem dL_law_465 : decode cL_law 465 = .ok (.aload_n 0, 1) := by decide +kernel
theorem dL_law_466 : decode cL_law 466 = .ok (.iload_n 3, 1) := by decide +kernel
theorem dL_law_467 : decode cL_law 467 = .ok (.iconst 1, 1) := by decide +kernel
theorem dL_law_468 : decode cL_law 468 = .ok (.iadd, 1) := by decide +kernel
theorem dL_law_469 : decode cL_law 469 = .ok (.iaload, 1) := by decide +kernel
theorem dL_law_470 : decode cL_law 470 = .ok (.aload_n 0, 1) := by decide +kernel
theorem dL_law_471 : decode cL_law 471 = .ok (.iload_n 3, 1) := by decide +kernel
theorem dL_law_472 : decode cL_law 472 = .ok (.iconst 2, 1) := by decide +kernel
theorem dL_law_473 : decode cL_law 473 = .ok (.iadd, 1) := by decide +kernel
theorem dL_law_474 : decode cL_law 474 = .ok (.iaload, 1) := by decide +kernel
theorem dL_law_475 : decode cL_law 475 = .ok (.aload_n 0, 1) := by decide +kernel
theorem dL_law_476 : decode cL_law 476 = .ok (.iload_n 3, 1) := by decide +kernel
theorem dL_law_477 : decode cL_law 477 = .ok (.iconst 3, 1) := by decide +kernel
theorem dL_law_478 : decode cL_law 478 = .ok (.iadd, 1) := by decide +kernel
theorem dL_law_479 : decode cL_law 479 = .ok (.iaload, 1) := by decide +kernel
theorem dL_law_480 : decode cL_law 480 = .ok (.invokevirtual 52, 3) := by decide +kernel
theorem dL_law_483 : decode cL_law 483 = .ok (.if_icmp .eq 824, 3) := by decide +kernel
theorem dL_law_486 : decode cL_law 486 = .ok (.iconst 0, 1) := by decide +kernel
theorem dL_law_487 : decode cL_law 487 = .ok (.ireturn, 1) := by decide +kernel
theorem dL_law_488 : decode cL_law 488 = .ok (.aload_n 1, 1) := by decide +kernel
theorem dL_law_489 : decode cL_law 489 = .ok (.aload_n 0, 1) := by decide +kernel
theorem dL_law_490 : decode cL_law 490 = .ok (.iload_n 3, 1) := by decide +kernel
theorem dL_law_491 : decode cL_law 491 = .ok (.iconst 1, 1) := by decide +kernel
theorem dL_law_492 : decode cL_law 492 = .ok (.iadd, 1) := by decide +kernel
theorem dL_law_493 : decode cL_law 493 = .ok (.iaload, 1) := by decide +kernel
theorem dL_law_494 : decode cL_law 494 = .ok (.aload_n 0, 1) := by decide +kernel
theorem dL_law_495 : decode cL_law 495 = .ok (.iload_n 3, 1) := by decide +kernel
theorem dL_law_496 : decode cL_law 496 = .ok (.iconst 2, 1) := by decide +kernel
theorem dL_law_497 : decode cL_law 497 = .ok (.iadd, 1) := by decide +kernel
theorem dL_law_498 : decode cL_law 498 = .ok (.iaload, 1) := by decide +kernel
theorem dL_law_499 : decode cL_law 499 = .ok (.aload_n 0, 1) := by decide +kernel
theorem dL_law_500 : decode cL_law 500 = .ok (.iload_n 3, 1) := by decide +kernel
theorem dL_law_501 : decode cL_law 501 = .ok (.iconst 3, 1) := by decide +kernel
theorem dL_law_502 : decode cL_law 502 = .ok (.iadd, 1) := by decide +kernel
theorem dL_law_503 : decode cL_law 503 = .ok (.iaload, 1) := by decide +kernel
theorem dL_law_504 : decode cL_law 504 = .ok (.aload_n 0, 1) := by decide +kernel
theorem dL_law_505 : decode cL_law 505 = .ok (.iload_n 3, 1) := by decide +kernel
theorem dL_law_506 : decode cL_law 506 = .ok (.iconst 4, 1) := by decide +kernel
theorem dL_law_507 : decode cL_law 507 = .ok (.iadd, 1) := by decide +kernel
theorem dL_law_508 : decode cL_law 508 = .ok (.iaload, 1) := by decide +kernel
theorem dL_law_509 : decode cL_law 509 = .ok (.invokevirtual 53, 3) := by decide +kernel
theorem dL_law_512 : decode cL_law 512 = .ok (.aload_n 2, 1) := by decide +kernel
theorem dL_law_513 : decode cL_law 513 = .ok (.aload_n 0, 1) := by decide +kernel
theorem dL_law_514 : decode cL_law 514 = .ok (.iload_n 3, 1) := by decide +kernel
theorem dL_law_515 : decode cL_law 515 = .ok (.iconst 1, 1) := by decide +kernel
theorem dL_law_516 : decode cL_law 516 = .ok (.iadd, 1) := by decide +kernel
theorem dL_law_517 : decode cL_law 517 = .ok (.iaload, 1) := by decide +kernel
theorem dL_law_518 : decode cL_law 518 = .ok (.aload_n 0, 1) := by decide +kernel
theorem dL_law_519 : decode cL_law 519 = .ok (.iload_n 3, 1) := by decide +kernel
theorem dL_law_520 : decode cL_law 520 = .ok (.iconst 2, 1) := by decide +kernel
theorem dL_law_521 : decode cL_law 521 = .ok (.iadd, 1) := by decide +kernel
theorem dL_law_522 : decode cL_law 522 = .ok (.iaload, 1) := by decide +kernel
theorem dL_law_523 : decode cL_law 523 = .ok (.aload_n 0, 1) := by decide +kernel
theorem dL_law_524 : decode cL_law 524 = .ok (.iload_n 3, 1) := by decide +kernel
theorem dL_law_525 : decode cL_law 525 = .ok (.iconst 3, 1) := by decide +kernel
theorem dL_law_526 : decode cL_law 526 = .ok (.iadd, 1) := by decide +kernel
theorem dL_law_527 : decode cL_law 527 = .ok (.iaload, 1) := by decide +kernel
theorem dL_law_528 : decode cL_law 528 = .ok (.aload_n 0, 1) := by decide +kernel
theorem dL_law_529 : decode cL_law 529 = .ok (.iload_n 3, 1) := by decide +kernel
theorem dL_law_530 : decode cL_law 530 = .ok (.iconst 4, 1) := by decide +kernel
theorem dL_law_531 : decode cL_law 531 = .ok (.iadd, 1) := by decide +kernel
theorem dL_law_532 : decode cL_law 532 = .ok (.iaload, 1) := by decide +kernel
theorem dL_law_533 : decode cL_law 533 = .ok (.invokevirtual 57, 3) := by decide +kernel
theorem dL_law_536 : decode cL_law 536 = .ok (.if_icmp .eq 771, 3) := by decide +kernel
theorem dL_law_539 : decode cL_law 539 = .ok (.iconst 0, 1) := by decide +kernel
theorem dL_law_540 : decode cL_law 540 = .ok (.ireturn, 1) := by decide +kernel
theorem dL_law_541 : decode cL_law 541 = .ok (.aload_n 1, 1) := by decide +kernel
theorem dL_law_542 : decode cL_law 542 = .ok (.aload_n 0, 1) := by decide +kernel
theorem dL_law_543 : decode cL_law 543 = .ok (.iload_n 3, 1) := by decide +kernel
theorem dL_law_544 : decode cL_law 544 = .ok (.iconst 1, 1) := by decide +kernel
theorem dL_law_545 : decode cL_law 545 = .ok (.iadd, 1) := by decide +kernel
theorem dL_law_546 : decode cL_law 546 = .ok (.iaload, 1) := by decide +kernel
theorem dL_law_547 : decode cL_law 547 = .ok (.aload_n 0, 1) := by decide +kernel
theorem dL_law_548 : decode cL_law 548 = .ok (.iload_n 3, 1) := by decide +kernel
theorem dL_law_549 : decode cL_law 549 = .ok (.iconst 2, 1) := by decide +kernel
theorem dL_law_550 : decode cL_law 550 = .ok (.iadd, 1) := by decide +kernel
theorem dL_law_551 : decode cL_law 551 = .ok (.iaload, 1) := by decide +kernel
theorem dL_law_552 : decode cL_law 552 = .ok (.aload_n 0, 1) := by decide +kernel
theorem dL_law_553 : decode cL_law 553 = .ok (.iload_n 3, 1) := by decide +kernel
theorem dL_law_554 : decode cL_law 554 = .ok (.iconst 3, 1) := by decide +kernel
theorem dL_law_555 : decode cL_law 555 = .ok (.iadd, 1) := by decide +kernel
theorem dL_law_556 : decode cL_law 556 = .ok (.iaload, 1) := by decide +kernel
theorem dL_law_557 : decode cL_law 557 = .ok (.aload_n 0, 1) := by decide +kernel
theorem dL_law_558 : decode cL_law 558 = .ok (.iload_n 3, 1) := by decide +kernel
theorem dL_law_559 : decode cL_law 559 = .ok (.iconst 4, 1) := by decide +kernel
theorem dL_law_560 : decode cL_law 560 = .ok (.iadd, 1) := by decide +kernel
theorem dL_law_561 : decode cL_law 561 = .ok (.iaload, 1) := by decide +kernel
theorem dL_law_562 : decode cL_law 562 = .ok (.invokevirtual 58, 3) := by decide +kernel
theorem dL_law_565 : decode cL_law 565 = .ok (.aload_n 2, 1) := by decide +kernel
theorem dL_law_566 : decode cL_law 566 = .ok (.aload_n 0, 1) := by decide +kernel
theorem dL_law_567 : decode cL_law 567 = .ok (.iload_n 3, 1) := by decide +kernel
theorem dL_law_568 : decode cL_law 568 = .ok (.iconst 1, 1) := by decide +kernel
theorem dL_law_569 : decode cL_law 569 = .ok (.iadd, 1) := by decide +kernel
theorem dL_law_570 : decode cL_law 570 = .ok (.iaload, 1) := by decide +kernel
theorem dL_law_571 : decode cL_law 571 = .ok (.aload_n 0, 1) := by decide +kernel
theorem dL_law_572 : decode cL_law 572 = .ok (.iload_n 3, 1) := by decide +kernel
theorem dL_law_573 : decode cL_law 573 = .ok (.iconst 2, 1) := by decide +kernel
theorem dL_law_574 : decode cL_law 574 = .ok (.iadd, 1) := by decide +kernel
theorem dL_law_575 : decode cL_law 575 = .ok (.iaload, 1) := by decide +kernel
theorem dL_law_576 : decode cL_law 576 = .ok (.aload_n 0, 1) := by decide +kernel
theorem dL_law_577 : decode cL_law 577 = .ok (.iload_n 3, 1) := by decide +kernel
theorem dL_law_578 : decode cL_law 578 = .ok (.iconst 3, 1) := by decide +kernel
theorem dL_law_579 : decode cL_law 579 = .ok (.iadd, 1) := by decide +kernel
theorem dL_law_580 : decode cL_law 580 = .ok (.iaload, 1) := by decide +kernel
theorem dL_law_581 : decode cL_law 581 = .ok (.aload_n 0, 1) := by decide +kernel
theorem dL_law_582 : decode cL_law 582 = .ok (.iload_n 3, 1) := by decide +kernel
theorem dL_law_583 : decode cL_law 583 = .ok (.iconst 4, 1) := by decide +kernel
theorem dL_law_584 : decode cL_law 584 = .ok (.iadd, 1) := by decide +kernel
theorem dL_law_585 : decode cL_law 585 = .ok (.iaload, 1) := by decide +kernel
theorem dL_law_586 : decode cL_law 586 = .ok (.invokevirtual 61, 3) := by decide +kernel
theorem dL_law_589 : decode cL_law 589 = .ok (.if_icmp .eq 718, 3) := by decide +kernel
theorem dL_law_592 : decode cL_law 592 = .ok (.iconst 0, 1) := by decide +kernel
theorem dL_law_593 : decode cL_law 593 = .ok (.ireturn, 1) := by decide +kernel
theorem dL_law_594 : decode cL_law 594 = .ok (.aload_n 1, 1) := by decide +kernel
theorem dL_law_595 : decode cL_law 595 = .ok (.aload_n 0, 1) := by decide +kernel
theorem dL_law_596 : decode cL_law 596 = .ok (.iload_n 3, 1) := by decide +kernel
theorem dL_law_597 : decode cL_law 597 = .ok (.iconst 1, 1) := by decide +kernel
theorem dL_law_598 : decode cL_law 598 = .ok (.iadd, 1) := by decide +kernel
theorem dL_law_599 : decode cL_law 599 = .ok (.iaload, 1) := by decide +kernel
theorem dL_law_600 : decode cL_law 600 = .ok (.aload_n 0, 1) := by decide +kernel
theorem dL_law_601 : decode cL_law 601 = .ok (.iload_n 3, 1) := by decide +kernel
theorem dL_law_602 : decode cL_law 602 = .ok (.iconst 2, 1) := by decide +kernel
theorem dL_law_603 : decode cL_law 603 = .ok (.iadd, 1) := by decide +kernel
theorem dL_law_604 : decode cL_law 604 = .ok (.iaload, 1) := by decide +kernel
theorem dL_law_605 : decode cL_law 605 = .ok (.aload_n 0, 1) := by decide +kernel
theorem dL_law_606 : decode cL_law 606 = .ok (.iload_n 3, 1) := by decide +kernel
theorem dL_law_607 : decode cL_law 607 = .ok (.iconst 3, 1) := by decide +kernel
theorem dL_law_608 : decode cL_law 608 = .ok (.iadd, 1) := by decide +kernel
theorem dL_law_609 : decode cL_law 609 = .ok (.iaload, 1) := by decide +kernel
theorem dL_law_610 : decode cL_law 610 = .ok (.invokevirtual 62, 3) := by decide +kernel
theorem dL_law_613 : decode cL_law 613 = .ok (.aload_n 2, 1) := by decide +kernel
theorem dL_law_614 : decode cL_law 614 = .ok (.aload_n 0, 1) := by decide +kernel
theorem dL_law_615 : decode cL_law 615 = .ok (.iload_n 3, 1) := by decide +kernel
theorem dL_law_616 : decode cL_law 616 = .ok (.iconst 1, 1) := by decide +kernel
theorem dL_law_617 : decode cL_law 617 = .ok (.iadd, 1) := by decide +kernel
theorem dL_law_618 : decode cL_law 618 = .ok (.iaload, 1) := by decide +kernel
theorem dL_law_619 : decode cL_law 619 = .ok (.aload_n 0, 1) := by decide +kernel
theorem dL_law_620 : decode cL_law 620 = .ok (.iload_n 3, 1) := by decide +kernel
theorem dL_law_621 : decode cL_law 621 = .ok (.iconst 2, 1) := by decide +kernel
theorem dL_law_622 : decode cL_law 622 = .ok (.iadd, 1) := by decide +kernel
theorem dL_law_623 : decode cL_law 623 = .ok (.iaload, 1) := by decide +kernel
theorem dL_law_624 : decode cL_law 624 = .ok (.aload_n 0, 1) := by decide +kernel
theorem dL_law_625 : decode cL_law 625 = .ok (.iload_n 3, 1) := by decide +kernel
theorem dL_law_626 : decode cL_law 626 = .ok (.iconst 3, 1) := by decide +kernel
theorem dL_law_627 : decode cL_law 627 = .ok (.iadd, 1) := by decide +kernel
theorem dL_law_628 : decode cL_law 628 = .ok (.iaload, 1) := by decide +kernel
theorem dL_law_629 : decode cL_law 629 = .ok (.invokevirtual 65, 3) := by decide +kernel
theorem dL_law_632 : decode cL_law 632 = .ok (.if_icmp .eq 675, 3) := by decide +kernel
theorem dL_law_635 : decode cL_law 635 = .ok (.iconst 0, 1) := by decide +kernel
theorem dL_law_636 : decode cL_law 636 = .ok (.ireturn, 1) := by decide +kernel
theorem dL_law_637 : decode cL_law 637 = .ok (.aload_n 1, 1) := by decide +kernel
theorem dL_law_638 : decode cL_law 638 = .ok (.aload_n 0, 1) := by decide +kernel
theorem dL_law_639 : decode cL_law 639 = .ok (.iload_n 3, 1) := by decide +kernel
theorem dL_law_640 : decode cL_law 640 = .ok (.iconst 1, 1) := by decide +kernel
theorem dL_law_641 : decode cL_law 641 = .ok (.iadd, 1) := by decide +kernel
theorem dL_law_642 : decode cL_law 642 = .ok (.iaload, 1) := by decide +kernel
theorem dL_law_643 : decode cL_law 643 = .ok (.aload_n 0, 1) := by decide +kernel
theorem dL_law_644 : decode cL_law 644 = .ok (.iload_n 3, 1) := by decide +kernel
theorem dL_law_645 : decode cL_law 645 = .ok (.iconst 2, 1) := by decide +kernel
theorem dL_law_646 : decode cL_law 646 = .ok (.iadd, 1) := by decide +kernel
theorem dL_law_647 : decode cL_law 647 = .ok (.iaload, 1) := by decide +kernel
theorem dL_law_648 : decode cL_law 648 = .ok (.aload_n 0, 1) := by decide +kernel
theorem dL_law_649 : decode cL_law 649 = .ok (.iload_n 3, 1) := by decide +kernel
theorem dL_law_650 : decode cL_law 650 = .ok (.iconst 3, 1) := by decide +kernel
theorem dL_law_651 : decode cL_law 651 = .ok (.iadd, 1) := by decide +kernel
theorem dL_law_652 : decode cL_law 652 = .ok (.iaload, 1) := by decide +kernel
theorem dL_law_653 : decode cL_law 653 = .ok (.invokevirtual 66, 3) := by decide +kernel
theorem dL_law_656 : decode cL_law 656 = .ok (.aload_n 2, 1) := by decide +kernel
theorem dL_law_657 : decode cL_law 657 = .ok (.aload_n 0, 1) := by decide +kernel
theorem dL_law_658 : decode cL_law 658 = .ok (.iload_n 3, 1) := by decide +kernel
theorem dL_law_659 : decode cL_law 659 = .ok (.iconst 1, 1) := by decide +kernel
theorem dL_law_660 : decode cL_law 660 = .ok (.iadd, 1) := by decide +kernel
theorem dL_law_661 : decode cL_law 661 = .ok (.iaload, 1) := by decide +kernel
theorem dL_law_662 : decode cL_law 662 = .ok (.aload_n 0, 1) := by decide +kernel
theorem dL_law_663 : decode cL_law 663 = .ok (.iload_n 3, 1) := by decide +kernel
theorem dL_law_664 : decode cL_law 664 = .ok (.iconst 2, 1) := by decide +kernel
theorem dL_law_665 : decode cL_law 665 = .ok (.iadd, 1) := by decide +kernel
theorem dL_law_666 : decode cL_law 666 = .ok (.iaload, 1) := by decide +kernel
theorem dL_law_667 : decode cL_law 667 = .ok (.aload_n 0, 1) := by decide +kernel
theorem dL_law_668 : decode cL_law 668 = .ok (.iload_n 3, 1) := by decide +kernel
theorem dL_law_669 : decode cL_law 669 = .ok (.iconst 3, 1) := by decide +kernel
theorem dL_law_670 : decode cL_law 670 = .ok (.iadd, 1) := by decide +kernel
theorem dL_law_671 : decode cL_law 671 = .ok (.iaload, 1) := by decide +kernel
theorem dL_law_672 : decode cL_law 672 = .ok (.invokevirtual 69, 3) := by decide +kernel
theorem dL_law_675 : decode cL_law 675 = .ok (.if_icmp .eq 632, 3) := by decide +kernel
theorem dL_law_678 : decode cL_law 678 = .ok (.iconst 0, 1) := by decide +kernel
theorem dL_law_679 : decode cL_law 679 = .ok (.ireturn, 1) := by decide +kernel
theorem dL_law_680 : decode cL_law 680 = .ok (.aload_n 1, 1) := by decide +kernel
theorem dL_law_681 : decode cL_law 681 = .ok (.aload_n 0, 1) := by decide +kernel
theorem dL_law_682 : decode cL_law 682 = .ok (.iload_n 3, 1) := by decide +kernel
theorem dL_law_683 : decode cL_law 683 = .ok (.iconst 1, 1) := by decide +kernel
theorem dL_law_684 : decode cL_law 684 = .ok (.iadd, 1) := by decide +kernel
theorem dL_law_685 : decode cL_law 685 = .ok (.iaload, 1) := by decide +kernel
theorem dL_law_686 : decode cL_law 686 = .ok (.invokevirtual 70, 3) := by decide +kernel
theorem dL_law_689 : decode cL_law 689 = .ok (.aload_n 2, 1) := by decide +kernel
theorem dL_law_690 : decode cL_law 690 = .ok (.aload_n 0, 1) := by decide +kernel
theorem dL_law_691 : decode cL_law 691 = .ok (.iload_n 3, 1) := by decide +kernel
theorem dL_law_692 : decode cL_law 692 = .ok (.iconst 1, 1) := by decide +kernel
theorem dL_law_693 : decode cL_law 693 = .ok (.iadd, 1) := by decide +kernel
theorem dL_law_694 : decode cL_law 694 = .ok (.iaload, 1) := by decide +kernel
theorem dL_law_695 : decode cL_law 695 = .ok (.invokevirtual 73, 3) := by decide +kernel
theorem dL_law_698 : decode cL_law 698 = .ok (.if_icmp .eq 609, 3) := by decide +kernel
theorem dL_law_701 : decode cL_law 701 = .ok (.iconst 0, 1) := by decide +kernel
theorem dL_law_702 : decode cL_law 702 = .ok (.ireturn, 1) := by decide +kernel
theorem dL_law_703 : decode cL_law 703 = .ok (.aload_n 1, 1) := by decide +kernel
theorem dL_law_704 : decode cL_law 704 = .ok (.aload_n 0, 1) := by decide +kernel
theorem dL_law_705 : decode cL_law 705 = .ok (.iload_n 3, 1) := by decide +kernel
theorem dL_law_706 : decode cL_law 706 = .ok (.iconst 1, 1) := by decide +kernel
theorem dL_law_707 : decode cL_law 707 = .ok (.iadd, 1) := by decide +kernel
theorem dL_law_708 : decode cL_law 708 = .ok (.iaload, 1) := by decide +kernel
theorem dL_law_709 : decode cL_law 709 = .ok (.aload_n 0, 1) := by decide +kernel
theorem dL_law_710 : decode cL_law 710 = .ok (.iload_n 3, 1) := by decide +kernel
theorem dL_law_711 : decode cL_law 711 = .ok (.iconst 2, 1) := by decide +kernel
theorem dL_law_712 : decode cL_law 712 = .ok (.iadd, 1) := by decide +kernel
theorem dL_law_713 : decode cL_law 713 = .ok (.iaload, 1) := by decide +kernel
theorem dL_law_714 : decode cL_law 714 = .ok (.aload_n 0, 1) := by decide +kernel
theorem dL_law_715 : decode cL_law 715 = .ok (.iload_n 3, 1) := by decide +kernel
theorem dL_law_716 : decode cL_law 716 = .ok (.iconst 3, 1) := by decide +kernel
theorem dL_law_717 : decode cL_law 717 = .ok (.iadd, 1) := by decide +kernel
theorem dL_law_718 : decode cL_law 718 = .ok (.iaload, 1) := by decide +kernel
theorem dL_law_719 : decode cL_law 719 = .ok (.invokevirtual 74, 3) := by decide +kernel
theorem dL_law_722 : decode cL_law 722 = .ok (.aload_n 2, 1) := by decide +kernel
theorem dL_law_723 : decode cL_law 723 = .ok (.aload_n 0, 1) := by decide +kernel
theorem dL_law_724 : decode cL_law 724 = .ok (.iload_n 3, 1) := by decide +kernel
theorem dL_law_725 : decode cL_law 725 = .ok (.iconst 1, 1) := by decide +kernel
theorem dL_law_726 : decode cL_law 726 = .ok (.iadd, 1) := by decide +kernel
theorem dL_law_727 : decode cL_law 727 = .ok (.iaload, 1) := by decide +kernel
theorem dL_law_728 : decode cL_law 728 = .ok (.aload_n 0, 1) := by decide +kernel
theorem dL_law_729 : decode cL_law 729 = .ok (.iload_n 3, 1) := by decide +kernel
theorem dL_law_730 : decode cL_law 730 = .ok (.iconst 2, 1) := by decide +kernel
theorem dL_law_731 : decode cL_law 731 = .ok (.iadd, 1) := by decide +kernel
theorem dL_law_732 : decode cL_law 732 = .ok (.iaload, 1) := by decide +kernel
theorem dL_law_733 : decode cL_law 733 = .ok (.aload_n 0, 1) := by decide +kernel
theorem dL_law_734 : decode cL_law 734 = .ok (.iload_n 3, 1) := by decide +kernel
theorem dL_law_735 : decode cL_law 735 = .ok (.iconst 3, 1) := by decide +kernel
theorem dL_law_736 : decode cL_law 736 = .ok (.iadd, 1) := by decide +kernel
theorem dL_law_737 : decode cL_law 737 = .ok (.iaload, 1) := by decide +kernel
theorem dL_law_738 : decode cL_law 738 = .ok (.invokevirtual 77, 3) := by decide +kernel
theorem dL_law_741 : decode cL_law 741 = .ok (.lcmp, 1) := by decide +kernel
theorem dL_law_742 : decode cL_law 742 = .ok (.ifCond .eq 565, 3) := by decide +kernel
theorem dL_law_745 : decode cL_law 745 = .ok (.iconst 0, 1) := by decide +kernel
theorem dL_law_746 : decode cL_law 746 = .ok (.ireturn, 1) := by decide +kernel
theorem dL_law_747 : decode cL_law 747 = .ok (.aload_n 1, 1) := by decide +kernel
theorem dL_law_748 : decode cL_law 748 = .ok (.aload_n 0, 1) := by decide +kernel
theorem dL_law_749 : decode cL_law 749 = .ok (.iload_n 3, 1) := by decide +kernel
theorem dL_law_750 : decode cL_law 750 = .ok (.iconst 1, 1) := by decide +kernel
theorem dL_law_751 : decode cL_law 751 = .ok (.iadd, 1) := by decide +kernel
theorem dL_law_752 : decode cL_law 752 = .ok (.iaload, 1) := by decide +kernel
theorem dL_law_753 : decode cL_law 753 = .ok (.aload_n 0, 1) := by decide +kernel
theorem dL_law_754 : decode cL_law 754 = .ok (.iload_n 3, 1) := by decide +kernel
theorem dL_law_755 : decode cL_law 755 = .ok (.iconst 2, 1) := by decide +kernel
theorem dL_law_756 : decode cL_law 756 = .ok (.iadd, 1) := by decide +kernel
theorem dL_law_757 : decode cL_law 757 = .ok (.iaload, 1) := by decide +kernel
theorem dL_law_758 : decode cL_law 758 = .ok (.aload_n 0, 1) := by decide +kernel
theorem dL_law_759 : decode cL_law 759 = .ok (.iload_n 3, 1) := by decide +kernel
theorem dL_law_760 : decode cL_law 760 = .ok (.iconst 3, 1) := by decide +kernel
theorem dL_law_761 : decode cL_law 761 = .ok (.iadd, 1) := by decide +kernel
theorem dL_law_762 : decode cL_law 762 = .ok (.iaload, 1) := by decide +kernel
theorem dL_law_763 : decode cL_law 763 = .ok (.aload_n 0, 1) := by decide +kernel
theorem dL_law_764 : decode cL_law 764 = .ok (.iload_n 3, 1) := by decide +kernel
theorem dL_law_765 : decode cL_law 765 = .ok (.iconst 4, 1) := by decide +kernel
theorem dL_law_766 : decode cL_law 766 = .ok (.iadd, 1) := by decide +kernel
theorem dL_law_767 : decode cL_law 767 = .ok (.iaload, 1) := by decide +kernel
theorem dL_law_768 : decode cL_law 768 = .ok (.invokevirtual 78, 3) := by decide +kernel
theorem dL_law_771 : decode cL_law 771 = .ok (.aload_n 2, 1) := by decide +kernel
theorem dL_law_772 : decode cL_law 772 = .ok (.aload_n 0, 1) := by decide +kernel
theorem dL_law_773 : decode cL_law 773 = .ok (.iload_n 3, 1) := by decide +kernel
theorem dL_law_774 : decode cL_law 774 = .ok (.iconst 1, 1) := by decide +kernel
theorem dL_law_775 : decode cL_law 775 = .ok (.iadd, 1) := by decide +kernel
theorem dL_law_776 : decode cL_law 776 = .ok (.iaload, 1) := by decide +kernel
theorem dL_law_777 : decode cL_law 777 = .ok (.aload_n 0, 1) := by decide +kernel
theorem dL_law_778 : decode cL_law 778 = .ok (.iload_n 3, 1) := by decide +kernel
theorem dL_law_779 : decode cL_law 779 = .ok (.iconst 2, 1) := by decide +kernel
theorem dL_law_780 : decode cL_law 780 = .ok (.iadd, 1) := by decide +kernel
theorem dL_law_781 : decode cL_law 781 = .ok (.iaload, 1) := by decide +kernel
theorem dL_law_782 : decode cL_law 782 = .ok (.aload_n 0, 1) := by decide +kernel
theorem dL_law_783 : decode cL_law 783 = .ok (.iload_n 3, 1) := by decide +kernel
theorem dL_law_784 : decode cL_law 784 = .ok (.iconst 3, 1) := by decide +kernel
theorem dL_law_785 : decode cL_law 785 = .ok (.iadd, 1) := by decide +kernel
theorem dL_law_786 : decode cL_law 786 = .ok (.iaload, 1) := by decide +kernel
theorem dL_law_787 : decode cL_law 787 = .ok (.aload_n 0, 1) := by decide +kernel
theorem dL_law_788 : decode cL_law 788 = .ok (.iload_n 3, 1) := by decide +kernel
theorem dL_law_789 : decode cL_law 789 = .ok (.iconst 4, 1) := by decide +kernel
theorem dL_law_790 : decode cL_law 790 = .ok (.iadd, 1) := by decide +kernel
theorem dL_law_791 : decode cL_law 791 = .ok (.iaload, 1) := by decide +kernel
theorem dL_law_792 : decode cL_law 792 = .ok (.invokevirtual 81, 3) := by decide +kernel
theorem dL_law_795 : decode cL_law 795 = .ok (.if_icmp .eq 512, 3) := by decide +kernel
theorem dL_law_798 : decode cL_law 798 = .ok (.iconst 0, 1) := by decide +kernel
theorem dL_law_799 : decode cL_law 799 = .ok (.ireturn, 1) := by decide +kernel
theorem dL_law_800 : decode cL_law 800 = .ok (.aload_n 1, 1) := by decide +kernel
theorem dL_law_801 : decode cL_law 801 = .ok (.aload_n 0, 1) := by decide +kernel
theorem dL_law_802 : decode cL_law 802 = .ok (.iload_n 3, 1) := by decide +kernel
theorem dL_law_803 : decode cL_law 803 = .ok (.iconst 1, 1) := by decide +kernel
theorem dL_law_804 : decode cL_law 804 = .ok (.iadd, 1) := by decide +kernel
theorem dL_law_805 : decode cL_law 805 = .ok (.iaload, 1) := by decide +kernel
theorem dL_law_806 : decode cL_law 806 = .ok (.aload_n 0, 1) := by decide +kernel
theorem dL_law_807 : decode cL_law 807 = .ok (.iload_n 3, 1) := by decide +kernel
theorem dL_law_808 : decode cL_law 808 = .ok (.iconst 2, 1) := by decide +kernel
theorem dL_law_809 : decode cL_law 809 = .ok (.iadd, 1) := by decide +kernel
theorem dL_law_810 : decode cL_law 810 = .ok (.iaload, 1) := by decide +kernel
theorem dL_law_811 : decode cL_law 811 = .ok (.invokevirtual 82, 3) := by decide +kernel
theorem dL_law_814 : decode cL_law 814 = .ok (.aload_n 2, 1) := by decide +kernel
theorem dL_law_815 : decode cL_law 815 = .ok (.aload_n 0, 1) := by decide +kernel
theorem dL_law_816 : decode cL_law 816 = .ok (.iload_n 3, 1) := by decide +kernel
theorem dL_law_817 : decode cL_law 817 = .ok (.iconst 1, 1) := by decide +kernel
theorem dL_law_818 : decode cL_law 818 = .ok (.iadd, 1) := by decide +kernel
theorem dL_law_819 : decode cL_law 819 = .ok (.iaload, 1) := by decide +kernel
theorem dL_law_820 : decode cL_law 820 = .ok (.aload_n 0, 1) := by decide +kernel
theorem dL_law_821 : decode cL_law 821 = .ok (.iload_n 3, 1) := by decide +kernel
theorem dL_law_822 : decode cL_law 822 = .ok (.iconst 2, 1) := by decide +kernel
theorem dL_law_823 : decode cL_law 823 = .ok (.iadd, 1) := by decide +kernel
theorem dL_law_824 : decode cL_law 824 = .ok (.iaload, 1) := by decide +kernel
theorem dL_law_825 : decode cL_law 825 = .ok (.invokevirtual 85, 3) := by decide +kernel
theorem dL_law_828 : decode cL_law 828 = .ok (.if_icmp .eq 479, 3) := by decide +kernel
theorem dL_law_831 : decode cL_law 831 = .ok (.iconst 0, 1) := by decide +kernel
theorem dL_law_832 : decode cL_law 832 = .ok (.ireturn, 1) := by decide +kernel
theorem dL_law_833 : decode cL_law 833 = .ok (.aload_n 1, 1) := by decide +kernel
theorem dL_law_834 : decode cL_law 834 = .ok (.aload_n 0, 1) := by decide +kernel
theorem dL_law_835 : decode cL_law 835 = .ok (.iload_n 3, 1) := by decide +kernel
theorem dL_law_836 : decode cL_law 836 = .ok (.iconst 1, 1) := by decide +kernel
theorem dL_law_837 : decode cL_law 837 = .ok (.iadd, 1) := by decide +kernel
theorem dL_law_838 : decode cL_law 838 = .ok (.iaload, 1) := by decide +kernel
theorem dL_law_839 : decode cL_law 839 = .ok (.aload_n 0, 1) := by decide +kernel
theorem dL_law_840 : decode cL_law 840 = .ok (.iload_n 3, 1) := by decide +kernel
theorem dL_law_841 : decode cL_law 841 = .ok (.iconst 2, 1) := by decide +kernel
theorem dL_law_842 : decode cL_law 842 = .ok (.iadd, 1) := by decide +kernel
theorem dL_law_843 : decode cL_law 843 = .ok (.iaload, 1) := by decide +kernel
theorem dL_law_844 : decode cL_law 844 = .ok (.aload_n 0, 1) := by decide +kernel
theorem dL_law_845 : decode cL_law 845 = .ok (.iload_n 3, 1) := by decide +kernel
theorem dL_law_846 : decode cL_law 846 = .ok (.iconst 3, 1) := by decide +kernel
theorem dL_law_847 : decode cL_law 847 = .ok (.iadd, 1) := by decide +kernel
theorem dL_law_848 : decode cL_law 848 = .ok (.iaload, 1) := by decide +kernel
theorem dL_law_849 : decode cL_law 849 = .ok (.invokevirtual 86, 3) := by decide +kernel
theorem dL_law_852 : decode cL_law 852 = .ok (.aload_n 2, 1) := by decide +kernel
theorem dL_law_853 : decode cL_law 853 = .ok (.aload_n 0, 1) := by decide +kernel
theorem dL_law_854 : decode cL_law 854 = .ok (.iload_n 3, 1) := by decide +kernel
theorem dL_law_855 : decode cL_law 855 = .ok (.iconst 1, 1) := by decide +kernel
theorem dL_law_856 : decode cL_law 856 = .ok (.iadd, 1) := by decide +kernel
theorem dL_law_857 : decode cL_law 857 = .ok (.iaload, 1) := by decide +kernel
theorem dL_law_858 : decode cL_law 858 = .ok (.aload_n 0, 1) := by decide +kernel
theorem dL_law_859 : decode cL_law 859 = .ok (.iload_n 3, 1) := by decide +kernel
theorem dL_law_860 : decode cL_law 860 = .ok (.iconst 2, 1) := by decide +kernel
theorem dL_law_861 : decode cL_law 861 = .ok (.iadd, 1) := by decide +kernel
theorem dL_law_862 : decode cL_law 862 = .ok (.iaload, 1) := by decide +kernel
theorem dL_law_863 : decode cL_law 863 = .ok (.aload_n 0, 1) := by decide +kernel
theorem dL_law_864 : decode cL_law 864 = .ok (.iload_n 3, 1) := by decide +kernel
theorem dL_law_865 : decode cL_law 865 = .ok (.iconst 3, 1) := by decide +kernel
theorem dL_law_866 : decode cL_law 866 = .ok (.iadd, 1) := by decide +kernel
theorem dL_law_867 : decode cL_law 867 = .ok (.iaload, 1) := by decide +kernel
theorem dL_law_868 : decode cL_law 868 = .ok (.invokevirtual 89, 3) := by decide +kernel
theorem dL_law_871 : decode cL_law 871 = .ok (.if_icmp .eq 436, 3) := by decide +kernel
theorem dL_law_874 : decode cL_law 874 = .ok (.iconst 0, 1) := by decide +kernel
theorem dL_law_875 : decode cL_law 875 = .ok (.ireturn, 1) := by decide +kernel
theorem dL_law_876 : decode cL_law 876 = .ok (.aload_n 1, 1) := by decide +kernel
theorem dL_law_877 : decode cL_law 877 = .ok (.aload_n 0, 1) := by decide +kernel
theorem dL_law_878 : decode cL_law 878 = .ok (.iload_n 3, 1) := by decide +kernel
theorem dL_law_879 : decode cL_law 879 = .ok (.iconst 1, 1) := by decide +kernel
theorem dL_law_880 : decode cL_law 880 = .ok (.iadd, 1) := by decide +kernel
theorem dL_law_881 : decode cL_law 881 = .ok (.iaload, 1) := by decide +kernel
theorem dL_law_882 : decode cL_law 882 = .ok (.aload_n 0, 1) := by decide +kernel
theorem dL_law_883 : decode cL_law 883 = .ok (.iload_n 3, 1) := by decide +kernel
theorem dL_law_884 : decode cL_law 884 = .ok (.iconst 2, 1) := by decide +kernel
theorem dL_law_885 : decode cL_law 885 = .ok (.iadd, 1) := by decide +kernel
theorem dL_law_886 : decode cL_law 886 = .ok (.iaload, 1) := by decide +kernel
theorem dL_law_887 : decode cL_law 887 = .ok (.invokevirtual 90, 3) := by decide +kernel
theorem dL_law_890 : decode cL_law 890 = .ok (.aload_n 2, 1) := by decide +kernel
theorem dL_law_891 : decode cL_law 891 = .ok (.aload_n 0, 1) := by decide +kernel
theorem dL_law_892 : decode cL_law 892 = .ok (.iload_n 3, 1) := by decide +kernel
theorem dL_law_893 : decode cL_law 893 = .ok (.iconst 1, 1) := by decide +kernel
theorem dL_law_894 : decode cL_law 894 = .ok (.iadd, 1) := by decide +kernel
theorem dL_law_895 : decode cL_law 895 = .ok (.iaload, 1) := by decide +kernel
theorem dL_law_896 : decode cL_law 896 = .ok (.aload_n 0, 1) := by decide +kernel
theorem dL_law_897 : decode cL_law 897 = .ok (.iload_n 3, 1) := by decide +kernel
theorem dL_law_898 : decode cL_law 898 = .ok (.iconst 2, 1) := by decide +kernel
theorem dL_law_899 : decode cL_law 899 = .ok (.iadd, 1) := by decide +kernel
theorem dL_law_900 : decode cL_law 900 = .ok (.iaload, 1) := by decide +kernel
theorem dL_law_901 : decode cL_law 901 = .ok (.invokevirtual 93, 3) := by decide +kernel
theorem dL_law_904 : decode cL_law 904 = .ok (.if_icmp .eq 403, 3) := by decide +kernel
theorem dL_law_907 : decode cL_law 907 = .ok (.iconst 0, 1) := by decide +kernel
theorem dL_law_908 : decode cL_law 908 = .ok (.ireturn, 1) := by decide +kernel
theorem dL_law_909 : decode cL_law 909 = .ok (.aload_n 1, 1) := by decide +kernel
theorem dL_law_910 : decode cL_law 910 = .ok (.aload_n 0, 1) := by decide +kernel
theorem dL_law_911 : decode cL_law 911 = .ok (.iload_n 3, 1) := by decide +kernel
theorem dL_law_912 : decode cL_law 912 = .ok (.iconst 1, 1) := by decide +kernel
theorem dL_law_913 : decode cL_law 913 = .ok (.iadd, 1) := by decide +kernel
theorem dL_law_914 : decode cL_law 914 = .ok (.iaload, 1) := by decide +kernel
theorem dL_law_915 : decode cL_law 915 = .ok (.aload_n 0, 1) := by decide +kernel
theorem dL_law_916 : decode cL_law 916 = .ok (.iload_n 3, 1) := by decide +kernel
theorem dL_law_917 : decode cL_law 917 = .ok (.iconst 2, 1) := by decide +kernel
theorem dL_law_918 : decode cL_law 918 = .ok (.iadd, 1) := by decide +kernel
theorem dL_law_919 : decode cL_law 919 = .ok (.iaload, 1) := by decide +kernel
theorem dL_law_920 : decode cL_law 920 = .ok (.aload_n 0, 1) := by decide +kernel
theorem dL_law_921 : decode cL_law 921 = .ok (.iload_n 3, 1) := by decide +kernel
theorem dL_law_922 : decode cL_law 922 = .ok (.iconst 3, 1) := by decide +kernel
theorem dL_law_923 : decode cL_law 923 = .ok (.iadd, 1) := by decide +kernel
theorem dL_law_924 : decode cL_law 924 = .ok (.iaload, 1) := by decide +kernel
theorem dL_law_925 : decode cL_law 925 = .ok (.aload_n 0, 1) := by decide +kernel
theorem dL_law_926 : decode cL_law 926 = .ok (.iload_n 3, 1) := by decide +kernel
theorem dL_law_927 : decode cL_law 927 = .ok (.iconst 4, 1) := by decide +kernel
theorem dL_law_928 : decode cL_law 928 = .ok (.iadd, 1) := by decide +kernel
theorem dL_law_929 : decode cL_law 929 = .ok (.iaload, 1) := by decide +kernel
theorem dL_law_930 : decode cL_law 930 = .ok (.aload_n 0, 1) := by decide +kernel
theorem dL_law_931 : decode cL_law 931 = .ok (.iload_n 3, 1) := by decide +kernel
theorem dL_law_932 : decode cL_law 932 = .ok (.iconst 5, 1) := by decide +kernel
theorem dL_law_933 : decode cL_law 933 = .ok (.iadd, 1) := by decide +kernel
theorem dL_law_934 : decode cL_law 934 = .ok (.iaload, 1) := by decide +kernel
theorem dL_law_935 : decode cL_law 935 = .ok (.invokevirtual 94, 3) := by decide +kernel
theorem dL_law_938 : decode cL_law 938 = .ok (.aload_n 2, 1) := by decide +kernel
theorem dL_law_939 : decode cL_law 939 = .ok (.aload_n 0, 1) := by decide +kernel
theorem dL_law_940 : decode cL_law 940 = .ok (.iload_n 3, 1) := by decide +kernel
theorem dL_law_941 : decode cL_law 941 = .ok (.iconst 1, 1) := by decide +kernel
theorem dL_law_942 : decode cL_law 942 = .ok (.iadd, 1) := by decide +kernel
theorem dL_law_943 : decode cL_law 943 = .ok (.iaload, 1) := by decide +kernel
theorem dL_law_944 : decode cL_law 944 = .ok (.aload_n 0, 1) := by decide +kernel
theorem dL_law_945 : decode cL_law 945 = .ok (.iload_n 3, 1) := by decide +kernel
theorem dL_law_946 : decode cL_law 946 = .ok (.iconst 2, 1) := by decide +kernel
theorem dL_law_947 : decode cL_law 947 = .ok (.iadd, 1) := by decide +kernel
theorem dL_law_948 : decode cL_law 948 = .ok (.iaload, 1) := by decide +kernel
theorem dL_law_949 : decode cL_law 949 = .ok (.aload_n 0, 1) := by decide +kernel
theorem dL_law_950 : decode cL_law 950 = .ok (.iload_n 3, 1) := by decide +kernel
theorem dL_law_951 : decode cL_law 951 = .ok (.iconst 3, 1) := by decide +kernel
theorem dL_law_952 : decode cL_law 952 = .ok (.iadd, 1) := by decide +kernel
theorem dL_law_953 : decode cL_law 953 = .ok (.iaload, 1) := by decide +kernel
theorem dL_law_954 : decode cL_law 954 = .ok (.aload_n 0, 1) := by decide +kernel
theorem dL_law_955 : decode cL_law 955 = .ok (.iload_n 3, 1) := by decide +kernel
theorem dL_law_956 : decode cL_law 956 = .ok (.iconst 4, 1) := by decide +kernel
theorem dL_law_957 : decode cL_law 957 = .ok (.iadd, 1) := by decide +kernel
theorem dL_law_958 : decode cL_law 958 = .ok (.iaload, 1) := by decide +kernel
theorem dL_law_959 : decode cL_law 959 = .ok (.aload_n 0, 1) := by decide +kernel
theorem dL_law_960 : decode cL_law 960 = .ok (.iload_n 3, 1) := by decide +kernel
theorem dL_law_961 : decode cL_law 961 = .ok (.iconst 5, 1) := by decide +kernel
theorem dL_law_962 : decode cL_law 962 = .ok (.iadd, 1) := by decide +kernel
theorem dL_law_963 : decode cL_law 963 = .ok (.iaload, 1) := by decide +kernel
theorem dL_law_964 : decode cL_law 964 = .ok (.invokevirtual 98, 3) := by decide +kernel
theorem dL_law_967 : decode cL_law 967 = .ok (.if_icmp .eq 340, 3) := by decide +kernel
theorem dL_law_970 : decode cL_law 970 = .ok (.iconst 0, 1) := by decide +kernel
theorem dL_law_971 : decode cL_law 971 = .ok (.ireturn, 1) := by decide +kernel
theorem dL_law_972 : decode cL_law 972 = .ok (.aload_n 1, 1) := by decide +kernel
theorem dL_law_973 : decode cL_law 973 = .ok (.aload_n 0, 1) := by decide +kernel
theorem dL_law_974 : decode cL_law 974 = .ok (.iload_n 3, 1) := by decide +kernel
theorem dL_law_975 : decode cL_law 975 = .ok (.iconst 1, 1) := by decide +kernel
theorem dL_law_976 : decode cL_law 976 = .ok (.iadd, 1) := by decide +kernel
theorem dL_law_977 : decode cL_law 977 = .ok (.iaload, 1) := by decide +kernel
theorem dL_law_978 : decode cL_law 978 = .ok (.aload_n 0, 1) := by decide +kernel
theorem dL_law_979 : decode cL_law 979 = .ok (.iload_n 3, 1) := by decide +kernel
theorem dL_law_980 : decode cL_law 980 = .ok (.iconst 2, 1) := by decide +kernel
theorem dL_law_981 : decode cL_law 981 = .ok (.iadd, 1) := by decide +kernel
theorem dL_law_982 : decode cL_law 982 = .ok (.iaload, 1) := by decide +kernel
theorem dL_law_983 : decode cL_law 983 = .ok (.aload_n 0, 1) := by decide +kernel
theorem dL_law_984 : decode cL_law 984 = .ok (.iload_n 3, 1) := by decide +kernel
theorem dL_law_985 : decode cL_law 985 = .ok (.iconst 3, 1) := by decide +kernel
theorem dL_law_986 : decode cL_law 986 = .ok (.iadd, 1) := by decide +kernel
theorem dL_law_987 : decode cL_law 987 = .ok (.iaload, 1) := by decide +kernel
theorem dL_law_988 : decode cL_law 988 = .ok (.invokevirtual 99, 3) := by decide +kernel
theorem dL_law_991 : decode cL_law 991 = .ok (.aload_n 2, 1) := by decide +kernel
theorem dL_law_992 : decode cL_law 992 = .ok (.aload_n 0, 1) := by decide +kernel
theorem dL_law_993 : decode cL_law 993 = .ok (.iload_n 3, 1) := by decide +kernel
theorem dL_law_994 : decode cL_law 994 = .ok (.iconst 1, 1) := by decide +kernel
theorem dL_law_995 : decode cL_law 995 = .ok (.iadd, 1) := by decide +kernel
theorem dL_law_996 : decode cL_law 996 = .ok (.iaload, 1) := by decide +kernel
theorem dL_law_997 : decode cL_law 997 = .ok (.aload_n 0, 1) := by decide +kernel
theorem dL_law_998 : decode cL_law 998 = .ok (.iload_n 3, 1) := by decide +kernel
theorem dL_law_999 : decode cL_law 999 = .ok (.iconst 2, 1) := by decide +kernel
theorem dL_law_1000 : decode cL_law 1000 = .ok (.iadd, 1) := by decide +kernel
theorem dL_law_1001 : decode cL_law 1001 = .ok (.iaload, 1) := by decide +kernel
theorem dL_law_1002 : decode cL_law 1002 = .ok (.aload_n 0, 1) := by decide +kernel
theorem dL_law_1003 : decode cL_law 1003 = .ok (.iload_n 3, 1) := by decide +kernel
theorem dL_law_1004 : decode cL_law 1004 = .ok (.iconst 3, 1) := by decide +kernel
theorem dL_law_1005 : decode cL_law 1005 = .ok (.iadd, 1) := by decide +kernel
theorem dL_law_1006 : decode cL_law 1006 = .ok (.iaload, 1) := by decide +kernel
theorem dL_law_1007 : decode cL_law 1007 = .ok (.invokevirtual 102, 3) := by decide +kernel
theorem dL_law_1010 : decode cL_law 1010 = .ok (.if_icmp .eq 297, 3) := by decide +kernel
theorem dL_law_1013 : decode cL_law 1013 = .ok (.iconst 0, 1) := by decide +kernel
theorem dL_law_1014 : decode cL_law 1014 = .ok (.ireturn, 1) := by decide +kernel
theorem dL_law_1015 : decode cL_law 1015 = .ok (.aload_n 1, 1) := by decide +kernel
theorem dL_law_1016 : decode cL_law 1016 = .ok (.aload_n 0, 1) := by decide +kernel
theorem dL_law_1017 : decode cL_law 1017 = .ok (.iload_n 3, 1) := by decide +kernel
theorem dL_law_1018 : decode cL_law 1018 = .ok (.iconst 1, 1) := by decide +kernel
theorem dL_law_1019 : decode cL_law 1019 = .ok (.iadd, 1) := by decide +kernel
theorem dL_law_1020 : decode cL_law 1020 = .ok (.iaload, 1) := by decide +kernel
theorem dL_law_1021 : decode cL_law 1021 = .ok (.invokevirtual 103, 3) := by decide +kernel
theorem dL_law_1024 : decode cL_law 1024 = .ok (.aload_n 2, 1) := by decide +kernel
theorem dL_law_1025 : decode cL_law 1025 = .ok (.aload_n 0, 1) := by decide +kernel
theorem dL_law_1026 : decode cL_law 1026 = .ok (.iload_n 3, 1) := by decide +kernel
theorem dL_law_1027 : decode cL_law 1027 = .ok (.iconst 1, 1) := by decide +kernel
theorem dL_law_1028 : decode cL_law 1028 = .ok (.iadd, 1) := by decide +kernel
theorem dL_law_1029 : decode cL_law 1029 = .ok (.iaload, 1) := by decide +kernel
theorem dL_law_1030 : decode cL_law 1030 = .ok (.invokevirtual 106, 3) := by decide +kernel
theorem dL_law_1033 : decode cL_law 1033 = .ok (.if_icmp .eq 274, 3) := by decide +kernel
theorem dL_law_1036 : decode cL_law 1036 = .ok (.iconst 0, 1) := by decide +kernel
theorem dL_law_1037 : decode cL_law 1037 = .ok (.ireturn, 1) := by decide +kernel
theorem dL_law_1038 : decode cL_law 1038 = .ok (.aload_n 1, 1) := by decide +kernel
theorem dL_law_1039 : decode cL_law 1039 = .ok (.aload_n 0, 1) := by decide +kernel
theorem dL_law_1040 : decode cL_law 1040 = .ok (.iload_n 3, 1) := by decide +kernel
theorem dL_law_1041 : decode cL_law 1041 = .ok (.iconst 1, 1) := by decide +kernel
theorem dL_law_1042 : decode cL_law 1042 = .ok (.iadd, 1) := by decide +kernel
theorem dL_law_1043 : decode cL_law 1043 = .ok (.iaload, 1) := by decide +kernel
theorem dL_law_1044 : decode cL_law 1044 = .ok (.aload_n 0, 1) := by decide +kernel
theorem dL_law_1045 : decode cL_law 1045 = .ok (.iload_n 3, 1) := by decide +kernel
theorem dL_law_1046 : decode cL_law 1046 = .ok (.iconst 2, 1) := by decide +kernel
theorem dL_law_1047 : decode cL_law 1047 = .ok (.iadd, 1) := by decide +kernel
theorem dL_law_1048 : decode cL_law 1048 = .ok (.iaload, 1) := by decide +kernel
theorem dL_law_1049 : decode cL_law 1049 = .ok (.invokevirtual 107, 3) := by decide +kernel
theorem dL_law_1052 : decode cL_law 1052 = .ok (.aload_n 2, 1) := by decide +kernel
theorem dL_law_1053 : decode cL_law 1053 = .ok (.aload_n 0, 1) := by decide +kernel
theorem dL_law_1054 : decode cL_law 1054 = .ok (.iload_n 3, 1) := by decide +kernel
theorem dL_law_1055 : decode cL_law 1055 = .ok (.iconst 1, 1) := by decide +kernel
theorem dL_law_1056 : decode cL_law 1056 = .ok (.iadd, 1) := by decide +kernel
theorem dL_law_1057 : decode cL_law 1057 = .ok (.iaload, 1) := by decide +kernel
theorem dL_law_1058 : decode cL_law 1058 = .ok (.aload_n 0, 1) := by decide +kernel
theorem dL_law_1059 : decode cL_law 1059 = .ok (.iload_n 3, 1) := by decide +kernel
theorem dL_law_1060 : decode cL_law 1060 = .ok (.iconst 2, 1) := by decide +kernel
theorem dL_law_1061 : decode cL_law 1061 = .ok (.iadd, 1) := by decide +kernel
theorem dL_law_1062 : decode cL_law 1062 = .ok (.iaload, 1) := by decide +kernel
theorem dL_law_1063 : decode cL_law 1063 = .ok (.invokevirtual 110, 3) := by decide +kernel
theorem dL_law_1066 : decode cL_law 1066 = .ok (.if_icmp .eq 241, 3) := by decide +kernel
theorem dL_law_1069 : decode cL_law 1069 = .ok (.iconst 0, 1) := by decide +kernel
theorem dL_law_1070 : decode cL_law 1070 = .ok (.ireturn, 1) := by decide +kernel
theorem dL_law_1071 : decode cL_law 1071 = .ok (.aload_n 1, 1) := by decide +kernel
theorem dL_law_1072 : decode cL_law 1072 = .ok (.aload_n 0, 1) := by decide +kernel
theorem dL_law_1073 : decode cL_law 1073 = .ok (.iload_n 3, 1) := by decide +kernel
theorem dL_law_1074 : decode cL_law 1074 = .ok (.iconst 1, 1) := by decide +kernel
theorem dL_law_1075 : decode cL_law 1075 = .ok (.iadd, 1) := by decide +kernel
theorem dL_law_1076 : decode cL_law 1076 = .ok (.iaload, 1) := by decide +kernel
theorem dL_law_1077 : decode cL_law 1077 = .ok (.invokevirtual 111, 3) := by decide +kernel
theorem dL_law_1080 : decode cL_law 1080 = .ok (.aload_n 2, 1) := by decide +kernel
theorem dL_law_1081 : decode cL_law 1081 = .ok (.aload_n 0, 1) := by decide +kernel
theorem dL_law_1082 : decode cL_law 1082 = .ok (.iload_n 3, 1) := by decide +kernel
theorem dL_law_1083 : decode cL_law 1083 = .ok (.iconst 1, 1) := by decide +kernel
theorem dL_law_1084 : decode cL_law 1084 = .ok (.iadd, 1) := by decide +kernel
theorem dL_law_1085 : decode cL_law 1085 = .ok (.iaload, 1) := by decide +kernel
theorem dL_law_1086 : decode cL_law 1086 = .ok (.invokevirtual 114, 3) := by decide +kernel
theorem dL_law_1089 : decode cL_law 1089 = .ok (.if_icmp .eq 218, 3) := by decide +kernel
theorem dL_law_1092 : decode cL_law 1092 = .ok (.iconst 0, 1) := by decide +kernel
theorem dL_law_1093 : decode cL_law 1093 = .ok (.ireturn, 1) := by decide +kernel
theorem dL_law_1094 : decode cL_law 1094 = .ok (.aload_n 1, 1) := by decide +kernel
theorem dL_law_1095 : decode cL_law 1095 = .ok (.aload_n 0, 1) := by decide +kernel
theorem dL_law_1096 : decode cL_law 1096 = .ok (.iload_n 3, 1) := by decide +kernel
theorem dL_law_1097 : decode cL_law 1097 = .ok (.iconst 1, 1) := by decide +kernel
theorem dL_law_1098 : decode cL_law 1098 = .ok (.iadd, 1) := by decide +kernel
theorem dL_law_1099 : decode cL_law 1099 = .ok (.iaload, 1) := by decide +kernel
theorem dL_law_1100 : decode cL_law 1100 = .ok (.aload_n 0, 1) := by decide +kernel
theorem dL_law_1101 : decode cL_law 1101 = .ok (.iload_n 3, 1) := by decide +kernel
theorem dL_law_1102 : decode cL_law 1102 = .ok (.iconst 2, 1) := by decide +kernel
theorem dL_law_1103 : decode cL_law 1103 = .ok (.iadd, 1) := by decide +kernel
theorem dL_law_1104 : decode cL_law 1104 = .ok (.iaload, 1) := by decide +kernel
theorem dL_law_1105 : decode cL_law 1105 = .ok (.aload_n 0, 1) := by decide +kernel
theorem dL_law_1106 : decode cL_law 1106 = .ok (.iload_n 3, 1) := by decide +kernel
theorem dL_law_1107 : decode cL_law 1107 = .ok (.iconst 3, 1) := by decide +kernel
theorem dL_law_1108 : decode cL_law 1108 = .ok (.iadd, 1) := by decide +kernel
theorem dL_law_1109 : decode cL_law 1109 = .ok (.iaload, 1) := by decide +kernel
theorem dL_law_1110 : decode cL_law 1110 = .ok (.invokevirtual 115, 3) := by decide +kernel
theorem dL_law_1113 : decode cL_law 1113 = .ok (.aload_n 2, 1) := by decide +kernel
theorem dL_law_1114 : decode cL_law 1114 = .ok (.aload_n 0, 1) := by decide +kernel
theorem dL_law_1115 : decode cL_law 1115 = .ok (.iload_n 3, 1) := by decide +kernel
theorem dL_law_1116 : decode cL_law 1116 = .ok (.iconst 1, 1) := by decide +kernel
theorem dL_law_1117 : decode cL_law 1117 = .ok (.iadd, 1) := by decide +kernel
theorem dL_law_1118 : decode cL_law 1118 = .ok (.iaload, 1) := by decide +kernel
theorem dL_law_1119 : decode cL_law 1119 = .ok (.aload_n 0, 1) := by decide +kernel
theorem dL_law_1120 : decode cL_law 1120 = .ok (.iload_n 3, 1) := by decide +kernel
theorem dL_law_1121 : decode cL_law 1121 = .ok (.iconst 2, 1) := by decide +kernel
theorem dL_law_1122 : decode cL_law 1122 = .ok (.iadd, 1) := by decide +kernel
theorem dL_law_1123 : decode cL_law 1123 = .ok (.iaload, 1) := by decide +kernel
theorem dL_law_1124 : decode cL_law 1124 = .ok (.aload_n 0, 1) := by decide +kernel
theorem dL_law_1125 : decode cL_law 1125 = .ok (.iload_n 3, 1) := by decide +kernel
theorem dL_law_1126 : decode cL_law 1126 = .ok (.iconst 3, 1) := by decide +kernel
theorem dL_law_1127 : decode cL_law 1127 = .ok (.iadd, 1) := by decide +kernel
theorem dL_law_1128 : decode cL_law 1128 = .ok (.iaload, 1) := by decide +kernel
theorem dL_law_1129 : decode cL_law 1129 = .ok (.invokevirtual 118, 3) := by decide +kernel
theorem dL_law_1132 : decode cL_law 1132 = .ok (.if_icmp .eq 175, 3) := by decide +kernel
theorem dL_law_1135 : decode cL_law 1135 = .ok (.iconst 0, 1) := by decide +kernel
theorem dL_law_1136 : decode cL_law 1136 = .ok (.ireturn, 1) := by decide +kernel
theorem dL_law_1137 : decode cL_law 1137 = .ok (.aload_n 1, 1) := by decide +kernel
theorem dL_law_1138 : decode cL_law 1138 = .ok (.aload_n 0, 1) := by decide +kernel
theorem dL_law_1139 : decode cL_law 1139 = .ok (.iload_n 3, 1) := by decide +kernel
theorem dL_law_1140 : decode cL_law 1140 = .ok (.iconst 1, 1) := by decide +kernel
theorem dL_law_1141 : decode cL_law 1141 = .ok (.iadd, 1) := by decide +kernel
theorem dL_law_1142 : decode cL_law 1142 = .ok (.iaload, 1) := by decide +kernel
theorem dL_law_1143 : decode cL_law 1143 = .ok (.aload_n 0, 1) := by decide +kernel
theorem dL_law_1144 : decode cL_law 1144 = .ok (.iload_n 3, 1) := by decide +kernel
theorem dL_law_1145 : decode cL_law 1145 = .ok (.iconst 2, 1) := by decide +kernel
theorem dL_law_1146 : decode cL_law 1146 = .ok (.iadd, 1) := by decide +kernel
theorem dL_law_1147 : decode cL_law 1147 = .ok (.iaload, 1) := by decide +kernel
theorem dL_law_1148 : decode cL_law 1148 = .ok (.aload_n 0, 1) := by decide +kernel
theorem dL_law_1149 : decode cL_law 1149 = .ok (.iload_n 3, 1) := by decide +kernel
theorem dL_law_1150 : decode cL_law 1150 = .ok (.iconst 3, 1) := by decide +kernel
theorem dL_law_1151 : decode cL_law 1151 = .ok (.iadd, 1) := by decide +kernel
theorem dL_law_1152 : decode cL_law 1152 = .ok (.iaload, 1) := by decide +kernel
theorem dL_law_1153 : decode cL_law 1153 = .ok (.i2l, 1) := by decide +kernel
theorem dL_law_1154 : decode cL_law 1154 = .ok (.bipush 32, 2) := by decide +kernel
theorem dL_law_1156 : decode cL_law 1156 = .ok (.lshl, 1) := by decide +kernel
theorem dL_law_1157 : decode cL_law 1157 = .ok (.aload_n 0, 1) := by decide +kernel
theorem dL_law_1158 : decode cL_law 1158 = .ok (.iload_n 3, 1) := by decide +kernel
theorem dL_law_1159 : decode cL_law 1159 = .ok (.iconst 4, 1) := by decide +kernel
theorem dL_law_1160 : decode cL_law 1160 = .ok (.iadd, 1) := by decide +kernel
theorem dL_law_1161 : decode cL_law 1161 = .ok (.iaload, 1) := by decide +kernel
theorem dL_law_1162 : decode cL_law 1162 = .ok (.i2l, 1) := by decide +kernel
theorem dL_law_1163 : decode cL_law 1163 = .ok (.ldc2_w 119, 3) := by decide +kernel
theorem dL_law_1166 : decode cL_law 1166 = .ok (.land, 1) := by decide +kernel
theorem dL_law_1167 : decode cL_law 1167 = .ok (.lor, 1) := by decide +kernel
theorem dL_law_1168 : decode cL_law 1168 = .ok (.invokevirtual 121, 3) := by decide +kernel
theorem dL_law_1171 : decode cL_law 1171 = .ok (.aload_n 2, 1) := by decide +kernel
theorem dL_law_1172 : decode cL_law 1172 = .ok (.aload_n 0, 1) := by decide +kernel
theorem dL_law_1173 : decode cL_law 1173 = .ok (.iload_n 3, 1) := by decide +kernel
theorem dL_law_1174 : decode cL_law 1174 = .ok (.iconst 1, 1) := by decide +kernel
theorem dL_law_1175 : decode cL_law 1175 = .ok (.iadd, 1) := by decide +kernel
theorem dL_law_1176 : decode cL_law 1176 = .ok (.iaload, 1) := by decide +kernel
theorem dL_law_1177 : decode cL_law 1177 = .ok (.aload_n 0, 1) := by decide +kernel
theorem dL_law_1178 : decode cL_law 1178 = .ok (.iload_n 3, 1) := by decide +kernel
theorem dL_law_1179 : decode cL_law 1179 = .ok (.iconst 2, 1) := by decide +kernel
theorem dL_law_1180 : decode cL_law 1180 = .ok (.iadd, 1) := by decide +kernel
theorem dL_law_1181 : decode cL_law 1181 = .ok (.iaload, 1) := by decide +kernel
theorem dL_law_1182 : decode cL_law 1182 = .ok (.aload_n 0, 1) := by decide +kernel
theorem dL_law_1183 : decode cL_law 1183 = .ok (.iload_n 3, 1) := by decide +kernel
theorem dL_law_1184 : decode cL_law 1184 = .ok (.iconst 3, 1) := by decide +kernel
theorem dL_law_1185 : decode cL_law 1185 = .ok (.iadd, 1) := by decide +kernel
theorem dL_law_1186 : decode cL_law 1186 = .ok (.iaload, 1) := by decide +kernel
theorem dL_law_1187 : decode cL_law 1187 = .ok (.i2l, 1) := by decide +kernel
theorem dL_law_1188 : decode cL_law 1188 = .ok (.bipush 32, 2) := by decide +kernel
theorem dL_law_1190 : decode cL_law 1190 = .ok (.lshl, 1) := by decide +kernel
theorem dL_law_1191 : decode cL_law 1191 = .ok (.aload_n 0, 1) := by decide +kernel
theorem dL_law_1192 : decode cL_law 1192 = .ok (.iload_n 3, 1) := by decide +kernel
theorem dL_law_1193 : decode cL_law 1193 = .ok (.iconst 4, 1) := by decide +kernel
theorem dL_law_1194 : decode cL_law 1194 = .ok (.iadd, 1) := by decide +kernel
theorem dL_law_1195 : decode cL_law 1195 = .ok (.iaload, 1) := by decide +kernel
theorem dL_law_1196 : decode cL_law 1196 = .ok (.i2l, 1) := by decide +kernel
theorem dL_law_1197 : decode cL_law 1197 = .ok (.ldc2_w 119, 3) := by decide +kernel
theorem dL_law_1200 : decode cL_law 1200 = .ok (.land, 1) := by decide +kernel
theorem dL_law_1201 : decode cL_law 1201 = .ok (.lor, 1) := by decide +kernel
theorem dL_law_1202 : decode cL_law 1202 = .ok (.invokevirtual 125, 3) := by decide +kernel
theorem dL_law_1205 : decode cL_law 1205 = .ok (.if_icmp .eq 102, 3) := by decide +kernel
theorem dL_law_1208 : decode cL_law 1208 = .ok (.iconst 0, 1) := by decide +kernel
theorem dL_law_1209 : decode cL_law 1209 = .ok (.ireturn, 1) := by decide +kernel
theorem dL_law_1210 : decode cL_law 1210 = .ok (.aload_n 1, 1) := by decide +kernel
theorem dL_law_1211 : decode cL_law 1211 = .ok (.aload_n 0, 1) := by decide +kernel
theorem dL_law_1212 : decode cL_law 1212 = .ok (.iload_n 3, 1) := by decide +kernel
theorem dL_law_1213 : decode cL_law 1213 = .ok (.iconst 1, 1) := by decide +kernel
theorem dL_law_1214 : decode cL_law 1214 = .ok (.iadd, 1) := by decide +kernel
theorem dL_law_1215 : decode cL_law 1215 = .ok (.iaload, 1) := by decide +kernel
theorem dL_law_1216 : decode cL_law 1216 = .ok (.aload_n 0, 1) := by decide +kernel
theorem dL_law_1217 : decode cL_law 1217 = .ok (.iload_n 3, 1) := by decide +kernel
theorem dL_law_1218 : decode cL_law 1218 = .ok (.iconst 2, 1) := by decide +kernel
theorem dL_law_1219 : decode cL_law 1219 = .ok (.iadd, 1) := by decide +kernel
theorem dL_law_1220 : decode cL_law 1220 = .ok (.iaload, 1) := by decide +kernel
theorem dL_law_1221 : decode cL_law 1221 = .ok (.invokevirtual 126, 3) := by decide +kernel
theorem dL_law_1224 : decode cL_law 1224 = .ok (.aload_n 2, 1) := by decide +kernel
theorem dL_law_1225 : decode cL_law 1225 = .ok (.aload_n 0, 1) := by decide +kernel
theorem dL_law_1226 : decode cL_law 1226 = .ok (.iload_n 3, 1) := by decide +kernel
theorem dL_law_1227 : decode cL_law 1227 = .ok (.iconst 1, 1) := by decide +kernel
theorem dL_law_1228 : decode cL_law 1228 = .ok (.iadd, 1) := by decide +kernel
theorem dL_law_1229 : decode cL_law 1229 = .ok (.iaload, 1) := by decide +kernel
theorem dL_law_1230 : decode cL_law 1230 = .ok (.aload_n 0, 1) := by decide +kernel
theorem dL_law_1231 : decode cL_law 1231 = .ok (.iload_n 3, 1) := by decide +kernel
theorem dL_law_1232 : decode cL_law 1232 = .ok (.iconst 2, 1) := by decide +kernel
theorem dL_law_1233 : decode cL_law 1233 = .ok (.iadd, 1) := by decide +kernel
theorem dL_law_1234 : decode cL_law 1234 = .ok (.iaload, 1) := by decide +kernel
theorem dL_law_1235 : decode cL_law 1235 = .ok (.invokevirtual 130, 3) := by decide +kernel
theorem dL_law_1238 : decode cL_law 1238 = .ok (.lcmp, 1) := by decide +kernel
theorem dL_law_1239 : decode cL_law 1239 = .ok (.ifCond .eq 68, 3) := by decide +kernel
theorem dL_law_1242 : decode cL_law 1242 = .ok (.iconst 0, 1) := by decide +kernel
theorem dL_law_1243 : decode cL_law 1243 = .ok (.ireturn, 1) := by decide +kernel
theorem dL_law_1244 : decode cL_law 1244 = .ok (.aload_n 1, 1) := by decide +kernel
theorem dL_law_1245 : decode cL_law 1245 = .ok (.aload_n 0, 1) := by decide +kernel
theorem dL_law_1246 : decode cL_law 1246 = .ok (.iload_n 3, 1) := by decide +kernel
theorem dL_law_1247 : decode cL_law 1247 = .ok (.iconst 1, 1) := by decide +kernel
theorem dL_law_1248 : decode cL_law 1248 = .ok (.iadd, 1) := by decide +kernel
theorem dL_law_1249 : decode cL_law 1249 = .ok (.iaload, 1) := by decide +kernel
theorem dL_law_1250 : decode cL_law 1250 = .ok (.aload_n 0, 1) := by decide +kernel
theorem dL_law_1251 : decode cL_law 1251 = .ok (.iload_n 3, 1) := by decide +kernel
theorem dL_law_1252 : decode cL_law 1252 = .ok (.iconst 2, 1) := by decide +kernel
theorem dL_law_1253 : decode cL_law 1253 = .ok (.iadd, 1) := by decide +kernel
theorem dL_law_1254 : decode cL_law 1254 = .ok (.iaload, 1) := by decide +kernel
theorem dL_law_1255 : decode cL_law 1255 = .ok (.aload_n 0, 1) := by decide +kernel
theorem dL_law_1256 : decode cL_law 1256 = .ok (.iload_n 3, 1) := by decide +kernel
theorem dL_law_1257 : decode cL_law 1257 = .ok (.iconst 3, 1) := by decide +kernel
theorem dL_law_1258 : decode cL_law 1258 = .ok (.iadd, 1) := by decide +kernel
theorem dL_law_1259 : decode cL_law 1259 = .ok (.iaload, 1) := by decide +kernel
theorem dL_law_1260 : decode cL_law 1260 = .ok (.aload_n 0, 1) := by decide +kernel
theorem dL_law_1261 : decode cL_law 1261 = .ok (.iload_n 3, 1) := by decide +kernel
theorem dL_law_1262 : decode cL_law 1262 = .ok (.iconst 4, 1) := by decide +kernel
theorem dL_law_1263 : decode cL_law 1263 = .ok (.iadd, 1) := by decide +kernel
theorem dL_law_1264 : decode cL_law 1264 = .ok (.iaload, 1) := by decide +kernel
theorem dL_law_1265 : decode cL_law 1265 = .ok (.aload_n 0, 1) := by decide +kernel
theorem dL_law_1266 : decode cL_law 1266 = .ok (.iload_n 3, 1) := by decide +kernel
theorem dL_law_1267 : decode cL_law 1267 = .ok (.iconst 5, 1) := by decide +kernel
theorem dL_law_1268 : decode cL_law 1268 = .ok (.iadd, 1) := by decide +kernel
theorem dL_law_1269 : decode cL_law 1269 = .ok (.iaload, 1) := by decide +kernel
theorem dL_law_1270 : decode cL_law 1270 = .ok (.invokevirtual 131, 3) := by decide +kernel
theorem dL_law_1273 : decode cL_law 1273 = .ok (.aload_n 2, 1) := by decide +kernel
theorem dL_law_1274 : decode cL_law 1274 = .ok (.aload_n 0, 1) := by decide +kernel
theorem dL_law_1275 : decode cL_law 1275 = .ok (.iload_n 3, 1) := by decide +kernel
theorem dL_law_1276 : decode cL_law 1276 = .ok (.iconst 1, 1) := by decide +kernel
theorem dL_law_1277 : decode cL_law 1277 = .ok (.iadd, 1) := by decide +kernel
theorem dL_law_1278 : decode cL_law 1278 = .ok (.iaload, 1) := by decide +kernel
theorem dL_law_1279 : decode cL_law 1279 = .ok (.aload_n 0, 1) := by decide +kernel
theorem dL_law_1280 : decode cL_law 1280 = .ok (.iload_n 3, 1) := by decide +kernel
theorem dL_law_1281 : decode cL_law 1281 = .ok (.iconst 2, 1) := by decide +kernel
theorem dL_law_1282 : decode cL_law 1282 = .ok (.iadd, 1) := by decide +kernel
theorem dL_law_1283 : decode cL_law 1283 = .ok (.iaload, 1) := by decide +kernel
theorem dL_law_1284 : decode cL_law 1284 = .ok (.aload_n 0, 1) := by decide +kernel
theorem dL_law_1285 : decode cL_law 1285 = .ok (.iload_n 3, 1) := by decide +kernel
theorem dL_law_1286 : decode cL_law 1286 = .ok (.iconst 3, 1) := by decide +kernel
theorem dL_law_1287 : decode cL_law 1287 = .ok (.iadd, 1) := by decide +kernel
theorem dL_law_1288 : decode cL_law 1288 = .ok (.iaload, 1) := by decide +kernel
theorem dL_law_1289 : decode cL_law 1289 = .ok (.aload_n 0, 1) := by decide +kernel
theorem dL_law_1290 : decode cL_law 1290 = .ok (.iload_n 3, 1) := by decide +kernel
theorem dL_law_1291 : decode cL_law 1291 = .ok (.iconst 4, 1) := by decide +kernel
theorem dL_law_1292 : decode cL_law 1292 = .ok (.iadd, 1) := by decide +kernel
theorem dL_law_1293 : decode cL_law 1293 = .ok (.iaload, 1) := by decide +kernel
theorem dL_law_1294 : decode cL_law 1294 = .ok (.aload_n 0, 1) := by decide +kernel
theorem dL_law_1295 : decode cL_law 1295 = .ok (.iload_n 3, 1) := by decide +kernel
theorem dL_law_1296 : decode cL_law 1296 = .ok (.iconst 5, 1) := by decide +kernel
theorem dL_law_1297 : decode cL_law 1297 = .ok (.iadd, 1) := by decide +kernel
theorem dL_law_1298 : decode cL_law 1298 = .ok (.iaload, 1) := by decide +kernel
theorem dL_law_1299 : decode cL_law 1299 = .ok (.invokevirtual 134, 3) := by decide +kernel
theorem dL_law_1302 : decode cL_law 1302 = .ok (.if_icmp .eq 5, 3) := by decide +kernel
theorem dL_law_1305 : decode cL_law 1305 = .ok (.iconst 0, 1) := by decide +kernel
theorem dL_law_1306 : decode cL_law 1306 = .ok (.ireturn, 1) := by decide +kernel
theorem dL_law_1307 : decode cL_law 1307 = .ok (.iinc 3 6, 3) := by decide +kernel
theorem dL_law_1310 : decode cL_law 1310 = .ok (.goto (-1292), 3) := by decide +kernel
theorem dL_law_1313 : decode cL_law 1313 = .ok (.iconst 1, 1) := by decide +kernel
theorem dL_law_1314 : decode cL_law 1314 = .ok (.ireturn, 1) := by decide +kernel
