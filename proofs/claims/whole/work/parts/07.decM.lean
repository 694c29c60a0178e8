theorem d_M_init_0 : decode m_M_init.2.1 0 = .ok (.aload_n 0, 1) := by decide +kernel
theorem d_M_init_1 : decode m_M_init.2.1 1 = .ok (.invokespecial 1, 3) := by decide +kernel
theorem d_M_init_4 : decode m_M_init.2.1 4 = .ok (.aload_n 0, 1) := by decide +kernel
theorem d_M_init_5 : decode m_M_init.2.1 5 = .ok (.sipush 900, 3) := by decide +kernel
theorem d_M_init_8 : decode m_M_init.2.1 8 = .ok (.newarray .int, 2) := by decide +kernel
theorem d_M_init_10 : decode m_M_init.2.1 10 = .ok (.putfield 7, 3) := by decide +kernel
theorem d_M_init_13 : decode m_M_init.2.1 13 = .ok (.aload_n 0, 1) := by decide +kernel
theorem d_M_init_14 : decode m_M_init.2.1 14 = .ok (.bipush 19, 2) := by decide +kernel
theorem d_M_init_16 : decode m_M_init.2.1 16 = .ok (.newarray .int, 2) := by decide +kernel
theorem d_M_init_18 : decode m_M_init.2.1 18 = .ok (.putfield 13, 3) := by decide +kernel
theorem d_M_init_21 : decode m_M_init.2.1 21 = .ok (.aload_n 0, 1) := by decide +kernel
theorem d_M_init_22 : decode m_M_init.2.1 22 = .ok (.iconst 5, 1) := by decide +kernel
theorem d_M_init_23 : decode m_M_init.2.1 23 = .ok (.newarray .boolean, 2) := by decide +kernel
theorem d_M_init_25 : decode m_M_init.2.1 25 = .ok (.putfield 16, 3) := by decide +kernel
theorem d_M_init_28 : decode m_M_init.2.1 28 = .ok (.aload_n 0, 1) := by decide +kernel
theorem d_M_init_29 : decode m_M_init.2.1 29 = .ok (.bipush 12, 2) := by decide +kernel
theorem d_M_init_31 : decode m_M_init.2.1 31 = .ok (.newarray .int, 2) := by decide +kernel
theorem d_M_init_33 : decode m_M_init.2.1 33 = .ok (.putfield 20, 3) := by decide +kernel
theorem d_M_init_36 : decode m_M_init.2.1 36 = .ok (.aload_n 0, 1) := by decide +kernel
theorem d_M_init_37 : decode m_M_init.2.1 37 = .ok (.bipush 12, 2) := by decide +kernel
theorem d_M_init_39 : decode m_M_init.2.1 39 = .ok (.newarray .int, 2) := by decide +kernel
theorem d_M_init_41 : decode m_M_init.2.1 41 = .ok (.putfield 23, 3) := by decide +kernel
theorem d_M_init_44 : decode m_M_init.2.1 44 = .ok (.aload_n 0, 1) := by decide +kernel
theorem d_M_init_45 : decode m_M_init.2.1 45 = .ok (.bipush 96, 2) := by decide +kernel
theorem d_M_init_47 : decode m_M_init.2.1 47 = .ok (.newarray .int, 2) := by decide +kernel
theorem d_M_init_49 : decode m_M_init.2.1 49 = .ok (.putfield 26, 3) := by decide +kernel
theorem d_M_init_52 : decode m_M_init.2.1 52 = .ok (.aload_n 0, 1) := by decide +kernel
theorem d_M_init_53 : decode m_M_init.2.1 53 = .ok (.iconst (-1), 1) := by decide +kernel
theorem d_M_init_54 : decode m_M_init.2.1 54 = .ok (.putfield 29, 3) := by decide +kernel
theorem d_M_init_57 : decode m_M_init.2.1 57 = .ok (.aload_n 0, 1) := by decide +kernel
theorem d_M_init_58 : decode m_M_init.2.1 58 = .ok (.sipush 146, 3) := by decide +kernel
theorem d_M_init_61 : decode m_M_init.2.1 61 = .ok (.newarray .int, 2) := by decide +kernel
theorem d_M_init_63 : decode m_M_init.2.1 63 = .ok (.putfield 33, 3) := by decide +kernel
theorem d_M_init_66 : decode m_M_init.2.1 66 = .ok (.aload_n 0, 1) := by decide +kernel
theorem d_M_init_67 : decode m_M_init.2.1 67 = .ok (.sipush 146, 3) := by decide +kernel
theorem d_M_init_70 : decode m_M_init.2.1 70 = .ok (.newarray .int, 2) := by decide +kernel
theorem d_M_init_72 : decode m_M_init.2.1 72 = .ok (.putfield 36, 3) := by decide +kernel
theorem d_M_init_75 : decode m_M_init.2.1 75 = .ok (.aload_n 0, 1) := by decide +kernel
theorem d_M_init_76 : decode m_M_init.2.1 76 = .ok (.bipush 11, 2) := by decide +kernel
theorem d_M_init_78 : decode m_M_init.2.1 78 = .ok (.newarray .long, 2) := by decide +kernel
theorem d_M_init_80 : decode m_M_init.2.1 80 = .ok (.putfield 39, 3) := by decide +kernel
theorem d_M_init_83 : decode m_M_init.2.1 83 = .ok (.aload_n 0, 1) := by decide +kernel
theorem d_M_init_84 : decode m_M_init.2.1 84 = .ok (.bipush 11, 2) := by decide +kernel
theorem d_M_init_86 : decode m_M_init.2.1 86 = .ok (.newarray .long, 2) := by decide +kernel
theorem d_M_init_88 : decode m_M_init.2.1 88 = .ok (.putfield 43, 3) := by decide +kernel
theorem d_M_init_91 : decode m_M_init.2.1 91 = .ok (.aload_n 0, 1) := by decide +kernel
theorem d_M_init_92 : decode m_M_init.2.1 92 = .ok (.sipush 1000, 3) := by decide +kernel
theorem d_M_init_95 : decode m_M_init.2.1 95 = .ok (.newarray .int, 2) := by decide +kernel
theorem d_M_init_97 : decode m_M_init.2.1 97 = .ok (.putfield 46, 3) := by decide +kernel
theorem d_M_init_100 : decode m_M_init.2.1 100 = .ok (.aload_n 0, 1) := by decide +kernel
theorem d_M_init_101 : decode m_M_init.2.1 101 = .ok (.invokevirtual 49, 3) := by decide +kernel
theorem d_M_init_104 : decode m_M_init.2.1 104 = .ok (.aload_n 0, 1) := by decide +kernel
theorem d_M_init_105 : decode m_M_init.2.1 105 = .ok (.invokevirtual 52, 3) := by decide +kernel
theorem d_M_init_108 : decode m_M_init.2.1 108 = .ok (.return_, 1) := by decide +kernel
theorem d_M_thrown_0 : decode m_M_thrown.2.1 0 = .ok (.aload_n 0, 1) := by decide +kernel
theorem d_M_thrown_1 : decode m_M_thrown.2.1 1 = .ok (.getfield 55, 3) := by decide +kernel
theorem d_M_thrown_4 : decode m_M_thrown.2.1 4 = .ok (.ireturn, 1) := by decide +kernel
theorem d_M_feed_0 : decode m_M_feed.2.1 0 = .ok (.aload_n 0, 1) := by decide +kernel
theorem d_M_feed_1 : decode m_M_feed.2.1 1 = .ok (.iconst 0, 1) := by decide +kernel
theorem d_M_feed_2 : decode m_M_feed.2.1 2 = .ok (.putfield 55, 3) := by decide +kernel
theorem d_M_feed_5 : decode m_M_feed.2.1 5 = .ok (.aload_n 0, 1) := by decide +kernel
theorem d_M_feed_6 : decode m_M_feed.2.1 6 = .ok (.getfield 58, 3) := by decide +kernel
theorem d_M_feed_9 : decode m_M_feed.2.1 9 = .ok (.sipush 880, 3) := by decide +kernel
theorem d_M_feed_12 : decode m_M_feed.2.1 12 = .ok (.if_icmp .le 5, 3) := by decide +kernel
theorem d_M_feed_15 : decode m_M_feed.2.1 15 = .ok (.iconst (-1), 1) := by decide +kernel
theorem d_M_feed_16 : decode m_M_feed.2.1 16 = .ok (.ireturn, 1) := by decide +kernel
theorem d_M_feed_17 : decode m_M_feed.2.1 17 = .ok (.iconst 0, 1) := by decide +kernel
theorem d_M_feed_18 : decode m_M_feed.2.1 18 = .ok (.istore 6, 2) := by decide +kernel
theorem d_M_feed_20 : decode m_M_feed.2.1 20 = .ok (.iload 6, 2) := by decide +kernel
theorem d_M_feed_22 : decode m_M_feed.2.1 22 = .ok (.bipush 20, 2) := by decide +kernel
theorem d_M_feed_24 : decode m_M_feed.2.1 24 = .ok (.if_icmp .ge 86, 3) := by decide +kernel
theorem d_M_feed_27 : decode m_M_feed.2.1 27 = .ok (.iload 6, 2) := by decide +kernel
theorem d_M_feed_29 : decode m_M_feed.2.1 29 = .ok (.iconst 4, 1) := by decide +kernel
theorem d_M_feed_30 : decode m_M_feed.2.1 30 = .ok (.if_icmp .ge 7, 3) := by decide +kernel
theorem d_M_feed_33 : decode m_M_feed.2.1 33 = .ok (.iload_n 1, 1) := by decide +kernel
theorem d_M_feed_34 : decode m_M_feed.2.1 34 = .ok (.goto 39, 3) := by decide +kernel
theorem d_M_feed_37 : decode m_M_feed.2.1 37 = .ok (.iload 6, 2) := by decide +kernel
theorem d_M_feed_39 : decode m_M_feed.2.1 39 = .ok (.bipush 8, 2) := by decide +kernel
theorem d_M_feed_41 : decode m_M_feed.2.1 41 = .ok (.if_icmp .ge 7, 3) := by decide +kernel
theorem d_M_feed_44 : decode m_M_feed.2.1 44 = .ok (.iload_n 2, 1) := by decide +kernel
theorem d_M_feed_45 : decode m_M_feed.2.1 45 = .ok (.goto 28, 3) := by decide +kernel
theorem d_M_feed_48 : decode m_M_feed.2.1 48 = .ok (.iload 6, 2) := by decide +kernel
theorem d_M_feed_50 : decode m_M_feed.2.1 50 = .ok (.bipush 12, 2) := by decide +kernel
theorem d_M_feed_52 : decode m_M_feed.2.1 52 = .ok (.if_icmp .ge 7, 3) := by decide +kernel
theorem d_M_feed_55 : decode m_M_feed.2.1 55 = .ok (.iload_n 3, 1) := by decide +kernel
theorem d_M_feed_56 : decode m_M_feed.2.1 56 = .ok (.goto 17, 3) := by decide +kernel
theorem d_M_feed_59 : decode m_M_feed.2.1 59 = .ok (.iload 6, 2) := by decide +kernel
theorem d_M_feed_61 : decode m_M_feed.2.1 61 = .ok (.bipush 16, 2) := by decide +kernel
theorem d_M_feed_63 : decode m_M_feed.2.1 63 = .ok (.if_icmp .ge 8, 3) := by decide +kernel
theorem d_M_feed_66 : decode m_M_feed.2.1 66 = .ok (.iload 4, 2) := by decide +kernel
theorem d_M_feed_68 : decode m_M_feed.2.1 68 = .ok (.goto 5, 3) := by decide +kernel
theorem d_M_feed_71 : decode m_M_feed.2.1 71 = .ok (.iload 5, 2) := by decide +kernel
theorem d_M_feed_73 : decode m_M_feed.2.1 73 = .ok (.istore 7, 2) := by decide +kernel
theorem d_M_feed_75 : decode m_M_feed.2.1 75 = .ok (.aload_n 0, 1) := by decide +kernel
theorem d_M_feed_76 : decode m_M_feed.2.1 76 = .ok (.getfield 7, 3) := by decide +kernel
theorem d_M_feed_79 : decode m_M_feed.2.1 79 = .ok (.aload_n 0, 1) := by decide +kernel
theorem d_M_feed_80 : decode m_M_feed.2.1 80 = .ok (.getfield 58, 3) := by decide +kernel
theorem d_M_feed_83 : decode m_M_feed.2.1 83 = .ok (.iload 6, 2) := by decide +kernel
theorem d_M_feed_85 : decode m_M_feed.2.1 85 = .ok (.iadd, 1) := by decide +kernel
theorem d_M_feed_86 : decode m_M_feed.2.1 86 = .ok (.iload 7, 2) := by decide +kernel
theorem d_M_feed_88 : decode m_M_feed.2.1 88 = .ok (.bipush 24, 2) := by decide +kernel
theorem d_M_feed_90 : decode m_M_feed.2.1 90 = .ok (.bipush 8, 2) := by decide +kernel
theorem d_M_feed_92 : decode m_M_feed.2.1 92 = .ok (.iload 6, 2) := by decide +kernel
theorem d_M_feed_94 : decode m_M_feed.2.1 94 = .ok (.iconst 4, 1) := by decide +kernel
theorem d_M_feed_95 : decode m_M_feed.2.1 95 = .ok (.irem, 1) := by decide +kernel
theorem d_M_feed_96 : decode m_M_feed.2.1 96 = .ok (.imul, 1) := by decide +kernel
theorem d_M_feed_97 : decode m_M_feed.2.1 97 = .ok (.isub, 1) := by decide +kernel
theorem d_M_feed_98 : decode m_M_feed.2.1 98 = .ok (.ishr, 1) := by decide +kernel
theorem d_M_feed_99 : decode m_M_feed.2.1 99 = .ok (.sipush 255, 3) := by decide +kernel
theorem d_M_feed_102 : decode m_M_feed.2.1 102 = .ok (.iand, 1) := by decide +kernel
theorem d_M_feed_103 : decode m_M_feed.2.1 103 = .ok (.iastore, 1) := by decide +kernel
theorem d_M_feed_104 : decode m_M_feed.2.1 104 = .ok (.iinc 6 1, 3) := by decide +kernel
theorem d_M_feed_107 : decode m_M_feed.2.1 107 = .ok (.goto (-87), 3) := by decide +kernel
theorem d_M_feed_110 : decode m_M_feed.2.1 110 = .ok (.aload_n 0, 1) := by decide +kernel
theorem d_M_feed_111 : decode m_M_feed.2.1 111 = .ok (.dup, 1) := by decide +kernel
theorem d_M_feed_112 : decode m_M_feed.2.1 112 = .ok (.getfield 58, 3) := by decide +kernel
theorem d_M_feed_115 : decode m_M_feed.2.1 115 = .ok (.bipush 20, 2) := by decide +kernel
theorem d_M_feed_117 : decode m_M_feed.2.1 117 = .ok (.iadd, 1) := by decide +kernel
theorem d_M_feed_118 : decode m_M_feed.2.1 118 = .ok (.putfield 58, 3) := by decide +kernel
theorem d_M_feed_121 : decode m_M_feed.2.1 121 = .ok (.aload_n 0, 1) := by decide +kernel
theorem d_M_feed_122 : decode m_M_feed.2.1 122 = .ok (.getfield 58, 3) := by decide +kernel
theorem d_M_feed_125 : decode m_M_feed.2.1 125 = .ok (.ireturn, 1) := by decide +kernel
theorem d_M_here_0 : decode m_M_here.2.1 0 = .ok (.aload_n 0, 1) := by decide +kernel
theorem d_M_here_1 : decode m_M_here.2.1 1 = .ok (.getfield 61, 3) := by decide +kernel
theorem d_M_here_4 : decode m_M_here.2.1 4 = .ok (.aload_n 0, 1) := by decide +kernel
theorem d_M_here_5 : decode m_M_here.2.1 5 = .ok (.getfield 64, 3) := by decide +kernel
theorem d_M_here_8 : decode m_M_here.2.1 8 = .ok (.if_icmp .ge 15, 3) := by decide +kernel
theorem d_M_here_11 : decode m_M_here.2.1 11 = .ok (.aload_n 0, 1) := by decide +kernel
theorem d_M_here_12 : decode m_M_here.2.1 12 = .ok (.getfield 7, 3) := by decide +kernel
theorem d_M_here_15 : decode m_M_here.2.1 15 = .ok (.aload_n 0, 1) := by decide +kernel
theorem d_M_here_16 : decode m_M_here.2.1 16 = .ok (.getfield 61, 3) := by decide +kernel
theorem d_M_here_19 : decode m_M_here.2.1 19 = .ok (.iaload, 1) := by decide +kernel
theorem d_M_here_20 : decode m_M_here.2.1 20 = .ok (.goto 4, 3) := by decide +kernel
theorem d_M_here_23 : decode m_M_here.2.1 23 = .ok (.iconst (-1), 1) := by decide +kernel
theorem d_M_here_24 : decode m_M_here.2.1 24 = .ok (.ireturn, 1) := by decide +kernel
theorem d_M_isSmall_0 : decode m_M_isSmall.2.1 0 = .ok (.iload_n 0, 1) := by decide +kernel
theorem d_M_isSmall_1 : decode m_M_isSmall.2.1 1 = .ok (.bipush 97, 2) := by decide +kernel
theorem d_M_isSmall_3 : decode m_M_isSmall.2.1 3 = .ok (.if_icmp .lt 13, 3) := by decide +kernel
theorem d_M_isSmall_6 : decode m_M_isSmall.2.1 6 = .ok (.iload_n 0, 1) := by decide +kernel
theorem d_M_isSmall_7 : decode m_M_isSmall.2.1 7 = .ok (.bipush 122, 2) := by decide +kernel
theorem d_M_isSmall_9 : decode m_M_isSmall.2.1 9 = .ok (.if_icmp .gt 7, 3) := by decide +kernel
theorem d_M_isSmall_12 : decode m_M_isSmall.2.1 12 = .ok (.iconst 1, 1) := by decide +kernel
theorem d_M_isSmall_13 : decode m_M_isSmall.2.1 13 = .ok (.goto 4, 3) := by decide +kernel
theorem d_M_isSmall_16 : decode m_M_isSmall.2.1 16 = .ok (.iconst 0, 1) := by decide +kernel
theorem d_M_isSmall_17 : decode m_M_isSmall.2.1 17 = .ok (.ireturn, 1) := by decide +kernel
theorem d_M_isDigit_0 : decode m_M_isDigit.2.1 0 = .ok (.iload_n 0, 1) := by decide +kernel
theorem d_M_isDigit_1 : decode m_M_isDigit.2.1 1 = .ok (.bipush 48, 2) := by decide +kernel
theorem d_M_isDigit_3 : decode m_M_isDigit.2.1 3 = .ok (.if_icmp .lt 13, 3) := by decide +kernel
theorem d_M_isDigit_6 : decode m_M_isDigit.2.1 6 = .ok (.iload_n 0, 1) := by decide +kernel
theorem d_M_isDigit_7 : decode m_M_isDigit.2.1 7 = .ok (.bipush 57, 2) := by decide +kernel
theorem d_M_isDigit_9 : decode m_M_isDigit.2.1 9 = .ok (.if_icmp .gt 7, 3) := by decide +kernel
theorem d_M_isDigit_12 : decode m_M_isDigit.2.1 12 = .ok (.iconst 1, 1) := by decide +kernel
theorem d_M_isDigit_13 : decode m_M_isDigit.2.1 13 = .ok (.goto 4, 3) := by decide +kernel
theorem d_M_isDigit_16 : decode m_M_isDigit.2.1 16 = .ok (.iconst 0, 1) := by decide +kernel
theorem d_M_isDigit_17 : decode m_M_isDigit.2.1 17 = .ok (.ireturn, 1) := by decide +kernel
theorem d_M_token_0 : decode m_M_token.2.1 0 = .ok (.aload_n 0, 1) := by decide +kernel
theorem d_M_token_1 : decode m_M_token.2.1 1 = .ok (.invokevirtual 67, 3) := by decide +kernel
theorem d_M_token_4 : decode m_M_token.2.1 4 = .ok (.bipush 10, 2) := by decide +kernel
theorem d_M_token_6 : decode m_M_token.2.1 6 = .ok (.if_icmp .eq 12, 3) := by decide +kernel
theorem d_M_token_9 : decode m_M_token.2.1 9 = .ok (.aload_n 0, 1) := by decide +kernel
theorem d_M_token_10 : decode m_M_token.2.1 10 = .ok (.invokevirtual 67, 3) := by decide +kernel
theorem d_M_token_13 : decode m_M_token.2.1 13 = .ok (.bipush 32, 2) := by decide +kernel
theorem d_M_token_15 : decode m_M_token.2.1 15 = .ok (.if_icmp .ne 16, 3) := by decide +kernel
theorem d_M_token_18 : decode m_M_token.2.1 18 = .ok (.aload_n 0, 1) := by decide +kernel
theorem d_M_token_19 : decode m_M_token.2.1 19 = .ok (.dup, 1) := by decide +kernel
theorem d_M_token_20 : decode m_M_token.2.1 20 = .ok (.getfield 61, 3) := by decide +kernel
theorem d_M_token_23 : decode m_M_token.2.1 23 = .ok (.iconst 1, 1) := by decide +kernel
theorem d_M_token_24 : decode m_M_token.2.1 24 = .ok (.iadd, 1) := by decide +kernel
theorem d_M_token_25 : decode m_M_token.2.1 25 = .ok (.putfield 61, 3) := by decide +kernel
theorem d_M_token_28 : decode m_M_token.2.1 28 = .ok (.goto (-28), 3) := by decide +kernel
theorem d_M_token_31 : decode m_M_token.2.1 31 = .ok (.aload_n 0, 1) := by decide +kernel
theorem d_M_token_32 : decode m_M_token.2.1 32 = .ok (.aload_n 0, 1) := by decide +kernel
theorem d_M_token_33 : decode m_M_token.2.1 33 = .ok (.getfield 61, 3) := by decide +kernel
theorem d_M_token_36 : decode m_M_token.2.1 36 = .ok (.putfield 71, 3) := by decide +kernel
theorem d_M_token_39 : decode m_M_token.2.1 39 = .ok (.aload_n 0, 1) := by decide +kernel
theorem d_M_token_40 : decode m_M_token.2.1 40 = .ok (.invokevirtual 67, 3) := by decide +kernel
theorem d_M_token_43 : decode m_M_token.2.1 43 = .ok (.istore_n 1, 1) := by decide +kernel
theorem d_M_token_44 : decode m_M_token.2.1 44 = .ok (.iload_n 1, 1) := by decide +kernel
theorem d_M_token_45 : decode m_M_token.2.1 45 = .ok (.iconst (-1), 1) := by decide +kernel
theorem d_M_token_46 : decode m_M_token.2.1 46 = .ok (.if_icmp .ne 11, 3) := by decide +kernel
theorem d_M_token_49 : decode m_M_token.2.1 49 = .ok (.aload_n 0, 1) := by decide +kernel
theorem d_M_token_50 : decode m_M_token.2.1 50 = .ok (.iconst 3, 1) := by decide +kernel
theorem d_M_token_51 : decode m_M_token.2.1 51 = .ok (.putfield 74, 3) := by decide +kernel
theorem d_M_token_54 : decode m_M_token.2.1 54 = .ok (.goto 161, 3) := by decide +kernel
theorem d_M_token_57 : decode m_M_token.2.1 57 = .ok (.iload_n 1, 1) := by decide +kernel
theorem d_M_token_58 : decode m_M_token.2.1 58 = .ok (.invokestatic 77, 3) := by decide +kernel
theorem d_M_token_61 : decode m_M_token.2.1 61 = .ok (.ifCond .eq 54, 3) := by decide +kernel
theorem d_M_token_64 : decode m_M_token.2.1 64 = .ok (.aload_n 0, 1) := by decide +kernel
theorem d_M_token_65 : decode m_M_token.2.1 65 = .ok (.invokevirtual 67, 3) := by decide +kernel
theorem d_M_token_68 : decode m_M_token.2.1 68 = .ok (.invokestatic 77, 3) := by decide +kernel
theorem d_M_token_71 : decode m_M_token.2.1 71 = .ok (.ifCond .eq 16, 3) := by decide +kernel
theorem d_M_token_74 : decode m_M_token.2.1 74 = .ok (.aload_n 0, 1) := by decide +kernel
theorem d_M_token_75 : decode m_M_token.2.1 75 = .ok (.dup, 1) := by decide +kernel
theorem d_M_token_76 : decode m_M_token.2.1 76 = .ok (.getfield 61, 3) := by decide +kernel
theorem d_M_token_79 : decode m_M_token.2.1 79 = .ok (.iconst 1, 1) := by decide +kernel
theorem d_M_token_80 : decode m_M_token.2.1 80 = .ok (.iadd, 1) := by decide +kernel
theorem d_M_token_81 : decode m_M_token.2.1 81 = .ok (.putfield 61, 3) := by decide +kernel
theorem d_M_token_84 : decode m_M_token.2.1 84 = .ok (.goto (-20), 3) := by decide +kernel
theorem d_M_token_87 : decode m_M_token.2.1 87 = .ok (.aload_n 0, 1) := by decide +kernel
theorem d_M_token_88 : decode m_M_token.2.1 88 = .ok (.aload_n 0, 1) := by decide +kernel
theorem d_M_token_89 : decode m_M_token.2.1 89 = .ok (.invokevirtual 81, 3) := by decide +kernel
theorem d_M_token_92 : decode m_M_token.2.1 92 = .ok (.putfield 84, 3) := by decide +kernel
theorem d_M_token_95 : decode m_M_token.2.1 95 = .ok (.aload_n 0, 1) := by decide +kernel
theorem d_M_token_96 : decode m_M_token.2.1 96 = .ok (.aload_n 0, 1) := by decide +kernel
theorem d_M_token_97 : decode m_M_token.2.1 97 = .ok (.getfield 84, 3) := by decide +kernel
theorem d_M_token_100 : decode m_M_token.2.1 100 = .ok (.iconst (-1), 1) := by decide +kernel
theorem d_M_token_101 : decode m_M_token.2.1 101 = .ok (.if_icmp .eq 7, 3) := by decide +kernel
theorem d_M_token_104 : decode m_M_token.2.1 104 = .ok (.iconst 0, 1) := by decide +kernel
theorem d_M_token_105 : decode m_M_token.2.1 105 = .ok (.goto 4, 3) := by decide +kernel
theorem d_M_token_108 : decode m_M_token.2.1 108 = .ok (.iconst 4, 1) := by decide +kernel
theorem d_M_token_109 : decode m_M_token.2.1 109 = .ok (.putfield 74, 3) := by decide +kernel
theorem d_M_token_112 : decode m_M_token.2.1 112 = .ok (.goto 103, 3) := by decide +kernel
theorem d_M_token_115 : decode m_M_token.2.1 115 = .ok (.iload_n 1, 1) := by decide +kernel
theorem d_M_token_116 : decode m_M_token.2.1 116 = .ok (.invokestatic 87, 3) := by decide +kernel
theorem d_M_token_119 : decode m_M_token.2.1 119 = .ok (.ifCond .eq 71, 3) := by decide +kernel
theorem d_M_token_122 : decode m_M_token.2.1 122 = .ok (.aload_n 0, 1) := by decide +kernel
theorem d_M_token_123 : decode m_M_token.2.1 123 = .ok (.iconst 1, 1) := by decide +kernel
theorem d_M_token_124 : decode m_M_token.2.1 124 = .ok (.putfield 74, 3) := by decide +kernel
theorem d_M_token_127 : decode m_M_token.2.1 127 = .ok (.aload_n 0, 1) := by decide +kernel
theorem d_M_token_128 : decode m_M_token.2.1 128 = .ok (.iconst 0, 1) := by decide +kernel
theorem d_M_token_129 : decode m_M_token.2.1 129 = .ok (.putfield 84, 3) := by decide +kernel
theorem d_M_token_132 : decode m_M_token.2.1 132 = .ok (.aload_n 0, 1) := by decide +kernel
theorem d_M_token_133 : decode m_M_token.2.1 133 = .ok (.invokevirtual 67, 3) := by decide +kernel
theorem d_M_token_136 : decode m_M_token.2.1 136 = .ok (.invokestatic 87, 3) := by decide +kernel
theorem d_M_token_139 : decode m_M_token.2.1 139 = .ok (.ifCond .eq 76, 3) := by decide +kernel
theorem d_M_token_142 : decode m_M_token.2.1 142 = .ok (.aload_n 0, 1) := by decide +kernel
theorem d_M_token_143 : decode m_M_token.2.1 143 = .ok (.aload_n 0, 1) := by decide +kernel
theorem d_M_token_144 : decode m_M_token.2.1 144 = .ok (.getfield 84, 3) := by decide +kernel
theorem d_M_token_147 : decode m_M_token.2.1 147 = .ok (.ldc 90, 2) := by decide +kernel
theorem d_M_token_149 : decode m_M_token.2.1 149 = .ok (.if_icmp .le 10, 3) := by decide +kernel
theorem d_M_token_152 : decode m_M_token.2.1 152 = .ok (.aload_n 0, 1) := by decide +kernel
theorem d_M_token_153 : decode m_M_token.2.1 153 = .ok (.getfield 84, 3) := by decide +kernel
theorem d_M_token_156 : decode m_M_token.2.1 156 = .ok (.goto 18, 3) := by decide +kernel
theorem d_M_token_159 : decode m_M_token.2.1 159 = .ok (.bipush 10, 2) := by decide +kernel
theorem d_M_token_161 : decode m_M_token.2.1 161 = .ok (.aload_n 0, 1) := by decide +kernel
theorem d_M_token_162 : decode m_M_token.2.1 162 = .ok (.getfield 84, 3) := by decide +kernel
theorem d_M_token_165 : decode m_M_token.2.1 165 = .ok (.imul, 1) := by decide +kernel
theorem d_M_token_166 : decode m_M_token.2.1 166 = .ok (.aload_n 0, 1) := by decide +kernel
theorem d_M_token_167 : decode m_M_token.2.1 167 = .ok (.invokevirtual 67, 3) := by decide +kernel
theorem d_M_token_170 : decode m_M_token.2.1 170 = .ok (.iadd, 1) := by decide +kernel
theorem d_M_token_171 : decode m_M_token.2.1 171 = .ok (.bipush 48, 2) := by decide +kernel
theorem d_M_token_173 : decode m_M_token.2.1 173 = .ok (.isub, 1) := by decide +kernel
theorem d_M_token_174 : decode m_M_token.2.1 174 = .ok (.putfield 84, 3) := by decide +kernel
theorem d_M_token_177 : decode m_M_token.2.1 177 = .ok (.aload_n 0, 1) := by decide +kernel
theorem d_M_token_178 : decode m_M_token.2.1 178 = .ok (.dup, 1) := by decide +kernel
theorem d_M_token_179 : decode m_M_token.2.1 179 = .ok (.getfield 61, 3) := by decide +kernel
theorem d_M_token_182 : decode m_M_token.2.1 182 = .ok (.iconst 1, 1) := by decide +kernel
theorem d_M_token_183 : decode m_M_token.2.1 183 = .ok (.iadd, 1) := by decide +kernel
theorem d_M_token_184 : decode m_M_token.2.1 184 = .ok (.putfield 61, 3) := by decide +kernel
theorem d_M_token_187 : decode m_M_token.2.1 187 = .ok (.goto (-55), 3) := by decide +kernel
theorem d_M_token_190 : decode m_M_token.2.1 190 = .ok (.aload_n 0, 1) := by decide +kernel
theorem d_M_token_191 : decode m_M_token.2.1 191 = .ok (.iload_n 1, 1) := by decide +kernel
theorem d_M_token_192 : decode m_M_token.2.1 192 = .ok (.bipush 59, 2) := by decide +kernel
theorem d_M_token_194 : decode m_M_token.2.1 194 = .ok (.if_icmp .ne 7, 3) := by decide +kernel
theorem d_M_token_197 : decode m_M_token.2.1 197 = .ok (.iconst 2, 1) := by decide +kernel
theorem d_M_token_198 : decode m_M_token.2.1 198 = .ok (.goto 4, 3) := by decide +kernel
theorem d_M_token_201 : decode m_M_token.2.1 201 = .ok (.iconst 4, 1) := by decide +kernel
theorem d_M_token_202 : decode m_M_token.2.1 202 = .ok (.putfield 74, 3) := by decide +kernel
theorem d_M_token_205 : decode m_M_token.2.1 205 = .ok (.aload_n 0, 1) := by decide +kernel
theorem d_M_token_206 : decode m_M_token.2.1 206 = .ok (.dup, 1) := by decide +kernel
theorem d_M_token_207 : decode m_M_token.2.1 207 = .ok (.getfield 61, 3) := by decide +kernel
theorem d_M_token_210 : decode m_M_token.2.1 210 = .ok (.iconst 1, 1) := by decide +kernel
theorem d_M_token_211 : decode m_M_token.2.1 211 = .ok (.iadd, 1) := by decide +kernel
theorem d_M_token_212 : decode m_M_token.2.1 212 = .ok (.putfield 61, 3) := by decide +kernel
theorem d_M_token_215 : decode m_M_token.2.1 215 = .ok (.return_, 1) := by decide +kernel
theorem d_M_wordHere_0 : decode m_M_wordHere.2.1 0 = .ok (.iconst 0, 1) := by decide +kernel
theorem d_M_wordHere_1 : decode m_M_wordHere.2.1 1 = .ok (.istore_n 1, 1) := by decide +kernel
theorem d_M_wordHere_2 : decode m_M_wordHere.2.1 2 = .ok (.iconst 0, 1) := by decide +kernel
theorem d_M_wordHere_3 : decode m_M_wordHere.2.1 3 = .ok (.istore_n 2, 1) := by decide +kernel
theorem d_M_wordHere_4 : decode m_M_wordHere.2.1 4 = .ok (.iload_n 2, 1) := by decide +kernel
theorem d_M_wordHere_5 : decode m_M_wordHere.2.1 5 = .ok (.ldc 91, 2) := by decide +kernel
theorem d_M_wordHere_7 : decode m_M_wordHere.2.1 7 = .ok (.invokevirtual 93, 3) := by decide +kernel
theorem d_M_wordHere_10 : decode m_M_wordHere.2.1 10 = .ok (.if_icmp .ge 113, 3) := by decide +kernel
theorem d_M_wordHere_13 : decode m_M_wordHere.2.1 13 = .ok (.iconst 0, 1) := by decide +kernel
theorem d_M_wordHere_14 : decode m_M_wordHere.2.1 14 = .ok (.istore_n 3, 1) := by decide +kernel
theorem d_M_wordHere_15 : decode m_M_wordHere.2.1 15 = .ok (.ldc 91, 2) := by decide +kernel
theorem d_M_wordHere_17 : decode m_M_wordHere.2.1 17 = .ok (.iload_n 2, 1) := by decide +kernel
theorem d_M_wordHere_18 : decode m_M_wordHere.2.1 18 = .ok (.iload_n 3, 1) := by decide +kernel
theorem d_M_wordHere_19 : decode m_M_wordHere.2.1 19 = .ok (.iadd, 1) := by decide +kernel
theorem d_M_wordHere_20 : decode m_M_wordHere.2.1 20 = .ok (.invokevirtual 98, 3) := by decide +kernel
theorem d_M_wordHere_23 : decode m_M_wordHere.2.1 23 = .ok (.bipush 32, 2) := by decide +kernel
theorem d_M_wordHere_25 : decode m_M_wordHere.2.1 25 = .ok (.if_icmp .eq 44, 3) := by decide +kernel
theorem d_M_wordHere_28 : decode m_M_wordHere.2.1 28 = .ok (.aload_n 0, 1) := by decide +kernel
theorem d_M_wordHere_29 : decode m_M_wordHere.2.1 29 = .ok (.getfield 71, 3) := by decide +kernel
theorem d_M_wordHere_32 : decode m_M_wordHere.2.1 32 = .ok (.iload_n 3, 1) := by decide +kernel
theorem d_M_wordHere_33 : decode m_M_wordHere.2.1 33 = .ok (.iadd, 1) := by decide +kernel
theorem d_M_wordHere_34 : decode m_M_wordHere.2.1 34 = .ok (.aload_n 0, 1) := by decide +kernel
theorem d_M_wordHere_35 : decode m_M_wordHere.2.1 35 = .ok (.getfield 61, 3) := by decide +kernel
theorem d_M_wordHere_38 : decode m_M_wordHere.2.1 38 = .ok (.if_icmp .ge 31, 3) := by decide +kernel
theorem d_M_wordHere_41 : decode m_M_wordHere.2.1 41 = .ok (.aload_n 0, 1) := by decide +kernel
theorem d_M_wordHere_42 : decode m_M_wordHere.2.1 42 = .ok (.getfield 7, 3) := by decide +kernel
theorem d_M_wordHere_45 : decode m_M_wordHere.2.1 45 = .ok (.aload_n 0, 1) := by decide +kernel
theorem d_M_wordHere_46 : decode m_M_wordHere.2.1 46 = .ok (.getfield 71, 3) := by decide +kernel
theorem d_M_wordHere_49 : decode m_M_wordHere.2.1 49 = .ok (.iload_n 3, 1) := by decide +kernel
theorem d_M_wordHere_50 : decode m_M_wordHere.2.1 50 = .ok (.iadd, 1) := by decide +kernel
theorem d_M_wordHere_51 : decode m_M_wordHere.2.1 51 = .ok (.iaload, 1) := by decide +kernel
theorem d_M_wordHere_52 : decode m_M_wordHere.2.1 52 = .ok (.ldc 91, 2) := by decide +kernel
theorem d_M_wordHere_54 : decode m_M_wordHere.2.1 54 = .ok (.iload_n 2, 1) := by decide +kernel
theorem d_M_wordHere_55 : decode m_M_wordHere.2.1 55 = .ok (.iload_n 3, 1) := by decide +kernel
theorem d_M_wordHere_56 : decode m_M_wordHere.2.1 56 = .ok (.iadd, 1) := by decide +kernel
theorem d_M_wordHere_57 : decode m_M_wordHere.2.1 57 = .ok (.invokevirtual 98, 3) := by decide +kernel
theorem d_M_wordHere_60 : decode m_M_wordHere.2.1 60 = .ok (.if_icmp .ne 9, 3) := by decide +kernel
theorem d_M_wordHere_63 : decode m_M_wordHere.2.1 63 = .ok (.iinc 3 1, 3) := by decide +kernel
theorem d_M_wordHere_66 : decode m_M_wordHere.2.1 66 = .ok (.goto (-51), 3) := by decide +kernel
theorem d_M_wordHere_69 : decode m_M_wordHere.2.1 69 = .ok (.ldc 91, 2) := by decide +kernel
theorem d_M_wordHere_71 : decode m_M_wordHere.2.1 71 = .ok (.iload_n 2, 1) := by decide +kernel
theorem d_M_wordHere_72 : decode m_M_wordHere.2.1 72 = .ok (.iload_n 3, 1) := by decide +kernel
theorem d_M_wordHere_73 : decode m_M_wordHere.2.1 73 = .ok (.iadd, 1) := by decide +kernel
theorem d_M_wordHere_74 : decode m_M_wordHere.2.1 74 = .ok (.invokevirtual 98, 3) := by decide +kernel
theorem d_M_wordHere_77 : decode m_M_wordHere.2.1 77 = .ok (.bipush 32, 2) := by decide +kernel
theorem d_M_wordHere_79 : decode m_M_wordHere.2.1 79 = .ok (.if_icmp .ne 18, 3) := by decide +kernel
theorem d_M_wordHere_82 : decode m_M_wordHere.2.1 82 = .ok (.aload_n 0, 1) := by decide +kernel
theorem d_M_wordHere_83 : decode m_M_wordHere.2.1 83 = .ok (.getfield 71, 3) := by decide +kernel
theorem d_M_wordHere_86 : decode m_M_wordHere.2.1 86 = .ok (.iload_n 3, 1) := by decide +kernel
theorem d_M_wordHere_87 : decode m_M_wordHere.2.1 87 = .ok (.iadd, 1) := by decide +kernel
theorem d_M_wordHere_88 : decode m_M_wordHere.2.1 88 = .ok (.aload_n 0, 1) := by decide +kernel
theorem d_M_wordHere_89 : decode m_M_wordHere.2.1 89 = .ok (.getfield 61, 3) := by decide +kernel
theorem d_M_wordHere_92 : decode m_M_wordHere.2.1 92 = .ok (.if_icmp .ne 5, 3) := by decide +kernel
theorem d_M_wordHere_95 : decode m_M_wordHere.2.1 95 = .ok (.iload_n 1, 1) := by decide +kernel
theorem d_M_wordHere_96 : decode m_M_wordHere.2.1 96 = .ok (.ireturn, 1) := by decide +kernel
theorem d_M_wordHere_97 : decode m_M_wordHere.2.1 97 = .ok (.ldc 91, 2) := by decide +kernel
theorem d_M_wordHere_99 : decode m_M_wordHere.2.1 99 = .ok (.iload_n 2, 1) := by decide +kernel
theorem d_M_wordHere_100 : decode m_M_wordHere.2.1 100 = .ok (.invokevirtual 98, 3) := by decide +kernel
theorem d_M_wordHere_103 : decode m_M_wordHere.2.1 103 = .ok (.bipush 32, 2) := by decide +kernel
theorem d_M_wordHere_105 : decode m_M_wordHere.2.1 105 = .ok (.if_icmp .eq 9, 3) := by decide +kernel
theorem d_M_wordHere_108 : decode m_M_wordHere.2.1 108 = .ok (.iinc 2 1, 3) := by decide +kernel
theorem d_M_wordHere_111 : decode m_M_wordHere.2.1 111 = .ok (.goto (-14), 3) := by decide +kernel
theorem d_M_wordHere_114 : decode m_M_wordHere.2.1 114 = .ok (.iinc 2 1, 3) := by decide +kernel
theorem d_M_wordHere_117 : decode m_M_wordHere.2.1 117 = .ok (.iinc 1 1, 3) := by decide +kernel
theorem d_M_wordHere_120 : decode m_M_wordHere.2.1 120 = .ok (.goto (-116), 3) := by decide +kernel
theorem d_M_wordHere_123 : decode m_M_wordHere.2.1 123 = .ok (.iconst (-1), 1) := by decide +kernel
theorem d_M_wordHere_124 : decode m_M_wordHere.2.1 124 = .ok (.ireturn, 1) := by decide +kernel
theorem d_M_wrong_0 : decode m_M_wrong.2.1 0 = .ok (.aload_n 0, 1) := by decide +kernel
theorem d_M_wrong_1 : decode m_M_wrong.2.1 1 = .ok (.getfield 102, 3) := by decide +kernel
theorem d_M_wrong_4 : decode m_M_wrong.2.1 4 = .ok (.ifCond .eq 4, 3) := by decide +kernel
theorem d_M_wrong_7 : decode m_M_wrong.2.1 7 = .ok (.return_, 1) := by decide +kernel
theorem d_M_wrong_8 : decode m_M_wrong.2.1 8 = .ok (.aload_n 0, 1) := by decide +kernel
theorem d_M_wrong_9 : decode m_M_wrong.2.1 9 = .ok (.iload_n 1, 1) := by decide +kernel
theorem d_M_wrong_10 : decode m_M_wrong.2.1 10 = .ok (.putfield 102, 3) := by decide +kernel
theorem d_M_wrong_13 : decode m_M_wrong.2.1 13 = .ok (.aload_n 0, 1) := by decide +kernel
theorem d_M_wrong_14 : decode m_M_wrong.2.1 14 = .ok (.aload_n 0, 1) := by decide +kernel
theorem d_M_wrong_15 : decode m_M_wrong.2.1 15 = .ok (.getfield 71, 3) := by decide +kernel
theorem d_M_wrong_18 : decode m_M_wrong.2.1 18 = .ok (.putfield 105, 3) := by decide +kernel
theorem d_M_wrong_21 : decode m_M_wrong.2.1 21 = .ok (.return_, 1) := by decide +kernel
theorem d_M_goOn_0 : decode m_M_goOn.2.1 0 = .ok (.aload_n 0, 1) := by decide +kernel
theorem d_M_goOn_1 : decode m_M_goOn.2.1 1 = .ok (.getfield 102, 3) := by decide +kernel
theorem d_M_goOn_4 : decode m_M_goOn.2.1 4 = .ok (.ifCond .ne 7, 3) := by decide +kernel
theorem d_M_goOn_7 : decode m_M_goOn.2.1 7 = .ok (.aload_n 0, 1) := by decide +kernel
theorem d_M_goOn_8 : decode m_M_goOn.2.1 8 = .ok (.invokevirtual 108, 3) := by decide +kernel
theorem d_M_goOn_11 : decode m_M_goOn.2.1 11 = .ok (.return_, 1) := by decide +kernel
theorem d_M_numeral_0 : decode m_M_numeral.2.1 0 = .ok (.aload_n 0, 1) := by decide +kernel
theorem d_M_numeral_1 : decode m_M_numeral.2.1 1 = .ok (.getfield 102, 3) := by decide +kernel
theorem d_M_numeral_4 : decode m_M_numeral.2.1 4 = .ok (.ifCond .eq 5, 3) := by decide +kernel
theorem d_M_numeral_7 : decode m_M_numeral.2.1 7 = .ok (.iload_n 1, 1) := by decide +kernel
theorem d_M_numeral_8 : decode m_M_numeral.2.1 8 = .ok (.ireturn, 1) := by decide +kernel
theorem d_M_numeral_9 : decode m_M_numeral.2.1 9 = .ok (.aload_n 0, 1) := by decide +kernel
theorem d_M_numeral_10 : decode m_M_numeral.2.1 10 = .ok (.getfield 74, 3) := by decide +kernel
theorem d_M_numeral_13 : decode m_M_numeral.2.1 13 = .ok (.iconst 1, 1) := by decide +kernel
theorem d_M_numeral_14 : decode m_M_numeral.2.1 14 = .ok (.if_icmp .eq 11, 3) := by decide +kernel
theorem d_M_numeral_17 : decode m_M_numeral.2.1 17 = .ok (.aload_n 0, 1) := by decide +kernel
theorem d_M_numeral_18 : decode m_M_numeral.2.1 18 = .ok (.iconst 1, 1) := by decide +kernel
theorem d_M_numeral_19 : decode m_M_numeral.2.1 19 = .ok (.invokevirtual 111, 3) := by decide +kernel
theorem d_M_numeral_22 : decode m_M_numeral.2.1 22 = .ok (.goto 24, 3) := by decide +kernel
theorem d_M_numeral_25 : decode m_M_numeral.2.1 25 = .ok (.aload_n 0, 1) := by decide +kernel
theorem d_M_numeral_26 : decode m_M_numeral.2.1 26 = .ok (.getfield 84, 3) := by decide +kernel
theorem d_M_numeral_29 : decode m_M_numeral.2.1 29 = .ok (.iload_n 1, 1) := by decide +kernel
theorem d_M_numeral_30 : decode m_M_numeral.2.1 30 = .ok (.if_icmp .lt 11, 3) := by decide +kernel
theorem d_M_numeral_33 : decode m_M_numeral.2.1 33 = .ok (.aload_n 0, 1) := by decide +kernel
theorem d_M_numeral_34 : decode m_M_numeral.2.1 34 = .ok (.getfield 84, 3) := by decide +kernel
theorem d_M_numeral_37 : decode m_M_numeral.2.1 37 = .ok (.iload_n 2, 1) := by decide +kernel
theorem d_M_numeral_38 : decode m_M_numeral.2.1 38 = .ok (.if_icmp .le 8, 3) := by decide +kernel
theorem d_M_numeral_41 : decode m_M_numeral.2.1 41 = .ok (.aload_n 0, 1) := by decide +kernel
theorem d_M_numeral_42 : decode m_M_numeral.2.1 42 = .ok (.iconst 2, 1) := by decide +kernel
theorem d_M_numeral_43 : decode m_M_numeral.2.1 43 = .ok (.invokevirtual 111, 3) := by decide +kernel
theorem d_M_numeral_46 : decode m_M_numeral.2.1 46 = .ok (.aload_n 0, 1) := by decide +kernel
theorem d_M_numeral_47 : decode m_M_numeral.2.1 47 = .ok (.getfield 102, 3) := by decide +kernel
theorem d_M_numeral_50 : decode m_M_numeral.2.1 50 = .ok (.ifCond .ne 10, 3) := by decide +kernel
theorem d_M_numeral_53 : decode m_M_numeral.2.1 53 = .ok (.aload_n 0, 1) := by decide +kernel
theorem d_M_numeral_54 : decode m_M_numeral.2.1 54 = .ok (.getfield 84, 3) := by decide +kernel
theorem d_M_numeral_57 : decode m_M_numeral.2.1 57 = .ok (.goto 4, 3) := by decide +kernel
theorem d_M_numeral_60 : decode m_M_numeral.2.1 60 = .ok (.iload_n 1, 1) := by decide +kernel
theorem d_M_numeral_61 : decode m_M_numeral.2.1 61 = .ok (.istore_n 3, 1) := by decide +kernel
theorem d_M_numeral_62 : decode m_M_numeral.2.1 62 = .ok (.aload_n 0, 1) := by decide +kernel
theorem d_M_numeral_63 : decode m_M_numeral.2.1 63 = .ok (.invokevirtual 115, 3) := by decide +kernel
theorem d_M_numeral_66 : decode m_M_numeral.2.1 66 = .ok (.iload_n 3, 1) := by decide +kernel
theorem d_M_numeral_67 : decode m_M_numeral.2.1 67 = .ok (.ireturn, 1) := by decide +kernel
theorem d_M_leastOf_0 : decode m_M_leastOf.2.1 0 = .ok (.iload_n 0, 1) := by decide +kernel
theorem d_M_leastOf_1 : decode m_M_leastOf.2.1 1 = .ok (.tableswitch 104 0 18 #[91, 104, 95, 95, 104, 99, 104, 99, 99, 104, 99, 99, 99, 99, 101, 104, 104, 104, 99], 91) := by decide +kernel
theorem d_M_leastOf_92 : decode m_M_leastOf.2.1 92 = .ok (.sipush 1000, 3) := by decide +kernel
theorem d_M_leastOf_95 : decode m_M_leastOf.2.1 95 = .ok (.ireturn, 1) := by decide +kernel
theorem d_M_leastOf_96 : decode m_M_leastOf.2.1 96 = .ok (.sipush 1100, 3) := by decide +kernel
theorem d_M_leastOf_99 : decode m_M_leastOf.2.1 99 = .ok (.ireturn, 1) := by decide +kernel
theorem d_M_leastOf_100 : decode m_M_leastOf.2.1 100 = .ok (.iconst 1, 1) := by decide +kernel
theorem d_M_leastOf_101 : decode m_M_leastOf.2.1 101 = .ok (.ireturn, 1) := by decide +kernel
theorem d_M_leastOf_102 : decode m_M_leastOf.2.1 102 = .ok (.bipush 10, 2) := by decide +kernel
theorem d_M_leastOf_104 : decode m_M_leastOf.2.1 104 = .ok (.ireturn, 1) := by decide +kernel
theorem d_M_leastOf_105 : decode m_M_leastOf.2.1 105 = .ok (.iconst 0, 1) := by decide +kernel
theorem d_M_leastOf_106 : decode m_M_leastOf.2.1 106 = .ok (.ireturn, 1) := by decide +kernel
theorem d_M_mostOf_0 : decode m_M_mostOf.2.1 0 = .ok (.iload_n 0, 1) := by decide +kernel
theorem d_M_mostOf_1 : decode m_M_mostOf.2.1 1 = .ok (.tableswitch 135 0 18 #[91, 94, 98, 135, 102, 105, 91, 109, 113, 116, 120, 91, 123, 126, 105, 129, 102, 133, 120], 91) := by decide +kernel
theorem d_M_mostOf_92 : decode m_M_mostOf.2.1 92 = .ok (.ldc 90, 2) := by decide +kernel
theorem d_M_mostOf_94 : decode m_M_mostOf.2.1 94 = .ok (.ireturn, 1) := by decide +kernel
theorem d_M_mostOf_95 : decode m_M_mostOf.2.1 95 = .ok (.sipush 999, 3) := by decide +kernel
theorem d_M_mostOf_98 : decode m_M_mostOf.2.1 98 = .ok (.ireturn, 1) := by decide +kernel
theorem d_M_mostOf_99 : decode m_M_mostOf.2.1 99 = .ok (.sipush 2000, 3) := by decide +kernel
theorem d_M_mostOf_102 : decode m_M_mostOf.2.1 102 = .ok (.ireturn, 1) := by decide +kernel
theorem d_M_mostOf_103 : decode m_M_mostOf.2.1 103 = .ok (.bipush 100, 2) := by decide +kernel
theorem d_M_mostOf_105 : decode m_M_mostOf.2.1 105 = .ok (.ireturn, 1) := by decide +kernel
theorem d_M_mostOf_106 : decode m_M_mostOf.2.1 106 = .ok (.sipush 200, 3) := by decide +kernel
theorem d_M_mostOf_109 : decode m_M_mostOf.2.1 109 = .ok (.ireturn, 1) := by decide +kernel
theorem d_M_mostOf_110 : decode m_M_mostOf.2.1 110 = .ok (.sipush 5000, 3) := by decide +kernel
theorem d_M_mostOf_113 : decode m_M_mostOf.2.1 113 = .ok (.ireturn, 1) := by decide +kernel
theorem d_M_mostOf_114 : decode m_M_mostOf.2.1 114 = .ok (.bipush 20, 2) := by decide +kernel
theorem d_M_mostOf_116 : decode m_M_mostOf.2.1 116 = .ok (.ireturn, 1) := by decide +kernel
theorem d_M_mostOf_117 : decode m_M_mostOf.2.1 117 = .ok (.sipush 1000, 3) := by decide +kernel
theorem d_M_mostOf_120 : decode m_M_mostOf.2.1 120 = .ok (.ireturn, 1) := by decide +kernel
theorem d_M_mostOf_121 : decode m_M_mostOf.2.1 121 = .ok (.bipush 99, 2) := by decide +kernel
theorem d_M_mostOf_123 : decode m_M_mostOf.2.1 123 = .ok (.ireturn, 1) := by decide +kernel
theorem d_M_mostOf_124 : decode m_M_mostOf.2.1 124 = .ok (.bipush 64, 2) := by decide +kernel
theorem d_M_mostOf_126 : decode m_M_mostOf.2.1 126 = .ok (.ireturn, 1) := by decide +kernel
theorem d_M_mostOf_127 : decode m_M_mostOf.2.1 127 = .ok (.bipush 9, 2) := by decide +kernel
theorem d_M_mostOf_129 : decode m_M_mostOf.2.1 129 = .ok (.ireturn, 1) := by decide +kernel
theorem d_M_mostOf_130 : decode m_M_mostOf.2.1 130 = .ok (.sipush 500, 3) := by decide +kernel
theorem d_M_mostOf_133 : decode m_M_mostOf.2.1 133 = .ok (.ireturn, 1) := by decide +kernel
theorem d_M_mostOf_134 : decode m_M_mostOf.2.1 134 = .ok (.iconst 2, 1) := by decide +kernel
theorem d_M_mostOf_135 : decode m_M_mostOf.2.1 135 = .ok (.ireturn, 1) := by decide +kernel
theorem d_M_mostOf_136 : decode m_M_mostOf.2.1 136 = .ok (.iconst 0, 1) := by decide +kernel
theorem d_M_mostOf_137 : decode m_M_mostOf.2.1 137 = .ok (.ireturn, 1) := by decide +kernel
theorem d_M_tells_0 : decode m_M_tells.2.1 0 = .ok (.iload_n 1, 1) := by decide +kernel
theorem d_M_tells_1 : decode m_M_tells.2.1 1 = .ok (.istore_n 3, 1) := by decide +kernel
theorem d_M_tells_2 : decode m_M_tells.2.1 2 = .ok (.iload_n 3, 1) := by decide +kernel
theorem d_M_tells_3 : decode m_M_tells.2.1 3 = .ok (.iload_n 2, 1) := by decide +kernel
theorem d_M_tells_4 : decode m_M_tells.2.1 4 = .ok (.if_icmp .gt 27, 3) := by decide +kernel
theorem d_M_tells_7 : decode m_M_tells.2.1 7 = .ok (.aload_n 0, 1) := by decide +kernel
theorem d_M_tells_8 : decode m_M_tells.2.1 8 = .ok (.getfield 13, 3) := by decide +kernel
theorem d_M_tells_11 : decode m_M_tells.2.1 11 = .ok (.iload_n 3, 1) := by decide +kernel
theorem d_M_tells_12 : decode m_M_tells.2.1 12 = .ok (.aload_n 0, 1) := by decide +kernel
theorem d_M_tells_13 : decode m_M_tells.2.1 13 = .ok (.iload_n 3, 1) := by decide +kernel
theorem d_M_tells_14 : decode m_M_tells.2.1 14 = .ok (.invokestatic 118, 3) := by decide +kernel
theorem d_M_tells_17 : decode m_M_tells.2.1 17 = .ok (.iload_n 3, 1) := by decide +kernel
theorem d_M_tells_18 : decode m_M_tells.2.1 18 = .ok (.invokestatic 122, 3) := by decide +kernel
theorem d_M_tells_21 : decode m_M_tells.2.1 21 = .ok (.invokevirtual 125, 3) := by decide +kernel
theorem d_M_tells_24 : decode m_M_tells.2.1 24 = .ok (.iastore, 1) := by decide +kernel
theorem d_M_tells_25 : decode m_M_tells.2.1 25 = .ok (.iinc 3 1, 3) := by decide +kernel
theorem d_M_tells_28 : decode m_M_tells.2.1 28 = .ok (.goto (-26), 3) := by decide +kernel
theorem d_M_tells_31 : decode m_M_tells.2.1 31 = .ok (.return_, 1) := by decide +kernel
theorem d_M_readOther_0 : decode m_M_readOther.2.1 0 = .ok (.aload_n 0, 1) := by decide +kernel
theorem d_M_readOther_1 : decode m_M_readOther.2.1 1 = .ok (.getfield 129, 3) := by decide +kernel
theorem d_M_readOther_4 : decode m_M_readOther.2.1 4 = .ok (.ifCond .eq 10, 3) := by decide +kernel
theorem d_M_readOther_7 : decode m_M_readOther.2.1 7 = .ok (.aload_n 0, 1) := by decide +kernel
theorem d_M_readOther_8 : decode m_M_readOther.2.1 8 = .ok (.getfield 132, 3) := by decide +kernel
theorem d_M_readOther_11 : decode m_M_readOther.2.1 11 = .ok (.ifCond .le 11, 3) := by decide +kernel
theorem d_M_readOther_14 : decode m_M_readOther.2.1 14 = .ok (.aload_n 0, 1) := by decide +kernel
theorem d_M_readOther_15 : decode m_M_readOther.2.1 15 = .ok (.iconst 1, 1) := by decide +kernel
theorem d_M_readOther_16 : decode m_M_readOther.2.1 16 = .ok (.invokevirtual 111, 3) := by decide +kernel
theorem d_M_readOther_19 : decode m_M_readOther.2.1 19 = .ok (.goto 17, 3) := by decide +kernel
theorem d_M_readOther_22 : decode m_M_readOther.2.1 22 = .ok (.aload_n 0, 1) := by decide +kernel
theorem d_M_readOther_23 : decode m_M_readOther.2.1 23 = .ok (.getfield 16, 3) := by decide +kernel
theorem d_M_readOther_26 : decode m_M_readOther.2.1 26 = .ok (.iload_n 1, 1) := by decide +kernel
theorem d_M_readOther_27 : decode m_M_readOther.2.1 27 = .ok (.baload, 1) := by decide +kernel
theorem d_M_readOther_28 : decode m_M_readOther.2.1 28 = .ok (.ifCond .eq 8, 3) := by decide +kernel
theorem d_M_readOther_31 : decode m_M_readOther.2.1 31 = .ok (.aload_n 0, 1) := by decide +kernel
theorem d_M_readOther_32 : decode m_M_readOther.2.1 32 = .ok (.iconst 3, 1) := by decide +kernel
theorem d_M_readOther_33 : decode m_M_readOther.2.1 33 = .ok (.invokevirtual 111, 3) := by decide +kernel
theorem d_M_readOther_36 : decode m_M_readOther.2.1 36 = .ok (.aload_n 0, 1) := by decide +kernel
theorem d_M_readOther_37 : decode m_M_readOther.2.1 37 = .ok (.getfield 16, 3) := by decide +kernel
theorem d_M_readOther_40 : decode m_M_readOther.2.1 40 = .ok (.iload_n 1, 1) := by decide +kernel
theorem d_M_readOther_41 : decode m_M_readOther.2.1 41 = .ok (.iconst 1, 1) := by decide +kernel
theorem d_M_readOther_42 : decode m_M_readOther.2.1 42 = .ok (.bastore, 1) := by decide +kernel
theorem d_M_readOther_43 : decode m_M_readOther.2.1 43 = .ok (.aload_n 0, 1) := by decide +kernel
theorem d_M_readOther_44 : decode m_M_readOther.2.1 44 = .ok (.dup, 1) := by decide +kernel
theorem d_M_readOther_45 : decode m_M_readOther.2.1 45 = .ok (.getfield 135, 3) := by decide +kernel
theorem d_M_readOther_48 : decode m_M_readOther.2.1 48 = .ok (.iconst 1, 1) := by decide +kernel
theorem d_M_readOther_49 : decode m_M_readOther.2.1 49 = .ok (.iadd, 1) := by decide +kernel
theorem d_M_readOther_50 : decode m_M_readOther.2.1 50 = .ok (.putfield 135, 3) := by decide +kernel
theorem d_M_readOther_53 : decode m_M_readOther.2.1 53 = .ok (.aload_n 0, 1) := by decide +kernel
theorem d_M_readOther_54 : decode m_M_readOther.2.1 54 = .ok (.invokevirtual 115, 3) := by decide +kernel
theorem d_M_readOther_57 : decode m_M_readOther.2.1 57 = .ok (.iload_n 1, 1) := by decide +kernel
theorem d_M_readOther_58 : decode m_M_readOther.2.1 58 = .ok (.ifCond .ne 45, 3) := by decide +kernel
theorem d_M_readOther_61 : decode m_M_readOther.2.1 61 = .ok (.aload_n 0, 1) := by decide +kernel
theorem d_M_readOther_62 : decode m_M_readOther.2.1 62 = .ok (.getfield 13, 3) := by decide +kernel
theorem d_M_readOther_65 : decode m_M_readOther.2.1 65 = .ok (.iconst 0, 1) := by decide +kernel
theorem d_M_readOther_66 : decode m_M_readOther.2.1 66 = .ok (.aload_n 0, 1) := by decide +kernel
theorem d_M_readOther_67 : decode m_M_readOther.2.1 67 = .ok (.iconst 0, 1) := by decide +kernel
theorem d_M_readOther_68 : decode m_M_readOther.2.1 68 = .ok (.invokestatic 118, 3) := by decide +kernel
theorem d_M_readOther_71 : decode m_M_readOther.2.1 71 = .ok (.iconst 0, 1) := by decide +kernel
theorem d_M_readOther_72 : decode m_M_readOther.2.1 72 = .ok (.invokestatic 122, 3) := by decide +kernel
theorem d_M_readOther_75 : decode m_M_readOther.2.1 75 = .ok (.invokevirtual 125, 3) := by decide +kernel
theorem d_M_readOther_78 : decode m_M_readOther.2.1 78 = .ok (.iastore, 1) := by decide +kernel
theorem d_M_readOther_79 : decode m_M_readOther.2.1 79 = .ok (.aload_n 0, 1) := by decide +kernel
theorem d_M_readOther_80 : decode m_M_readOther.2.1 80 = .ok (.aload_n 0, 1) := by decide +kernel
theorem d_M_readOther_81 : decode m_M_readOther.2.1 81 = .ok (.iconst 0, 1) := by decide +kernel
theorem d_M_readOther_82 : decode m_M_readOther.2.1 82 = .ok (.aload_n 0, 1) := by decide +kernel
theorem d_M_readOther_83 : decode m_M_readOther.2.1 83 = .ok (.getfield 13, 3) := by decide +kernel
theorem d_M_readOther_86 : decode m_M_readOther.2.1 86 = .ok (.iconst 0, 1) := by decide +kernel
theorem d_M_readOther_87 : decode m_M_readOther.2.1 87 = .ok (.iaload, 1) := by decide +kernel
theorem d_M_readOther_88 : decode m_M_readOther.2.1 88 = .ok (.invokevirtual 125, 3) := by decide +kernel
theorem d_M_readOther_91 : decode m_M_readOther.2.1 91 = .ok (.putfield 138, 3) := by decide +kernel
theorem d_M_readOther_94 : decode m_M_readOther.2.1 94 = .ok (.aload_n 0, 1) := by decide +kernel
theorem d_M_readOther_95 : decode m_M_readOther.2.1 95 = .ok (.iconst 1, 1) := by decide +kernel
theorem d_M_readOther_96 : decode m_M_readOther.2.1 96 = .ok (.iconst 1, 1) := by decide +kernel
theorem d_M_readOther_97 : decode m_M_readOther.2.1 97 = .ok (.invokevirtual 141, 3) := by decide +kernel
theorem d_M_readOther_100 : decode m_M_readOther.2.1 100 = .ok (.goto 83, 3) := by decide +kernel
theorem d_M_readOther_103 : decode m_M_readOther.2.1 103 = .ok (.iload_n 1, 1) := by decide +kernel
theorem d_M_readOther_104 : decode m_M_readOther.2.1 104 = .ok (.iconst 1, 1) := by decide +kernel
theorem d_M_readOther_105 : decode m_M_readOther.2.1 105 = .ok (.if_icmp .ne 38, 3) := by decide +kernel
theorem d_M_readOther_108 : decode m_M_readOther.2.1 108 = .ok (.aload_n 0, 1) := by decide +kernel
theorem d_M_readOther_109 : decode m_M_readOther.2.1 109 = .ok (.iconst 2, 1) := by decide +kernel
theorem d_M_readOther_110 : decode m_M_readOther.2.1 110 = .ok (.iconst 2, 1) := by decide +kernel
theorem d_M_readOther_111 : decode m_M_readOther.2.1 111 = .ok (.invokevirtual 141, 3) := by decide +kernel
theorem d_M_readOther_114 : decode m_M_readOther.2.1 114 = .ok (.aload_n 0, 1) := by decide +kernel
theorem d_M_readOther_115 : decode m_M_readOther.2.1 115 = .ok (.getfield 13, 3) := by decide +kernel
theorem d_M_readOther_118 : decode m_M_readOther.2.1 118 = .ok (.iconst 3, 1) := by decide +kernel
theorem d_M_readOther_119 : decode m_M_readOther.2.1 119 = .ok (.aload_n 0, 1) := by decide +kernel
theorem d_M_readOther_120 : decode m_M_readOther.2.1 120 = .ok (.sipush 1100, 3) := by decide +kernel
theorem d_M_readOther_123 : decode m_M_readOther.2.1 123 = .ok (.aload_n 0, 1) := by decide +kernel
theorem d_M_readOther_124 : decode m_M_readOther.2.1 124 = .ok (.getfield 13, 3) := by decide +kernel
theorem d_M_readOther_127 : decode m_M_readOther.2.1 127 = .ok (.iconst 2, 1) := by decide +kernel
theorem d_M_readOther_128 : decode m_M_readOther.2.1 128 = .ok (.iaload, 1) := by decide +kernel
theorem d_M_readOther_129 : decode m_M_readOther.2.1 129 = .ok (.invokevirtual 125, 3) := by decide +kernel
theorem d_M_readOther_132 : decode m_M_readOther.2.1 132 = .ok (.iastore, 1) := by decide +kernel
theorem d_M_readOther_133 : decode m_M_readOther.2.1 133 = .ok (.aload_n 0, 1) := by decide +kernel
theorem d_M_readOther_134 : decode m_M_readOther.2.1 134 = .ok (.iconst 4, 1) := by decide +kernel
theorem d_M_readOther_135 : decode m_M_readOther.2.1 135 = .ok (.bipush 6, 2) := by decide +kernel
theorem d_M_readOther_137 : decode m_M_readOther.2.1 137 = .ok (.invokevirtual 141, 3) := by decide +kernel
theorem d_M_readOther_140 : decode m_M_readOther.2.1 140 = .ok (.goto 43, 3) := by decide +kernel
theorem d_M_readOther_143 : decode m_M_readOther.2.1 143 = .ok (.iload_n 1, 1) := by decide +kernel
theorem d_M_readOther_144 : decode m_M_readOther.2.1 144 = .ok (.iconst 2, 1) := by decide +kernel
theorem d_M_readOther_145 : decode m_M_readOther.2.1 145 = .ok (.if_icmp .ne 14, 3) := by decide +kernel
theorem d_M_readOther_148 : decode m_M_readOther.2.1 148 = .ok (.aload_n 0, 1) := by decide +kernel
theorem d_M_readOther_149 : decode m_M_readOther.2.1 149 = .ok (.bipush 7, 2) := by decide +kernel
theorem d_M_readOther_151 : decode m_M_readOther.2.1 151 = .ok (.bipush 11, 2) := by decide +kernel
theorem d_M_readOther_153 : decode m_M_readOther.2.1 153 = .ok (.invokevirtual 141, 3) := by decide +kernel
theorem d_M_readOther_156 : decode m_M_readOther.2.1 156 = .ok (.goto 27, 3) := by decide +kernel
theorem d_M_readOther_159 : decode m_M_readOther.2.1 159 = .ok (.iload_n 1, 1) := by decide +kernel
theorem d_M_readOther_160 : decode m_M_readOther.2.1 160 = .ok (.iconst 3, 1) := by decide +kernel
theorem d_M_readOther_161 : decode m_M_readOther.2.1 161 = .ok (.if_icmp .ne 14, 3) := by decide +kernel
theorem d_M_readOther_164 : decode m_M_readOther.2.1 164 = .ok (.aload_n 0, 1) := by decide +kernel
theorem d_M_readOther_165 : decode m_M_readOther.2.1 165 = .ok (.bipush 12, 2) := by decide +kernel
theorem d_M_readOther_167 : decode m_M_readOther.2.1 167 = .ok (.bipush 16, 2) := by decide +kernel
theorem d_M_readOther_169 : decode m_M_readOther.2.1 169 = .ok (.invokevirtual 141, 3) := by decide +kernel
theorem d_M_readOther_172 : decode m_M_readOther.2.1 172 = .ok (.goto 11, 3) := by decide +kernel
theorem d_M_readOther_175 : decode m_M_readOther.2.1 175 = .ok (.aload_n 0, 1) := by decide +kernel
theorem d_M_readOther_176 : decode m_M_readOther.2.1 176 = .ok (.bipush 17, 2) := by decide +kernel
theorem d_M_readOther_178 : decode m_M_readOther.2.1 178 = .ok (.bipush 18, 2) := by decide +kernel
theorem d_M_readOther_180 : decode m_M_readOther.2.1 180 = .ok (.invokevirtual 141, 3) := by decide +kernel
theorem d_M_readOther_183 : decode m_M_readOther.2.1 183 = .ok (.return_, 1) := by decide +kernel
theorem d_M_readModule_0 : decode m_M_readModule.2.1 0 = .ok (.aload_n 0, 1) := by decide +kernel
theorem d_M_readModule_1 : decode m_M_readModule.2.1 1 = .ok (.getfield 135, 3) := by decide +kernel
theorem d_M_readModule_4 : decode m_M_readModule.2.1 4 = .ok (.ifCond .gt 10, 3) := by decide +kernel
theorem d_M_readModule_7 : decode m_M_readModule.2.1 7 = .ok (.aload_n 0, 1) := by decide +kernel
theorem d_M_readModule_8 : decode m_M_readModule.2.1 8 = .ok (.getfield 132, 3) := by decide +kernel
theorem d_M_readModule_11 : decode m_M_readModule.2.1 11 = .ok (.ifCond .le 11, 3) := by decide +kernel
theorem d_M_readModule_14 : decode m_M_readModule.2.1 14 = .ok (.aload_n 0, 1) := by decide +kernel
theorem d_M_readModule_15 : decode m_M_readModule.2.1 15 = .ok (.iconst 1, 1) := by decide +kernel
theorem d_M_readModule_16 : decode m_M_readModule.2.1 16 = .ok (.invokevirtual 111, 3) := by decide +kernel
theorem d_M_readModule_19 : decode m_M_readModule.2.1 19 = .ok (.goto 17, 3) := by decide +kernel
theorem d_M_readModule_22 : decode m_M_readModule.2.1 22 = .ok (.aload_n 0, 1) := by decide +kernel
theorem d_M_readModule_23 : decode m_M_readModule.2.1 23 = .ok (.getfield 129, 3) := by decide +kernel
theorem d_M_readModule_26 : decode m_M_readModule.2.1 26 = .ok (.bipush 6, 2) := by decide +kernel
theorem d_M_readModule_28 : decode m_M_readModule.2.1 28 = .ok (.if_icmp .ne 8, 3) := by decide +kernel
theorem d_M_readModule_31 : decode m_M_readModule.2.1 31 = .ok (.aload_n 0, 1) := by decide +kernel
theorem d_M_readModule_32 : decode m_M_readModule.2.1 32 = .ok (.iconst 2, 1) := by decide +kernel
theorem d_M_readModule_33 : decode m_M_readModule.2.1 33 = .ok (.invokevirtual 111, 3) := by decide +kernel
theorem d_M_readModule_36 : decode m_M_readModule.2.1 36 = .ok (.aload_n 0, 1) := by decide +kernel
theorem d_M_readModule_37 : decode m_M_readModule.2.1 37 = .ok (.invokevirtual 115, 3) := by decide +kernel
theorem d_M_readModule_40 : decode m_M_readModule.2.1 40 = .ok (.aload_n 0, 1) := by decide +kernel
theorem d_M_readModule_41 : decode m_M_readModule.2.1 41 = .ok (.iconst 1, 1) := by decide +kernel
theorem d_M_readModule_42 : decode m_M_readModule.2.1 42 = .ok (.sipush 999, 3) := by decide +kernel
theorem d_M_readModule_45 : decode m_M_readModule.2.1 45 = .ok (.invokevirtual 125, 3) := by decide +kernel
theorem d_M_readModule_48 : decode m_M_readModule.2.1 48 = .ok (.istore_n 1, 1) := by decide +kernel
theorem d_M_readModule_49 : decode m_M_readModule.2.1 49 = .ok (.aload_n 0, 1) := by decide +kernel
theorem d_M_readModule_50 : decode m_M_readModule.2.1 50 = .ok (.iconst 1, 1) := by decide +kernel
theorem d_M_readModule_51 : decode m_M_readModule.2.1 51 = .ok (.sipush 999, 3) := by decide +kernel
theorem d_M_readModule_54 : decode m_M_readModule.2.1 54 = .ok (.invokevirtual 125, 3) := by decide +kernel
theorem d_M_readModule_57 : decode m_M_readModule.2.1 57 = .ok (.istore_n 2, 1) := by decide +kernel
theorem d_M_readModule_58 : decode m_M_readModule.2.1 58 = .ok (.aload_n 0, 1) := by decide +kernel
theorem d_M_readModule_59 : decode m_M_readModule.2.1 59 = .ok (.getfield 102, 3) := by decide +kernel
theorem d_M_readModule_62 : decode m_M_readModule.2.1 62 = .ok (.ifCond .eq 4, 3) := by decide +kernel
theorem d_M_readModule_65 : decode m_M_readModule.2.1 65 = .ok (.return_, 1) := by decide +kernel
theorem d_M_readModule_66 : decode m_M_readModule.2.1 66 = .ok (.aload_n 0, 1) := by decide +kernel
theorem d_M_readModule_67 : decode m_M_readModule.2.1 67 = .ok (.getfield 20, 3) := by decide +kernel
theorem d_M_readModule_70 : decode m_M_readModule.2.1 70 = .ok (.bipush 6, 2) := by decide +kernel
theorem d_M_readModule_72 : decode m_M_readModule.2.1 72 = .ok (.aload_n 0, 1) := by decide +kernel
theorem d_M_readModule_73 : decode m_M_readModule.2.1 73 = .ok (.getfield 129, 3) := by decide +kernel
theorem d_M_readModule_76 : decode m_M_readModule.2.1 76 = .ok (.iadd, 1) := by decide +kernel
theorem d_M_readModule_77 : decode m_M_readModule.2.1 77 = .ok (.iload_n 1, 1) := by decide +kernel
theorem d_M_readModule_78 : decode m_M_readModule.2.1 78 = .ok (.iastore, 1) := by decide +kernel
theorem d_M_readModule_79 : decode m_M_readModule.2.1 79 = .ok (.aload_n 0, 1) := by decide +kernel
theorem d_M_readModule_80 : decode m_M_readModule.2.1 80 = .ok (.getfield 23, 3) := by decide +kernel
theorem d_M_readModule_83 : decode m_M_readModule.2.1 83 = .ok (.bipush 6, 2) := by decide +kernel
theorem d_M_readModule_85 : decode m_M_readModule.2.1 85 = .ok (.aload_n 0, 1) := by decide +kernel
theorem d_M_readModule_86 : decode m_M_readModule.2.1 86 = .ok (.getfield 129, 3) := by decide +kernel
theorem d_M_readModule_89 : decode m_M_readModule.2.1 89 = .ok (.iadd, 1) := by decide +kernel
theorem d_M_readModule_90 : decode m_M_readModule.2.1 90 = .ok (.iload_n 2, 1) := by decide +kernel
theorem d_M_readModule_91 : decode m_M_readModule.2.1 91 = .ok (.iastore, 1) := by decide +kernel
theorem d_M_readModule_92 : decode m_M_readModule.2.1 92 = .ok (.aload_n 0, 1) := by decide +kernel
theorem d_M_readModule_93 : decode m_M_readModule.2.1 93 = .ok (.dup, 1) := by decide +kernel
theorem d_M_readModule_94 : decode m_M_readModule.2.1 94 = .ok (.getfield 129, 3) := by decide +kernel
theorem d_M_readModule_97 : decode m_M_readModule.2.1 97 = .ok (.iconst 1, 1) := by decide +kernel
theorem d_M_readModule_98 : decode m_M_readModule.2.1 98 = .ok (.iadd, 1) := by decide +kernel
theorem d_M_readModule_99 : decode m_M_readModule.2.1 99 = .ok (.putfield 129, 3) := by decide +kernel
theorem d_M_readModule_102 : decode m_M_readModule.2.1 102 = .ok (.return_, 1) := by decide +kernel
theorem d_M_readAt_0 : decode m_M_readAt.2.1 0 = .ok (.aload_n 0, 1) := by decide +kernel
theorem d_M_readAt_1 : decode m_M_readAt.2.1 1 = .ok (.getfield 129, 3) := by decide +kernel
theorem d_M_readAt_4 : decode m_M_readAt.2.1 4 = .ok (.ifCond .ne 11, 3) := by decide +kernel
theorem d_M_readAt_7 : decode m_M_readAt.2.1 7 = .ok (.aload_n 0, 1) := by decide +kernel
theorem d_M_readAt_8 : decode m_M_readAt.2.1 8 = .ok (.iconst 1, 1) := by decide +kernel
theorem d_M_readAt_9 : decode m_M_readAt.2.1 9 = .ok (.invokevirtual 111, 3) := by decide +kernel
theorem d_M_readAt_12 : decode m_M_readAt.2.1 12 = .ok (.goto 17, 3) := by decide +kernel
theorem d_M_readAt_15 : decode m_M_readAt.2.1 15 = .ok (.aload_n 0, 1) := by decide +kernel
theorem d_M_readAt_16 : decode m_M_readAt.2.1 16 = .ok (.getfield 132, 3) := by decide +kernel
theorem d_M_readAt_19 : decode m_M_readAt.2.1 19 = .ok (.bipush 24, 2) := by decide +kernel
theorem d_M_readAt_21 : decode m_M_readAt.2.1 21 = .ok (.if_icmp .ne 8, 3) := by decide +kernel
theorem d_M_readAt_24 : decode m_M_readAt.2.1 24 = .ok (.aload_n 0, 1) := by decide +kernel
theorem d_M_readAt_25 : decode m_M_readAt.2.1 25 = .ok (.iconst 2, 1) := by decide +kernel
theorem d_M_readAt_26 : decode m_M_readAt.2.1 26 = .ok (.invokevirtual 111, 3) := by decide +kernel
theorem d_M_readAt_29 : decode m_M_readAt.2.1 29 = .ok (.aload_n 0, 1) := by decide +kernel
theorem d_M_readAt_30 : decode m_M_readAt.2.1 30 = .ok (.invokevirtual 115, 3) := by decide +kernel
theorem d_M_readAt_33 : decode m_M_readAt.2.1 33 = .ok (.aload_n 0, 1) := by decide +kernel
theorem d_M_readAt_34 : decode m_M_readAt.2.1 34 = .ok (.iconst 1, 1) := by decide +kernel
theorem d_M_readAt_35 : decode m_M_readAt.2.1 35 = .ok (.sipush 9999, 3) := by decide +kernel
theorem d_M_readAt_38 : decode m_M_readAt.2.1 38 = .ok (.invokevirtual 125, 3) := by decide +kernel
theorem d_M_readAt_41 : decode m_M_readAt.2.1 41 = .ok (.istore_n 1, 1) := by decide +kernel
theorem d_M_readAt_42 : decode m_M_readAt.2.1 42 = .ok (.aload_n 0, 1) := by decide +kernel
theorem d_M_readAt_43 : decode m_M_readAt.2.1 43 = .ok (.getfield 102, 3) := by decide +kernel
theorem d_M_readAt_46 : decode m_M_readAt.2.1 46 = .ok (.ifCond .eq 4, 3) := by decide +kernel
theorem d_M_readAt_49 : decode m_M_readAt.2.1 49 = .ok (.return_, 1) := by decide +kernel
theorem d_M_readAt_50 : decode m_M_readAt.2.1 50 = .ok (.aload_n 0, 1) := by decide +kernel
theorem d_M_readAt_51 : decode m_M_readAt.2.1 51 = .ok (.getfield 74, 3) := by decide +kernel
theorem d_M_readAt_54 : decode m_M_readAt.2.1 54 = .ok (.ifCond .ne 10, 3) := by decide +kernel
theorem d_M_readAt_57 : decode m_M_readAt.2.1 57 = .ok (.aload_n 0, 1) := by decide +kernel
theorem d_M_readAt_58 : decode m_M_readAt.2.1 58 = .ok (.getfield 84, 3) := by decide +kernel
theorem d_M_readAt_61 : decode m_M_readAt.2.1 61 = .ok (.goto 4, 3) := by decide +kernel
theorem d_M_readAt_64 : decode m_M_readAt.2.1 64 = .ok (.iconst (-1), 1) := by decide +kernel
theorem d_M_readAt_65 : decode m_M_readAt.2.1 65 = .ok (.istore_n 2, 1) := by decide +kernel
theorem d_M_readAt_66 : decode m_M_readAt.2.1 66 = .ok (.iload_n 2, 1) := by decide +kernel
theorem d_M_readAt_67 : decode m_M_readAt.2.1 67 = .ok (.bipush 7, 2) := by decide +kernel
theorem d_M_readAt_69 : decode m_M_readAt.2.1 69 = .ok (.if_icmp .ge 8, 3) := by decide +kernel
theorem d_M_readAt_72 : decode m_M_readAt.2.1 72 = .ok (.aload_n 0, 1) := by decide +kernel
theorem d_M_readAt_73 : decode m_M_readAt.2.1 73 = .ok (.iconst 1, 1) := by decide +kernel
theorem d_M_readAt_74 : decode m_M_readAt.2.1 74 = .ok (.invokevirtual 111, 3) := by decide +kernel
theorem d_M_readAt_77 : decode m_M_readAt.2.1 77 = .ok (.aload_n 0, 1) := by decide +kernel
theorem d_M_readAt_78 : decode m_M_readAt.2.1 78 = .ok (.invokevirtual 115, 3) := by decide +kernel
theorem d_M_readAt_81 : decode m_M_readAt.2.1 81 = .ok (.iload_n 2, 1) := by decide +kernel
theorem d_M_readAt_82 : decode m_M_readAt.2.1 82 = .ok (.bipush 7, 2) := by decide +kernel
theorem d_M_readAt_84 : decode m_M_readAt.2.1 84 = .ok (.if_icmp .ne 17, 3) := by decide +kernel
theorem d_M_readAt_87 : decode m_M_readAt.2.1 87 = .ok (.aload_n 0, 1) := by decide +kernel
theorem d_M_readAt_88 : decode m_M_readAt.2.1 88 = .ok (.iconst 0, 1) := by decide +kernel
theorem d_M_readAt_89 : decode m_M_readAt.2.1 89 = .ok (.aload_n 0, 1) := by decide +kernel
theorem d_M_readAt_90 : decode m_M_readAt.2.1 90 = .ok (.getfield 129, 3) := by decide +kernel
theorem d_M_readAt_93 : decode m_M_readAt.2.1 93 = .ok (.iconst 1, 1) := by decide +kernel
theorem d_M_readAt_94 : decode m_M_readAt.2.1 94 = .ok (.isub, 1) := by decide +kernel
theorem d_M_readAt_95 : decode m_M_readAt.2.1 95 = .ok (.invokevirtual 125, 3) := by decide +kernel
theorem d_M_readAt_98 : decode m_M_readAt.2.1 98 = .ok (.goto 5, 3) := by decide +kernel
theorem d_M_readAt_101 : decode m_M_readAt.2.1 101 = .ok (.bipush (-2), 2) := by decide +kernel
theorem d_M_readAt_103 : decode m_M_readAt.2.1 103 = .ok (.istore_n 3, 1) := by decide +kernel
theorem d_M_readAt_104 : decode m_M_readAt.2.1 104 = .ok (.iload_n 2, 1) := by decide +kernel
theorem d_M_readAt_105 : decode m_M_readAt.2.1 105 = .ok (.bipush 7, 2) := by decide +kernel
theorem d_M_readAt_107 : decode m_M_readAt.2.1 107 = .ok (.if_icmp .ne 13, 3) := by decide +kernel
theorem d_M_readAt_110 : decode m_M_readAt.2.1 110 = .ok (.aload_n 0, 1) := by decide +kernel
theorem d_M_readAt_111 : decode m_M_readAt.2.1 111 = .ok (.iconst 0, 1) := by decide +kernel
theorem d_M_readAt_112 : decode m_M_readAt.2.1 112 = .ok (.bipush 100, 2) := by decide +kernel
theorem d_M_readAt_114 : decode m_M_readAt.2.1 114 = .ok (.invokevirtual 125, 3) := by decide +kernel
theorem d_M_readAt_117 : decode m_M_readAt.2.1 117 = .ok (.goto 26, 3) := by decide +kernel
theorem d_M_readAt_120 : decode m_M_readAt.2.1 120 = .ok (.iload_n 2, 1) := by decide +kernel
theorem d_M_readAt_121 : decode m_M_readAt.2.1 121 = .ok (.bipush 8, 2) := by decide +kernel
theorem d_M_readAt_123 : decode m_M_readAt.2.1 123 = .ok (.if_icmp .ne 12, 3) := by decide +kernel
theorem d_M_readAt_126 : decode m_M_readAt.2.1 126 = .ok (.aload_n 0, 1) := by decide +kernel
theorem d_M_readAt_127 : decode m_M_readAt.2.1 127 = .ok (.iconst 0, 1) := by decide +kernel
theorem d_M_readAt_128 : decode m_M_readAt.2.1 128 = .ok (.iconst 1, 1) := by decide +kernel
theorem d_M_readAt_129 : decode m_M_readAt.2.1 129 = .ok (.invokevirtual 125, 3) := by decide +kernel
theorem d_M_readAt_132 : decode m_M_readAt.2.1 132 = .ok (.goto 11, 3) := by decide +kernel
theorem d_M_readAt_135 : decode m_M_readAt.2.1 135 = .ok (.aload_n 0, 1) := by decide +kernel
theorem d_M_readAt_136 : decode m_M_readAt.2.1 136 = .ok (.ldc 145, 2) := by decide +kernel
theorem d_M_readAt_138 : decode m_M_readAt.2.1 138 = .ok (.ldc 146, 2) := by decide +kernel
theorem d_M_readAt_140 : decode m_M_readAt.2.1 140 = .ok (.invokevirtual 125, 3) := by decide +kernel
theorem d_M_readAt_143 : decode m_M_readAt.2.1 143 = .ok (.istore 4, 2) := by decide +kernel
theorem d_M_readAt_145 : decode m_M_readAt.2.1 145 = .ok (.aload_n 0, 1) := by decide +kernel
theorem d_M_readAt_146 : decode m_M_readAt.2.1 146 = .ok (.getfield 102, 3) := by decide +kernel
theorem d_M_readAt_149 : decode m_M_readAt.2.1 149 = .ok (.ifCond .eq 4, 3) := by decide +kernel
theorem d_M_readAt_152 : decode m_M_readAt.2.1 152 = .ok (.return_, 1) := by decide +kernel
theorem d_M_readAt_153 : decode m_M_readAt.2.1 153 = .ok (.iconst 4, 1) := by decide +kernel
theorem d_M_readAt_154 : decode m_M_readAt.2.1 154 = .ok (.aload_n 0, 1) := by decide +kernel
theorem d_M_readAt_155 : decode m_M_readAt.2.1 155 = .ok (.getfield 132, 3) := by decide +kernel
theorem d_M_readAt_158 : decode m_M_readAt.2.1 158 = .ok (.imul, 1) := by decide +kernel
theorem d_M_readAt_159 : decode m_M_readAt.2.1 159 = .ok (.istore 5, 2) := by decide +kernel
theorem d_M_readAt_161 : decode m_M_readAt.2.1 161 = .ok (.aload_n 0, 1) := by decide +kernel
theorem d_M_readAt_162 : decode m_M_readAt.2.1 162 = .ok (.getfield 26, 3) := by decide +kernel
theorem d_M_readAt_165 : decode m_M_readAt.2.1 165 = .ok (.iload 5, 2) := by decide +kernel
theorem d_M_readAt_167 : decode m_M_readAt.2.1 167 = .ok (.iload_n 1, 1) := by decide +kernel
theorem d_M_readAt_168 : decode m_M_readAt.2.1 168 = .ok (.iastore, 1) := by decide +kernel
theorem d_M_readAt_169 : decode m_M_readAt.2.1 169 = .ok (.aload_n 0, 1) := by decide +kernel
theorem d_M_readAt_170 : decode m_M_readAt.2.1 170 = .ok (.getfield 26, 3) := by decide +kernel
theorem d_M_readAt_173 : decode m_M_readAt.2.1 173 = .ok (.iload 5, 2) := by decide +kernel
theorem d_M_readAt_175 : decode m_M_readAt.2.1 175 = .ok (.iconst 1, 1) := by decide +kernel
theorem d_M_readAt_176 : decode m_M_readAt.2.1 176 = .ok (.iadd, 1) := by decide +kernel
theorem d_M_readAt_177 : decode m_M_readAt.2.1 177 = .ok (.iload_n 2, 1) := by decide +kernel
theorem d_M_readAt_178 : decode m_M_readAt.2.1 178 = .ok (.bipush 7, 2) := by decide +kernel
theorem d_M_readAt_180 : decode m_M_readAt.2.1 180 = .ok (.isub, 1) := by decide +kernel
theorem d_M_readAt_181 : decode m_M_readAt.2.1 181 = .ok (.iastore, 1) := by decide +kernel
theorem d_M_readAt_182 : decode m_M_readAt.2.1 182 = .ok (.aload_n 0, 1) := by decide +kernel
theorem d_M_readAt_183 : decode m_M_readAt.2.1 183 = .ok (.getfield 26, 3) := by decide +kernel
theorem d_M_readAt_186 : decode m_M_readAt.2.1 186 = .ok (.iload 5, 2) := by decide +kernel
theorem d_M_readAt_188 : decode m_M_readAt.2.1 188 = .ok (.iconst 2, 1) := by decide +kernel
theorem d_M_readAt_189 : decode m_M_readAt.2.1 189 = .ok (.iadd, 1) := by decide +kernel
theorem d_M_readAt_190 : decode m_M_readAt.2.1 190 = .ok (.iload_n 3, 1) := by decide +kernel
theorem d_M_readAt_191 : decode m_M_readAt.2.1 191 = .ok (.iastore, 1) := by decide +kernel
theorem d_M_readAt_192 : decode m_M_readAt.2.1 192 = .ok (.aload_n 0, 1) := by decide +kernel
theorem d_M_readAt_193 : decode m_M_readAt.2.1 193 = .ok (.getfield 26, 3) := by decide +kernel
theorem d_M_readAt_196 : decode m_M_readAt.2.1 196 = .ok (.iload 5, 2) := by decide +kernel
theorem d_M_readAt_198 : decode m_M_readAt.2.1 198 = .ok (.iconst 3, 1) := by decide +kernel
theorem d_M_readAt_199 : decode m_M_readAt.2.1 199 = .ok (.iadd, 1) := by decide +kernel
theorem d_M_readAt_200 : decode m_M_readAt.2.1 200 = .ok (.iload 4, 2) := by decide +kernel
theorem d_M_readAt_202 : decode m_M_readAt.2.1 202 = .ok (.iastore, 1) := by decide +kernel
theorem d_M_readAt_203 : decode m_M_readAt.2.1 203 = .ok (.aload_n 0, 1) := by decide +kernel
theorem d_M_readAt_204 : decode m_M_readAt.2.1 204 = .ok (.dup, 1) := by decide +kernel
theorem d_M_readAt_205 : decode m_M_readAt.2.1 205 = .ok (.getfield 132, 3) := by decide +kernel
theorem d_M_readAt_208 : decode m_M_readAt.2.1 208 = .ok (.iconst 1, 1) := by decide +kernel
theorem d_M_readAt_209 : decode m_M_readAt.2.1 209 = .ok (.iadd, 1) := by decide +kernel
theorem d_M_readAt_210 : decode m_M_readAt.2.1 210 = .ok (.putfield 132, 3) := by decide +kernel
theorem d_M_readAt_213 : decode m_M_readAt.2.1 213 = .ok (.return_, 1) := by decide +kernel
theorem d_M_readLine_0 : decode m_M_readLine.2.1 0 = .ok (.aload_n 0, 1) := by decide +kernel
theorem d_M_readLine_1 : decode m_M_readLine.2.1 1 = .ok (.getfield 74, 3) := by decide +kernel
theorem d_M_readLine_4 : decode m_M_readLine.2.1 4 = .ok (.ifCond .eq 11, 3) := by decide +kernel
theorem d_M_readLine_7 : decode m_M_readLine.2.1 7 = .ok (.aload_n 0, 1) := by decide +kernel
theorem d_M_readLine_8 : decode m_M_readLine.2.1 8 = .ok (.iconst 1, 1) := by decide +kernel
theorem d_M_readLine_9 : decode m_M_readLine.2.1 9 = .ok (.invokevirtual 111, 3) := by decide +kernel
theorem d_M_readLine_12 : decode m_M_readLine.2.1 12 = .ok (.goto 58, 3) := by decide +kernel
theorem d_M_readLine_15 : decode m_M_readLine.2.1 15 = .ok (.aload_n 0, 1) := by decide +kernel
theorem d_M_readLine_16 : decode m_M_readLine.2.1 16 = .ok (.getfield 84, 3) := by decide +kernel
theorem d_M_readLine_19 : decode m_M_readLine.2.1 19 = .ok (.iconst 5, 1) := by decide +kernel
theorem d_M_readLine_20 : decode m_M_readLine.2.1 20 = .ok (.if_icmp .ne 10, 3) := by decide +kernel
theorem d_M_readLine_23 : decode m_M_readLine.2.1 23 = .ok (.aload_n 0, 1) := by decide +kernel
theorem d_M_readLine_24 : decode m_M_readLine.2.1 24 = .ok (.invokevirtual 147, 3) := by decide +kernel
theorem d_M_readLine_27 : decode m_M_readLine.2.1 27 = .ok (.goto 43, 3) := by decide +kernel
theorem d_M_readLine_30 : decode m_M_readLine.2.1 30 = .ok (.aload_n 0, 1) := by decide +kernel
theorem d_M_readLine_31 : decode m_M_readLine.2.1 31 = .ok (.getfield 84, 3) := by decide +kernel
theorem d_M_readLine_34 : decode m_M_readLine.2.1 34 = .ok (.bipush 6, 2) := by decide +kernel
theorem d_M_readLine_36 : decode m_M_readLine.2.1 36 = .ok (.if_icmp .ne 10, 3) := by decide +kernel
theorem d_M_readLine_39 : decode m_M_readLine.2.1 39 = .ok (.aload_n 0, 1) := by decide +kernel
theorem d_M_readLine_40 : decode m_M_readLine.2.1 40 = .ok (.invokevirtual 150, 3) := by decide +kernel
theorem d_M_readLine_43 : decode m_M_readLine.2.1 43 = .ok (.goto 27, 3) := by decide +kernel
theorem d_M_readLine_46 : decode m_M_readLine.2.1 46 = .ok (.aload_n 0, 1) := by decide +kernel
theorem d_M_readLine_47 : decode m_M_readLine.2.1 47 = .ok (.getfield 84, 3) := by decide +kernel
theorem d_M_readLine_50 : decode m_M_readLine.2.1 50 = .ok (.iconst 4, 1) := by decide +kernel
theorem d_M_readLine_51 : decode m_M_readLine.2.1 51 = .ok (.if_icmp .gt 14, 3) := by decide +kernel
theorem d_M_readLine_54 : decode m_M_readLine.2.1 54 = .ok (.aload_n 0, 1) := by decide +kernel
theorem d_M_readLine_55 : decode m_M_readLine.2.1 55 = .ok (.aload_n 0, 1) := by decide +kernel
theorem d_M_readLine_56 : decode m_M_readLine.2.1 56 = .ok (.getfield 84, 3) := by decide +kernel
theorem d_M_readLine_59 : decode m_M_readLine.2.1 59 = .ok (.invokevirtual 153, 3) := by decide +kernel
theorem d_M_readLine_62 : decode m_M_readLine.2.1 62 = .ok (.goto 8, 3) := by decide +kernel
theorem d_M_readLine_65 : decode m_M_readLine.2.1 65 = .ok (.aload_n 0, 1) := by decide +kernel
theorem d_M_readLine_66 : decode m_M_readLine.2.1 66 = .ok (.iconst 1, 1) := by decide +kernel
theorem d_M_readLine_67 : decode m_M_readLine.2.1 67 = .ok (.invokevirtual 111, 3) := by decide +kernel
theorem d_M_readLine_70 : decode m_M_readLine.2.1 70 = .ok (.aload_n 0, 1) := by decide +kernel
theorem d_M_readLine_71 : decode m_M_readLine.2.1 71 = .ok (.getfield 102, 3) := by decide +kernel
theorem d_M_readLine_74 : decode m_M_readLine.2.1 74 = .ok (.ifCond .ne 16, 3) := by decide +kernel
theorem d_M_readLine_77 : decode m_M_readLine.2.1 77 = .ok (.aload_n 0, 1) := by decide +kernel
theorem d_M_readLine_78 : decode m_M_readLine.2.1 78 = .ok (.getfield 74, 3) := by decide +kernel
theorem d_M_readLine_81 : decode m_M_readLine.2.1 81 = .ok (.iconst 2, 1) := by decide +kernel
theorem d_M_readLine_82 : decode m_M_readLine.2.1 82 = .ok (.if_icmp .eq 8, 3) := by decide +kernel
theorem d_M_readLine_85 : decode m_M_readLine.2.1 85 = .ok (.aload_n 0, 1) := by decide +kernel
theorem d_M_readLine_86 : decode m_M_readLine.2.1 86 = .ok (.iconst 1, 1) := by decide +kernel
theorem d_M_readLine_87 : decode m_M_readLine.2.1 87 = .ok (.invokevirtual 111, 3) := by decide +kernel
theorem d_M_readLine_90 : decode m_M_readLine.2.1 90 = .ok (.aload_n 0, 1) := by decide +kernel
theorem d_M_readLine_91 : decode m_M_readLine.2.1 91 = .ok (.invokevirtual 115, 3) := by decide +kernel
theorem d_M_readLine_94 : decode m_M_readLine.2.1 94 = .ok (.aload_n 0, 1) := by decide +kernel
theorem d_M_readLine_95 : decode m_M_readLine.2.1 95 = .ok (.dup, 1) := by decide +kernel
theorem d_M_readLine_96 : decode m_M_readLine.2.1 96 = .ok (.getfield 156, 3) := by decide +kernel
theorem d_M_readLine_99 : decode m_M_readLine.2.1 99 = .ok (.iconst 1, 1) := by decide +kernel
theorem d_M_readLine_100 : decode m_M_readLine.2.1 100 = .ok (.iadd, 1) := by decide +kernel
theorem d_M_readLine_101 : decode m_M_readLine.2.1 101 = .ok (.putfield 156, 3) := by decide +kernel
theorem d_M_readLine_104 : decode m_M_readLine.2.1 104 = .ok (.return_, 1) := by decide +kernel
theorem d_M_freshText_0 : decode m_M_freshText.2.1 0 = .ok (.bipush 19, 2) := by decide +kernel
theorem d_M_freshText_2 : decode m_M_freshText.2.1 2 = .ok (.newarray .int, 2) := by decide +kernel
theorem d_M_freshText_4 : decode m_M_freshText.2.1 4 = .ok (.dup, 1) := by decide +kernel
theorem d_M_freshText_5 : decode m_M_freshText.2.1 5 = .ok (.iconst 0, 1) := by decide +kernel
theorem d_M_freshText_6 : decode m_M_freshText.2.1 6 = .ok (.sipush 10000, 3) := by decide +kernel
theorem d_M_freshText_9 : decode m_M_freshText.2.1 9 = .ok (.iastore, 1) := by decide +kernel
theorem d_M_freshText_10 : decode m_M_freshText.2.1 10 = .ok (.dup, 1) := by decide +kernel
theorem d_M_freshText_11 : decode m_M_freshText.2.1 11 = .ok (.iconst 1, 1) := by decide +kernel
theorem d_M_freshText_12 : decode m_M_freshText.2.1 12 = .ok (.iconst 0, 1) := by decide +kernel
theorem d_M_freshText_13 : decode m_M_freshText.2.1 13 = .ok (.iastore, 1) := by decide +kernel
theorem d_M_freshText_14 : decode m_M_freshText.2.1 14 = .ok (.dup, 1) := by decide +kernel
theorem d_M_freshText_15 : decode m_M_freshText.2.1 15 = .ok (.iconst 2, 1) := by decide +kernel
theorem d_M_freshText_16 : decode m_M_freshText.2.1 16 = .ok (.sipush 1400, 3) := by decide +kernel
theorem d_M_freshText_19 : decode m_M_freshText.2.1 19 = .ok (.iastore, 1) := by decide +kernel
theorem d_M_freshText_20 : decode m_M_freshText.2.1 20 = .ok (.dup, 1) := by decide +kernel
theorem d_M_freshText_21 : decode m_M_freshText.2.1 21 = .ok (.iconst 3, 1) := by decide +kernel
theorem d_M_freshText_22 : decode m_M_freshText.2.1 22 = .ok (.sipush 1350, 3) := by decide +kernel
theorem d_M_freshText_25 : decode m_M_freshText.2.1 25 = .ok (.iastore, 1) := by decide +kernel
theorem d_M_freshText_26 : decode m_M_freshText.2.1 26 = .ok (.dup, 1) := by decide +kernel
theorem d_M_freshText_27 : decode m_M_freshText.2.1 27 = .ok (.iconst 4, 1) := by decide +kernel
theorem d_M_freshText_28 : decode m_M_freshText.2.1 28 = .ok (.bipush 80, 2) := by decide +kernel
theorem d_M_freshText_30 : decode m_M_freshText.2.1 30 = .ok (.iastore, 1) := by decide +kernel
theorem d_M_freshText_31 : decode m_M_freshText.2.1 31 = .ok (.dup, 1) := by decide +kernel
theorem d_M_freshText_32 : decode m_M_freshText.2.1 32 = .ok (.iconst 5, 1) := by decide +kernel
theorem d_M_freshText_33 : decode m_M_freshText.2.1 33 = .ok (.bipush 20, 2) := by decide +kernel
theorem d_M_freshText_35 : decode m_M_freshText.2.1 35 = .ok (.iastore, 1) := by decide +kernel
theorem d_M_freshText_36 : decode m_M_freshText.2.1 36 = .ok (.dup, 1) := by decide +kernel
theorem d_M_freshText_37 : decode m_M_freshText.2.1 37 = .ok (.bipush 6, 2) := by decide +kernel
theorem d_M_freshText_39 : decode m_M_freshText.2.1 39 = .ok (.bipush 100, 2) := by decide +kernel
theorem d_M_freshText_41 : decode m_M_freshText.2.1 41 = .ok (.iastore, 1) := by decide +kernel
theorem d_M_freshText_42 : decode m_M_freshText.2.1 42 = .ok (.dup, 1) := by decide +kernel
theorem d_M_freshText_43 : decode m_M_freshText.2.1 43 = .ok (.bipush 7, 2) := by decide +kernel
theorem d_M_freshText_45 : decode m_M_freshText.2.1 45 = .ok (.sipush 500, 3) := by decide +kernel
theorem d_M_freshText_48 : decode m_M_freshText.2.1 48 = .ok (.iastore, 1) := by decide +kernel
theorem d_M_freshText_49 : decode m_M_freshText.2.1 49 = .ok (.dup, 1) := by decide +kernel
theorem d_M_freshText_50 : decode m_M_freshText.2.1 50 = .ok (.bipush 8, 2) := by decide +kernel
theorem d_M_freshText_52 : decode m_M_freshText.2.1 52 = .ok (.iconst 3, 1) := by decide +kernel
theorem d_M_freshText_53 : decode m_M_freshText.2.1 53 = .ok (.iastore, 1) := by decide +kernel
theorem d_M_freshText_54 : decode m_M_freshText.2.1 54 = .ok (.dup, 1) := by decide +kernel
theorem d_M_freshText_55 : decode m_M_freshText.2.1 55 = .ok (.bipush 9, 2) := by decide +kernel
theorem d_M_freshText_57 : decode m_M_freshText.2.1 57 = .ok (.bipush 50, 2) := by decide +kernel
theorem d_M_freshText_59 : decode m_M_freshText.2.1 59 = .ok (.iastore, 1) := by decide +kernel
theorem d_M_freshText_60 : decode m_M_freshText.2.1 60 = .ok (.dup, 1) := by decide +kernel
theorem d_M_freshText_61 : decode m_M_freshText.2.1 61 = .ok (.bipush 10, 2) := by decide +kernel
theorem d_M_freshText_63 : decode m_M_freshText.2.1 63 = .ok (.bipush 10, 2) := by decide +kernel
theorem d_M_freshText_65 : decode m_M_freshText.2.1 65 = .ok (.iastore, 1) := by decide +kernel
theorem d_M_freshText_66 : decode m_M_freshText.2.1 66 = .ok (.dup, 1) := by decide +kernel
theorem d_M_freshText_67 : decode m_M_freshText.2.1 67 = .ok (.bipush 11, 2) := by decide +kernel
theorem d_M_freshText_69 : decode m_M_freshText.2.1 69 = .ok (.sipush 5000, 3) := by decide +kernel
theorem d_M_freshText_72 : decode m_M_freshText.2.1 72 = .ok (.iastore, 1) := by decide +kernel
theorem d_M_freshText_73 : decode m_M_freshText.2.1 73 = .ok (.dup, 1) := by decide +kernel
theorem d_M_freshText_74 : decode m_M_freshText.2.1 74 = .ok (.bipush 12, 2) := by decide +kernel
theorem d_M_freshText_76 : decode m_M_freshText.2.1 76 = .ok (.iconst 4, 1) := by decide +kernel
theorem d_M_freshText_77 : decode m_M_freshText.2.1 77 = .ok (.iastore, 1) := by decide +kernel
theorem d_M_freshText_78 : decode m_M_freshText.2.1 78 = .ok (.dup, 1) := by decide +kernel
theorem d_M_freshText_79 : decode m_M_freshText.2.1 79 = .ok (.bipush 13, 2) := by decide +kernel
theorem d_M_freshText_81 : decode m_M_freshText.2.1 81 = .ok (.iconst 3, 1) := by decide +kernel
theorem d_M_freshText_82 : decode m_M_freshText.2.1 82 = .ok (.iastore, 1) := by decide +kernel
theorem d_M_freshText_83 : decode m_M_freshText.2.1 83 = .ok (.dup, 1) := by decide +kernel
theorem d_M_freshText_84 : decode m_M_freshText.2.1 84 = .ok (.bipush 14, 2) := by decide +kernel
theorem d_M_freshText_86 : decode m_M_freshText.2.1 86 = .ok (.bipush 50, 2) := by decide +kernel
theorem d_M_freshText_88 : decode m_M_freshText.2.1 88 = .ok (.iastore, 1) := by decide +kernel
theorem d_M_freshText_89 : decode m_M_freshText.2.1 89 = .ok (.dup, 1) := by decide +kernel
theorem d_M_freshText_90 : decode m_M_freshText.2.1 90 = .ok (.bipush 15, 2) := by decide +kernel
theorem d_M_freshText_92 : decode m_M_freshText.2.1 92 = .ok (.iconst 0, 1) := by decide +kernel
theorem d_M_freshText_93 : decode m_M_freshText.2.1 93 = .ok (.iastore, 1) := by decide +kernel
theorem d_M_freshText_94 : decode m_M_freshText.2.1 94 = .ok (.dup, 1) := by decide +kernel
theorem d_M_freshText_95 : decode m_M_freshText.2.1 95 = .ok (.bipush 16, 2) := by decide +kernel
theorem d_M_freshText_97 : decode m_M_freshText.2.1 97 = .ok (.iconst 0, 1) := by decide +kernel
theorem d_M_freshText_98 : decode m_M_freshText.2.1 98 = .ok (.iastore, 1) := by decide +kernel
theorem d_M_freshText_99 : decode m_M_freshText.2.1 99 = .ok (.dup, 1) := by decide +kernel
theorem d_M_freshText_100 : decode m_M_freshText.2.1 100 = .ok (.bipush 17, 2) := by decide +kernel
theorem d_M_freshText_102 : decode m_M_freshText.2.1 102 = .ok (.iconst 0, 1) := by decide +kernel
theorem d_M_freshText_103 : decode m_M_freshText.2.1 103 = .ok (.iastore, 1) := by decide +kernel
theorem d_M_freshText_104 : decode m_M_freshText.2.1 104 = .ok (.dup, 1) := by decide +kernel
theorem d_M_freshText_105 : decode m_M_freshText.2.1 105 = .ok (.bipush 18, 2) := by decide +kernel
theorem d_M_freshText_107 : decode m_M_freshText.2.1 107 = .ok (.bipush 75, 2) := by decide +kernel
theorem d_M_freshText_109 : decode m_M_freshText.2.1 109 = .ok (.iastore, 1) := by decide +kernel
theorem d_M_freshText_110 : decode m_M_freshText.2.1 110 = .ok (.astore_n 1, 1) := by decide +kernel
theorem d_M_freshText_111 : decode m_M_freshText.2.1 111 = .ok (.iconst 0, 1) := by decide +kernel
theorem d_M_freshText_112 : decode m_M_freshText.2.1 112 = .ok (.istore_n 2, 1) := by decide +kernel
theorem d_M_freshText_113 : decode m_M_freshText.2.1 113 = .ok (.iload_n 2, 1) := by decide +kernel
theorem d_M_freshText_114 : decode m_M_freshText.2.1 114 = .ok (.bipush 19, 2) := by decide +kernel
theorem d_M_freshText_116 : decode m_M_freshText.2.1 116 = .ok (.if_icmp .ge 18, 3) := by decide +kernel
theorem d_M_freshText_119 : decode m_M_freshText.2.1 119 = .ok (.aload_n 0, 1) := by decide +kernel
theorem d_M_freshText_120 : decode m_M_freshText.2.1 120 = .ok (.getfield 13, 3) := by decide +kernel
theorem d_M_freshText_123 : decode m_M_freshText.2.1 123 = .ok (.iload_n 2, 1) := by decide +kernel
theorem d_M_freshText_124 : decode m_M_freshText.2.1 124 = .ok (.aload_n 1, 1) := by decide +kernel
theorem d_M_freshText_125 : decode m_M_freshText.2.1 125 = .ok (.iload_n 2, 1) := by decide +kernel
theorem d_M_freshText_126 : decode m_M_freshText.2.1 126 = .ok (.iaload, 1) := by decide +kernel
theorem d_M_freshText_127 : decode m_M_freshText.2.1 127 = .ok (.iastore, 1) := by decide +kernel
theorem d_M_freshText_128 : decode m_M_freshText.2.1 128 = .ok (.iinc 2 1, 3) := by decide +kernel
theorem d_M_freshText_131 : decode m_M_freshText.2.1 131 = .ok (.goto (-18), 3) := by decide +kernel
theorem d_M_freshText_134 : decode m_M_freshText.2.1 134 = .ok (.aload_n 0, 1) := by decide +kernel
theorem d_M_freshText_135 : decode m_M_freshText.2.1 135 = .ok (.iconst 0, 1) := by decide +kernel
theorem d_M_freshText_136 : decode m_M_freshText.2.1 136 = .ok (.putfield 138, 3) := by decide +kernel
theorem d_M_freshText_139 : decode m_M_freshText.2.1 139 = .ok (.aload_n 0, 1) := by decide +kernel
theorem d_M_freshText_140 : decode m_M_freshText.2.1 140 = .ok (.iconst 0, 1) := by decide +kernel
theorem d_M_freshText_141 : decode m_M_freshText.2.1 141 = .ok (.putfield 135, 3) := by decide +kernel
theorem d_M_freshText_144 : decode m_M_freshText.2.1 144 = .ok (.aload_n 0, 1) := by decide +kernel
theorem d_M_freshText_145 : decode m_M_freshText.2.1 145 = .ok (.iconst 0, 1) := by decide +kernel
theorem d_M_freshText_146 : decode m_M_freshText.2.1 146 = .ok (.putfield 129, 3) := by decide +kernel
theorem d_M_freshText_149 : decode m_M_freshText.2.1 149 = .ok (.aload_n 0, 1) := by decide +kernel
theorem d_M_freshText_150 : decode m_M_freshText.2.1 150 = .ok (.iconst 0, 1) := by decide +kernel
theorem d_M_freshText_151 : decode m_M_freshText.2.1 151 = .ok (.putfield 132, 3) := by decide +kernel
theorem d_M_freshText_154 : decode m_M_freshText.2.1 154 = .ok (.iconst 0, 1) := by decide +kernel
theorem d_M_freshText_155 : decode m_M_freshText.2.1 155 = .ok (.istore_n 2, 1) := by decide +kernel
theorem d_M_freshText_156 : decode m_M_freshText.2.1 156 = .ok (.iload_n 2, 1) := by decide +kernel
theorem d_M_freshText_157 : decode m_M_freshText.2.1 157 = .ok (.iconst 5, 1) := by decide +kernel
theorem d_M_freshText_158 : decode m_M_freshText.2.1 158 = .ok (.if_icmp .ge 16, 3) := by decide +kernel
theorem d_M_freshText_161 : decode m_M_freshText.2.1 161 = .ok (.aload_n 0, 1) := by decide +kernel
theorem d_M_freshText_162 : decode m_M_freshText.2.1 162 = .ok (.getfield 16, 3) := by decide +kernel
theorem d_M_freshText_165 : decode m_M_freshText.2.1 165 = .ok (.iload_n 2, 1) := by decide +kernel
theorem d_M_freshText_166 : decode m_M_freshText.2.1 166 = .ok (.iconst 0, 1) := by decide +kernel
theorem d_M_freshText_167 : decode m_M_freshText.2.1 167 = .ok (.bastore, 1) := by decide +kernel
theorem d_M_freshText_168 : decode m_M_freshText.2.1 168 = .ok (.iinc 2 1, 3) := by decide +kernel
theorem d_M_freshText_171 : decode m_M_freshText.2.1 171 = .ok (.goto (-15), 3) := by decide +kernel
theorem d_M_freshText_174 : decode m_M_freshText.2.1 174 = .ok (.return_, 1) := by decide +kernel
theorem d_M_readText_0 : decode m_M_readText.2.1 0 = .ok (.aload_n 0, 1) := by decide +kernel
theorem d_M_readText_1 : decode m_M_readText.2.1 1 = .ok (.iload_n 1, 1) := by decide +kernel
theorem d_M_readText_2 : decode m_M_readText.2.1 2 = .ok (.putfield 64, 3) := by decide +kernel
theorem d_M_readText_5 : decode m_M_readText.2.1 5 = .ok (.aload_n 0, 1) := by decide +kernel
theorem d_M_readText_6 : decode m_M_readText.2.1 6 = .ok (.iconst 0, 1) := by decide +kernel
theorem d_M_readText_7 : decode m_M_readText.2.1 7 = .ok (.putfield 61, 3) := by decide +kernel
theorem d_M_readText_10 : decode m_M_readText.2.1 10 = .ok (.aload_n 0, 1) := by decide +kernel
theorem d_M_readText_11 : decode m_M_readText.2.1 11 = .ok (.iconst 0, 1) := by decide +kernel
theorem d_M_readText_12 : decode m_M_readText.2.1 12 = .ok (.putfield 102, 3) := by decide +kernel
theorem d_M_readText_15 : decode m_M_readText.2.1 15 = .ok (.aload_n 0, 1) := by decide +kernel
theorem d_M_readText_16 : decode m_M_readText.2.1 16 = .ok (.iconst 0, 1) := by decide +kernel
theorem d_M_readText_17 : decode m_M_readText.2.1 17 = .ok (.putfield 156, 3) := by decide +kernel
theorem d_M_readText_20 : decode m_M_readText.2.1 20 = .ok (.aload_n 0, 1) := by decide +kernel
theorem d_M_readText_21 : decode m_M_readText.2.1 21 = .ok (.invokevirtual 49, 3) := by decide +kernel
theorem d_M_readText_24 : decode m_M_readText.2.1 24 = .ok (.aload_n 0, 1) := by decide +kernel
theorem d_M_readText_25 : decode m_M_readText.2.1 25 = .ok (.invokevirtual 108, 3) := by decide +kernel
theorem d_M_readText_28 : decode m_M_readText.2.1 28 = .ok (.aload_n 0, 1) := by decide +kernel
theorem d_M_readText_29 : decode m_M_readText.2.1 29 = .ok (.getfield 102, 3) := by decide +kernel
theorem d_M_readText_32 : decode m_M_readText.2.1 32 = .ok (.ifCond .ne 18, 3) := by decide +kernel
theorem d_M_readText_35 : decode m_M_readText.2.1 35 = .ok (.aload_n 0, 1) := by decide +kernel
theorem d_M_readText_36 : decode m_M_readText.2.1 36 = .ok (.getfield 74, 3) := by decide +kernel
theorem d_M_readText_39 : decode m_M_readText.2.1 39 = .ok (.iconst 3, 1) := by decide +kernel
theorem d_M_readText_40 : decode m_M_readText.2.1 40 = .ok (.if_icmp .eq 10, 3) := by decide +kernel
theorem d_M_readText_43 : decode m_M_readText.2.1 43 = .ok (.aload_n 0, 1) := by decide +kernel
theorem d_M_readText_44 : decode m_M_readText.2.1 44 = .ok (.invokevirtual 159, 3) := by decide +kernel
theorem d_M_readText_47 : decode m_M_readText.2.1 47 = .ok (.goto (-19), 3) := by decide +kernel
theorem d_M_readText_50 : decode m_M_readText.2.1 50 = .ok (.return_, 1) := by decide +kernel
theorem d_M_text_0 : decode m_M_text.2.1 0 = .ok (.aload_n 0, 1) := by decide +kernel
theorem d_M_text_1 : decode m_M_text.2.1 1 = .ok (.iconst 0, 1) := by decide +kernel
theorem d_M_text_2 : decode m_M_text.2.1 2 = .ok (.putfield 55, 3) := by decide +kernel
theorem d_M_text_5 : decode m_M_text.2.1 5 = .ok (.iload_n 1, 1) := by decide +kernel
theorem d_M_text_6 : decode m_M_text.2.1 6 = .ok (.ifCond .lt 11, 3) := by decide +kernel
theorem d_M_text_9 : decode m_M_text.2.1 9 = .ok (.iload_n 1, 1) := by decide +kernel
theorem d_M_text_10 : decode m_M_text.2.1 10 = .ok (.aload_n 0, 1) := by decide +kernel
theorem d_M_text_11 : decode m_M_text.2.1 11 = .ok (.getfield 58, 3) := by decide +kernel
theorem d_M_text_14 : decode m_M_text.2.1 14 = .ok (.if_icmp .le 6, 3) := by decide +kernel
theorem d_M_text_17 : decode m_M_text.2.1 17 = .ok (.bipush (-2), 2) := by decide +kernel
theorem d_M_text_19 : decode m_M_text.2.1 19 = .ok (.ireturn, 1) := by decide +kernel
theorem d_M_text_20 : decode m_M_text.2.1 20 = .ok (.aload_n 0, 1) := by decide +kernel
theorem d_M_text_21 : decode m_M_text.2.1 21 = .ok (.iload_n 1, 1) := by decide +kernel
theorem d_M_text_22 : decode m_M_text.2.1 22 = .ok (.invokevirtual 162, 3) := by decide +kernel
theorem d_M_text_25 : decode m_M_text.2.1 25 = .ok (.aload_n 0, 1) := by decide +kernel
theorem d_M_text_26 : decode m_M_text.2.1 26 = .ok (.iconst 0, 1) := by decide +kernel
theorem d_M_text_27 : decode m_M_text.2.1 27 = .ok (.putfield 58, 3) := by decide +kernel
theorem d_M_text_30 : decode m_M_text.2.1 30 = .ok (.aload_n 0, 1) := by decide +kernel
theorem d_M_text_31 : decode m_M_text.2.1 31 = .ok (.aload_n 0, 1) := by decide +kernel
theorem d_M_text_32 : decode m_M_text.2.1 32 = .ok (.getfield 102, 3) := by decide +kernel
theorem d_M_text_35 : decode m_M_text.2.1 35 = .ok (.putfield 165, 3) := by decide +kernel
theorem d_M_text_38 : decode m_M_text.2.1 38 = .ok (.aload_n 0, 1) := by decide +kernel
theorem d_M_text_39 : decode m_M_text.2.1 39 = .ok (.aload_n 0, 1) := by decide +kernel
theorem d_M_text_40 : decode m_M_text.2.1 40 = .ok (.getfield 102, 3) := by decide +kernel
theorem d_M_text_43 : decode m_M_text.2.1 43 = .ok (.ifCond .ne 7, 3) := by decide +kernel
theorem d_M_text_46 : decode m_M_text.2.1 46 = .ok (.iconst (-1), 1) := by decide +kernel
theorem d_M_text_47 : decode m_M_text.2.1 47 = .ok (.goto 7, 3) := by decide +kernel
theorem d_M_text_50 : decode m_M_text.2.1 50 = .ok (.aload_n 0, 1) := by decide +kernel
theorem d_M_text_51 : decode m_M_text.2.1 51 = .ok (.getfield 105, 3) := by decide +kernel
theorem d_M_text_54 : decode m_M_text.2.1 54 = .ok (.putfield 29, 3) := by decide +kernel
theorem d_M_text_57 : decode m_M_text.2.1 57 = .ok (.aload_n 0, 1) := by decide +kernel
theorem d_M_text_58 : decode m_M_text.2.1 58 = .ok (.getfield 102, 3) := by decide +kernel
theorem d_M_text_61 : decode m_M_text.2.1 61 = .ok (.ifCond .eq 5, 3) := by decide +kernel
theorem d_M_text_64 : decode m_M_text.2.1 64 = .ok (.iconst (-1), 1) := by decide +kernel
theorem d_M_text_65 : decode m_M_text.2.1 65 = .ok (.ireturn, 1) := by decide +kernel
theorem d_M_text_66 : decode m_M_text.2.1 66 = .ok (.aload_n 0, 1) := by decide +kernel
theorem d_M_text_67 : decode m_M_text.2.1 67 = .ok (.invokevirtual 52, 3) := by decide +kernel
theorem d_M_text_70 : decode m_M_text.2.1 70 = .ok (.aload_n 0, 1) := by decide +kernel
theorem d_M_text_71 : decode m_M_text.2.1 71 = .ok (.getfield 156, 3) := by decide +kernel
theorem d_M_text_74 : decode m_M_text.2.1 74 = .ok (.ireturn, 1) := by decide +kernel
theorem d_M_fault_0 : decode m_M_fault.2.1 0 = .ok (.aload_n 0, 1) := by decide +kernel
theorem d_M_fault_1 : decode m_M_fault.2.1 1 = .ok (.iconst 0, 1) := by decide +kernel
theorem d_M_fault_2 : decode m_M_fault.2.1 2 = .ok (.putfield 55, 3) := by decide +kernel
theorem d_M_fault_5 : decode m_M_fault.2.1 5 = .ok (.iload_n 1, 1) := by decide +kernel
theorem d_M_fault_6 : decode m_M_fault.2.1 6 = .ok (.ifCond .ne 10, 3) := by decide +kernel
theorem d_M_fault_9 : decode m_M_fault.2.1 9 = .ok (.aload_n 0, 1) := by decide +kernel
theorem d_M_fault_10 : decode m_M_fault.2.1 10 = .ok (.getfield 165, 3) := by decide +kernel
theorem d_M_fault_13 : decode m_M_fault.2.1 13 = .ok (.goto 16, 3) := by decide +kernel
theorem d_M_fault_16 : decode m_M_fault.2.1 16 = .ok (.iload_n 1, 1) := by decide +kernel
theorem d_M_fault_17 : decode m_M_fault.2.1 17 = .ok (.iconst 1, 1) := by decide +kernel
theorem d_M_fault_18 : decode m_M_fault.2.1 18 = .ok (.if_icmp .ne 10, 3) := by decide +kernel
theorem d_M_fault_21 : decode m_M_fault.2.1 21 = .ok (.aload_n 0, 1) := by decide +kernel
theorem d_M_fault_22 : decode m_M_fault.2.1 22 = .ok (.getfield 29, 3) := by decide +kernel
theorem d_M_fault_25 : decode m_M_fault.2.1 25 = .ok (.goto 4, 3) := by decide +kernel
theorem d_M_fault_28 : decode m_M_fault.2.1 28 = .ok (.iconst (-1), 1) := by decide +kernel
theorem d_M_fault_29 : decode m_M_fault.2.1 29 = .ok (.ireturn, 1) := by decide +kernel
theorem d_M_begins_0 : decode m_M_begins.2.1 0 = .ok (.iconst 0, 1) := by decide +kernel
theorem d_M_begins_1 : decode m_M_begins.2.1 1 = .ok (.istore_n 1, 1) := by decide +kernel
theorem d_M_begins_2 : decode m_M_begins.2.1 2 = .ok (.iload_n 1, 1) := by decide +kernel
theorem d_M_begins_3 : decode m_M_begins.2.1 3 = .ok (.sipush 146, 3) := by decide +kernel
theorem d_M_begins_6 : decode m_M_begins.2.1 6 = .ok (.if_icmp .ge 31, 3) := by decide +kernel
theorem d_M_begins_9 : decode m_M_begins.2.1 9 = .ok (.aload_n 0, 1) := by decide +kernel
theorem d_M_begins_10 : decode m_M_begins.2.1 10 = .ok (.getfield 33, 3) := by decide +kernel
theorem d_M_begins_13 : decode m_M_begins.2.1 13 = .ok (.iload_n 1, 1) := by decide +kernel
theorem d_M_begins_14 : decode m_M_begins.2.1 14 = .ok (.iload_n 1, 1) := by decide +kernel
theorem d_M_begins_15 : decode m_M_begins.2.1 15 = .ok (.bipush 19, 2) := by decide +kernel
theorem d_M_begins_17 : decode m_M_begins.2.1 17 = .ok (.if_icmp .ge 12, 3) := by decide +kernel
theorem d_M_begins_20 : decode m_M_begins.2.1 20 = .ok (.aload_n 0, 1) := by decide +kernel
theorem d_M_begins_21 : decode m_M_begins.2.1 21 = .ok (.getfield 13, 3) := by decide +kernel
theorem d_M_begins_24 : decode m_M_begins.2.1 24 = .ok (.iload_n 1, 1) := by decide +kernel
theorem d_M_begins_25 : decode m_M_begins.2.1 25 = .ok (.iaload, 1) := by decide +kernel
theorem d_M_begins_26 : decode m_M_begins.2.1 26 = .ok (.goto 4, 3) := by decide +kernel
theorem d_M_begins_29 : decode m_M_begins.2.1 29 = .ok (.iconst 0, 1) := by decide +kernel
theorem d_M_begins_30 : decode m_M_begins.2.1 30 = .ok (.iastore, 1) := by decide +kernel
theorem d_M_begins_31 : decode m_M_begins.2.1 31 = .ok (.iinc 1 1, 3) := by decide +kernel
theorem d_M_begins_34 : decode m_M_begins.2.1 34 = .ok (.goto (-32), 3) := by decide +kernel
theorem d_M_begins_37 : decode m_M_begins.2.1 37 = .ok (.aload_n 0, 1) := by decide +kernel
theorem d_M_begins_38 : decode m_M_begins.2.1 38 = .ok (.aload_n 0, 1) := by decide +kernel
theorem d_M_begins_39 : decode m_M_begins.2.1 39 = .ok (.getfield 129, 3) := by decide +kernel
theorem d_M_begins_42 : decode m_M_begins.2.1 42 = .ok (.putfield 168, 3) := by decide +kernel
theorem d_M_begins_45 : decode m_M_begins.2.1 45 = .ok (.iconst 0, 1) := by decide +kernel
theorem d_M_begins_46 : decode m_M_begins.2.1 46 = .ok (.istore_n 1, 1) := by decide +kernel
theorem d_M_begins_47 : decode m_M_begins.2.1 47 = .ok (.iload_n 1, 1) := by decide +kernel
theorem d_M_begins_48 : decode m_M_begins.2.1 48 = .ok (.aload_n 0, 1) := by decide +kernel
theorem d_M_begins_49 : decode m_M_begins.2.1 49 = .ok (.getfield 168, 3) := by decide +kernel
theorem d_M_begins_52 : decode m_M_begins.2.1 52 = .ok (.if_icmp .ge 50, 3) := by decide +kernel
theorem d_M_begins_55 : decode m_M_begins.2.1 55 = .ok (.aload_n 0, 1) := by decide +kernel
theorem d_M_begins_56 : decode m_M_begins.2.1 56 = .ok (.getfield 20, 3) := by decide +kernel
theorem d_M_begins_59 : decode m_M_begins.2.1 59 = .ok (.iload_n 1, 1) := by decide +kernel
theorem d_M_begins_60 : decode m_M_begins.2.1 60 = .ok (.aload_n 0, 1) := by decide +kernel
theorem d_M_begins_61 : decode m_M_begins.2.1 61 = .ok (.getfield 20, 3) := by decide +kernel
theorem d_M_begins_64 : decode m_M_begins.2.1 64 = .ok (.bipush 6, 2) := by decide +kernel
theorem d_M_begins_66 : decode m_M_begins.2.1 66 = .ok (.iload_n 1, 1) := by decide +kernel
theorem d_M_begins_67 : decode m_M_begins.2.1 67 = .ok (.iadd, 1) := by decide +kernel
theorem d_M_begins_68 : decode m_M_begins.2.1 68 = .ok (.iaload, 1) := by decide +kernel
theorem d_M_begins_69 : decode m_M_begins.2.1 69 = .ok (.iastore, 1) := by decide +kernel
theorem d_M_begins_70 : decode m_M_begins.2.1 70 = .ok (.aload_n 0, 1) := by decide +kernel
theorem d_M_begins_71 : decode m_M_begins.2.1 71 = .ok (.getfield 23, 3) := by decide +kernel
theorem d_M_begins_74 : decode m_M_begins.2.1 74 = .ok (.iload_n 1, 1) := by decide +kernel
theorem d_M_begins_75 : decode m_M_begins.2.1 75 = .ok (.aload_n 0, 1) := by decide +kernel
theorem d_M_begins_76 : decode m_M_begins.2.1 76 = .ok (.getfield 23, 3) := by decide +kernel
theorem d_M_begins_79 : decode m_M_begins.2.1 79 = .ok (.bipush 6, 2) := by decide +kernel
theorem d_M_begins_81 : decode m_M_begins.2.1 81 = .ok (.iload_n 1, 1) := by decide +kernel
theorem d_M_begins_82 : decode m_M_begins.2.1 82 = .ok (.iadd, 1) := by decide +kernel
theorem d_M_begins_83 : decode m_M_begins.2.1 83 = .ok (.iaload, 1) := by decide +kernel
theorem d_M_begins_84 : decode m_M_begins.2.1 84 = .ok (.iastore, 1) := by decide +kernel
theorem d_M_begins_85 : decode m_M_begins.2.1 85 = .ok (.aload_n 0, 1) := by decide +kernel
theorem d_M_begins_86 : decode m_M_begins.2.1 86 = .ok (.getfield 33, 3) := by decide +kernel
theorem d_M_begins_89 : decode m_M_begins.2.1 89 = .ok (.bipush 19, 2) := by decide +kernel
theorem d_M_begins_91 : decode m_M_begins.2.1 91 = .ok (.iload_n 1, 1) := by decide +kernel
theorem d_M_begins_92 : decode m_M_begins.2.1 92 = .ok (.iadd, 1) := by decide +kernel
theorem d_M_begins_93 : decode m_M_begins.2.1 93 = .ok (.bipush 100, 2) := by decide +kernel
theorem d_M_begins_95 : decode m_M_begins.2.1 95 = .ok (.iastore, 1) := by decide +kernel
theorem d_M_begins_96 : decode m_M_begins.2.1 96 = .ok (.iinc 1 1, 3) := by decide +kernel
theorem d_M_begins_99 : decode m_M_begins.2.1 99 = .ok (.goto (-52), 3) := by decide +kernel
theorem d_M_begins_102 : decode m_M_begins.2.1 102 = .ok (.aload_n 0, 1) := by decide +kernel
theorem d_M_begins_103 : decode m_M_begins.2.1 103 = .ok (.getfield 33, 3) := by decide +kernel
theorem d_M_begins_106 : decode m_M_begins.2.1 106 = .ok (.bipush 27, 2) := by decide +kernel
theorem d_M_begins_108 : decode m_M_begins.2.1 108 = .ok (.iconst 1, 1) := by decide +kernel
theorem d_M_begins_109 : decode m_M_begins.2.1 109 = .ok (.iastore, 1) := by decide +kernel
theorem d_M_begins_110 : decode m_M_begins.2.1 110 = .ok (.aload_n 0, 1) := by decide +kernel
theorem d_M_begins_111 : decode m_M_begins.2.1 111 = .ok (.getfield 33, 3) := by decide +kernel
theorem d_M_begins_114 : decode m_M_begins.2.1 114 = .ok (.bipush 28, 2) := by decide +kernel
theorem d_M_begins_116 : decode m_M_begins.2.1 116 = .ok (.aload_n 0, 1) := by decide +kernel
theorem d_M_begins_117 : decode m_M_begins.2.1 117 = .ok (.getfield 13, 3) := by decide +kernel
theorem d_M_begins_120 : decode m_M_begins.2.1 120 = .ok (.bipush 12, 2) := by decide +kernel
theorem d_M_begins_122 : decode m_M_begins.2.1 122 = .ok (.iaload, 1) := by decide +kernel
theorem d_M_begins_123 : decode m_M_begins.2.1 123 = .ok (.iastore, 1) := by decide +kernel
theorem d_M_begins_124 : decode m_M_begins.2.1 124 = .ok (.aload_n 0, 1) := by decide +kernel
theorem d_M_begins_125 : decode m_M_begins.2.1 125 = .ok (.getfield 33, 3) := by decide +kernel
theorem d_M_begins_128 : decode m_M_begins.2.1 128 = .ok (.bipush 33, 2) := by decide +kernel
theorem d_M_begins_130 : decode m_M_begins.2.1 130 = .ok (.aload_n 0, 1) := by decide +kernel
theorem d_M_begins_131 : decode m_M_begins.2.1 131 = .ok (.getfield 138, 3) := by decide +kernel
theorem d_M_begins_134 : decode m_M_begins.2.1 134 = .ok (.iastore, 1) := by decide +kernel
theorem d_M_begins_135 : decode m_M_begins.2.1 135 = .ok (.aload_n 0, 1) := by decide +kernel
theorem d_M_begins_136 : decode m_M_begins.2.1 136 = .ok (.getfield 33, 3) := by decide +kernel
theorem d_M_begins_139 : decode m_M_begins.2.1 139 = .ok (.bipush 36, 2) := by decide +kernel
theorem d_M_begins_141 : decode m_M_begins.2.1 141 = .ok (.iconst 1, 1) := by decide +kernel
theorem d_M_begins_142 : decode m_M_begins.2.1 142 = .ok (.iastore, 1) := by decide +kernel
theorem d_M_begins_143 : decode m_M_begins.2.1 143 = .ok (.aload_n 0, 1) := by decide +kernel
theorem d_M_begins_144 : decode m_M_begins.2.1 144 = .ok (.getfield 33, 3) := by decide +kernel
theorem d_M_begins_147 : decode m_M_begins.2.1 147 = .ok (.bipush 37, 2) := by decide +kernel
theorem d_M_begins_149 : decode m_M_begins.2.1 149 = .ok (.iconst 1, 1) := by decide +kernel
theorem d_M_begins_150 : decode m_M_begins.2.1 150 = .ok (.iastore, 1) := by decide +kernel
theorem d_M_begins_151 : decode m_M_begins.2.1 151 = .ok (.aload_n 0, 1) := by decide +kernel
theorem d_M_begins_152 : decode m_M_begins.2.1 152 = .ok (.getfield 33, 3) := by decide +kernel
theorem d_M_begins_155 : decode m_M_begins.2.1 155 = .ok (.bipush 38, 2) := by decide +kernel
theorem d_M_begins_157 : decode m_M_begins.2.1 157 = .ok (.ldc 171, 2) := by decide +kernel
theorem d_M_begins_159 : decode m_M_begins.2.1 159 = .ok (.iastore, 1) := by decide +kernel
theorem d_M_begins_160 : decode m_M_begins.2.1 160 = .ok (.aload_n 0, 1) := by decide +kernel
theorem d_M_begins_161 : decode m_M_begins.2.1 161 = .ok (.getfield 33, 3) := by decide +kernel
theorem d_M_begins_164 : decode m_M_begins.2.1 164 = .ok (.bipush 39, 2) := by decide +kernel
theorem d_M_begins_166 : decode m_M_begins.2.1 166 = .ok (.ldc 171, 2) := by decide +kernel
theorem d_M_begins_168 : decode m_M_begins.2.1 168 = .ok (.iastore, 1) := by decide +kernel
theorem d_M_begins_169 : decode m_M_begins.2.1 169 = .ok (.iconst 0, 1) := by decide +kernel
theorem d_M_begins_170 : decode m_M_begins.2.1 170 = .ok (.istore_n 1, 1) := by decide +kernel
theorem d_M_begins_171 : decode m_M_begins.2.1 171 = .ok (.iload_n 1, 1) := by decide +kernel
theorem d_M_begins_172 : decode m_M_begins.2.1 172 = .ok (.aload_n 0, 1) := by decide +kernel
theorem d_M_begins_173 : decode m_M_begins.2.1 173 = .ok (.getfield 132, 3) := by decide +kernel
theorem d_M_begins_176 : decode m_M_begins.2.1 176 = .ok (.if_icmp .ge 14, 3) := by decide +kernel
theorem d_M_begins_179 : decode m_M_begins.2.1 179 = .ok (.aload_n 0, 1) := by decide +kernel
theorem d_M_begins_180 : decode m_M_begins.2.1 180 = .ok (.iload_n 1, 1) := by decide +kernel
theorem d_M_begins_181 : decode m_M_begins.2.1 181 = .ok (.invokevirtual 172, 3) := by decide +kernel
theorem d_M_begins_184 : decode m_M_begins.2.1 184 = .ok (.iinc 1 1, 3) := by decide +kernel
theorem d_M_begins_187 : decode m_M_begins.2.1 187 = .ok (.goto (-16), 3) := by decide +kernel
theorem d_M_begins_190 : decode m_M_begins.2.1 190 = .ok (.iconst 0, 1) := by decide +kernel
theorem d_M_begins_191 : decode m_M_begins.2.1 191 = .ok (.istore_n 1, 1) := by decide +kernel
theorem d_M_begins_192 : decode m_M_begins.2.1 192 = .ok (.iload_n 1, 1) := by decide +kernel
theorem d_M_begins_193 : decode m_M_begins.2.1 193 = .ok (.bipush 11, 2) := by decide +kernel
theorem d_M_begins_195 : decode m_M_begins.2.1 195 = .ok (.if_icmp .ge 16, 3) := by decide +kernel
theorem d_M_begins_198 : decode m_M_begins.2.1 198 = .ok (.aload_n 0, 1) := by decide +kernel
theorem d_M_begins_199 : decode m_M_begins.2.1 199 = .ok (.getfield 39, 3) := by decide +kernel
theorem d_M_begins_202 : decode m_M_begins.2.1 202 = .ok (.iload_n 1, 1) := by decide +kernel
theorem d_M_begins_203 : decode m_M_begins.2.1 203 = .ok (.lconst 0, 1) := by decide +kernel
theorem d_M_begins_204 : decode m_M_begins.2.1 204 = .ok (.lastore, 1) := by decide +kernel
theorem d_M_begins_205 : decode m_M_begins.2.1 205 = .ok (.iinc 1 1, 3) := by decide +kernel
theorem d_M_begins_208 : decode m_M_begins.2.1 208 = .ok (.goto (-16), 3) := by decide +kernel
theorem d_M_begins_211 : decode m_M_begins.2.1 211 = .ok (.aload_n 0, 1) := by decide +kernel
theorem d_M_begins_212 : decode m_M_begins.2.1 212 = .ok (.iconst 0, 1) := by decide +kernel
theorem d_M_begins_213 : decode m_M_begins.2.1 213 = .ok (.putfield 175, 3) := by decide +kernel
theorem d_M_begins_216 : decode m_M_begins.2.1 216 = .ok (.return_, 1) := by decide +kernel
theorem d_M_puts_0 : decode m_M_puts.2.1 0 = .ok (.aload_n 0, 1) := by decide +kernel
theorem d_M_puts_1 : decode m_M_puts.2.1 1 = .ok (.getfield 33, 3) := by decide +kernel
theorem d_M_puts_4 : decode m_M_puts.2.1 4 = .ok (.bipush 46, 2) := by decide +kernel
theorem d_M_puts_6 : decode m_M_puts.2.1 6 = .ok (.iaload, 1) := by decide +kernel
theorem d_M_puts_7 : decode m_M_puts.2.1 7 = .ok (.istore_n 2, 1) := by decide +kernel
theorem d_M_puts_8 : decode m_M_puts.2.1 8 = .ok (.iload_n 2, 1) := by decide +kernel
theorem d_M_puts_9 : decode m_M_puts.2.1 9 = .ok (.ifCond .le 74, 3) := by decide +kernel
theorem d_M_puts_12 : decode m_M_puts.2.1 12 = .ok (.aload_n 0, 1) := by decide +kernel
theorem d_M_puts_13 : decode m_M_puts.2.1 13 = .ok (.getfield 33, 3) := by decide +kernel
theorem d_M_puts_16 : decode m_M_puts.2.1 16 = .ok (.bipush 47, 2) := by decide +kernel
theorem d_M_puts_18 : decode m_M_puts.2.1 18 = .ok (.iconst 4, 1) := by decide +kernel
theorem d_M_puts_19 : decode m_M_puts.2.1 19 = .ok (.iload_n 2, 1) := by decide +kernel
theorem d_M_puts_20 : decode m_M_puts.2.1 20 = .ok (.imul, 1) := by decide +kernel
theorem d_M_puts_21 : decode m_M_puts.2.1 21 = .ok (.iadd, 1) := by decide +kernel
theorem d_M_puts_22 : decode m_M_puts.2.1 22 = .ok (.iconst 4, 1) := by decide +kernel
theorem d_M_puts_23 : decode m_M_puts.2.1 23 = .ok (.isub, 1) := by decide +kernel
theorem d_M_puts_24 : decode m_M_puts.2.1 24 = .ok (.iaload, 1) := by decide +kernel
theorem d_M_puts_25 : decode m_M_puts.2.1 25 = .ok (.aload_n 0, 1) := by decide +kernel
theorem d_M_puts_26 : decode m_M_puts.2.1 26 = .ok (.getfield 26, 3) := by decide +kernel
theorem d_M_puts_29 : decode m_M_puts.2.1 29 = .ok (.iconst 4, 1) := by decide +kernel
theorem d_M_puts_30 : decode m_M_puts.2.1 30 = .ok (.iload_n 1, 1) := by decide +kernel
theorem d_M_puts_31 : decode m_M_puts.2.1 31 = .ok (.imul, 1) := by decide +kernel
theorem d_M_puts_32 : decode m_M_puts.2.1 32 = .ok (.iaload, 1) := by decide +kernel
theorem d_M_puts_33 : decode m_M_puts.2.1 33 = .ok (.if_icmp .le 50, 3) := by decide +kernel
theorem d_M_puts_36 : decode m_M_puts.2.1 36 = .ok (.iconst 0, 1) := by decide +kernel
theorem d_M_puts_37 : decode m_M_puts.2.1 37 = .ok (.istore_n 3, 1) := by decide +kernel
theorem d_M_puts_38 : decode m_M_puts.2.1 38 = .ok (.iload_n 3, 1) := by decide +kernel
theorem d_M_puts_39 : decode m_M_puts.2.1 39 = .ok (.iconst 4, 1) := by decide +kernel
theorem d_M_puts_40 : decode m_M_puts.2.1 40 = .ok (.if_icmp .ge 37, 3) := by decide +kernel
theorem d_M_puts_43 : decode m_M_puts.2.1 43 = .ok (.aload_n 0, 1) := by decide +kernel
theorem d_M_puts_44 : decode m_M_puts.2.1 44 = .ok (.getfield 33, 3) := by decide +kernel
theorem d_M_puts_47 : decode m_M_puts.2.1 47 = .ok (.bipush 47, 2) := by decide +kernel
theorem d_M_puts_49 : decode m_M_puts.2.1 49 = .ok (.iconst 4, 1) := by decide +kernel
theorem d_M_puts_50 : decode m_M_puts.2.1 50 = .ok (.iload_n 2, 1) := by decide +kernel
theorem d_M_puts_51 : decode m_M_puts.2.1 51 = .ok (.imul, 1) := by decide +kernel
theorem d_M_puts_52 : decode m_M_puts.2.1 52 = .ok (.iadd, 1) := by decide +kernel
theorem d_M_puts_53 : decode m_M_puts.2.1 53 = .ok (.iload_n 3, 1) := by decide +kernel
theorem d_M_puts_54 : decode m_M_puts.2.1 54 = .ok (.iadd, 1) := by decide +kernel
theorem d_M_puts_55 : decode m_M_puts.2.1 55 = .ok (.aload_n 0, 1) := by decide +kernel
theorem d_M_puts_56 : decode m_M_puts.2.1 56 = .ok (.getfield 33, 3) := by decide +kernel
theorem d_M_puts_59 : decode m_M_puts.2.1 59 = .ok (.bipush 47, 2) := by decide +kernel
theorem d_M_puts_61 : decode m_M_puts.2.1 61 = .ok (.iconst 4, 1) := by decide +kernel
theorem d_M_puts_62 : decode m_M_puts.2.1 62 = .ok (.iload_n 2, 1) := by decide +kernel
theorem d_M_puts_63 : decode m_M_puts.2.1 63 = .ok (.imul, 1) := by decide +kernel
theorem d_M_puts_64 : decode m_M_puts.2.1 64 = .ok (.iadd, 1) := by decide +kernel
theorem d_M_puts_65 : decode m_M_puts.2.1 65 = .ok (.iconst 4, 1) := by decide +kernel
theorem d_M_puts_66 : decode m_M_puts.2.1 66 = .ok (.isub, 1) := by decide +kernel
theorem d_M_puts_67 : decode m_M_puts.2.1 67 = .ok (.iload_n 3, 1) := by decide +kernel
theorem d_M_puts_68 : decode m_M_puts.2.1 68 = .ok (.iadd, 1) := by decide +kernel
theorem d_M_puts_69 : decode m_M_puts.2.1 69 = .ok (.iaload, 1) := by decide +kernel
theorem d_M_puts_70 : decode m_M_puts.2.1 70 = .ok (.iastore, 1) := by decide +kernel
theorem d_M_puts_71 : decode m_M_puts.2.1 71 = .ok (.iinc 3 1, 3) := by decide +kernel
theorem d_M_puts_74 : decode m_M_puts.2.1 74 = .ok (.goto (-36), 3) := by decide +kernel
theorem d_M_puts_77 : decode m_M_puts.2.1 77 = .ok (.iinc 2 (-1), 3) := by decide +kernel
theorem d_M_puts_80 : decode m_M_puts.2.1 80 = .ok (.goto (-72), 3) := by decide +kernel
theorem d_M_puts_83 : decode m_M_puts.2.1 83 = .ok (.iconst 0, 1) := by decide +kernel
theorem d_M_puts_84 : decode m_M_puts.2.1 84 = .ok (.istore_n 3, 1) := by decide +kernel
theorem d_M_puts_85 : decode m_M_puts.2.1 85 = .ok (.iload_n 3, 1) := by decide +kernel
theorem d_M_puts_86 : decode m_M_puts.2.1 86 = .ok (.iconst 4, 1) := by decide +kernel
theorem d_M_puts_87 : decode m_M_puts.2.1 87 = .ok (.if_icmp .ge 32, 3) := by decide +kernel
theorem d_M_puts_90 : decode m_M_puts.2.1 90 = .ok (.aload_n 0, 1) := by decide +kernel
theorem d_M_puts_91 : decode m_M_puts.2.1 91 = .ok (.getfield 33, 3) := by decide +kernel
theorem d_M_puts_94 : decode m_M_puts.2.1 94 = .ok (.bipush 47, 2) := by decide +kernel
theorem d_M_puts_96 : decode m_M_puts.2.1 96 = .ok (.iconst 4, 1) := by decide +kernel
theorem d_M_puts_97 : decode m_M_puts.2.1 97 = .ok (.iload_n 2, 1) := by decide +kernel
theorem d_M_puts_98 : decode m_M_puts.2.1 98 = .ok (.imul, 1) := by decide +kernel
theorem d_M_puts_99 : decode m_M_puts.2.1 99 = .ok (.iadd, 1) := by decide +kernel
theorem d_M_puts_100 : decode m_M_puts.2.1 100 = .ok (.iload_n 3, 1) := by decide +kernel
theorem d_M_puts_101 : decode m_M_puts.2.1 101 = .ok (.iadd, 1) := by decide +kernel
theorem d_M_puts_102 : decode m_M_puts.2.1 102 = .ok (.aload_n 0, 1) := by decide +kernel
theorem d_M_puts_103 : decode m_M_puts.2.1 103 = .ok (.getfield 26, 3) := by decide +kernel
theorem d_M_puts_106 : decode m_M_puts.2.1 106 = .ok (.iconst 4, 1) := by decide +kernel
theorem d_M_puts_107 : decode m_M_puts.2.1 107 = .ok (.iload_n 1, 1) := by decide +kernel
theorem d_M_puts_108 : decode m_M_puts.2.1 108 = .ok (.imul, 1) := by decide +kernel
theorem d_M_puts_109 : decode m_M_puts.2.1 109 = .ok (.iload_n 3, 1) := by decide +kernel
theorem d_M_puts_110 : decode m_M_puts.2.1 110 = .ok (.iadd, 1) := by decide +kernel
theorem d_M_puts_111 : decode m_M_puts.2.1 111 = .ok (.iaload, 1) := by decide +kernel
theorem d_M_puts_112 : decode m_M_puts.2.1 112 = .ok (.iastore, 1) := by decide +kernel
theorem d_M_puts_113 : decode m_M_puts.2.1 113 = .ok (.iinc 3 1, 3) := by decide +kernel
theorem d_M_puts_116 : decode m_M_puts.2.1 116 = .ok (.goto (-31), 3) := by decide +kernel
theorem d_M_puts_119 : decode m_M_puts.2.1 119 = .ok (.aload_n 0, 1) := by decide +kernel
theorem d_M_puts_120 : decode m_M_puts.2.1 120 = .ok (.getfield 33, 3) := by decide +kernel
theorem d_M_puts_123 : decode m_M_puts.2.1 123 = .ok (.bipush 46, 2) := by decide +kernel
theorem d_M_puts_125 : decode m_M_puts.2.1 125 = .ok (.dup2, 1) := by decide +kernel
theorem d_M_puts_126 : decode m_M_puts.2.1 126 = .ok (.iaload, 1) := by decide +kernel
theorem d_M_puts_127 : decode m_M_puts.2.1 127 = .ok (.iconst 1, 1) := by decide +kernel
theorem d_M_puts_128 : decode m_M_puts.2.1 128 = .ok (.iadd, 1) := by decide +kernel
theorem d_M_puts_129 : decode m_M_puts.2.1 129 = .ok (.iastore, 1) := by decide +kernel
theorem d_M_puts_130 : decode m_M_puts.2.1 130 = .ok (.return_, 1) := by decide +kernel
theorem d_M_removes_0 : decode m_M_removes.2.1 0 = .ok (.aload_n 0, 1) := by decide +kernel
theorem d_M_removes_1 : decode m_M_removes.2.1 1 = .ok (.getfield 33, 3) := by decide +kernel
theorem d_M_removes_4 : decode m_M_removes.2.1 4 = .ok (.bipush 46, 2) := by decide +kernel
theorem d_M_removes_6 : decode m_M_removes.2.1 6 = .ok (.dup2, 1) := by decide +kernel
theorem d_M_removes_7 : decode m_M_removes.2.1 7 = .ok (.iaload, 1) := by decide +kernel
theorem d_M_removes_8 : decode m_M_removes.2.1 8 = .ok (.iconst 1, 1) := by decide +kernel
theorem d_M_removes_9 : decode m_M_removes.2.1 9 = .ok (.isub, 1) := by decide +kernel
theorem d_M_removes_10 : decode m_M_removes.2.1 10 = .ok (.iastore, 1) := by decide +kernel
theorem d_M_removes_11 : decode m_M_removes.2.1 11 = .ok (.iconst 4, 1) := by decide +kernel
theorem d_M_removes_12 : decode m_M_removes.2.1 12 = .ok (.iload_n 1, 1) := by decide +kernel
theorem d_M_removes_13 : decode m_M_removes.2.1 13 = .ok (.imul, 1) := by decide +kernel
theorem d_M_removes_14 : decode m_M_removes.2.1 14 = .ok (.istore_n 2, 1) := by decide +kernel
theorem d_M_removes_15 : decode m_M_removes.2.1 15 = .ok (.iload_n 2, 1) := by decide +kernel
theorem d_M_removes_16 : decode m_M_removes.2.1 16 = .ok (.iconst 4, 1) := by decide +kernel
theorem d_M_removes_17 : decode m_M_removes.2.1 17 = .ok (.aload_n 0, 1) := by decide +kernel
theorem d_M_removes_18 : decode m_M_removes.2.1 18 = .ok (.getfield 33, 3) := by decide +kernel
theorem d_M_removes_21 : decode m_M_removes.2.1 21 = .ok (.bipush 46, 2) := by decide +kernel
theorem d_M_removes_23 : decode m_M_removes.2.1 23 = .ok (.iaload, 1) := by decide +kernel
theorem d_M_removes_24 : decode m_M_removes.2.1 24 = .ok (.imul, 1) := by decide +kernel
theorem d_M_removes_25 : decode m_M_removes.2.1 25 = .ok (.if_icmp .ge 29, 3) := by decide +kernel
theorem d_M_removes_28 : decode m_M_removes.2.1 28 = .ok (.aload_n 0, 1) := by decide +kernel
theorem d_M_removes_29 : decode m_M_removes.2.1 29 = .ok (.getfield 33, 3) := by decide +kernel
theorem d_M_removes_32 : decode m_M_removes.2.1 32 = .ok (.bipush 47, 2) := by decide +kernel
theorem d_M_removes_34 : decode m_M_removes.2.1 34 = .ok (.iload_n 2, 1) := by decide +kernel
theorem d_M_removes_35 : decode m_M_removes.2.1 35 = .ok (.iadd, 1) := by decide +kernel
theorem d_M_removes_36 : decode m_M_removes.2.1 36 = .ok (.aload_n 0, 1) := by decide +kernel
theorem d_M_removes_37 : decode m_M_removes.2.1 37 = .ok (.getfield 33, 3) := by decide +kernel
theorem d_M_removes_40 : decode m_M_removes.2.1 40 = .ok (.bipush 47, 2) := by decide +kernel
theorem d_M_removes_42 : decode m_M_removes.2.1 42 = .ok (.iload_n 2, 1) := by decide +kernel
theorem d_M_removes_43 : decode m_M_removes.2.1 43 = .ok (.iadd, 1) := by decide +kernel
theorem d_M_removes_44 : decode m_M_removes.2.1 44 = .ok (.iconst 4, 1) := by decide +kernel
theorem d_M_removes_45 : decode m_M_removes.2.1 45 = .ok (.iadd, 1) := by decide +kernel
theorem d_M_removes_46 : decode m_M_removes.2.1 46 = .ok (.iaload, 1) := by decide +kernel
theorem d_M_removes_47 : decode m_M_removes.2.1 47 = .ok (.iastore, 1) := by decide +kernel
theorem d_M_removes_48 : decode m_M_removes.2.1 48 = .ok (.iinc 2 1, 3) := by decide +kernel
theorem d_M_removes_51 : decode m_M_removes.2.1 51 = .ok (.goto (-36), 3) := by decide +kernel
theorem d_M_removes_54 : decode m_M_removes.2.1 54 = .ok (.return_, 1) := by decide +kernel
theorem d_M_goesAside_0 : decode m_M_goesAside.2.1 0 = .ok (.iconst 0, 1) := by decide +kernel
theorem d_M_goesAside_1 : decode m_M_goesAside.2.1 1 = .ok (.istore_n 1, 1) := by decide +kernel
theorem d_M_goesAside_2 : decode m_M_goesAside.2.1 2 = .ok (.iload_n 1, 1) := by decide +kernel
theorem d_M_goesAside_3 : decode m_M_goesAside.2.1 3 = .ok (.sipush 146, 3) := by decide +kernel
theorem d_M_goesAside_6 : decode m_M_goesAside.2.1 6 = .ok (.if_icmp .ge 21, 3) := by decide +kernel
theorem d_M_goesAside_9 : decode m_M_goesAside.2.1 9 = .ok (.aload_n 0, 1) := by decide +kernel
theorem d_M_goesAside_10 : decode m_M_goesAside.2.1 10 = .ok (.getfield 36, 3) := by decide +kernel
theorem d_M_goesAside_13 : decode m_M_goesAside.2.1 13 = .ok (.iload_n 1, 1) := by decide +kernel
theorem d_M_goesAside_14 : decode m_M_goesAside.2.1 14 = .ok (.aload_n 0, 1) := by decide +kernel
theorem d_M_goesAside_15 : decode m_M_goesAside.2.1 15 = .ok (.getfield 33, 3) := by decide +kernel
theorem d_M_goesAside_18 : decode m_M_goesAside.2.1 18 = .ok (.iload_n 1, 1) := by decide +kernel
theorem d_M_goesAside_19 : decode m_M_goesAside.2.1 19 = .ok (.iaload, 1) := by decide +kernel
theorem d_M_goesAside_20 : decode m_M_goesAside.2.1 20 = .ok (.iastore, 1) := by decide +kernel
theorem d_M_goesAside_21 : decode m_M_goesAside.2.1 21 = .ok (.iinc 1 1, 3) := by decide +kernel
theorem d_M_goesAside_24 : decode m_M_goesAside.2.1 24 = .ok (.goto (-22), 3) := by decide +kernel
theorem d_M_goesAside_27 : decode m_M_goesAside.2.1 27 = .ok (.iconst 0, 1) := by decide +kernel
theorem d_M_goesAside_28 : decode m_M_goesAside.2.1 28 = .ok (.istore_n 1, 1) := by decide +kernel
theorem d_M_goesAside_29 : decode m_M_goesAside.2.1 29 = .ok (.iload_n 1, 1) := by decide +kernel
theorem d_M_goesAside_30 : decode m_M_goesAside.2.1 30 = .ok (.bipush 11, 2) := by decide +kernel
theorem d_M_goesAside_32 : decode m_M_goesAside.2.1 32 = .ok (.if_icmp .ge 21, 3) := by decide +kernel
theorem d_M_goesAside_35 : decode m_M_goesAside.2.1 35 = .ok (.aload_n 0, 1) := by decide +kernel
theorem d_M_goesAside_36 : decode m_M_goesAside.2.1 36 = .ok (.getfield 43, 3) := by decide +kernel
theorem d_M_goesAside_39 : decode m_M_goesAside.2.1 39 = .ok (.iload_n 1, 1) := by decide +kernel
theorem d_M_goesAside_40 : decode m_M_goesAside.2.1 40 = .ok (.aload_n 0, 1) := by decide +kernel
theorem d_M_goesAside_41 : decode m_M_goesAside.2.1 41 = .ok (.getfield 39, 3) := by decide +kernel
theorem d_M_goesAside_44 : decode m_M_goesAside.2.1 44 = .ok (.iload_n 1, 1) := by decide +kernel
theorem d_M_goesAside_45 : decode m_M_goesAside.2.1 45 = .ok (.laload, 1) := by decide +kernel
theorem d_M_goesAside_46 : decode m_M_goesAside.2.1 46 = .ok (.lastore, 1) := by decide +kernel
theorem d_M_goesAside_47 : decode m_M_goesAside.2.1 47 = .ok (.iinc 1 1, 3) := by decide +kernel
theorem d_M_goesAside_50 : decode m_M_goesAside.2.1 50 = .ok (.goto (-21), 3) := by decide +kernel
theorem d_M_goesAside_53 : decode m_M_goesAside.2.1 53 = .ok (.aload_n 0, 1) := by decide +kernel
theorem d_M_goesAside_54 : decode m_M_goesAside.2.1 54 = .ok (.iconst 1, 1) := by decide +kernel
theorem d_M_goesAside_55 : decode m_M_goesAside.2.1 55 = .ok (.putfield 178, 3) := by decide +kernel
theorem d_M_goesAside_58 : decode m_M_goesAside.2.1 58 = .ok (.return_, 1) := by decide +kernel
theorem d_M_comesBack_0 : decode m_M_comesBack.2.1 0 = .ok (.iconst 0, 1) := by decide +kernel
theorem d_M_comesBack_1 : decode m_M_comesBack.2.1 1 = .ok (.istore_n 1, 1) := by decide +kernel
theorem d_M_comesBack_2 : decode m_M_comesBack.2.1 2 = .ok (.iload_n 1, 1) := by decide +kernel
theorem d_M_comesBack_3 : decode m_M_comesBack.2.1 3 = .ok (.sipush 146, 3) := by decide +kernel
theorem d_M_comesBack_6 : decode m_M_comesBack.2.1 6 = .ok (.if_icmp .ge 21, 3) := by decide +kernel
theorem d_M_comesBack_9 : decode m_M_comesBack.2.1 9 = .ok (.aload_n 0, 1) := by decide +kernel
theorem d_M_comesBack_10 : decode m_M_comesBack.2.1 10 = .ok (.getfield 33, 3) := by decide +kernel
theorem d_M_comesBack_13 : decode m_M_comesBack.2.1 13 = .ok (.iload_n 1, 1) := by decide +kernel
theorem d_M_comesBack_14 : decode m_M_comesBack.2.1 14 = .ok (.aload_n 0, 1) := by decide +kernel
theorem d_M_comesBack_15 : decode m_M_comesBack.2.1 15 = .ok (.getfield 36, 3) := by decide +kernel
theorem d_M_comesBack_18 : decode m_M_comesBack.2.1 18 = .ok (.iload_n 1, 1) := by decide +kernel
theorem d_M_comesBack_19 : decode m_M_comesBack.2.1 19 = .ok (.iaload, 1) := by decide +kernel
theorem d_M_comesBack_20 : decode m_M_comesBack.2.1 20 = .ok (.iastore, 1) := by decide +kernel
theorem d_M_comesBack_21 : decode m_M_comesBack.2.1 21 = .ok (.iinc 1 1, 3) := by decide +kernel
theorem d_M_comesBack_24 : decode m_M_comesBack.2.1 24 = .ok (.goto (-22), 3) := by decide +kernel
theorem d_M_comesBack_27 : decode m_M_comesBack.2.1 27 = .ok (.iconst 0, 1) := by decide +kernel
theorem d_M_comesBack_28 : decode m_M_comesBack.2.1 28 = .ok (.istore_n 1, 1) := by decide +kernel
theorem d_M_comesBack_29 : decode m_M_comesBack.2.1 29 = .ok (.iload_n 1, 1) := by decide +kernel
theorem d_M_comesBack_30 : decode m_M_comesBack.2.1 30 = .ok (.bipush 11, 2) := by decide +kernel
theorem d_M_comesBack_32 : decode m_M_comesBack.2.1 32 = .ok (.if_icmp .ge 21, 3) := by decide +kernel
theorem d_M_comesBack_35 : decode m_M_comesBack.2.1 35 = .ok (.aload_n 0, 1) := by decide +kernel
theorem d_M_comesBack_36 : decode m_M_comesBack.2.1 36 = .ok (.getfield 39, 3) := by decide +kernel
theorem d_M_comesBack_39 : decode m_M_comesBack.2.1 39 = .ok (.iload_n 1, 1) := by decide +kernel
theorem d_M_comesBack_40 : decode m_M_comesBack.2.1 40 = .ok (.aload_n 0, 1) := by decide +kernel
theorem d_M_comesBack_41 : decode m_M_comesBack.2.1 41 = .ok (.getfield 43, 3) := by decide +kernel
theorem d_M_comesBack_44 : decode m_M_comesBack.2.1 44 = .ok (.iload_n 1, 1) := by decide +kernel
theorem d_M_comesBack_45 : decode m_M_comesBack.2.1 45 = .ok (.laload, 1) := by decide +kernel
theorem d_M_comesBack_46 : decode m_M_comesBack.2.1 46 = .ok (.lastore, 1) := by decide +kernel
theorem d_M_comesBack_47 : decode m_M_comesBack.2.1 47 = .ok (.iinc 1 1, 3) := by decide +kernel
theorem d_M_comesBack_50 : decode m_M_comesBack.2.1 50 = .ok (.goto (-21), 3) := by decide +kernel
theorem d_M_comesBack_53 : decode m_M_comesBack.2.1 53 = .ok (.aload_n 0, 1) := by decide +kernel
theorem d_M_comesBack_54 : decode m_M_comesBack.2.1 54 = .ok (.iconst 0, 1) := by decide +kernel
theorem d_M_comesBack_55 : decode m_M_comesBack.2.1 55 = .ok (.putfield 178, 3) := by decide +kernel
theorem d_M_comesBack_58 : decode m_M_comesBack.2.1 58 = .ok (.return_, 1) := by decide +kernel
theorem d_M_litOf_0 : decode m_M_litOf.2.1 0 = .ok (.aload_n 0, 1) := by decide +kernel
theorem d_M_litOf_1 : decode m_M_litOf.2.1 1 = .ok (.getfield 20, 3) := by decide +kernel
theorem d_M_litOf_4 : decode m_M_litOf.2.1 4 = .ok (.iload_n 1, 1) := by decide +kernel
theorem d_M_litOf_5 : decode m_M_litOf.2.1 5 = .ok (.iaload, 1) := by decide +kernel
theorem d_M_litOf_6 : decode m_M_litOf.2.1 6 = .ok (.aload_n 0, 1) := by decide +kernel
theorem d_M_litOf_7 : decode m_M_litOf.2.1 7 = .ok (.getfield 33, 3) := by decide +kernel
theorem d_M_litOf_10 : decode m_M_litOf.2.1 10 = .ok (.bipush 19, 2) := by decide +kernel
theorem d_M_litOf_12 : decode m_M_litOf.2.1 12 = .ok (.iload_n 1, 1) := by decide +kernel
theorem d_M_litOf_13 : decode m_M_litOf.2.1 13 = .ok (.iadd, 1) := by decide +kernel
theorem d_M_litOf_14 : decode m_M_litOf.2.1 14 = .ok (.iaload, 1) := by decide +kernel
theorem d_M_litOf_15 : decode m_M_litOf.2.1 15 = .ok (.imul, 1) := by decide +kernel
theorem d_M_litOf_16 : decode m_M_litOf.2.1 16 = .ok (.bipush 100, 2) := by decide +kernel
theorem d_M_litOf_18 : decode m_M_litOf.2.1 18 = .ok (.idiv, 1) := by decide +kernel
theorem d_M_litOf_19 : decode m_M_litOf.2.1 19 = .ok (.ireturn, 1) := by decide +kernel
theorem d_M_voltsAt_0 : decode m_M_voltsAt.2.1 0 = .ok (.iconst 0, 1) := by decide +kernel
theorem d_M_voltsAt_1 : decode m_M_voltsAt.2.1 1 = .ok (.istore_n 2, 1) := by decide +kernel
theorem d_M_voltsAt_2 : decode m_M_voltsAt.2.1 2 = .ok (.iconst 0, 1) := by decide +kernel
theorem d_M_voltsAt_3 : decode m_M_voltsAt.2.1 3 = .ok (.istore_n 3, 1) := by decide +kernel
theorem d_M_voltsAt_4 : decode m_M_voltsAt.2.1 4 = .ok (.iload_n 3, 1) := by decide +kernel
theorem d_M_voltsAt_5 : decode m_M_voltsAt.2.1 5 = .ok (.aload_n 0, 1) := by decide +kernel
theorem d_M_voltsAt_6 : decode m_M_voltsAt.2.1 6 = .ok (.getfield 168, 3) := by decide +kernel
theorem d_M_voltsAt_9 : decode m_M_voltsAt.2.1 9 = .ok (.if_icmp .ge 47, 3) := by decide +kernel
theorem d_M_voltsAt_12 : decode m_M_voltsAt.2.1 12 = .ok (.aload_n 0, 1) := by decide +kernel
theorem d_M_voltsAt_13 : decode m_M_voltsAt.2.1 13 = .ok (.iload_n 3, 1) := by decide +kernel
theorem d_M_voltsAt_14 : decode m_M_voltsAt.2.1 14 = .ok (.invokevirtual 182, 3) := by decide +kernel
theorem d_M_voltsAt_17 : decode m_M_voltsAt.2.1 17 = .ok (.istore 4, 2) := by decide +kernel
theorem d_M_voltsAt_19 : decode m_M_voltsAt.2.1 19 = .ok (.iload_n 1, 1) := by decide +kernel
theorem d_M_voltsAt_20 : decode m_M_voltsAt.2.1 20 = .ok (.iload 4, 2) := by decide +kernel
theorem d_M_voltsAt_22 : decode m_M_voltsAt.2.1 22 = .ok (.if_icmp .ge 28, 3) := by decide +kernel
theorem d_M_voltsAt_25 : decode m_M_voltsAt.2.1 25 = .ok (.iload_n 2, 1) := by decide +kernel
theorem d_M_voltsAt_26 : decode m_M_voltsAt.2.1 26 = .ok (.aload_n 0, 1) := by decide +kernel
theorem d_M_voltsAt_27 : decode m_M_voltsAt.2.1 27 = .ok (.getfield 23, 3) := by decide +kernel
theorem d_M_voltsAt_30 : decode m_M_voltsAt.2.1 30 = .ok (.iload_n 3, 1) := by decide +kernel
theorem d_M_voltsAt_31 : decode m_M_voltsAt.2.1 31 = .ok (.iaload, 1) := by decide +kernel
theorem d_M_voltsAt_32 : decode m_M_voltsAt.2.1 32 = .ok (.iload 4, 2) := by decide +kernel
theorem d_M_voltsAt_34 : decode m_M_voltsAt.2.1 34 = .ok (.iload 4, 2) := by decide +kernel
theorem d_M_voltsAt_36 : decode m_M_voltsAt.2.1 36 = .ok (.imul, 1) := by decide +kernel
theorem d_M_voltsAt_37 : decode m_M_voltsAt.2.1 37 = .ok (.iload_n 1, 1) := by decide +kernel
theorem d_M_voltsAt_38 : decode m_M_voltsAt.2.1 38 = .ok (.iload_n 1, 1) := by decide +kernel
theorem d_M_voltsAt_39 : decode m_M_voltsAt.2.1 39 = .ok (.imul, 1) := by decide +kernel
theorem d_M_voltsAt_40 : decode m_M_voltsAt.2.1 40 = .ok (.isub, 1) := by decide +kernel
theorem d_M_voltsAt_41 : decode m_M_voltsAt.2.1 41 = .ok (.imul, 1) := by decide +kernel
theorem d_M_voltsAt_42 : decode m_M_voltsAt.2.1 42 = .ok (.iload 4, 2) := by decide +kernel
theorem d_M_voltsAt_44 : decode m_M_voltsAt.2.1 44 = .ok (.iload 4, 2) := by decide +kernel
theorem d_M_voltsAt_46 : decode m_M_voltsAt.2.1 46 = .ok (.imul, 1) := by decide +kernel
theorem d_M_voltsAt_47 : decode m_M_voltsAt.2.1 47 = .ok (.idiv, 1) := by decide +kernel
theorem d_M_voltsAt_48 : decode m_M_voltsAt.2.1 48 = .ok (.iadd, 1) := by decide +kernel
theorem d_M_voltsAt_49 : decode m_M_voltsAt.2.1 49 = .ok (.istore_n 2, 1) := by decide +kernel
theorem d_M_voltsAt_50 : decode m_M_voltsAt.2.1 50 = .ok (.iinc 3 1, 3) := by decide +kernel
theorem d_M_voltsAt_53 : decode m_M_voltsAt.2.1 53 = .ok (.goto (-49), 3) := by decide +kernel
theorem d_M_voltsAt_56 : decode m_M_voltsAt.2.1 56 = .ok (.iload_n 2, 1) := by decide +kernel
theorem d_M_voltsAt_57 : decode m_M_voltsAt.2.1 57 = .ok (.ireturn, 1) := by decide +kernel
theorem d_M_powerAt_0 : decode m_M_powerAt.2.1 0 = .ok (.iload_n 1, 1) := by decide +kernel
theorem d_M_powerAt_1 : decode m_M_powerAt.2.1 1 = .ok (.aload_n 0, 1) := by decide +kernel
theorem d_M_powerAt_2 : decode m_M_powerAt.2.1 2 = .ok (.iload_n 1, 1) := by decide +kernel
theorem d_M_powerAt_3 : decode m_M_powerAt.2.1 3 = .ok (.invokevirtual 185, 3) := by decide +kernel
theorem d_M_powerAt_6 : decode m_M_powerAt.2.1 6 = .ok (.imul, 1) := by decide +kernel
theorem d_M_powerAt_7 : decode m_M_powerAt.2.1 7 = .ok (.bipush 10, 2) := by decide +kernel
theorem d_M_powerAt_9 : decode m_M_powerAt.2.1 9 = .ok (.idiv, 1) := by decide +kernel
theorem d_M_powerAt_10 : decode m_M_powerAt.2.1 10 = .ok (.ireturn, 1) := by decide +kernel
theorem d_M_finds_0 : decode m_M_finds.2.1 0 = .ok (.aload_n 0, 1) := by decide +kernel
theorem d_M_finds_1 : decode m_M_finds.2.1 1 = .ok (.getfield 33, 3) := by decide +kernel
theorem d_M_finds_4 : decode m_M_finds.2.1 4 = .ok (.sipush 145, 3) := by decide +kernel
theorem d_M_finds_7 : decode m_M_finds.2.1 7 = .ok (.iaload, 1) := by decide +kernel
theorem d_M_finds_8 : decode m_M_finds.2.1 8 = .ok (.iconst 1, 1) := by decide +kernel
theorem d_M_finds_9 : decode m_M_finds.2.1 9 = .ok (.if_icmp .ne 4, 3) := by decide +kernel
theorem d_M_finds_12 : decode m_M_finds.2.1 12 = .ok (.return_, 1) := by decide +kernel
theorem d_M_finds_13 : decode m_M_finds.2.1 13 = .ok (.aload_n 0, 1) := by decide +kernel
theorem d_M_finds_14 : decode m_M_finds.2.1 14 = .ok (.getfield 33, 3) := by decide +kernel
theorem d_M_finds_17 : decode m_M_finds.2.1 17 = .ok (.sipush 144, 3) := by decide +kernel
theorem d_M_finds_20 : decode m_M_finds.2.1 20 = .ok (.iconst 0, 1) := by decide +kernel
theorem d_M_finds_21 : decode m_M_finds.2.1 21 = .ok (.iastore, 1) := by decide +kernel
theorem d_M_finds_22 : decode m_M_finds.2.1 22 = .ok (.aload_n 0, 1) := by decide +kernel
theorem d_M_finds_23 : decode m_M_finds.2.1 23 = .ok (.getfield 33, 3) := by decide +kernel
theorem d_M_finds_26 : decode m_M_finds.2.1 26 = .ok (.sipush 143, 3) := by decide +kernel
theorem d_M_finds_29 : decode m_M_finds.2.1 29 = .ok (.iconst 0, 1) := by decide +kernel
theorem d_M_finds_30 : decode m_M_finds.2.1 30 = .ok (.iastore, 1) := by decide +kernel
theorem d_M_finds_31 : decode m_M_finds.2.1 31 = .ok (.iconst 0, 1) := by decide +kernel
theorem d_M_finds_32 : decode m_M_finds.2.1 32 = .ok (.istore_n 1, 1) := by decide +kernel
theorem d_M_finds_33 : decode m_M_finds.2.1 33 = .ok (.iload_n 1, 1) := by decide +kernel
theorem d_M_finds_34 : decode m_M_finds.2.1 34 = .ok (.sipush 1000, 3) := by decide +kernel
theorem d_M_finds_37 : decode m_M_finds.2.1 37 = .ok (.if_icmp .ge 48, 3) := by decide +kernel
theorem d_M_finds_40 : decode m_M_finds.2.1 40 = .ok (.aload_n 0, 1) := by decide +kernel
theorem d_M_finds_41 : decode m_M_finds.2.1 41 = .ok (.iload_n 1, 1) := by decide +kernel
theorem d_M_finds_42 : decode m_M_finds.2.1 42 = .ok (.invokevirtual 188, 3) := by decide +kernel
theorem d_M_finds_45 : decode m_M_finds.2.1 45 = .ok (.istore_n 2, 1) := by decide +kernel
theorem d_M_finds_46 : decode m_M_finds.2.1 46 = .ok (.iload_n 2, 1) := by decide +kernel
theorem d_M_finds_47 : decode m_M_finds.2.1 47 = .ok (.aload_n 0, 1) := by decide +kernel
theorem d_M_finds_48 : decode m_M_finds.2.1 48 = .ok (.getfield 33, 3) := by decide +kernel
theorem d_M_finds_51 : decode m_M_finds.2.1 51 = .ok (.sipush 144, 3) := by decide +kernel
theorem d_M_finds_54 : decode m_M_finds.2.1 54 = .ok (.iaload, 1) := by decide +kernel
theorem d_M_finds_55 : decode m_M_finds.2.1 55 = .ok (.if_icmp .gt 6, 3) := by decide +kernel
theorem d_M_finds_58 : decode m_M_finds.2.1 58 = .ok (.goto 21, 3) := by decide +kernel
theorem d_M_finds_61 : decode m_M_finds.2.1 61 = .ok (.aload_n 0, 1) := by decide +kernel
theorem d_M_finds_62 : decode m_M_finds.2.1 62 = .ok (.getfield 33, 3) := by decide +kernel
theorem d_M_finds_65 : decode m_M_finds.2.1 65 = .ok (.sipush 144, 3) := by decide +kernel
theorem d_M_finds_68 : decode m_M_finds.2.1 68 = .ok (.iload_n 2, 1) := by decide +kernel
theorem d_M_finds_69 : decode m_M_finds.2.1 69 = .ok (.iastore, 1) := by decide +kernel
theorem d_M_finds_70 : decode m_M_finds.2.1 70 = .ok (.aload_n 0, 1) := by decide +kernel
theorem d_M_finds_71 : decode m_M_finds.2.1 71 = .ok (.getfield 33, 3) := by decide +kernel
theorem d_M_finds_74 : decode m_M_finds.2.1 74 = .ok (.sipush 143, 3) := by decide +kernel
theorem d_M_finds_77 : decode m_M_finds.2.1 77 = .ok (.iload_n 1, 1) := by decide +kernel
theorem d_M_finds_78 : decode m_M_finds.2.1 78 = .ok (.iastore, 1) := by decide +kernel
theorem d_M_finds_79 : decode m_M_finds.2.1 79 = .ok (.iinc 1 1, 3) := by decide +kernel
theorem d_M_finds_82 : decode m_M_finds.2.1 82 = .ok (.goto (-49), 3) := by decide +kernel
theorem d_M_finds_85 : decode m_M_finds.2.1 85 = .ok (.aload_n 0, 1) := by decide +kernel
theorem d_M_finds_86 : decode m_M_finds.2.1 86 = .ok (.getfield 33, 3) := by decide +kernel
theorem d_M_finds_89 : decode m_M_finds.2.1 89 = .ok (.sipush 145, 3) := by decide +kernel
theorem d_M_finds_92 : decode m_M_finds.2.1 92 = .ok (.iconst 1, 1) := by decide +kernel
theorem d_M_finds_93 : decode m_M_finds.2.1 93 = .ok (.iastore, 1) := by decide +kernel
theorem d_M_finds_94 : decode m_M_finds.2.1 94 = .ok (.return_, 1) := by decide +kernel
theorem d_M_bestNow_0 : decode m_M_bestNow.2.1 0 = .ok (.aload_n 0, 1) := by decide +kernel
theorem d_M_bestNow_1 : decode m_M_bestNow.2.1 1 = .ok (.invokevirtual 191, 3) := by decide +kernel
theorem d_M_bestNow_4 : decode m_M_bestNow.2.1 4 = .ok (.aload_n 0, 1) := by decide +kernel
theorem d_M_bestNow_5 : decode m_M_bestNow.2.1 5 = .ok (.getfield 33, 3) := by decide +kernel
theorem d_M_bestNow_8 : decode m_M_bestNow.2.1 8 = .ok (.sipush 144, 3) := by decide +kernel
theorem d_M_bestNow_11 : decode m_M_bestNow.2.1 11 = .ok (.iaload, 1) := by decide +kernel
theorem d_M_bestNow_12 : decode m_M_bestNow.2.1 12 = .ok (.ireturn, 1) := by decide +kernel
theorem d_M_lights_0 : decode m_M_lights.2.1 0 = .ok (.aload_n 0, 1) := by decide +kernel
theorem d_M_lights_1 : decode m_M_lights.2.1 1 = .ok (.getfield 33, 3) := by decide +kernel
theorem d_M_lights_4 : decode m_M_lights.2.1 4 = .ok (.bipush 19, 2) := by decide +kernel
theorem d_M_lights_6 : decode m_M_lights.2.1 6 = .ok (.iload_n 1, 1) := by decide +kernel
theorem d_M_lights_7 : decode m_M_lights.2.1 7 = .ok (.iadd, 1) := by decide +kernel
theorem d_M_lights_8 : decode m_M_lights.2.1 8 = .ok (.iload_n 2, 1) := by decide +kernel
theorem d_M_lights_9 : decode m_M_lights.2.1 9 = .ok (.iastore, 1) := by decide +kernel
theorem d_M_lights_10 : decode m_M_lights.2.1 10 = .ok (.aload_n 0, 1) := by decide +kernel
theorem d_M_lights_11 : decode m_M_lights.2.1 11 = .ok (.getfield 33, 3) := by decide +kernel
theorem d_M_lights_14 : decode m_M_lights.2.1 14 = .ok (.sipush 145, 3) := by decide +kernel
theorem d_M_lights_17 : decode m_M_lights.2.1 17 = .ok (.iconst 0, 1) := by decide +kernel
theorem d_M_lights_18 : decode m_M_lights.2.1 18 = .ok (.iastore, 1) := by decide +kernel
theorem d_M_lights_19 : decode m_M_lights.2.1 19 = .ok (.return_, 1) := by decide +kernel
theorem d_M_arrives_0 : decode m_M_arrives.2.1 0 = .ok (.aload_n 0, 1) := by decide +kernel
theorem d_M_arrives_1 : decode m_M_arrives.2.1 1 = .ok (.getfield 33, 3) := by decide +kernel
theorem d_M_arrives_4 : decode m_M_arrives.2.1 4 = .ok (.bipush 46, 2) := by decide +kernel
theorem d_M_arrives_6 : decode m_M_arrives.2.1 6 = .ok (.iaload, 1) := by decide +kernel
theorem d_M_arrives_7 : decode m_M_arrives.2.1 7 = .ok (.ifCond .le 91, 3) := by decide +kernel
theorem d_M_arrives_10 : decode m_M_arrives.2.1 10 = .ok (.aload_n 0, 1) := by decide +kernel
theorem d_M_arrives_11 : decode m_M_arrives.2.1 11 = .ok (.getfield 33, 3) := by decide +kernel
theorem d_M_arrives_14 : decode m_M_arrives.2.1 14 = .ok (.bipush 47, 2) := by decide +kernel
theorem d_M_arrives_16 : decode m_M_arrives.2.1 16 = .ok (.iaload, 1) := by decide +kernel
theorem d_M_arrives_17 : decode m_M_arrives.2.1 17 = .ok (.aload_n 0, 1) := by decide +kernel
theorem d_M_arrives_18 : decode m_M_arrives.2.1 18 = .ok (.getfield 33, 3) := by decide +kernel
theorem d_M_arrives_21 : decode m_M_arrives.2.1 21 = .ok (.bipush 25, 2) := by decide +kernel
theorem d_M_arrives_23 : decode m_M_arrives.2.1 23 = .ok (.iaload, 1) := by decide +kernel
theorem d_M_arrives_24 : decode m_M_arrives.2.1 24 = .ok (.if_icmp .ne 74, 3) := by decide +kernel
theorem d_M_arrives_27 : decode m_M_arrives.2.1 27 = .ok (.aload_n 0, 1) := by decide +kernel
theorem d_M_arrives_28 : decode m_M_arrives.2.1 28 = .ok (.getfield 33, 3) := by decide +kernel
theorem d_M_arrives_31 : decode m_M_arrives.2.1 31 = .ok (.bipush 50, 2) := by decide +kernel
theorem d_M_arrives_33 : decode m_M_arrives.2.1 33 = .ok (.iaload, 1) := by decide +kernel
theorem d_M_arrives_34 : decode m_M_arrives.2.1 34 = .ok (.istore_n 1, 1) := by decide +kernel
theorem d_M_arrives_35 : decode m_M_arrives.2.1 35 = .ok (.aload_n 0, 1) := by decide +kernel
theorem d_M_arrives_36 : decode m_M_arrives.2.1 36 = .ok (.getfield 33, 3) := by decide +kernel
theorem d_M_arrives_39 : decode m_M_arrives.2.1 39 = .ok (.bipush 48, 2) := by decide +kernel
theorem d_M_arrives_41 : decode m_M_arrives.2.1 41 = .ok (.iaload, 1) := by decide +kernel
theorem d_M_arrives_42 : decode m_M_arrives.2.1 42 = .ok (.ifCond .ne 18, 3) := by decide +kernel
theorem d_M_arrives_45 : decode m_M_arrives.2.1 45 = .ok (.aload_n 0, 1) := by decide +kernel
theorem d_M_arrives_46 : decode m_M_arrives.2.1 46 = .ok (.aload_n 0, 1) := by decide +kernel
theorem d_M_arrives_47 : decode m_M_arrives.2.1 47 = .ok (.getfield 33, 3) := by decide +kernel
theorem d_M_arrives_50 : decode m_M_arrives.2.1 50 = .ok (.bipush 49, 2) := by decide +kernel
theorem d_M_arrives_52 : decode m_M_arrives.2.1 52 = .ok (.iaload, 1) := by decide +kernel
theorem d_M_arrives_53 : decode m_M_arrives.2.1 53 = .ok (.iload_n 1, 1) := by decide +kernel
theorem d_M_arrives_54 : decode m_M_arrives.2.1 54 = .ok (.invokevirtual 194, 3) := by decide +kernel
theorem d_M_arrives_57 : decode m_M_arrives.2.1 57 = .ok (.goto 33, 3) := by decide +kernel
theorem d_M_arrives_60 : decode m_M_arrives.2.1 60 = .ok (.aload_n 0, 1) := by decide +kernel
theorem d_M_arrives_61 : decode m_M_arrives.2.1 61 = .ok (.getfield 33, 3) := by decide +kernel
theorem d_M_arrives_64 : decode m_M_arrives.2.1 64 = .ok (.bipush 48, 2) := by decide +kernel
theorem d_M_arrives_66 : decode m_M_arrives.2.1 66 = .ok (.iaload, 1) := by decide +kernel
theorem d_M_arrives_67 : decode m_M_arrives.2.1 67 = .ok (.iconst 1, 1) := by decide +kernel
theorem d_M_arrives_68 : decode m_M_arrives.2.1 68 = .ok (.if_icmp .ne 14, 3) := by decide +kernel
theorem d_M_arrives_71 : decode m_M_arrives.2.1 71 = .ok (.aload_n 0, 1) := by decide +kernel
theorem d_M_arrives_72 : decode m_M_arrives.2.1 72 = .ok (.getfield 33, 3) := by decide +kernel
theorem d_M_arrives_75 : decode m_M_arrives.2.1 75 = .ok (.bipush 37, 2) := by decide +kernel
theorem d_M_arrives_77 : decode m_M_arrives.2.1 77 = .ok (.iload_n 1, 1) := by decide +kernel
theorem d_M_arrives_78 : decode m_M_arrives.2.1 78 = .ok (.iastore, 1) := by decide +kernel
theorem d_M_arrives_79 : decode m_M_arrives.2.1 79 = .ok (.goto 11, 3) := by decide +kernel
theorem d_M_arrives_82 : decode m_M_arrives.2.1 82 = .ok (.aload_n 0, 1) := by decide +kernel
theorem d_M_arrives_83 : decode m_M_arrives.2.1 83 = .ok (.getfield 33, 3) := by decide +kernel
theorem d_M_arrives_86 : decode m_M_arrives.2.1 86 = .ok (.bipush 38, 2) := by decide +kernel
theorem d_M_arrives_88 : decode m_M_arrives.2.1 88 = .ok (.iload_n 1, 1) := by decide +kernel
theorem d_M_arrives_89 : decode m_M_arrives.2.1 89 = .ok (.iastore, 1) := by decide +kernel
theorem d_M_arrives_90 : decode m_M_arrives.2.1 90 = .ok (.aload_n 0, 1) := by decide +kernel
theorem d_M_arrives_91 : decode m_M_arrives.2.1 91 = .ok (.iconst 0, 1) := by decide +kernel
theorem d_M_arrives_92 : decode m_M_arrives.2.1 92 = .ok (.invokevirtual 197, 3) := by decide +kernel
theorem d_M_arrives_95 : decode m_M_arrives.2.1 95 = .ok (.goto (-95), 3) := by decide +kernel
theorem d_M_arrives_98 : decode m_M_arrives.2.1 98 = .ok (.return_, 1) := by decide +kernel
theorem d_M_within_0 : decode m_M_within.2.1 0 = .ok (.iload_n 0, 1) := by decide +kernel
theorem d_M_within_1 : decode m_M_within.2.1 1 = .ok (.ifCond .ge 7, 3) := by decide +kernel
theorem d_M_within_4 : decode m_M_within.2.1 4 = .ok (.iconst 0, 1) := by decide +kernel
theorem d_M_within_5 : decode m_M_within.2.1 5 = .ok (.goto 17, 3) := by decide +kernel
theorem d_M_within_8 : decode m_M_within.2.1 8 = .ok (.iload_n 0, 1) := by decide +kernel
theorem d_M_within_9 : decode m_M_within.2.1 9 = .ok (.sipush 999, 3) := by decide +kernel
theorem d_M_within_12 : decode m_M_within.2.1 12 = .ok (.if_icmp .le 9, 3) := by decide +kernel
theorem d_M_within_15 : decode m_M_within.2.1 15 = .ok (.sipush 999, 3) := by decide +kernel
theorem d_M_within_18 : decode m_M_within.2.1 18 = .ok (.goto 4, 3) := by decide +kernel
theorem d_M_within_21 : decode m_M_within.2.1 21 = .ok (.iload_n 0, 1) := by decide +kernel
theorem d_M_within_22 : decode m_M_within.2.1 22 = .ok (.ireturn, 1) := by decide +kernel
theorem d_M_scans_0 : decode m_M_scans.2.1 0 = .ok (.aload_n 0, 1) := by decide +kernel
theorem d_M_scans_1 : decode m_M_scans.2.1 1 = .ok (.getfield 33, 3) := by decide +kernel
theorem d_M_scans_4 : decode m_M_scans.2.1 4 = .ok (.bipush 43, 2) := by decide +kernel
theorem d_M_scans_6 : decode m_M_scans.2.1 6 = .ok (.iaload, 1) := by decide +kernel
theorem d_M_scans_7 : decode m_M_scans.2.1 7 = .ok (.iconst (-1), 1) := by decide +kernel
theorem d_M_scans_8 : decode m_M_scans.2.1 8 = .ok (.if_icmp .ne 7, 3) := by decide +kernel
theorem d_M_scans_11 : decode m_M_scans.2.1 11 = .ok (.iconst 0, 1) := by decide +kernel
theorem d_M_scans_12 : decode m_M_scans.2.1 12 = .ok (.goto 18, 3) := by decide +kernel
theorem d_M_scans_15 : decode m_M_scans.2.1 15 = .ok (.aload_n 0, 1) := by decide +kernel
theorem d_M_scans_16 : decode m_M_scans.2.1 16 = .ok (.getfield 33, 3) := by decide +kernel
theorem d_M_scans_19 : decode m_M_scans.2.1 19 = .ok (.bipush 43, 2) := by decide +kernel
theorem d_M_scans_21 : decode m_M_scans.2.1 21 = .ok (.iaload, 1) := by decide +kernel
theorem d_M_scans_22 : decode m_M_scans.2.1 22 = .ok (.aload_n 0, 1) := by decide +kernel
theorem d_M_scans_23 : decode m_M_scans.2.1 23 = .ok (.getfield 33, 3) := by decide +kernel
theorem d_M_scans_26 : decode m_M_scans.2.1 26 = .ok (.bipush 14, 2) := by decide +kernel
theorem d_M_scans_28 : decode m_M_scans.2.1 28 = .ok (.iaload, 1) := by decide +kernel
theorem d_M_scans_29 : decode m_M_scans.2.1 29 = .ok (.iadd, 1) := by decide +kernel
theorem d_M_scans_30 : decode m_M_scans.2.1 30 = .ok (.istore_n 1, 1) := by decide +kernel
theorem d_M_scans_31 : decode m_M_scans.2.1 31 = .ok (.iload_n 1, 1) := by decide +kernel
theorem d_M_scans_32 : decode m_M_scans.2.1 32 = .ok (.sipush 1000, 3) := by decide +kernel
theorem d_M_scans_35 : decode m_M_scans.2.1 35 = .ok (.if_icmp .ge 73, 3) := by decide +kernel
theorem d_M_scans_38 : decode m_M_scans.2.1 38 = .ok (.aload_n 0, 1) := by decide +kernel
theorem d_M_scans_39 : decode m_M_scans.2.1 39 = .ok (.getfield 33, 3) := by decide +kernel
theorem d_M_scans_42 : decode m_M_scans.2.1 42 = .ok (.bipush 26, 2) := by decide +kernel
theorem d_M_scans_44 : decode m_M_scans.2.1 44 = .ok (.iload_n 1, 1) := by decide +kernel
theorem d_M_scans_45 : decode m_M_scans.2.1 45 = .ok (.iastore, 1) := by decide +kernel
theorem d_M_scans_46 : decode m_M_scans.2.1 46 = .ok (.aload_n 0, 1) := by decide +kernel
theorem d_M_scans_47 : decode m_M_scans.2.1 47 = .ok (.aload_n 0, 1) := by decide +kernel
theorem d_M_scans_48 : decode m_M_scans.2.1 48 = .ok (.iload_n 1, 1) := by decide +kernel
theorem d_M_scans_49 : decode m_M_scans.2.1 49 = .ok (.invokevirtual 188, 3) := by decide +kernel
theorem d_M_scans_52 : decode m_M_scans.2.1 52 = .ok (.putfield 200, 3) := by decide +kernel
theorem d_M_scans_55 : decode m_M_scans.2.1 55 = .ok (.aload_n 0, 1) := by decide +kernel
theorem d_M_scans_56 : decode m_M_scans.2.1 56 = .ok (.getfield 33, 3) := by decide +kernel
theorem d_M_scans_59 : decode m_M_scans.2.1 59 = .ok (.bipush 43, 2) := by decide +kernel
theorem d_M_scans_61 : decode m_M_scans.2.1 61 = .ok (.iaload, 1) := by decide +kernel
theorem d_M_scans_62 : decode m_M_scans.2.1 62 = .ok (.iconst (-1), 1) := by decide +kernel
theorem d_M_scans_63 : decode m_M_scans.2.1 63 = .ok (.if_icmp .eq 17, 3) := by decide +kernel
theorem d_M_scans_66 : decode m_M_scans.2.1 66 = .ok (.aload_n 0, 1) := by decide +kernel
theorem d_M_scans_67 : decode m_M_scans.2.1 67 = .ok (.getfield 200, 3) := by decide +kernel
theorem d_M_scans_70 : decode m_M_scans.2.1 70 = .ok (.aload_n 0, 1) := by decide +kernel
theorem d_M_scans_71 : decode m_M_scans.2.1 71 = .ok (.getfield 33, 3) := by decide +kernel
theorem d_M_scans_74 : decode m_M_scans.2.1 74 = .ok (.bipush 44, 2) := by decide +kernel
theorem d_M_scans_76 : decode m_M_scans.2.1 76 = .ok (.iaload, 1) := by decide +kernel
theorem d_M_scans_77 : decode m_M_scans.2.1 77 = .ok (.if_icmp .le 22, 3) := by decide +kernel
theorem d_M_scans_80 : decode m_M_scans.2.1 80 = .ok (.aload_n 0, 1) := by decide +kernel
theorem d_M_scans_81 : decode m_M_scans.2.1 81 = .ok (.getfield 33, 3) := by decide +kernel
theorem d_M_scans_84 : decode m_M_scans.2.1 84 = .ok (.bipush 44, 2) := by decide +kernel
theorem d_M_scans_86 : decode m_M_scans.2.1 86 = .ok (.aload_n 0, 1) := by decide +kernel
theorem d_M_scans_87 : decode m_M_scans.2.1 87 = .ok (.getfield 200, 3) := by decide +kernel
theorem d_M_scans_90 : decode m_M_scans.2.1 90 = .ok (.iastore, 1) := by decide +kernel
theorem d_M_scans_91 : decode m_M_scans.2.1 91 = .ok (.aload_n 0, 1) := by decide +kernel
theorem d_M_scans_92 : decode m_M_scans.2.1 92 = .ok (.getfield 33, 3) := by decide +kernel
theorem d_M_scans_95 : decode m_M_scans.2.1 95 = .ok (.bipush 45, 2) := by decide +kernel
theorem d_M_scans_97 : decode m_M_scans.2.1 97 = .ok (.iload_n 1, 1) := by decide +kernel
theorem d_M_scans_98 : decode m_M_scans.2.1 98 = .ok (.iastore, 1) := by decide +kernel
theorem d_M_scans_99 : decode m_M_scans.2.1 99 = .ok (.aload_n 0, 1) := by decide +kernel
theorem d_M_scans_100 : decode m_M_scans.2.1 100 = .ok (.getfield 33, 3) := by decide +kernel
theorem d_M_scans_103 : decode m_M_scans.2.1 103 = .ok (.bipush 43, 2) := by decide +kernel
theorem d_M_scans_105 : decode m_M_scans.2.1 105 = .ok (.iload_n 1, 1) := by decide +kernel
theorem d_M_scans_106 : decode m_M_scans.2.1 106 = .ok (.iastore, 1) := by decide +kernel
theorem d_M_scans_107 : decode m_M_scans.2.1 107 = .ok (.return_, 1) := by decide +kernel
theorem d_M_scans_108 : decode m_M_scans.2.1 108 = .ok (.aload_n 0, 1) := by decide +kernel
theorem d_M_scans_109 : decode m_M_scans.2.1 109 = .ok (.getfield 33, 3) := by decide +kernel
theorem d_M_scans_112 : decode m_M_scans.2.1 112 = .ok (.bipush 31, 2) := by decide +kernel
theorem d_M_scans_114 : decode m_M_scans.2.1 114 = .ok (.iconst 0, 1) := by decide +kernel
theorem d_M_scans_115 : decode m_M_scans.2.1 115 = .ok (.iastore, 1) := by decide +kernel
theorem d_M_scans_116 : decode m_M_scans.2.1 116 = .ok (.aload_n 0, 1) := by decide +kernel
theorem d_M_scans_117 : decode m_M_scans.2.1 117 = .ok (.getfield 33, 3) := by decide +kernel
theorem d_M_scans_120 : decode m_M_scans.2.1 120 = .ok (.bipush 26, 2) := by decide +kernel
theorem d_M_scans_122 : decode m_M_scans.2.1 122 = .ok (.aload_n 0, 1) := by decide +kernel
theorem d_M_scans_123 : decode m_M_scans.2.1 123 = .ok (.getfield 33, 3) := by decide +kernel
theorem d_M_scans_126 : decode m_M_scans.2.1 126 = .ok (.bipush 45, 2) := by decide +kernel
theorem d_M_scans_128 : decode m_M_scans.2.1 128 = .ok (.iaload, 1) := by decide +kernel
theorem d_M_scans_129 : decode m_M_scans.2.1 129 = .ok (.iastore, 1) := by decide +kernel
theorem d_M_scans_130 : decode m_M_scans.2.1 130 = .ok (.aload_n 0, 1) := by decide +kernel
theorem d_M_scans_131 : decode m_M_scans.2.1 131 = .ok (.aload_n 0, 1) := by decide +kernel
theorem d_M_scans_132 : decode m_M_scans.2.1 132 = .ok (.aload_n 0, 1) := by decide +kernel
theorem d_M_scans_133 : decode m_M_scans.2.1 133 = .ok (.getfield 33, 3) := by decide +kernel
theorem d_M_scans_136 : decode m_M_scans.2.1 136 = .ok (.bipush 26, 2) := by decide +kernel
theorem d_M_scans_138 : decode m_M_scans.2.1 138 = .ok (.iaload, 1) := by decide +kernel
theorem d_M_scans_139 : decode m_M_scans.2.1 139 = .ok (.invokevirtual 188, 3) := by decide +kernel
theorem d_M_scans_142 : decode m_M_scans.2.1 142 = .ok (.putfield 200, 3) := by decide +kernel
theorem d_M_scans_145 : decode m_M_scans.2.1 145 = .ok (.aload_n 0, 1) := by decide +kernel
theorem d_M_scans_146 : decode m_M_scans.2.1 146 = .ok (.getfield 33, 3) := by decide +kernel
theorem d_M_scans_149 : decode m_M_scans.2.1 149 = .ok (.bipush 28, 2) := by decide +kernel
theorem d_M_scans_151 : decode m_M_scans.2.1 151 = .ok (.aload_n 0, 1) := by decide +kernel
theorem d_M_scans_152 : decode m_M_scans.2.1 152 = .ok (.getfield 33, 3) := by decide +kernel
theorem d_M_scans_155 : decode m_M_scans.2.1 155 = .ok (.bipush 12, 2) := by decide +kernel
theorem d_M_scans_157 : decode m_M_scans.2.1 157 = .ok (.iaload, 1) := by decide +kernel
theorem d_M_scans_158 : decode m_M_scans.2.1 158 = .ok (.iastore, 1) := by decide +kernel
theorem d_M_scans_159 : decode m_M_scans.2.1 159 = .ok (.aload_n 0, 1) := by decide +kernel
theorem d_M_scans_160 : decode m_M_scans.2.1 160 = .ok (.getfield 33, 3) := by decide +kernel
theorem d_M_scans_163 : decode m_M_scans.2.1 163 = .ok (.bipush 29, 2) := by decide +kernel
theorem d_M_scans_165 : decode m_M_scans.2.1 165 = .ok (.iconst 0, 1) := by decide +kernel
theorem d_M_scans_166 : decode m_M_scans.2.1 166 = .ok (.iastore, 1) := by decide +kernel
theorem d_M_scans_167 : decode m_M_scans.2.1 167 = .ok (.aload_n 0, 1) := by decide +kernel
theorem d_M_scans_168 : decode m_M_scans.2.1 168 = .ok (.getfield 33, 3) := by decide +kernel
theorem d_M_scans_171 : decode m_M_scans.2.1 171 = .ok (.bipush 27, 2) := by decide +kernel
theorem d_M_scans_173 : decode m_M_scans.2.1 173 = .ok (.iconst 1, 1) := by decide +kernel
theorem d_M_scans_174 : decode m_M_scans.2.1 174 = .ok (.iastore, 1) := by decide +kernel
theorem d_M_scans_175 : decode m_M_scans.2.1 175 = .ok (.aload_n 0, 1) := by decide +kernel
theorem d_M_scans_176 : decode m_M_scans.2.1 176 = .ok (.getfield 33, 3) := by decide +kernel
theorem d_M_scans_179 : decode m_M_scans.2.1 179 = .ok (.bipush 32, 2) := by decide +kernel
theorem d_M_scans_181 : decode m_M_scans.2.1 181 = .ok (.iconst 0, 1) := by decide +kernel
theorem d_M_scans_182 : decode m_M_scans.2.1 182 = .ok (.iastore, 1) := by decide +kernel
theorem d_M_scans_183 : decode m_M_scans.2.1 183 = .ok (.aload_n 0, 1) := by decide +kernel
theorem d_M_scans_184 : decode m_M_scans.2.1 184 = .ok (.getfield 33, 3) := by decide +kernel
theorem d_M_scans_187 : decode m_M_scans.2.1 187 = .ok (.bipush 30, 2) := by decide +kernel
theorem d_M_scans_189 : decode m_M_scans.2.1 189 = .ok (.aload_n 0, 1) := by decide +kernel
theorem d_M_scans_190 : decode m_M_scans.2.1 190 = .ok (.getfield 200, 3) := by decide +kernel
theorem d_M_scans_193 : decode m_M_scans.2.1 193 = .ok (.iastore, 1) := by decide +kernel
theorem d_M_scans_194 : decode m_M_scans.2.1 194 = .ok (.aload_n 0, 1) := by decide +kernel
theorem d_M_scans_195 : decode m_M_scans.2.1 195 = .ok (.getfield 39, 3) := by decide +kernel
theorem d_M_scans_198 : decode m_M_scans.2.1 198 = .ok (.bipush 7, 2) := by decide +kernel
theorem d_M_scans_200 : decode m_M_scans.2.1 200 = .ok (.dup2, 1) := by decide +kernel
theorem d_M_scans_201 : decode m_M_scans.2.1 201 = .ok (.laload, 1) := by decide +kernel
theorem d_M_scans_202 : decode m_M_scans.2.1 202 = .ok (.lconst 1, 1) := by decide +kernel
theorem d_M_scans_203 : decode m_M_scans.2.1 203 = .ok (.ladd, 1) := by decide +kernel
theorem d_M_scans_204 : decode m_M_scans.2.1 204 = .ok (.lastore, 1) := by decide +kernel
theorem d_M_scans_205 : decode m_M_scans.2.1 205 = .ok (.return_, 1) := by decide +kernel
theorem d_M_learns_0 : decode m_M_learns.2.1 0 = .ok (.aload_n 0, 1) := by decide +kernel
theorem d_M_learns_1 : decode m_M_learns.2.1 1 = .ok (.getfield 33, 3) := by decide +kernel
theorem d_M_learns_4 : decode m_M_learns.2.1 4 = .ok (.bipush 29, 2) := by decide +kernel
theorem d_M_learns_6 : decode m_M_learns.2.1 6 = .ok (.dup2, 1) := by decide +kernel
theorem d_M_learns_7 : decode m_M_learns.2.1 7 = .ok (.iaload, 1) := by decide +kernel
theorem d_M_learns_8 : decode m_M_learns.2.1 8 = .ok (.iconst 1, 1) := by decide +kernel
theorem d_M_learns_9 : decode m_M_learns.2.1 9 = .ok (.iadd, 1) := by decide +kernel
theorem d_M_learns_10 : decode m_M_learns.2.1 10 = .ok (.iastore, 1) := by decide +kernel
theorem d_M_learns_11 : decode m_M_learns.2.1 11 = .ok (.aload_n 0, 1) := by decide +kernel
theorem d_M_learns_12 : decode m_M_learns.2.1 12 = .ok (.getfield 33, 3) := by decide +kernel
theorem d_M_learns_15 : decode m_M_learns.2.1 15 = .ok (.bipush 29, 2) := by decide +kernel
theorem d_M_learns_17 : decode m_M_learns.2.1 17 = .ok (.iaload, 1) := by decide +kernel
theorem d_M_learns_18 : decode m_M_learns.2.1 18 = .ok (.aload_n 0, 1) := by decide +kernel
theorem d_M_learns_19 : decode m_M_learns.2.1 19 = .ok (.getfield 33, 3) := by decide +kernel
theorem d_M_learns_22 : decode m_M_learns.2.1 22 = .ok (.bipush 13, 2) := by decide +kernel
theorem d_M_learns_24 : decode m_M_learns.2.1 24 = .ok (.iaload, 1) := by decide +kernel
theorem d_M_learns_25 : decode m_M_learns.2.1 25 = .ok (.if_icmp .ge 4, 3) := by decide +kernel
theorem d_M_learns_28 : decode m_M_learns.2.1 28 = .ok (.return_, 1) := by decide +kernel
theorem d_M_learns_29 : decode m_M_learns.2.1 29 = .ok (.aload_n 0, 1) := by decide +kernel
theorem d_M_learns_30 : decode m_M_learns.2.1 30 = .ok (.getfield 33, 3) := by decide +kernel
theorem d_M_learns_33 : decode m_M_learns.2.1 33 = .ok (.bipush 29, 2) := by decide +kernel
theorem d_M_learns_35 : decode m_M_learns.2.1 35 = .ok (.iconst 0, 1) := by decide +kernel
theorem d_M_learns_36 : decode m_M_learns.2.1 36 = .ok (.iastore, 1) := by decide +kernel
theorem d_M_learns_37 : decode m_M_learns.2.1 37 = .ok (.aload_n 0, 1) := by decide +kernel
theorem d_M_learns_38 : decode m_M_learns.2.1 38 = .ok (.getfield 33, 3) := by decide +kernel
theorem d_M_learns_41 : decode m_M_learns.2.1 41 = .ok (.bipush 28, 2) := by decide +kernel
theorem d_M_learns_43 : decode m_M_learns.2.1 43 = .ok (.iconst 2, 1) := by decide +kernel
theorem d_M_learns_44 : decode m_M_learns.2.1 44 = .ok (.aload_n 0, 1) := by decide +kernel
theorem d_M_learns_45 : decode m_M_learns.2.1 45 = .ok (.getfield 33, 3) := by decide +kernel
theorem d_M_learns_48 : decode m_M_learns.2.1 48 = .ok (.bipush 28, 2) := by decide +kernel
theorem d_M_learns_50 : decode m_M_learns.2.1 50 = .ok (.iaload, 1) := by decide +kernel
theorem d_M_learns_51 : decode m_M_learns.2.1 51 = .ok (.imul, 1) := by decide +kernel
theorem d_M_learns_52 : decode m_M_learns.2.1 52 = .ok (.bipush 64, 2) := by decide +kernel
theorem d_M_learns_54 : decode m_M_learns.2.1 54 = .ok (.if_icmp .le 8, 3) := by decide +kernel
theorem d_M_learns_57 : decode m_M_learns.2.1 57 = .ok (.bipush 64, 2) := by decide +kernel
theorem d_M_learns_59 : decode m_M_learns.2.1 59 = .ok (.goto 12, 3) := by decide +kernel
theorem d_M_learns_62 : decode m_M_learns.2.1 62 = .ok (.iconst 2, 1) := by decide +kernel
theorem d_M_learns_63 : decode m_M_learns.2.1 63 = .ok (.aload_n 0, 1) := by decide +kernel
theorem d_M_learns_64 : decode m_M_learns.2.1 64 = .ok (.getfield 33, 3) := by decide +kernel
theorem d_M_learns_67 : decode m_M_learns.2.1 67 = .ok (.bipush 28, 2) := by decide +kernel
theorem d_M_learns_69 : decode m_M_learns.2.1 69 = .ok (.iaload, 1) := by decide +kernel
theorem d_M_learns_70 : decode m_M_learns.2.1 70 = .ok (.imul, 1) := by decide +kernel
theorem d_M_learns_71 : decode m_M_learns.2.1 71 = .ok (.iastore, 1) := by decide +kernel
theorem d_M_learns_72 : decode m_M_learns.2.1 72 = .ok (.return_, 1) := by decide +kernel
theorem d_M_slows_0 : decode m_M_slows.2.1 0 = .ok (.aload_n 0, 1) := by decide +kernel
theorem d_M_slows_1 : decode m_M_slows.2.1 1 = .ok (.getfield 33, 3) := by decide +kernel
theorem d_M_slows_4 : decode m_M_slows.2.1 4 = .ok (.bipush 28, 2) := by decide +kernel
theorem d_M_slows_6 : decode m_M_slows.2.1 6 = .ok (.aload_n 0, 1) := by decide +kernel
theorem d_M_slows_7 : decode m_M_slows.2.1 7 = .ok (.getfield 33, 3) := by decide +kernel
theorem d_M_slows_10 : decode m_M_slows.2.1 10 = .ok (.bipush 28, 2) := by decide +kernel
theorem d_M_slows_12 : decode m_M_slows.2.1 12 = .ok (.iaload, 1) := by decide +kernel
theorem d_M_slows_13 : decode m_M_slows.2.1 13 = .ok (.iconst 2, 1) := by decide +kernel
theorem d_M_slows_14 : decode m_M_slows.2.1 14 = .ok (.idiv, 1) := by decide +kernel
theorem d_M_slows_15 : decode m_M_slows.2.1 15 = .ok (.iconst 1, 1) := by decide +kernel
theorem d_M_slows_16 : decode m_M_slows.2.1 16 = .ok (.if_icmp .ge 7, 3) := by decide +kernel
theorem d_M_slows_19 : decode m_M_slows.2.1 19 = .ok (.iconst 1, 1) := by decide +kernel
theorem d_M_slows_20 : decode m_M_slows.2.1 20 = .ok (.goto 12, 3) := by decide +kernel
theorem d_M_slows_23 : decode m_M_slows.2.1 23 = .ok (.aload_n 0, 1) := by decide +kernel
theorem d_M_slows_24 : decode m_M_slows.2.1 24 = .ok (.getfield 33, 3) := by decide +kernel
theorem d_M_slows_27 : decode m_M_slows.2.1 27 = .ok (.bipush 28, 2) := by decide +kernel
theorem d_M_slows_29 : decode m_M_slows.2.1 29 = .ok (.iaload, 1) := by decide +kernel
theorem d_M_slows_30 : decode m_M_slows.2.1 30 = .ok (.iconst 2, 1) := by decide +kernel
theorem d_M_slows_31 : decode m_M_slows.2.1 31 = .ok (.idiv, 1) := by decide +kernel
theorem d_M_slows_32 : decode m_M_slows.2.1 32 = .ok (.iastore, 1) := by decide +kernel
theorem d_M_slows_33 : decode m_M_slows.2.1 33 = .ok (.aload_n 0, 1) := by decide +kernel
theorem d_M_slows_34 : decode m_M_slows.2.1 34 = .ok (.getfield 33, 3) := by decide +kernel
theorem d_M_slows_37 : decode m_M_slows.2.1 37 = .ok (.bipush 29, 2) := by decide +kernel
theorem d_M_slows_39 : decode m_M_slows.2.1 39 = .ok (.iconst 0, 1) := by decide +kernel
theorem d_M_slows_40 : decode m_M_slows.2.1 40 = .ok (.iastore, 1) := by decide +kernel
theorem d_M_slows_41 : decode m_M_slows.2.1 41 = .ok (.return_, 1) := by decide +kernel
theorem d_M_climbs_0 : decode m_M_climbs.2.1 0 = .ok (.aload_n 0, 1) := by decide +kernel
theorem d_M_climbs_1 : decode m_M_climbs.2.1 1 = .ok (.getfield 33, 3) := by decide +kernel
theorem d_M_climbs_4 : decode m_M_climbs.2.1 4 = .ok (.bipush 26, 2) := by decide +kernel
theorem d_M_climbs_6 : decode m_M_climbs.2.1 6 = .ok (.aload_n 0, 1) := by decide +kernel
theorem d_M_climbs_7 : decode m_M_climbs.2.1 7 = .ok (.getfield 33, 3) := by decide +kernel
theorem d_M_climbs_10 : decode m_M_climbs.2.1 10 = .ok (.bipush 26, 2) := by decide +kernel
theorem d_M_climbs_12 : decode m_M_climbs.2.1 12 = .ok (.iaload, 1) := by decide +kernel
theorem d_M_climbs_13 : decode m_M_climbs.2.1 13 = .ok (.aload_n 0, 1) := by decide +kernel
theorem d_M_climbs_14 : decode m_M_climbs.2.1 14 = .ok (.getfield 33, 3) := by decide +kernel
theorem d_M_climbs_17 : decode m_M_climbs.2.1 17 = .ok (.bipush 27, 2) := by decide +kernel
theorem d_M_climbs_19 : decode m_M_climbs.2.1 19 = .ok (.iaload, 1) := by decide +kernel
theorem d_M_climbs_20 : decode m_M_climbs.2.1 20 = .ok (.aload_n 0, 1) := by decide +kernel
theorem d_M_climbs_21 : decode m_M_climbs.2.1 21 = .ok (.getfield 33, 3) := by decide +kernel
theorem d_M_climbs_24 : decode m_M_climbs.2.1 24 = .ok (.bipush 28, 2) := by decide +kernel
theorem d_M_climbs_26 : decode m_M_climbs.2.1 26 = .ok (.iaload, 1) := by decide +kernel
theorem d_M_climbs_27 : decode m_M_climbs.2.1 27 = .ok (.imul, 1) := by decide +kernel
theorem d_M_climbs_28 : decode m_M_climbs.2.1 28 = .ok (.iadd, 1) := by decide +kernel
theorem d_M_climbs_29 : decode m_M_climbs.2.1 29 = .ok (.invokestatic 203, 3) := by decide +kernel
theorem d_M_climbs_32 : decode m_M_climbs.2.1 32 = .ok (.iastore, 1) := by decide +kernel
theorem d_M_climbs_33 : decode m_M_climbs.2.1 33 = .ok (.aload_n 0, 1) := by decide +kernel
theorem d_M_climbs_34 : decode m_M_climbs.2.1 34 = .ok (.aload_n 0, 1) := by decide +kernel
theorem d_M_climbs_35 : decode m_M_climbs.2.1 35 = .ok (.aload_n 0, 1) := by decide +kernel
theorem d_M_climbs_36 : decode m_M_climbs.2.1 36 = .ok (.getfield 33, 3) := by decide +kernel
theorem d_M_climbs_39 : decode m_M_climbs.2.1 39 = .ok (.bipush 26, 2) := by decide +kernel
theorem d_M_climbs_41 : decode m_M_climbs.2.1 41 = .ok (.iaload, 1) := by decide +kernel
theorem d_M_climbs_42 : decode m_M_climbs.2.1 42 = .ok (.invokevirtual 188, 3) := by decide +kernel
theorem d_M_climbs_45 : decode m_M_climbs.2.1 45 = .ok (.putfield 200, 3) := by decide +kernel
theorem d_M_climbs_48 : decode m_M_climbs.2.1 48 = .ok (.aload_n 0, 1) := by decide +kernel
theorem d_M_climbs_49 : decode m_M_climbs.2.1 49 = .ok (.getfield 200, 3) := by decide +kernel
theorem d_M_climbs_52 : decode m_M_climbs.2.1 52 = .ok (.aload_n 0, 1) := by decide +kernel
theorem d_M_climbs_53 : decode m_M_climbs.2.1 53 = .ok (.getfield 33, 3) := by decide +kernel
theorem d_M_climbs_56 : decode m_M_climbs.2.1 56 = .ok (.bipush 30, 2) := by decide +kernel
theorem d_M_climbs_58 : decode m_M_climbs.2.1 58 = .ok (.iaload, 1) := by decide +kernel
theorem d_M_climbs_59 : decode m_M_climbs.2.1 59 = .ok (.if_icmp .le 10, 3) := by decide +kernel
theorem d_M_climbs_62 : decode m_M_climbs.2.1 62 = .ok (.aload_n 0, 1) := by decide +kernel
theorem d_M_climbs_63 : decode m_M_climbs.2.1 63 = .ok (.invokevirtual 206, 3) := by decide +kernel
theorem d_M_climbs_66 : decode m_M_climbs.2.1 66 = .ok (.goto 22, 3) := by decide +kernel
theorem d_M_climbs_69 : decode m_M_climbs.2.1 69 = .ok (.aload_n 0, 1) := by decide +kernel
theorem d_M_climbs_70 : decode m_M_climbs.2.1 70 = .ok (.getfield 33, 3) := by decide +kernel
theorem d_M_climbs_73 : decode m_M_climbs.2.1 73 = .ok (.bipush 27, 2) := by decide +kernel
theorem d_M_climbs_75 : decode m_M_climbs.2.1 75 = .ok (.aload_n 0, 1) := by decide +kernel
theorem d_M_climbs_76 : decode m_M_climbs.2.1 76 = .ok (.getfield 33, 3) := by decide +kernel
theorem d_M_climbs_79 : decode m_M_climbs.2.1 79 = .ok (.bipush 27, 2) := by decide +kernel
theorem d_M_climbs_81 : decode m_M_climbs.2.1 81 = .ok (.iaload, 1) := by decide +kernel
theorem d_M_climbs_82 : decode m_M_climbs.2.1 82 = .ok (.ineg, 1) := by decide +kernel
theorem d_M_climbs_83 : decode m_M_climbs.2.1 83 = .ok (.iastore, 1) := by decide +kernel
theorem d_M_climbs_84 : decode m_M_climbs.2.1 84 = .ok (.aload_n 0, 1) := by decide +kernel
theorem d_M_climbs_85 : decode m_M_climbs.2.1 85 = .ok (.invokevirtual 209, 3) := by decide +kernel
theorem d_M_climbs_88 : decode m_M_climbs.2.1 88 = .ok (.return_, 1) := by decide +kernel
theorem d_M_slopes_0 : decode m_M_slopes.2.1 0 = .ok (.aload_n 0, 1) := by decide +kernel
theorem d_M_slopes_1 : decode m_M_slopes.2.1 1 = .ok (.getfield 33, 3) := by decide +kernel
theorem d_M_slopes_4 : decode m_M_slopes.2.1 4 = .ok (.bipush 26, 2) := by decide +kernel
theorem d_M_slopes_6 : decode m_M_slopes.2.1 6 = .ok (.iaload, 1) := by decide +kernel
theorem d_M_slopes_7 : decode m_M_slopes.2.1 7 = .ok (.istore_n 1, 1) := by decide +kernel
theorem d_M_slopes_8 : decode m_M_slopes.2.1 8 = .ok (.aload_n 0, 1) := by decide +kernel
theorem d_M_slopes_9 : decode m_M_slopes.2.1 9 = .ok (.iload_n 1, 1) := by decide +kernel
theorem d_M_slopes_10 : decode m_M_slopes.2.1 10 = .ok (.invokevirtual 188, 3) := by decide +kernel
theorem d_M_slopes_13 : decode m_M_slopes.2.1 13 = .ok (.istore_n 2, 1) := by decide +kernel
theorem d_M_slopes_14 : decode m_M_slopes.2.1 14 = .ok (.iload_n 1, 1) := by decide +kernel
theorem d_M_slopes_15 : decode m_M_slopes.2.1 15 = .ok (.sipush 999, 3) := by decide +kernel
theorem d_M_slopes_18 : decode m_M_slopes.2.1 18 = .ok (.if_icmp .ge 13, 3) := by decide +kernel
theorem d_M_slopes_21 : decode m_M_slopes.2.1 21 = .ok (.aload_n 0, 1) := by decide +kernel
theorem d_M_slopes_22 : decode m_M_slopes.2.1 22 = .ok (.iload_n 1, 1) := by decide +kernel
theorem d_M_slopes_23 : decode m_M_slopes.2.1 23 = .ok (.iconst 1, 1) := by decide +kernel
theorem d_M_slopes_24 : decode m_M_slopes.2.1 24 = .ok (.iadd, 1) := by decide +kernel
theorem d_M_slopes_25 : decode m_M_slopes.2.1 25 = .ok (.invokevirtual 188, 3) := by decide +kernel
theorem d_M_slopes_28 : decode m_M_slopes.2.1 28 = .ok (.goto 4, 3) := by decide +kernel
theorem d_M_slopes_31 : decode m_M_slopes.2.1 31 = .ok (.iconst (-1), 1) := by decide +kernel
theorem d_M_slopes_32 : decode m_M_slopes.2.1 32 = .ok (.istore_n 3, 1) := by decide +kernel
theorem d_M_slopes_33 : decode m_M_slopes.2.1 33 = .ok (.iload_n 1, 1) := by decide +kernel
theorem d_M_slopes_34 : decode m_M_slopes.2.1 34 = .ok (.ifCond .le 13, 3) := by decide +kernel
theorem d_M_slopes_37 : decode m_M_slopes.2.1 37 = .ok (.aload_n 0, 1) := by decide +kernel
theorem d_M_slopes_38 : decode m_M_slopes.2.1 38 = .ok (.iload_n 1, 1) := by decide +kernel
theorem d_M_slopes_39 : decode m_M_slopes.2.1 39 = .ok (.iconst 1, 1) := by decide +kernel
theorem d_M_slopes_40 : decode m_M_slopes.2.1 40 = .ok (.isub, 1) := by decide +kernel
theorem d_M_slopes_41 : decode m_M_slopes.2.1 41 = .ok (.invokevirtual 188, 3) := by decide +kernel
theorem d_M_slopes_44 : decode m_M_slopes.2.1 44 = .ok (.goto 4, 3) := by decide +kernel
theorem d_M_slopes_47 : decode m_M_slopes.2.1 47 = .ok (.iconst (-1), 1) := by decide +kernel
theorem d_M_slopes_48 : decode m_M_slopes.2.1 48 = .ok (.istore 4, 2) := by decide +kernel
theorem d_M_slopes_50 : decode m_M_slopes.2.1 50 = .ok (.iload_n 3, 1) := by decide +kernel
theorem d_M_slopes_51 : decode m_M_slopes.2.1 51 = .ok (.iload_n 2, 1) := by decide +kernel
theorem d_M_slopes_52 : decode m_M_slopes.2.1 52 = .ok (.if_icmp .gt 16, 3) := by decide +kernel
theorem d_M_slopes_55 : decode m_M_slopes.2.1 55 = .ok (.iload 4, 2) := by decide +kernel
theorem d_M_slopes_57 : decode m_M_slopes.2.1 57 = .ok (.iload_n 2, 1) := by decide +kernel
theorem d_M_slopes_58 : decode m_M_slopes.2.1 58 = .ok (.if_icmp .gt 10, 3) := by decide +kernel
theorem d_M_slopes_61 : decode m_M_slopes.2.1 61 = .ok (.aload_n 0, 1) := by decide +kernel
theorem d_M_slopes_62 : decode m_M_slopes.2.1 62 = .ok (.invokevirtual 209, 3) := by decide +kernel
theorem d_M_slopes_65 : decode m_M_slopes.2.1 65 = .ok (.goto 70, 3) := by decide +kernel
theorem d_M_slopes_68 : decode m_M_slopes.2.1 68 = .ok (.iload_n 3, 1) := by decide +kernel
theorem d_M_slopes_69 : decode m_M_slopes.2.1 69 = .ok (.iload 4, 2) := by decide +kernel
theorem d_M_slopes_71 : decode m_M_slopes.2.1 71 = .ok (.if_icmp .le 7, 3) := by decide +kernel
theorem d_M_slopes_74 : decode m_M_slopes.2.1 74 = .ok (.iconst 1, 1) := by decide +kernel
theorem d_M_slopes_75 : decode m_M_slopes.2.1 75 = .ok (.goto 4, 3) := by decide +kernel
theorem d_M_slopes_78 : decode m_M_slopes.2.1 78 = .ok (.iconst (-1), 1) := by decide +kernel
theorem d_M_slopes_79 : decode m_M_slopes.2.1 79 = .ok (.istore 5, 2) := by decide +kernel
theorem d_M_slopes_81 : decode m_M_slopes.2.1 81 = .ok (.aload_n 0, 1) := by decide +kernel
theorem d_M_slopes_82 : decode m_M_slopes.2.1 82 = .ok (.getfield 33, 3) := by decide +kernel
theorem d_M_slopes_85 : decode m_M_slopes.2.1 85 = .ok (.bipush 26, 2) := by decide +kernel
theorem d_M_slopes_87 : decode m_M_slopes.2.1 87 = .ok (.iload_n 1, 1) := by decide +kernel
theorem d_M_slopes_88 : decode m_M_slopes.2.1 88 = .ok (.iload 5, 2) := by decide +kernel
theorem d_M_slopes_90 : decode m_M_slopes.2.1 90 = .ok (.aload_n 0, 1) := by decide +kernel
theorem d_M_slopes_91 : decode m_M_slopes.2.1 91 = .ok (.getfield 33, 3) := by decide +kernel
theorem d_M_slopes_94 : decode m_M_slopes.2.1 94 = .ok (.bipush 28, 2) := by decide +kernel
theorem d_M_slopes_96 : decode m_M_slopes.2.1 96 = .ok (.iaload, 1) := by decide +kernel
theorem d_M_slopes_97 : decode m_M_slopes.2.1 97 = .ok (.imul, 1) := by decide +kernel
theorem d_M_slopes_98 : decode m_M_slopes.2.1 98 = .ok (.iadd, 1) := by decide +kernel
theorem d_M_slopes_99 : decode m_M_slopes.2.1 99 = .ok (.invokestatic 203, 3) := by decide +kernel
theorem d_M_slopes_102 : decode m_M_slopes.2.1 102 = .ok (.iastore, 1) := by decide +kernel
theorem d_M_slopes_103 : decode m_M_slopes.2.1 103 = .ok (.iload 5, 2) := by decide +kernel
theorem d_M_slopes_105 : decode m_M_slopes.2.1 105 = .ok (.aload_n 0, 1) := by decide +kernel
theorem d_M_slopes_106 : decode m_M_slopes.2.1 106 = .ok (.getfield 33, 3) := by decide +kernel
theorem d_M_slopes_109 : decode m_M_slopes.2.1 109 = .ok (.bipush 27, 2) := by decide +kernel
theorem d_M_slopes_111 : decode m_M_slopes.2.1 111 = .ok (.iaload, 1) := by decide +kernel
theorem d_M_slopes_112 : decode m_M_slopes.2.1 112 = .ok (.if_icmp .ne 10, 3) := by decide +kernel
theorem d_M_slopes_115 : decode m_M_slopes.2.1 115 = .ok (.aload_n 0, 1) := by decide +kernel
theorem d_M_slopes_116 : decode m_M_slopes.2.1 116 = .ok (.invokevirtual 206, 3) := by decide +kernel
theorem d_M_slopes_119 : decode m_M_slopes.2.1 119 = .ok (.goto 16, 3) := by decide +kernel
theorem d_M_slopes_122 : decode m_M_slopes.2.1 122 = .ok (.aload_n 0, 1) := by decide +kernel
theorem d_M_slopes_123 : decode m_M_slopes.2.1 123 = .ok (.getfield 33, 3) := by decide +kernel
theorem d_M_slopes_126 : decode m_M_slopes.2.1 126 = .ok (.bipush 27, 2) := by decide +kernel
theorem d_M_slopes_128 : decode m_M_slopes.2.1 128 = .ok (.iload 5, 2) := by decide +kernel
theorem d_M_slopes_130 : decode m_M_slopes.2.1 130 = .ok (.iastore, 1) := by decide +kernel
theorem d_M_slopes_131 : decode m_M_slopes.2.1 131 = .ok (.aload_n 0, 1) := by decide +kernel
theorem d_M_slopes_132 : decode m_M_slopes.2.1 132 = .ok (.invokevirtual 209, 3) := by decide +kernel
theorem d_M_slopes_135 : decode m_M_slopes.2.1 135 = .ok (.aload_n 0, 1) := by decide +kernel
theorem d_M_slopes_136 : decode m_M_slopes.2.1 136 = .ok (.aload_n 0, 1) := by decide +kernel
theorem d_M_slopes_137 : decode m_M_slopes.2.1 137 = .ok (.aload_n 0, 1) := by decide +kernel
theorem d_M_slopes_138 : decode m_M_slopes.2.1 138 = .ok (.getfield 33, 3) := by decide +kernel
theorem d_M_slopes_141 : decode m_M_slopes.2.1 141 = .ok (.bipush 26, 2) := by decide +kernel
theorem d_M_slopes_143 : decode m_M_slopes.2.1 143 = .ok (.iaload, 1) := by decide +kernel
theorem d_M_slopes_144 : decode m_M_slopes.2.1 144 = .ok (.invokevirtual 188, 3) := by decide +kernel
theorem d_M_slopes_147 : decode m_M_slopes.2.1 147 = .ok (.putfield 200, 3) := by decide +kernel
theorem d_M_slopes_150 : decode m_M_slopes.2.1 150 = .ok (.return_, 1) := by decide +kernel
theorem d_M_shared_0 : decode m_M_shared.2.1 0 = .ok (.iconst 0, 1) := by decide +kernel
theorem d_M_shared_1 : decode m_M_shared.2.1 1 = .ok (.istore_n 2, 1) := by decide +kernel
theorem d_M_shared_2 : decode m_M_shared.2.1 2 = .ok (.iconst 0, 1) := by decide +kernel
theorem d_M_shared_3 : decode m_M_shared.2.1 3 = .ok (.istore_n 3, 1) := by decide +kernel
theorem d_M_shared_4 : decode m_M_shared.2.1 4 = .ok (.iload_n 3, 1) := by decide +kernel
theorem d_M_shared_5 : decode m_M_shared.2.1 5 = .ok (.aload_n 0, 1) := by decide +kernel
theorem d_M_shared_6 : decode m_M_shared.2.1 6 = .ok (.getfield 168, 3) := by decide +kernel
theorem d_M_shared_9 : decode m_M_shared.2.1 9 = .ok (.if_icmp .ge 28, 3) := by decide +kernel
theorem d_M_shared_12 : decode m_M_shared.2.1 12 = .ok (.aload_n 0, 1) := by decide +kernel
theorem d_M_shared_13 : decode m_M_shared.2.1 13 = .ok (.iload_n 3, 1) := by decide +kernel
theorem d_M_shared_14 : decode m_M_shared.2.1 14 = .ok (.invokevirtual 182, 3) := by decide +kernel
theorem d_M_shared_17 : decode m_M_shared.2.1 17 = .ok (.iload_n 2, 1) := by decide +kernel
theorem d_M_shared_18 : decode m_M_shared.2.1 18 = .ok (.if_icmp .le 11, 3) := by decide +kernel
theorem d_M_shared_21 : decode m_M_shared.2.1 21 = .ok (.aload_n 0, 1) := by decide +kernel
theorem d_M_shared_22 : decode m_M_shared.2.1 22 = .ok (.iload_n 3, 1) := by decide +kernel
theorem d_M_shared_23 : decode m_M_shared.2.1 23 = .ok (.invokevirtual 182, 3) := by decide +kernel
theorem d_M_shared_26 : decode m_M_shared.2.1 26 = .ok (.goto 4, 3) := by decide +kernel
theorem d_M_shared_29 : decode m_M_shared.2.1 29 = .ok (.iload_n 2, 1) := by decide +kernel
theorem d_M_shared_30 : decode m_M_shared.2.1 30 = .ok (.istore_n 2, 1) := by decide +kernel
theorem d_M_shared_31 : decode m_M_shared.2.1 31 = .ok (.iinc 3 1, 3) := by decide +kernel
theorem d_M_shared_34 : decode m_M_shared.2.1 34 = .ok (.goto (-30), 3) := by decide +kernel
theorem d_M_shared_37 : decode m_M_shared.2.1 37 = .ok (.iload_n 1, 1) := by decide +kernel
theorem d_M_shared_38 : decode m_M_shared.2.1 38 = .ok (.iload_n 2, 1) := by decide +kernel
theorem d_M_shared_39 : decode m_M_shared.2.1 39 = .ok (.imul, 1) := by decide +kernel
theorem d_M_shared_40 : decode m_M_shared.2.1 40 = .ok (.bipush 100, 2) := by decide +kernel
theorem d_M_shared_42 : decode m_M_shared.2.1 42 = .ok (.idiv, 1) := by decide +kernel
theorem d_M_shared_43 : decode m_M_shared.2.1 43 = .ok (.ireturn, 1) := by decide +kernel
theorem d_M_startsScan_0 : decode m_M_startsScan.2.1 0 = .ok (.aload_n 0, 1) := by decide +kernel
theorem d_M_startsScan_1 : decode m_M_startsScan.2.1 1 = .ok (.getfield 33, 3) := by decide +kernel
theorem d_M_startsScan_4 : decode m_M_startsScan.2.1 4 = .ok (.bipush 31, 2) := by decide +kernel
theorem d_M_startsScan_6 : decode m_M_startsScan.2.1 6 = .ok (.iconst 1, 1) := by decide +kernel
theorem d_M_startsScan_7 : decode m_M_startsScan.2.1 7 = .ok (.iastore, 1) := by decide +kernel
theorem d_M_startsScan_8 : decode m_M_startsScan.2.1 8 = .ok (.aload_n 0, 1) := by decide +kernel
theorem d_M_startsScan_9 : decode m_M_startsScan.2.1 9 = .ok (.getfield 33, 3) := by decide +kernel
theorem d_M_startsScan_12 : decode m_M_startsScan.2.1 12 = .ok (.bipush 43, 2) := by decide +kernel
theorem d_M_startsScan_14 : decode m_M_startsScan.2.1 14 = .ok (.iconst (-1), 1) := by decide +kernel
theorem d_M_startsScan_15 : decode m_M_startsScan.2.1 15 = .ok (.iastore, 1) := by decide +kernel
theorem d_M_startsScan_16 : decode m_M_startsScan.2.1 16 = .ok (.aload_n 0, 1) := by decide +kernel
theorem d_M_startsScan_17 : decode m_M_startsScan.2.1 17 = .ok (.getfield 33, 3) := by decide +kernel
theorem d_M_startsScan_20 : decode m_M_startsScan.2.1 20 = .ok (.bipush 44, 2) := by decide +kernel
theorem d_M_startsScan_22 : decode m_M_startsScan.2.1 22 = .ok (.iconst 0, 1) := by decide +kernel
theorem d_M_startsScan_23 : decode m_M_startsScan.2.1 23 = .ok (.iastore, 1) := by decide +kernel
theorem d_M_startsScan_24 : decode m_M_startsScan.2.1 24 = .ok (.aload_n 0, 1) := by decide +kernel
theorem d_M_startsScan_25 : decode m_M_startsScan.2.1 25 = .ok (.getfield 33, 3) := by decide +kernel
theorem d_M_startsScan_28 : decode m_M_startsScan.2.1 28 = .ok (.bipush 45, 2) := by decide +kernel
theorem d_M_startsScan_30 : decode m_M_startsScan.2.1 30 = .ok (.iconst 0, 1) := by decide +kernel
theorem d_M_startsScan_31 : decode m_M_startsScan.2.1 31 = .ok (.iastore, 1) := by decide +kernel
theorem d_M_startsScan_32 : decode m_M_startsScan.2.1 32 = .ok (.return_, 1) := by decide +kernel
theorem d_M_follows_0 : decode m_M_follows.2.1 0 = .ok (.aload_n 0, 1) := by decide +kernel
theorem d_M_follows_1 : decode m_M_follows.2.1 1 = .ok (.aload_n 0, 1) := by decide +kernel
theorem d_M_follows_2 : decode m_M_follows.2.1 2 = .ok (.getfield 33, 3) := by decide +kernel
theorem d_M_follows_5 : decode m_M_follows.2.1 5 = .ok (.bipush 31, 2) := by decide +kernel
theorem d_M_follows_7 : decode m_M_follows.2.1 7 = .ok (.iaload, 1) := by decide +kernel
theorem d_M_follows_8 : decode m_M_follows.2.1 8 = .ok (.iconst 1, 1) := by decide +kernel
theorem d_M_follows_9 : decode m_M_follows.2.1 9 = .ok (.if_icmp .ne 7, 3) := by decide +kernel
theorem d_M_follows_12 : decode m_M_follows.2.1 12 = .ok (.iconst 1, 1) := by decide +kernel
theorem d_M_follows_13 : decode m_M_follows.2.1 13 = .ok (.goto 4, 3) := by decide +kernel
theorem d_M_follows_16 : decode m_M_follows.2.1 16 = .ok (.iconst 0, 1) := by decide +kernel
theorem d_M_follows_17 : decode m_M_follows.2.1 17 = .ok (.putfield 212, 3) := by decide +kernel
theorem d_M_follows_20 : decode m_M_follows.2.1 20 = .ok (.aload_n 0, 1) := by decide +kernel
theorem d_M_follows_21 : decode m_M_follows.2.1 21 = .ok (.getfield 212, 3) := by decide +kernel
theorem d_M_follows_24 : decode m_M_follows.2.1 24 = .ok (.ifCond .eq 8, 3) := by decide +kernel
theorem d_M_follows_27 : decode m_M_follows.2.1 27 = .ok (.aload_n 0, 1) := by decide +kernel
theorem d_M_follows_28 : decode m_M_follows.2.1 28 = .ok (.invokevirtual 215, 3) := by decide +kernel
theorem d_M_follows_31 : decode m_M_follows.2.1 31 = .ok (.return_, 1) := by decide +kernel
theorem d_M_follows_32 : decode m_M_follows.2.1 32 = .ok (.aload_n 0, 1) := by decide +kernel
theorem d_M_follows_33 : decode m_M_follows.2.1 33 = .ok (.getfield 33, 3) := by decide +kernel
theorem d_M_follows_36 : decode m_M_follows.2.1 36 = .ok (.bipush 32, 2) := by decide +kernel
theorem d_M_follows_38 : decode m_M_follows.2.1 38 = .ok (.dup2, 1) := by decide +kernel
theorem d_M_follows_39 : decode m_M_follows.2.1 39 = .ok (.iaload, 1) := by decide +kernel
theorem d_M_follows_40 : decode m_M_follows.2.1 40 = .ok (.iconst 1, 1) := by decide +kernel
theorem d_M_follows_41 : decode m_M_follows.2.1 41 = .ok (.iadd, 1) := by decide +kernel
theorem d_M_follows_42 : decode m_M_follows.2.1 42 = .ok (.iastore, 1) := by decide +kernel
theorem d_M_follows_43 : decode m_M_follows.2.1 43 = .ok (.aload_n 0, 1) := by decide +kernel
theorem d_M_follows_44 : decode m_M_follows.2.1 44 = .ok (.getfield 33, 3) := by decide +kernel
theorem d_M_follows_47 : decode m_M_follows.2.1 47 = .ok (.bipush 17, 2) := by decide +kernel
theorem d_M_follows_49 : decode m_M_follows.2.1 49 = .ok (.iaload, 1) := by decide +kernel
theorem d_M_follows_50 : decode m_M_follows.2.1 50 = .ok (.iconst 2, 1) := by decide +kernel
theorem d_M_follows_51 : decode m_M_follows.2.1 51 = .ok (.if_icmp .ne 39, 3) := by decide +kernel
theorem d_M_follows_54 : decode m_M_follows.2.1 54 = .ok (.aload_n 0, 1) := by decide +kernel
theorem d_M_follows_55 : decode m_M_follows.2.1 55 = .ok (.getfield 33, 3) := by decide +kernel
theorem d_M_follows_58 : decode m_M_follows.2.1 58 = .ok (.bipush 26, 2) := by decide +kernel
theorem d_M_follows_60 : decode m_M_follows.2.1 60 = .ok (.aload_n 0, 1) := by decide +kernel
theorem d_M_follows_61 : decode m_M_follows.2.1 61 = .ok (.aload_n 0, 1) := by decide +kernel
theorem d_M_follows_62 : decode m_M_follows.2.1 62 = .ok (.getfield 33, 3) := by decide +kernel
theorem d_M_follows_65 : decode m_M_follows.2.1 65 = .ok (.bipush 18, 2) := by decide +kernel
theorem d_M_follows_67 : decode m_M_follows.2.1 67 = .ok (.iaload, 1) := by decide +kernel
theorem d_M_follows_68 : decode m_M_follows.2.1 68 = .ok (.invokevirtual 218, 3) := by decide +kernel
theorem d_M_follows_71 : decode m_M_follows.2.1 71 = .ok (.iastore, 1) := by decide +kernel
theorem d_M_follows_72 : decode m_M_follows.2.1 72 = .ok (.aload_n 0, 1) := by decide +kernel
theorem d_M_follows_73 : decode m_M_follows.2.1 73 = .ok (.aload_n 0, 1) := by decide +kernel
theorem d_M_follows_74 : decode m_M_follows.2.1 74 = .ok (.aload_n 0, 1) := by decide +kernel
theorem d_M_follows_75 : decode m_M_follows.2.1 75 = .ok (.getfield 33, 3) := by decide +kernel
theorem d_M_follows_78 : decode m_M_follows.2.1 78 = .ok (.bipush 26, 2) := by decide +kernel
theorem d_M_follows_80 : decode m_M_follows.2.1 80 = .ok (.iaload, 1) := by decide +kernel
theorem d_M_follows_81 : decode m_M_follows.2.1 81 = .ok (.invokevirtual 188, 3) := by decide +kernel
theorem d_M_follows_84 : decode m_M_follows.2.1 84 = .ok (.putfield 200, 3) := by decide +kernel
theorem d_M_follows_87 : decode m_M_follows.2.1 87 = .ok (.goto 25, 3) := by decide +kernel
theorem d_M_follows_90 : decode m_M_follows.2.1 90 = .ok (.aload_n 0, 1) := by decide +kernel
theorem d_M_follows_91 : decode m_M_follows.2.1 91 = .ok (.getfield 33, 3) := by decide +kernel
theorem d_M_follows_94 : decode m_M_follows.2.1 94 = .ok (.bipush 17, 2) := by decide +kernel
theorem d_M_follows_96 : decode m_M_follows.2.1 96 = .ok (.iaload, 1) := by decide +kernel
theorem d_M_follows_97 : decode m_M_follows.2.1 97 = .ok (.iconst 1, 1) := by decide +kernel
theorem d_M_follows_98 : decode m_M_follows.2.1 98 = .ok (.if_icmp .ne 10, 3) := by decide +kernel
theorem d_M_follows_101 : decode m_M_follows.2.1 101 = .ok (.aload_n 0, 1) := by decide +kernel
theorem d_M_follows_102 : decode m_M_follows.2.1 102 = .ok (.invokevirtual 221, 3) := by decide +kernel
theorem d_M_follows_105 : decode m_M_follows.2.1 105 = .ok (.goto 7, 3) := by decide +kernel
theorem d_M_follows_108 : decode m_M_follows.2.1 108 = .ok (.aload_n 0, 1) := by decide +kernel
theorem d_M_follows_109 : decode m_M_follows.2.1 109 = .ok (.invokevirtual 224, 3) := by decide +kernel
theorem d_M_follows_112 : decode m_M_follows.2.1 112 = .ok (.aload_n 0, 1) := by decide +kernel
theorem d_M_follows_113 : decode m_M_follows.2.1 113 = .ok (.getfield 33, 3) := by decide +kernel
theorem d_M_follows_116 : decode m_M_follows.2.1 116 = .ok (.bipush 15, 2) := by decide +kernel
theorem d_M_follows_118 : decode m_M_follows.2.1 118 = .ok (.iaload, 1) := by decide +kernel
theorem d_M_follows_119 : decode m_M_follows.2.1 119 = .ok (.ifCond .le 24, 3) := by decide +kernel
theorem d_M_follows_122 : decode m_M_follows.2.1 122 = .ok (.aload_n 0, 1) := by decide +kernel
theorem d_M_follows_123 : decode m_M_follows.2.1 123 = .ok (.getfield 33, 3) := by decide +kernel
theorem d_M_follows_126 : decode m_M_follows.2.1 126 = .ok (.bipush 32, 2) := by decide +kernel
theorem d_M_follows_128 : decode m_M_follows.2.1 128 = .ok (.iaload, 1) := by decide +kernel
theorem d_M_follows_129 : decode m_M_follows.2.1 129 = .ok (.aload_n 0, 1) := by decide +kernel
theorem d_M_follows_130 : decode m_M_follows.2.1 130 = .ok (.getfield 33, 3) := by decide +kernel
theorem d_M_follows_133 : decode m_M_follows.2.1 133 = .ok (.bipush 15, 2) := by decide +kernel
theorem d_M_follows_135 : decode m_M_follows.2.1 135 = .ok (.iaload, 1) := by decide +kernel
theorem d_M_follows_136 : decode m_M_follows.2.1 136 = .ok (.if_icmp .lt 7, 3) := by decide +kernel
theorem d_M_follows_139 : decode m_M_follows.2.1 139 = .ok (.iconst 1, 1) := by decide +kernel
theorem d_M_follows_140 : decode m_M_follows.2.1 140 = .ok (.goto 4, 3) := by decide +kernel
theorem d_M_follows_143 : decode m_M_follows.2.1 143 = .ok (.iconst 0, 1) := by decide +kernel
theorem d_M_follows_144 : decode m_M_follows.2.1 144 = .ok (.istore_n 1, 1) := by decide +kernel
theorem d_M_follows_145 : decode m_M_follows.2.1 145 = .ok (.aload_n 0, 1) := by decide +kernel
theorem d_M_follows_146 : decode m_M_follows.2.1 146 = .ok (.getfield 33, 3) := by decide +kernel
theorem d_M_follows_149 : decode m_M_follows.2.1 149 = .ok (.bipush 16, 2) := by decide +kernel
theorem d_M_follows_151 : decode m_M_follows.2.1 151 = .ok (.iaload, 1) := by decide +kernel
theorem d_M_follows_152 : decode m_M_follows.2.1 152 = .ok (.ifCond .le 40, 3) := by decide +kernel
theorem d_M_follows_155 : decode m_M_follows.2.1 155 = .ok (.ldc2_w 227, 3) := by decide +kernel
theorem d_M_follows_158 : decode m_M_follows.2.1 158 = .ok (.aload_n 0, 1) := by decide +kernel
theorem d_M_follows_159 : decode m_M_follows.2.1 159 = .ok (.getfield 200, 3) := by decide +kernel
theorem d_M_follows_162 : decode m_M_follows.2.1 162 = .ok (.i2l, 1) := by decide +kernel
theorem d_M_follows_163 : decode m_M_follows.2.1 163 = .ok (.lmul, 1) := by decide +kernel
theorem d_M_follows_164 : decode m_M_follows.2.1 164 = .ok (.aload_n 0, 1) := by decide +kernel
theorem d_M_follows_165 : decode m_M_follows.2.1 165 = .ok (.getfield 33, 3) := by decide +kernel
theorem d_M_follows_168 : decode m_M_follows.2.1 168 = .ok (.bipush 30, 2) := by decide +kernel
theorem d_M_follows_170 : decode m_M_follows.2.1 170 = .ok (.iaload, 1) := by decide +kernel
theorem d_M_follows_171 : decode m_M_follows.2.1 171 = .ok (.i2l, 1) := by decide +kernel
theorem d_M_follows_172 : decode m_M_follows.2.1 172 = .ok (.bipush 100, 2) := by decide +kernel
theorem d_M_follows_174 : decode m_M_follows.2.1 174 = .ok (.aload_n 0, 1) := by decide +kernel
theorem d_M_follows_175 : decode m_M_follows.2.1 175 = .ok (.getfield 33, 3) := by decide +kernel
theorem d_M_follows_178 : decode m_M_follows.2.1 178 = .ok (.bipush 16, 2) := by decide +kernel
theorem d_M_follows_180 : decode m_M_follows.2.1 180 = .ok (.iaload, 1) := by decide +kernel
theorem d_M_follows_181 : decode m_M_follows.2.1 181 = .ok (.isub, 1) := by decide +kernel
theorem d_M_follows_182 : decode m_M_follows.2.1 182 = .ok (.i2l, 1) := by decide +kernel
theorem d_M_follows_183 : decode m_M_follows.2.1 183 = .ok (.lmul, 1) := by decide +kernel
theorem d_M_follows_184 : decode m_M_follows.2.1 184 = .ok (.lcmp, 1) := by decide +kernel
theorem d_M_follows_185 : decode m_M_follows.2.1 185 = .ok (.ifCond .ge 7, 3) := by decide +kernel
theorem d_M_follows_188 : decode m_M_follows.2.1 188 = .ok (.iconst 1, 1) := by decide +kernel
theorem d_M_follows_189 : decode m_M_follows.2.1 189 = .ok (.goto 4, 3) := by decide +kernel
theorem d_M_follows_192 : decode m_M_follows.2.1 192 = .ok (.iconst 0, 1) := by decide +kernel
theorem d_M_follows_193 : decode m_M_follows.2.1 193 = .ok (.istore_n 2, 1) := by decide +kernel
theorem d_M_follows_194 : decode m_M_follows.2.1 194 = .ok (.iload_n 1, 1) := by decide +kernel
theorem d_M_follows_195 : decode m_M_follows.2.1 195 = .ok (.ifCond .ne 7, 3) := by decide +kernel
theorem d_M_follows_198 : decode m_M_follows.2.1 198 = .ok (.iload_n 2, 1) := by decide +kernel
theorem d_M_follows_199 : decode m_M_follows.2.1 199 = .ok (.ifCond .eq 7, 3) := by decide +kernel
theorem d_M_follows_202 : decode m_M_follows.2.1 202 = .ok (.aload_n 0, 1) := by decide +kernel
theorem d_M_follows_203 : decode m_M_follows.2.1 203 = .ok (.invokevirtual 229, 3) := by decide +kernel
theorem d_M_follows_206 : decode m_M_follows.2.1 206 = .ok (.aload_n 0, 1) := by decide +kernel
theorem d_M_follows_207 : decode m_M_follows.2.1 207 = .ok (.getfield 33, 3) := by decide +kernel
theorem d_M_follows_210 : decode m_M_follows.2.1 210 = .ok (.bipush 30, 2) := by decide +kernel
theorem d_M_follows_212 : decode m_M_follows.2.1 212 = .ok (.aload_n 0, 1) := by decide +kernel
theorem d_M_follows_213 : decode m_M_follows.2.1 213 = .ok (.getfield 200, 3) := by decide +kernel
theorem d_M_follows_216 : decode m_M_follows.2.1 216 = .ok (.iastore, 1) := by decide +kernel
theorem d_M_follows_217 : decode m_M_follows.2.1 217 = .ok (.return_, 1) := by decide +kernel
theorem d_M_charges_0 : decode m_M_charges.2.1 0 = .ok (.aload_n 0, 1) := by decide +kernel
theorem d_M_charges_1 : decode m_M_charges.2.1 1 = .ok (.getfield 33, 3) := by decide +kernel
theorem d_M_charges_4 : decode m_M_charges.2.1 4 = .ok (.bipush 33, 2) := by decide +kernel
theorem d_M_charges_6 : decode m_M_charges.2.1 6 = .ok (.iaload, 1) := by decide +kernel
theorem d_M_charges_7 : decode m_M_charges.2.1 7 = .ok (.aload_n 0, 1) := by decide +kernel
theorem d_M_charges_8 : decode m_M_charges.2.1 8 = .ok (.getfield 33, 3) := by decide +kernel
theorem d_M_charges_11 : decode m_M_charges.2.1 11 = .ok (.iconst 1, 1) := by decide +kernel
theorem d_M_charges_12 : decode m_M_charges.2.1 12 = .ok (.iaload, 1) := by decide +kernel
theorem d_M_charges_13 : decode m_M_charges.2.1 13 = .ok (.if_icmp .ge 13, 3) := by decide +kernel
theorem d_M_charges_16 : decode m_M_charges.2.1 16 = .ok (.aload_n 0, 1) := by decide +kernel
theorem d_M_charges_17 : decode m_M_charges.2.1 17 = .ok (.getfield 33, 3) := by decide +kernel
theorem d_M_charges_20 : decode m_M_charges.2.1 20 = .ok (.bipush 33, 2) := by decide +kernel
theorem d_M_charges_22 : decode m_M_charges.2.1 22 = .ok (.iaload, 1) := by decide +kernel
theorem d_M_charges_23 : decode m_M_charges.2.1 23 = .ok (.goto 9, 3) := by decide +kernel
theorem d_M_charges_26 : decode m_M_charges.2.1 26 = .ok (.aload_n 0, 1) := by decide +kernel
theorem d_M_charges_27 : decode m_M_charges.2.1 27 = .ok (.getfield 33, 3) := by decide +kernel
theorem d_M_charges_30 : decode m_M_charges.2.1 30 = .ok (.iconst 1, 1) := by decide +kernel
theorem d_M_charges_31 : decode m_M_charges.2.1 31 = .ok (.iaload, 1) := by decide +kernel
theorem d_M_charges_32 : decode m_M_charges.2.1 32 = .ok (.istore_n 1, 1) := by decide +kernel
theorem d_M_charges_33 : decode m_M_charges.2.1 33 = .ok (.aload_n 0, 1) := by decide +kernel
theorem d_M_charges_34 : decode m_M_charges.2.1 34 = .ok (.getfield 33, 3) := by decide +kernel
theorem d_M_charges_37 : decode m_M_charges.2.1 37 = .ok (.bipush 33, 2) := by decide +kernel
theorem d_M_charges_39 : decode m_M_charges.2.1 39 = .ok (.dup2, 1) := by decide +kernel
theorem d_M_charges_40 : decode m_M_charges.2.1 40 = .ok (.iaload, 1) := by decide +kernel
theorem d_M_charges_41 : decode m_M_charges.2.1 41 = .ok (.iload_n 1, 1) := by decide +kernel
theorem d_M_charges_42 : decode m_M_charges.2.1 42 = .ok (.isub, 1) := by decide +kernel
theorem d_M_charges_43 : decode m_M_charges.2.1 43 = .ok (.iastore, 1) := by decide +kernel
theorem d_M_charges_44 : decode m_M_charges.2.1 44 = .ok (.aload_n 0, 1) := by decide +kernel
theorem d_M_charges_45 : decode m_M_charges.2.1 45 = .ok (.getfield 39, 3) := by decide +kernel
theorem d_M_charges_48 : decode m_M_charges.2.1 48 = .ok (.iconst 5, 1) := by decide +kernel
theorem d_M_charges_49 : decode m_M_charges.2.1 49 = .ok (.dup2, 1) := by decide +kernel
theorem d_M_charges_50 : decode m_M_charges.2.1 50 = .ok (.laload, 1) := by decide +kernel
theorem d_M_charges_51 : decode m_M_charges.2.1 51 = .ok (.iload_n 1, 1) := by decide +kernel
theorem d_M_charges_52 : decode m_M_charges.2.1 52 = .ok (.i2l, 1) := by decide +kernel
theorem d_M_charges_53 : decode m_M_charges.2.1 53 = .ok (.ladd, 1) := by decide +kernel
theorem d_M_charges_54 : decode m_M_charges.2.1 54 = .ok (.lastore, 1) := by decide +kernel
theorem d_M_charges_55 : decode m_M_charges.2.1 55 = .ok (.sipush 1100, 3) := by decide +kernel
theorem d_M_charges_58 : decode m_M_charges.2.1 58 = .ok (.ldc2_w 232, 3) := by decide +kernel
theorem d_M_charges_61 : decode m_M_charges.2.1 61 = .ok (.aload_n 0, 1) := by decide +kernel
theorem d_M_charges_62 : decode m_M_charges.2.1 62 = .ok (.getfield 33, 3) := by decide +kernel
theorem d_M_charges_65 : decode m_M_charges.2.1 65 = .ok (.bipush 33, 2) := by decide +kernel
theorem d_M_charges_67 : decode m_M_charges.2.1 67 = .ok (.iaload, 1) := by decide +kernel
theorem d_M_charges_68 : decode m_M_charges.2.1 68 = .ok (.i2l, 1) := by decide +kernel
theorem d_M_charges_69 : decode m_M_charges.2.1 69 = .ok (.lmul, 1) := by decide +kernel
theorem d_M_charges_70 : decode m_M_charges.2.1 70 = .ok (.aload_n 0, 1) := by decide +kernel
theorem d_M_charges_71 : decode m_M_charges.2.1 71 = .ok (.getfield 33, 3) := by decide +kernel
theorem d_M_charges_74 : decode m_M_charges.2.1 74 = .ok (.iconst 0, 1) := by decide +kernel
theorem d_M_charges_75 : decode m_M_charges.2.1 75 = .ok (.iaload, 1) := by decide +kernel
theorem d_M_charges_76 : decode m_M_charges.2.1 76 = .ok (.i2l, 1) := by decide +kernel
theorem d_M_charges_77 : decode m_M_charges.2.1 77 = .ok (.ldiv, 1) := by decide +kernel
theorem d_M_charges_78 : decode m_M_charges.2.1 78 = .ok (.l2i, 1) := by decide +kernel
theorem d_M_charges_79 : decode m_M_charges.2.1 79 = .ok (.iadd, 1) := by decide +kernel
theorem d_M_charges_80 : decode m_M_charges.2.1 80 = .ok (.istore_n 2, 1) := by decide +kernel
theorem d_M_charges_81 : decode m_M_charges.2.1 81 = .ok (.aload_n 0, 1) := by decide +kernel
theorem d_M_charges_82 : decode m_M_charges.2.1 82 = .ok (.aload_n 0, 1) := by decide +kernel
theorem d_M_charges_83 : decode m_M_charges.2.1 83 = .ok (.getfield 200, 3) := by decide +kernel
theorem d_M_charges_86 : decode m_M_charges.2.1 86 = .ok (.putfield 234, 3) := by decide +kernel
theorem d_M_charges_89 : decode m_M_charges.2.1 89 = .ok (.aload_n 0, 1) := by decide +kernel
theorem d_M_charges_90 : decode m_M_charges.2.1 90 = .ok (.getfield 33, 3) := by decide +kernel
theorem d_M_charges_93 : decode m_M_charges.2.1 93 = .ok (.bipush 34, 2) := by decide +kernel
theorem d_M_charges_95 : decode m_M_charges.2.1 95 = .ok (.iaload, 1) := by decide +kernel
theorem d_M_charges_96 : decode m_M_charges.2.1 96 = .ok (.ifCond .le 68, 3) := by decide +kernel
theorem d_M_charges_99 : decode m_M_charges.2.1 99 = .ok (.bipush 20, 2) := by decide +kernel
theorem d_M_charges_101 : decode m_M_charges.2.1 101 = .ok (.aload_n 0, 1) := by decide +kernel
theorem d_M_charges_102 : decode m_M_charges.2.1 102 = .ok (.getfield 33, 3) := by decide +kernel
theorem d_M_charges_105 : decode m_M_charges.2.1 105 = .ok (.bipush 34, 2) := by decide +kernel
theorem d_M_charges_107 : decode m_M_charges.2.1 107 = .ok (.iaload, 1) := by decide +kernel
theorem d_M_charges_108 : decode m_M_charges.2.1 108 = .ok (.iconst 1, 1) := by decide +kernel
theorem d_M_charges_109 : decode m_M_charges.2.1 109 = .ok (.if_icmp .ne 14, 3) := by decide +kernel
theorem d_M_charges_112 : decode m_M_charges.2.1 112 = .ok (.aload_n 0, 1) := by decide +kernel
theorem d_M_charges_113 : decode m_M_charges.2.1 113 = .ok (.getfield 33, 3) := by decide +kernel
theorem d_M_charges_116 : decode m_M_charges.2.1 116 = .ok (.iconst 2, 1) := by decide +kernel
theorem d_M_charges_117 : decode m_M_charges.2.1 117 = .ok (.iaload, 1) := by decide +kernel
theorem d_M_charges_118 : decode m_M_charges.2.1 118 = .ok (.iload_n 2, 1) := by decide +kernel
theorem d_M_charges_119 : decode m_M_charges.2.1 119 = .ok (.isub, 1) := by decide +kernel
theorem d_M_charges_120 : decode m_M_charges.2.1 120 = .ok (.goto 11, 3) := by decide +kernel
theorem d_M_charges_123 : decode m_M_charges.2.1 123 = .ok (.aload_n 0, 1) := by decide +kernel
theorem d_M_charges_124 : decode m_M_charges.2.1 124 = .ok (.getfield 33, 3) := by decide +kernel
theorem d_M_charges_127 : decode m_M_charges.2.1 127 = .ok (.iconst 3, 1) := by decide +kernel
theorem d_M_charges_128 : decode m_M_charges.2.1 128 = .ok (.iaload, 1) := by decide +kernel
theorem d_M_charges_129 : decode m_M_charges.2.1 129 = .ok (.iload_n 2, 1) := by decide +kernel
theorem d_M_charges_130 : decode m_M_charges.2.1 130 = .ok (.isub, 1) := by decide +kernel
theorem d_M_charges_131 : decode m_M_charges.2.1 131 = .ok (.imul, 1) := by decide +kernel
theorem d_M_charges_132 : decode m_M_charges.2.1 132 = .ok (.bipush 19, 2) := by decide +kernel
theorem d_M_charges_134 : decode m_M_charges.2.1 134 = .ok (.iadd, 1) := by decide +kernel
theorem d_M_charges_135 : decode m_M_charges.2.1 135 = .ok (.istore_n 3, 1) := by decide +kernel
theorem d_M_charges_136 : decode m_M_charges.2.1 136 = .ok (.aload_n 0, 1) := by decide +kernel
theorem d_M_charges_137 : decode m_M_charges.2.1 137 = .ok (.iload_n 3, 1) := by decide +kernel
theorem d_M_charges_138 : decode m_M_charges.2.1 138 = .ok (.ifCond .ge 7, 3) := by decide +kernel
theorem d_M_charges_141 : decode m_M_charges.2.1 141 = .ok (.iconst 0, 1) := by decide +kernel
theorem d_M_charges_142 : decode m_M_charges.2.1 142 = .ok (.goto 19, 3) := by decide +kernel
theorem d_M_charges_145 : decode m_M_charges.2.1 145 = .ok (.iload_n 3, 1) := by decide +kernel
theorem d_M_charges_146 : decode m_M_charges.2.1 146 = .ok (.aload_n 0, 1) := by decide +kernel
theorem d_M_charges_147 : decode m_M_charges.2.1 147 = .ok (.getfield 234, 3) := by decide +kernel
theorem d_M_charges_150 : decode m_M_charges.2.1 150 = .ok (.if_icmp .ge 7, 3) := by decide +kernel
theorem d_M_charges_153 : decode m_M_charges.2.1 153 = .ok (.iload_n 3, 1) := by decide +kernel
theorem d_M_charges_154 : decode m_M_charges.2.1 154 = .ok (.goto 7, 3) := by decide +kernel
theorem d_M_charges_157 : decode m_M_charges.2.1 157 = .ok (.aload_n 0, 1) := by decide +kernel
theorem d_M_charges_158 : decode m_M_charges.2.1 158 = .ok (.getfield 234, 3) := by decide +kernel
theorem d_M_charges_161 : decode m_M_charges.2.1 161 = .ok (.putfield 234, 3) := by decide +kernel
theorem d_M_charges_164 : decode m_M_charges.2.1 164 = .ok (.aload_n 0, 1) := by decide +kernel
theorem d_M_charges_165 : decode m_M_charges.2.1 165 = .ok (.aload_n 0, 1) := by decide +kernel
theorem d_M_charges_166 : decode m_M_charges.2.1 166 = .ok (.getfield 33, 3) := by decide +kernel
theorem d_M_charges_169 : decode m_M_charges.2.1 169 = .ok (.iconst 0, 1) := by decide +kernel
theorem d_M_charges_170 : decode m_M_charges.2.1 170 = .ok (.iaload, 1) := by decide +kernel
theorem d_M_charges_171 : decode m_M_charges.2.1 171 = .ok (.aload_n 0, 1) := by decide +kernel
theorem d_M_charges_172 : decode m_M_charges.2.1 172 = .ok (.getfield 33, 3) := by decide +kernel
theorem d_M_charges_175 : decode m_M_charges.2.1 175 = .ok (.bipush 33, 2) := by decide +kernel
theorem d_M_charges_177 : decode m_M_charges.2.1 177 = .ok (.iaload, 1) := by decide +kernel
theorem d_M_charges_178 : decode m_M_charges.2.1 178 = .ok (.isub, 1) := by decide +kernel
theorem d_M_charges_179 : decode m_M_charges.2.1 179 = .ok (.aload_n 0, 1) := by decide +kernel
theorem d_M_charges_180 : decode m_M_charges.2.1 180 = .ok (.getfield 234, 3) := by decide +kernel
theorem d_M_charges_183 : decode m_M_charges.2.1 183 = .ok (.if_icmp .ge 20, 3) := by decide +kernel
theorem d_M_charges_186 : decode m_M_charges.2.1 186 = .ok (.aload_n 0, 1) := by decide +kernel
theorem d_M_charges_187 : decode m_M_charges.2.1 187 = .ok (.getfield 33, 3) := by decide +kernel
theorem d_M_charges_190 : decode m_M_charges.2.1 190 = .ok (.iconst 0, 1) := by decide +kernel
theorem d_M_charges_191 : decode m_M_charges.2.1 191 = .ok (.iaload, 1) := by decide +kernel
theorem d_M_charges_192 : decode m_M_charges.2.1 192 = .ok (.aload_n 0, 1) := by decide +kernel
theorem d_M_charges_193 : decode m_M_charges.2.1 193 = .ok (.getfield 33, 3) := by decide +kernel
theorem d_M_charges_196 : decode m_M_charges.2.1 196 = .ok (.bipush 33, 2) := by decide +kernel
theorem d_M_charges_198 : decode m_M_charges.2.1 198 = .ok (.iaload, 1) := by decide +kernel
theorem d_M_charges_199 : decode m_M_charges.2.1 199 = .ok (.isub, 1) := by decide +kernel
theorem d_M_charges_200 : decode m_M_charges.2.1 200 = .ok (.goto 7, 3) := by decide +kernel
theorem d_M_charges_203 : decode m_M_charges.2.1 203 = .ok (.aload_n 0, 1) := by decide +kernel
theorem d_M_charges_204 : decode m_M_charges.2.1 204 = .ok (.getfield 234, 3) := by decide +kernel
theorem d_M_charges_207 : decode m_M_charges.2.1 207 = .ok (.putfield 234, 3) := by decide +kernel
theorem d_M_charges_210 : decode m_M_charges.2.1 210 = .ok (.aload_n 0, 1) := by decide +kernel
theorem d_M_charges_211 : decode m_M_charges.2.1 211 = .ok (.getfield 33, 3) := by decide +kernel
theorem d_M_charges_214 : decode m_M_charges.2.1 214 = .ok (.bipush 33, 2) := by decide +kernel
theorem d_M_charges_216 : decode m_M_charges.2.1 216 = .ok (.dup2, 1) := by decide +kernel
theorem d_M_charges_217 : decode m_M_charges.2.1 217 = .ok (.iaload, 1) := by decide +kernel
theorem d_M_charges_218 : decode m_M_charges.2.1 218 = .ok (.aload_n 0, 1) := by decide +kernel
theorem d_M_charges_219 : decode m_M_charges.2.1 219 = .ok (.getfield 234, 3) := by decide +kernel
theorem d_M_charges_222 : decode m_M_charges.2.1 222 = .ok (.iadd, 1) := by decide +kernel
theorem d_M_charges_223 : decode m_M_charges.2.1 223 = .ok (.iastore, 1) := by decide +kernel
theorem d_M_charges_224 : decode m_M_charges.2.1 224 = .ok (.aload_n 0, 1) := by decide +kernel
theorem d_M_charges_225 : decode m_M_charges.2.1 225 = .ok (.getfield 33, 3) := by decide +kernel
theorem d_M_charges_228 : decode m_M_charges.2.1 228 = .ok (.bipush 34, 2) := by decide +kernel
theorem d_M_charges_230 : decode m_M_charges.2.1 230 = .ok (.iaload, 1) := by decide +kernel
theorem d_M_charges_231 : decode m_M_charges.2.1 231 = .ok (.ifCond .ne 67, 3) := by decide +kernel
theorem d_M_charges_234 : decode m_M_charges.2.1 234 = .ok (.iload_n 2, 1) := by decide +kernel
theorem d_M_charges_235 : decode m_M_charges.2.1 235 = .ok (.aload_n 0, 1) := by decide +kernel
theorem d_M_charges_236 : decode m_M_charges.2.1 236 = .ok (.getfield 234, 3) := by decide +kernel
theorem d_M_charges_239 : decode m_M_charges.2.1 239 = .ok (.bipush 20, 2) := by decide +kernel
theorem d_M_charges_241 : decode m_M_charges.2.1 241 = .ok (.idiv, 1) := by decide +kernel
theorem d_M_charges_242 : decode m_M_charges.2.1 242 = .ok (.iadd, 1) := by decide +kernel
theorem d_M_charges_243 : decode m_M_charges.2.1 243 = .ok (.aload_n 0, 1) := by decide +kernel
theorem d_M_charges_244 : decode m_M_charges.2.1 244 = .ok (.getfield 33, 3) := by decide +kernel
theorem d_M_charges_247 : decode m_M_charges.2.1 247 = .ok (.iconst 2, 1) := by decide +kernel
theorem d_M_charges_248 : decode m_M_charges.2.1 248 = .ok (.iaload, 1) := by decide +kernel
theorem d_M_charges_249 : decode m_M_charges.2.1 249 = .ok (.if_icmp .ge 19, 3) := by decide +kernel
theorem d_M_charges_252 : decode m_M_charges.2.1 252 = .ok (.aload_n 0, 1) := by decide +kernel
theorem d_M_charges_253 : decode m_M_charges.2.1 253 = .ok (.getfield 33, 3) := by decide +kernel
theorem d_M_charges_256 : decode m_M_charges.2.1 256 = .ok (.bipush 33, 2) := by decide +kernel
theorem d_M_charges_258 : decode m_M_charges.2.1 258 = .ok (.iaload, 1) := by decide +kernel
theorem d_M_charges_259 : decode m_M_charges.2.1 259 = .ok (.aload_n 0, 1) := by decide +kernel
theorem d_M_charges_260 : decode m_M_charges.2.1 260 = .ok (.getfield 33, 3) := by decide +kernel
theorem d_M_charges_263 : decode m_M_charges.2.1 263 = .ok (.iconst 0, 1) := by decide +kernel
theorem d_M_charges_264 : decode m_M_charges.2.1 264 = .ok (.iaload, 1) := by decide +kernel
theorem d_M_charges_265 : decode m_M_charges.2.1 265 = .ok (.if_icmp .ne 171, 3) := by decide +kernel
theorem d_M_charges_268 : decode m_M_charges.2.1 268 = .ok (.aload_n 0, 1) := by decide +kernel
theorem d_M_charges_269 : decode m_M_charges.2.1 269 = .ok (.getfield 33, 3) := by decide +kernel
theorem d_M_charges_272 : decode m_M_charges.2.1 272 = .ok (.bipush 34, 2) := by decide +kernel
theorem d_M_charges_274 : decode m_M_charges.2.1 274 = .ok (.iconst 1, 1) := by decide +kernel
theorem d_M_charges_275 : decode m_M_charges.2.1 275 = .ok (.iastore, 1) := by decide +kernel
theorem d_M_charges_276 : decode m_M_charges.2.1 276 = .ok (.aload_n 0, 1) := by decide +kernel
theorem d_M_charges_277 : decode m_M_charges.2.1 277 = .ok (.getfield 33, 3) := by decide +kernel
theorem d_M_charges_280 : decode m_M_charges.2.1 280 = .ok (.bipush 35, 2) := by decide +kernel
theorem d_M_charges_282 : decode m_M_charges.2.1 282 = .ok (.iconst 0, 1) := by decide +kernel
theorem d_M_charges_283 : decode m_M_charges.2.1 283 = .ok (.iastore, 1) := by decide +kernel
theorem d_M_charges_284 : decode m_M_charges.2.1 284 = .ok (.aload_n 0, 1) := by decide +kernel
theorem d_M_charges_285 : decode m_M_charges.2.1 285 = .ok (.getfield 39, 3) := by decide +kernel
theorem d_M_charges_288 : decode m_M_charges.2.1 288 = .ok (.bipush 8, 2) := by decide +kernel
theorem d_M_charges_290 : decode m_M_charges.2.1 290 = .ok (.dup2, 1) := by decide +kernel
theorem d_M_charges_291 : decode m_M_charges.2.1 291 = .ok (.laload, 1) := by decide +kernel
theorem d_M_charges_292 : decode m_M_charges.2.1 292 = .ok (.lconst 1, 1) := by decide +kernel
theorem d_M_charges_293 : decode m_M_charges.2.1 293 = .ok (.ladd, 1) := by decide +kernel
theorem d_M_charges_294 : decode m_M_charges.2.1 294 = .ok (.lastore, 1) := by decide +kernel
theorem d_M_charges_295 : decode m_M_charges.2.1 295 = .ok (.goto 141, 3) := by decide +kernel
theorem d_M_charges_298 : decode m_M_charges.2.1 298 = .ok (.aload_n 0, 1) := by decide +kernel
theorem d_M_charges_299 : decode m_M_charges.2.1 299 = .ok (.getfield 33, 3) := by decide +kernel
theorem d_M_charges_302 : decode m_M_charges.2.1 302 = .ok (.bipush 34, 2) := by decide +kernel
theorem d_M_charges_304 : decode m_M_charges.2.1 304 = .ok (.iaload, 1) := by decide +kernel
theorem d_M_charges_305 : decode m_M_charges.2.1 305 = .ok (.iconst 1, 1) := by decide +kernel
theorem d_M_charges_306 : decode m_M_charges.2.1 306 = .ok (.if_icmp .ne 80, 3) := by decide +kernel
theorem d_M_charges_309 : decode m_M_charges.2.1 309 = .ok (.aload_n 0, 1) := by decide +kernel
theorem d_M_charges_310 : decode m_M_charges.2.1 310 = .ok (.getfield 33, 3) := by decide +kernel
theorem d_M_charges_313 : decode m_M_charges.2.1 313 = .ok (.bipush 35, 2) := by decide +kernel
theorem d_M_charges_315 : decode m_M_charges.2.1 315 = .ok (.dup2, 1) := by decide +kernel
theorem d_M_charges_316 : decode m_M_charges.2.1 316 = .ok (.iaload, 1) := by decide +kernel
theorem d_M_charges_317 : decode m_M_charges.2.1 317 = .ok (.iconst 1, 1) := by decide +kernel
theorem d_M_charges_318 : decode m_M_charges.2.1 318 = .ok (.iadd, 1) := by decide +kernel
theorem d_M_charges_319 : decode m_M_charges.2.1 319 = .ok (.iastore, 1) := by decide +kernel
theorem d_M_charges_320 : decode m_M_charges.2.1 320 = .ok (.aload_n 0, 1) := by decide +kernel
theorem d_M_charges_321 : decode m_M_charges.2.1 321 = .ok (.getfield 33, 3) := by decide +kernel
theorem d_M_charges_324 : decode m_M_charges.2.1 324 = .ok (.bipush 35, 2) := by decide +kernel
theorem d_M_charges_326 : decode m_M_charges.2.1 326 = .ok (.iaload, 1) := by decide +kernel
theorem d_M_charges_327 : decode m_M_charges.2.1 327 = .ok (.aload_n 0, 1) := by decide +kernel
theorem d_M_charges_328 : decode m_M_charges.2.1 328 = .ok (.getfield 33, 3) := by decide +kernel
theorem d_M_charges_331 : decode m_M_charges.2.1 331 = .ok (.iconst 5, 1) := by decide +kernel
theorem d_M_charges_332 : decode m_M_charges.2.1 332 = .ok (.iaload, 1) := by decide +kernel
theorem d_M_charges_333 : decode m_M_charges.2.1 333 = .ok (.if_icmp .ge 31, 3) := by decide +kernel
theorem d_M_charges_336 : decode m_M_charges.2.1 336 = .ok (.aload_n 0, 1) := by decide +kernel
theorem d_M_charges_337 : decode m_M_charges.2.1 337 = .ok (.getfield 234, 3) := by decide +kernel
theorem d_M_charges_340 : decode m_M_charges.2.1 340 = .ok (.aload_n 0, 1) := by decide +kernel
theorem d_M_charges_341 : decode m_M_charges.2.1 341 = .ok (.getfield 33, 3) := by decide +kernel
theorem d_M_charges_344 : decode m_M_charges.2.1 344 = .ok (.bipush 6, 2) := by decide +kernel
theorem d_M_charges_346 : decode m_M_charges.2.1 346 = .ok (.iaload, 1) := by decide +kernel
theorem d_M_charges_347 : decode m_M_charges.2.1 347 = .ok (.if_icmp .ge 89, 3) := by decide +kernel
theorem d_M_charges_350 : decode m_M_charges.2.1 350 = .ok (.aload_n 0, 1) := by decide +kernel
theorem d_M_charges_351 : decode m_M_charges.2.1 351 = .ok (.getfield 200, 3) := by decide +kernel
theorem d_M_charges_354 : decode m_M_charges.2.1 354 = .ok (.aload_n 0, 1) := by decide +kernel
theorem d_M_charges_355 : decode m_M_charges.2.1 355 = .ok (.getfield 33, 3) := by decide +kernel
theorem d_M_charges_358 : decode m_M_charges.2.1 358 = .ok (.bipush 6, 2) := by decide +kernel
theorem d_M_charges_360 : decode m_M_charges.2.1 360 = .ok (.iaload, 1) := by decide +kernel
theorem d_M_charges_361 : decode m_M_charges.2.1 361 = .ok (.if_icmp .lt 75, 3) := by decide +kernel
theorem d_M_charges_364 : decode m_M_charges.2.1 364 = .ok (.aload_n 0, 1) := by decide +kernel
theorem d_M_charges_365 : decode m_M_charges.2.1 365 = .ok (.getfield 33, 3) := by decide +kernel
theorem d_M_charges_368 : decode m_M_charges.2.1 368 = .ok (.bipush 34, 2) := by decide +kernel
theorem d_M_charges_370 : decode m_M_charges.2.1 370 = .ok (.iconst 2, 1) := by decide +kernel
theorem d_M_charges_371 : decode m_M_charges.2.1 371 = .ok (.iastore, 1) := by decide +kernel
theorem d_M_charges_372 : decode m_M_charges.2.1 372 = .ok (.aload_n 0, 1) := by decide +kernel
theorem d_M_charges_373 : decode m_M_charges.2.1 373 = .ok (.getfield 39, 3) := by decide +kernel
theorem d_M_charges_376 : decode m_M_charges.2.1 376 = .ok (.bipush 9, 2) := by decide +kernel
theorem d_M_charges_378 : decode m_M_charges.2.1 378 = .ok (.dup2, 1) := by decide +kernel
theorem d_M_charges_379 : decode m_M_charges.2.1 379 = .ok (.laload, 1) := by decide +kernel
theorem d_M_charges_380 : decode m_M_charges.2.1 380 = .ok (.lconst 1, 1) := by decide +kernel
theorem d_M_charges_381 : decode m_M_charges.2.1 381 = .ok (.ladd, 1) := by decide +kernel
theorem d_M_charges_382 : decode m_M_charges.2.1 382 = .ok (.lastore, 1) := by decide +kernel
theorem d_M_charges_383 : decode m_M_charges.2.1 383 = .ok (.goto 53, 3) := by decide +kernel
theorem d_M_charges_386 : decode m_M_charges.2.1 386 = .ok (.ldc2_w 227, 3) := by decide +kernel
theorem d_M_charges_389 : decode m_M_charges.2.1 389 = .ok (.aload_n 0, 1) := by decide +kernel
theorem d_M_charges_390 : decode m_M_charges.2.1 390 = .ok (.getfield 33, 3) := by decide +kernel
theorem d_M_charges_393 : decode m_M_charges.2.1 393 = .ok (.bipush 33, 2) := by decide +kernel
theorem d_M_charges_395 : decode m_M_charges.2.1 395 = .ok (.iaload, 1) := by decide +kernel
theorem d_M_charges_396 : decode m_M_charges.2.1 396 = .ok (.i2l, 1) := by decide +kernel
theorem d_M_charges_397 : decode m_M_charges.2.1 397 = .ok (.lmul, 1) := by decide +kernel
theorem d_M_charges_398 : decode m_M_charges.2.1 398 = .ok (.aload_n 0, 1) := by decide +kernel
theorem d_M_charges_399 : decode m_M_charges.2.1 399 = .ok (.getfield 33, 3) := by decide +kernel
theorem d_M_charges_402 : decode m_M_charges.2.1 402 = .ok (.iconst 4, 1) := by decide +kernel
theorem d_M_charges_403 : decode m_M_charges.2.1 403 = .ok (.iaload, 1) := by decide +kernel
theorem d_M_charges_404 : decode m_M_charges.2.1 404 = .ok (.i2l, 1) := by decide +kernel
theorem d_M_charges_405 : decode m_M_charges.2.1 405 = .ok (.aload_n 0, 1) := by decide +kernel
theorem d_M_charges_406 : decode m_M_charges.2.1 406 = .ok (.getfield 33, 3) := by decide +kernel
theorem d_M_charges_409 : decode m_M_charges.2.1 409 = .ok (.iconst 0, 1) := by decide +kernel
theorem d_M_charges_410 : decode m_M_charges.2.1 410 = .ok (.iaload, 1) := by decide +kernel
theorem d_M_charges_411 : decode m_M_charges.2.1 411 = .ok (.i2l, 1) := by decide +kernel
theorem d_M_charges_412 : decode m_M_charges.2.1 412 = .ok (.lmul, 1) := by decide +kernel
theorem d_M_charges_413 : decode m_M_charges.2.1 413 = .ok (.lcmp, 1) := by decide +kernel
theorem d_M_charges_414 : decode m_M_charges.2.1 414 = .ok (.ifCond .ge 22, 3) := by decide +kernel
theorem d_M_charges_417 : decode m_M_charges.2.1 417 = .ok (.aload_n 0, 1) := by decide +kernel
theorem d_M_charges_418 : decode m_M_charges.2.1 418 = .ok (.getfield 33, 3) := by decide +kernel
theorem d_M_charges_421 : decode m_M_charges.2.1 421 = .ok (.bipush 34, 2) := by decide +kernel
theorem d_M_charges_423 : decode m_M_charges.2.1 423 = .ok (.iconst 0, 1) := by decide +kernel
theorem d_M_charges_424 : decode m_M_charges.2.1 424 = .ok (.iastore, 1) := by decide +kernel
theorem d_M_charges_425 : decode m_M_charges.2.1 425 = .ok (.aload_n 0, 1) := by decide +kernel
theorem d_M_charges_426 : decode m_M_charges.2.1 426 = .ok (.getfield 39, 3) := by decide +kernel
theorem d_M_charges_429 : decode m_M_charges.2.1 429 = .ok (.bipush 10, 2) := by decide +kernel
theorem d_M_charges_431 : decode m_M_charges.2.1 431 = .ok (.dup2, 1) := by decide +kernel
theorem d_M_charges_432 : decode m_M_charges.2.1 432 = .ok (.laload, 1) := by decide +kernel
theorem d_M_charges_433 : decode m_M_charges.2.1 433 = .ok (.lconst 1, 1) := by decide +kernel
theorem d_M_charges_434 : decode m_M_charges.2.1 434 = .ok (.ladd, 1) := by decide +kernel
theorem d_M_charges_435 : decode m_M_charges.2.1 435 = .ok (.lastore, 1) := by decide +kernel
theorem d_M_charges_436 : decode m_M_charges.2.1 436 = .ok (.return_, 1) := by decide +kernel
theorem d_M_drifts_0 : decode m_M_drifts.2.1 0 = .ok (.iload_n 1, 1) := by decide +kernel
theorem d_M_drifts_1 : decode m_M_drifts.2.1 1 = .ok (.iload_n 2, 1) := by decide +kernel
theorem d_M_drifts_2 : decode m_M_drifts.2.1 2 = .ok (.iload_n 1, 1) := by decide +kernel
theorem d_M_drifts_3 : decode m_M_drifts.2.1 3 = .ok (.isub, 1) := by decide +kernel
theorem d_M_drifts_4 : decode m_M_drifts.2.1 4 = .ok (.bipush 8, 2) := by decide +kernel
theorem d_M_drifts_6 : decode m_M_drifts.2.1 6 = .ok (.idiv, 1) := by decide +kernel
theorem d_M_drifts_7 : decode m_M_drifts.2.1 7 = .ok (.iadd, 1) := by decide +kernel
theorem d_M_drifts_8 : decode m_M_drifts.2.1 8 = .ok (.istore 4, 2) := by decide +kernel
theorem d_M_drifts_10 : decode m_M_drifts.2.1 10 = .ok (.iload 4, 2) := by decide +kernel
theorem d_M_drifts_12 : decode m_M_drifts.2.1 12 = .ok (.ldc 171, 2) := by decide +kernel
theorem d_M_drifts_14 : decode m_M_drifts.2.1 14 = .ok (.if_icmp .lt 10, 3) := by decide +kernel
theorem d_M_drifts_17 : decode m_M_drifts.2.1 17 = .ok (.iload 4, 2) := by decide +kernel
theorem d_M_drifts_19 : decode m_M_drifts.2.1 19 = .ok (.iload_n 3, 1) := by decide +kernel
theorem d_M_drifts_20 : decode m_M_drifts.2.1 20 = .ok (.iadd, 1) := by decide +kernel
theorem d_M_drifts_21 : decode m_M_drifts.2.1 21 = .ok (.goto 7, 3) := by decide +kernel
theorem d_M_drifts_24 : decode m_M_drifts.2.1 24 = .ok (.iload 4, 2) := by decide +kernel
theorem d_M_drifts_26 : decode m_M_drifts.2.1 26 = .ok (.iload_n 3, 1) := by decide +kernel
theorem d_M_drifts_27 : decode m_M_drifts.2.1 27 = .ok (.isub, 1) := by decide +kernel
theorem d_M_drifts_28 : decode m_M_drifts.2.1 28 = .ok (.ireturn, 1) := by decide +kernel
theorem d_M_isFar_0 : decode m_M_isFar.2.1 0 = .ok (.iload_n 1, 1) := by decide +kernel
theorem d_M_isFar_1 : decode m_M_isFar.2.1 1 = .ok (.ldc 171, 2) := by decide +kernel
theorem d_M_isFar_3 : decode m_M_isFar.2.1 3 = .ok (.isub, 1) := by decide +kernel
theorem d_M_isFar_4 : decode m_M_isFar.2.1 4 = .ok (.aload_n 0, 1) := by decide +kernel
theorem d_M_isFar_5 : decode m_M_isFar.2.1 5 = .ok (.getfield 33, 3) := by decide +kernel
theorem d_M_isFar_8 : decode m_M_isFar.2.1 8 = .ok (.bipush 7, 2) := by decide +kernel
theorem d_M_isFar_10 : decode m_M_isFar.2.1 10 = .ok (.iaload, 1) := by decide +kernel
theorem d_M_isFar_11 : decode m_M_isFar.2.1 11 = .ok (.if_icmp .gt 17, 3) := by decide +kernel
theorem d_M_isFar_14 : decode m_M_isFar.2.1 14 = .ok (.ldc 171, 2) := by decide +kernel
theorem d_M_isFar_16 : decode m_M_isFar.2.1 16 = .ok (.iload_n 1, 1) := by decide +kernel
theorem d_M_isFar_17 : decode m_M_isFar.2.1 17 = .ok (.isub, 1) := by decide +kernel
theorem d_M_isFar_18 : decode m_M_isFar.2.1 18 = .ok (.aload_n 0, 1) := by decide +kernel
theorem d_M_isFar_19 : decode m_M_isFar.2.1 19 = .ok (.getfield 33, 3) := by decide +kernel
theorem d_M_isFar_22 : decode m_M_isFar.2.1 22 = .ok (.bipush 7, 2) := by decide +kernel
theorem d_M_isFar_24 : decode m_M_isFar.2.1 24 = .ok (.iaload, 1) := by decide +kernel
theorem d_M_isFar_25 : decode m_M_isFar.2.1 25 = .ok (.if_icmp .le 7, 3) := by decide +kernel
theorem d_M_isFar_28 : decode m_M_isFar.2.1 28 = .ok (.iconst 1, 1) := by decide +kernel
theorem d_M_isFar_29 : decode m_M_isFar.2.1 29 = .ok (.goto 4, 3) := by decide +kernel
theorem d_M_isFar_32 : decode m_M_isFar.2.1 32 = .ok (.iconst 0, 1) := by decide +kernel
theorem d_M_isFar_33 : decode m_M_isFar.2.1 33 = .ok (.ireturn, 1) := by decide +kernel
theorem d_M_inverts_0 : decode m_M_inverts.2.1 0 = .ok (.aload_n 0, 1) := by decide +kernel
theorem d_M_inverts_1 : decode m_M_inverts.2.1 1 = .ok (.getfield 33, 3) := by decide +kernel
theorem d_M_inverts_4 : decode m_M_inverts.2.1 4 = .ok (.bipush 40, 2) := by decide +kernel
theorem d_M_inverts_6 : decode m_M_inverts.2.1 6 = .ok (.iaload, 1) := by decide +kernel
theorem d_M_inverts_7 : decode m_M_inverts.2.1 7 = .ok (.istore_n 1, 1) := by decide +kernel
theorem d_M_inverts_8 : decode m_M_inverts.2.1 8 = .ok (.aload_n 0, 1) := by decide +kernel
theorem d_M_inverts_9 : decode m_M_inverts.2.1 9 = .ok (.getfield 33, 3) := by decide +kernel
theorem d_M_inverts_12 : decode m_M_inverts.2.1 12 = .ok (.bipush 36, 2) := by decide +kernel
theorem d_M_inverts_14 : decode m_M_inverts.2.1 14 = .ok (.iaload, 1) := by decide +kernel
theorem d_M_inverts_15 : decode m_M_inverts.2.1 15 = .ok (.iconst 1, 1) := by decide +kernel
theorem d_M_inverts_16 : decode m_M_inverts.2.1 16 = .ok (.if_icmp .ne 7, 3) := by decide +kernel
theorem d_M_inverts_19 : decode m_M_inverts.2.1 19 = .ok (.iconst 1, 1) := by decide +kernel
theorem d_M_inverts_20 : decode m_M_inverts.2.1 20 = .ok (.goto 4, 3) := by decide +kernel
theorem d_M_inverts_23 : decode m_M_inverts.2.1 23 = .ok (.iconst 0, 1) := by decide +kernel
theorem d_M_inverts_24 : decode m_M_inverts.2.1 24 = .ok (.istore_n 2, 1) := by decide +kernel
theorem d_M_inverts_25 : decode m_M_inverts.2.1 25 = .ok (.aload_n 0, 1) := by decide +kernel
theorem d_M_inverts_26 : decode m_M_inverts.2.1 26 = .ok (.getfield 33, 3) := by decide +kernel
theorem d_M_inverts_29 : decode m_M_inverts.2.1 29 = .ok (.bipush 40, 2) := by decide +kernel
theorem d_M_inverts_31 : decode m_M_inverts.2.1 31 = .ok (.iconst 0, 1) := by decide +kernel
theorem d_M_inverts_32 : decode m_M_inverts.2.1 32 = .ok (.iastore, 1) := by decide +kernel
theorem d_M_inverts_33 : decode m_M_inverts.2.1 33 = .ok (.iload_n 2, 1) := by decide +kernel
theorem d_M_inverts_34 : decode m_M_inverts.2.1 34 = .ok (.ifCond .eq 182, 3) := by decide +kernel
theorem d_M_inverts_37 : decode m_M_inverts.2.1 37 = .ok (.aload_n 0, 1) := by decide +kernel
theorem d_M_inverts_38 : decode m_M_inverts.2.1 38 = .ok (.getfield 33, 3) := by decide +kernel
theorem d_M_inverts_41 : decode m_M_inverts.2.1 41 = .ok (.bipush 39, 2) := by decide +kernel
theorem d_M_inverts_43 : decode m_M_inverts.2.1 43 = .ok (.aload_n 0, 1) := by decide +kernel
theorem d_M_inverts_44 : decode m_M_inverts.2.1 44 = .ok (.getfield 33, 3) := by decide +kernel
theorem d_M_inverts_47 : decode m_M_inverts.2.1 47 = .ok (.bipush 37, 2) := by decide +kernel
theorem d_M_inverts_49 : decode m_M_inverts.2.1 49 = .ok (.iaload, 1) := by decide +kernel
theorem d_M_inverts_50 : decode m_M_inverts.2.1 50 = .ok (.iconst 1, 1) := by decide +kernel
theorem d_M_inverts_51 : decode m_M_inverts.2.1 51 = .ok (.if_icmp .ne 8, 3) := by decide +kernel
theorem d_M_inverts_54 : decode m_M_inverts.2.1 54 = .ok (.ldc 171, 2) := by decide +kernel
theorem d_M_inverts_56 : decode m_M_inverts.2.1 56 = .ok (.goto 28, 3) := by decide +kernel
theorem d_M_inverts_59 : decode m_M_inverts.2.1 59 = .ok (.aload_n 0, 1) := by decide +kernel
theorem d_M_inverts_60 : decode m_M_inverts.2.1 60 = .ok (.aload_n 0, 1) := by decide +kernel
theorem d_M_inverts_61 : decode m_M_inverts.2.1 61 = .ok (.getfield 33, 3) := by decide +kernel
theorem d_M_inverts_64 : decode m_M_inverts.2.1 64 = .ok (.bipush 39, 2) := by decide +kernel
theorem d_M_inverts_66 : decode m_M_inverts.2.1 66 = .ok (.iaload, 1) := by decide +kernel
theorem d_M_inverts_67 : decode m_M_inverts.2.1 67 = .ok (.aload_n 0, 1) := by decide +kernel
theorem d_M_inverts_68 : decode m_M_inverts.2.1 68 = .ok (.getfield 33, 3) := by decide +kernel
theorem d_M_inverts_71 : decode m_M_inverts.2.1 71 = .ok (.bipush 38, 2) := by decide +kernel
theorem d_M_inverts_73 : decode m_M_inverts.2.1 73 = .ok (.iaload, 1) := by decide +kernel
theorem d_M_inverts_74 : decode m_M_inverts.2.1 74 = .ok (.aload_n 0, 1) := by decide +kernel
theorem d_M_inverts_75 : decode m_M_inverts.2.1 75 = .ok (.getfield 33, 3) := by decide +kernel
theorem d_M_inverts_78 : decode m_M_inverts.2.1 78 = .ok (.bipush 9, 2) := by decide +kernel
theorem d_M_inverts_80 : decode m_M_inverts.2.1 80 = .ok (.iaload, 1) := by decide +kernel
theorem d_M_inverts_81 : decode m_M_inverts.2.1 81 = .ok (.invokevirtual 237, 3) := by decide +kernel
theorem d_M_inverts_84 : decode m_M_inverts.2.1 84 = .ok (.iastore, 1) := by decide +kernel
theorem d_M_inverts_85 : decode m_M_inverts.2.1 85 = .ok (.aload_n 0, 1) := by decide +kernel
theorem d_M_inverts_86 : decode m_M_inverts.2.1 86 = .ok (.getfield 33, 3) := by decide +kernel
theorem d_M_inverts_89 : decode m_M_inverts.2.1 89 = .ok (.bipush 41, 2) := by decide +kernel
theorem d_M_inverts_91 : decode m_M_inverts.2.1 91 = .ok (.aload_n 0, 1) := by decide +kernel
theorem d_M_inverts_92 : decode m_M_inverts.2.1 92 = .ok (.aload_n 0, 1) := by decide +kernel
theorem d_M_inverts_93 : decode m_M_inverts.2.1 93 = .ok (.getfield 33, 3) := by decide +kernel
theorem d_M_inverts_96 : decode m_M_inverts.2.1 96 = .ok (.bipush 39, 2) := by decide +kernel
theorem d_M_inverts_98 : decode m_M_inverts.2.1 98 = .ok (.iaload, 1) := by decide +kernel
theorem d_M_inverts_99 : decode m_M_inverts.2.1 99 = .ok (.invokevirtual 241, 3) := by decide +kernel
theorem d_M_inverts_102 : decode m_M_inverts.2.1 102 = .ok (.ifCond .eq 15, 3) := by decide +kernel
theorem d_M_inverts_105 : decode m_M_inverts.2.1 105 = .ok (.aload_n 0, 1) := by decide +kernel
theorem d_M_inverts_106 : decode m_M_inverts.2.1 106 = .ok (.getfield 33, 3) := by decide +kernel
theorem d_M_inverts_109 : decode m_M_inverts.2.1 109 = .ok (.bipush 41, 2) := by decide +kernel
theorem d_M_inverts_111 : decode m_M_inverts.2.1 111 = .ok (.iaload, 1) := by decide +kernel
theorem d_M_inverts_112 : decode m_M_inverts.2.1 112 = .ok (.iconst 1, 1) := by decide +kernel
theorem d_M_inverts_113 : decode m_M_inverts.2.1 113 = .ok (.iadd, 1) := by decide +kernel
theorem d_M_inverts_114 : decode m_M_inverts.2.1 114 = .ok (.goto 4, 3) := by decide +kernel
theorem d_M_inverts_117 : decode m_M_inverts.2.1 117 = .ok (.iconst 0, 1) := by decide +kernel
theorem d_M_inverts_118 : decode m_M_inverts.2.1 118 = .ok (.iastore, 1) := by decide +kernel
theorem d_M_inverts_119 : decode m_M_inverts.2.1 119 = .ok (.aload_n 0, 1) := by decide +kernel
theorem d_M_inverts_120 : decode m_M_inverts.2.1 120 = .ok (.getfield 33, 3) := by decide +kernel
theorem d_M_inverts_123 : decode m_M_inverts.2.1 123 = .ok (.bipush 41, 2) := by decide +kernel
theorem d_M_inverts_125 : decode m_M_inverts.2.1 125 = .ok (.iaload, 1) := by decide +kernel
theorem d_M_inverts_126 : decode m_M_inverts.2.1 126 = .ok (.aload_n 0, 1) := by decide +kernel
theorem d_M_inverts_127 : decode m_M_inverts.2.1 127 = .ok (.getfield 33, 3) := by decide +kernel
theorem d_M_inverts_130 : decode m_M_inverts.2.1 130 = .ok (.bipush 8, 2) := by decide +kernel
theorem d_M_inverts_132 : decode m_M_inverts.2.1 132 = .ok (.iaload, 1) := by decide +kernel
theorem d_M_inverts_133 : decode m_M_inverts.2.1 133 = .ok (.if_icmp .lt 39, 3) := by decide +kernel
theorem d_M_inverts_136 : decode m_M_inverts.2.1 136 = .ok (.aload_n 0, 1) := by decide +kernel
theorem d_M_inverts_137 : decode m_M_inverts.2.1 137 = .ok (.getfield 33, 3) := by decide +kernel
theorem d_M_inverts_140 : decode m_M_inverts.2.1 140 = .ok (.bipush 36, 2) := by decide +kernel
theorem d_M_inverts_142 : decode m_M_inverts.2.1 142 = .ok (.iconst 0, 1) := by decide +kernel
theorem d_M_inverts_143 : decode m_M_inverts.2.1 143 = .ok (.iastore, 1) := by decide +kernel
theorem d_M_inverts_144 : decode m_M_inverts.2.1 144 = .ok (.aload_n 0, 1) := by decide +kernel
theorem d_M_inverts_145 : decode m_M_inverts.2.1 145 = .ok (.getfield 33, 3) := by decide +kernel
theorem d_M_inverts_148 : decode m_M_inverts.2.1 148 = .ok (.bipush 42, 2) := by decide +kernel
theorem d_M_inverts_150 : decode m_M_inverts.2.1 150 = .ok (.iconst 0, 1) := by decide +kernel
theorem d_M_inverts_151 : decode m_M_inverts.2.1 151 = .ok (.iastore, 1) := by decide +kernel
theorem d_M_inverts_152 : decode m_M_inverts.2.1 152 = .ok (.aload_n 0, 1) := by decide +kernel
theorem d_M_inverts_153 : decode m_M_inverts.2.1 153 = .ok (.getfield 33, 3) := by decide +kernel
theorem d_M_inverts_156 : decode m_M_inverts.2.1 156 = .ok (.bipush 41, 2) := by decide +kernel
theorem d_M_inverts_158 : decode m_M_inverts.2.1 158 = .ok (.iconst 0, 1) := by decide +kernel
theorem d_M_inverts_159 : decode m_M_inverts.2.1 159 = .ok (.iastore, 1) := by decide +kernel
theorem d_M_inverts_160 : decode m_M_inverts.2.1 160 = .ok (.aload_n 0, 1) := by decide +kernel
theorem d_M_inverts_161 : decode m_M_inverts.2.1 161 = .ok (.getfield 39, 3) := by decide +kernel
theorem d_M_inverts_164 : decode m_M_inverts.2.1 164 = .ok (.bipush 6, 2) := by decide +kernel
theorem d_M_inverts_166 : decode m_M_inverts.2.1 166 = .ok (.dup2, 1) := by decide +kernel
theorem d_M_inverts_167 : decode m_M_inverts.2.1 167 = .ok (.laload, 1) := by decide +kernel
theorem d_M_inverts_168 : decode m_M_inverts.2.1 168 = .ok (.lconst 1, 1) := by decide +kernel
theorem d_M_inverts_169 : decode m_M_inverts.2.1 169 = .ok (.ladd, 1) := by decide +kernel
theorem d_M_inverts_170 : decode m_M_inverts.2.1 170 = .ok (.lastore, 1) := by decide +kernel
theorem d_M_inverts_171 : decode m_M_inverts.2.1 171 = .ok (.return_, 1) := by decide +kernel
theorem d_M_inverts_172 : decode m_M_inverts.2.1 172 = .ok (.aload_n 0, 1) := by decide +kernel
theorem d_M_inverts_173 : decode m_M_inverts.2.1 173 = .ok (.getfield 200, 3) := by decide +kernel
theorem d_M_inverts_176 : decode m_M_inverts.2.1 176 = .ok (.aload_n 0, 1) := by decide +kernel
theorem d_M_inverts_177 : decode m_M_inverts.2.1 177 = .ok (.getfield 234, 3) := by decide +kernel
theorem d_M_inverts_180 : decode m_M_inverts.2.1 180 = .ok (.isub, 1) := by decide +kernel
theorem d_M_inverts_181 : decode m_M_inverts.2.1 181 = .ok (.istore_n 3, 1) := by decide +kernel
theorem d_M_inverts_182 : decode m_M_inverts.2.1 182 = .ok (.aload_n 0, 1) := by decide +kernel
theorem d_M_inverts_183 : decode m_M_inverts.2.1 183 = .ok (.getfield 33, 3) := by decide +kernel
theorem d_M_inverts_186 : decode m_M_inverts.2.1 186 = .ok (.bipush 40, 2) := by decide +kernel
theorem d_M_inverts_188 : decode m_M_inverts.2.1 188 = .ok (.iload_n 3, 1) := by decide +kernel
theorem d_M_inverts_189 : decode m_M_inverts.2.1 189 = .ok (.iload_n 1, 1) := by decide +kernel
theorem d_M_inverts_190 : decode m_M_inverts.2.1 190 = .ok (.aload_n 0, 1) := by decide +kernel
theorem d_M_inverts_191 : decode m_M_inverts.2.1 191 = .ok (.getfield 33, 3) := by decide +kernel
theorem d_M_inverts_194 : decode m_M_inverts.2.1 194 = .ok (.bipush 11, 2) := by decide +kernel
theorem d_M_inverts_196 : decode m_M_inverts.2.1 196 = .ok (.iaload, 1) := by decide +kernel
theorem d_M_inverts_197 : decode m_M_inverts.2.1 197 = .ok (.iadd, 1) := by decide +kernel
theorem d_M_inverts_198 : decode m_M_inverts.2.1 198 = .ok (.if_icmp .ge 7, 3) := by decide +kernel
theorem d_M_inverts_201 : decode m_M_inverts.2.1 201 = .ok (.iload_n 3, 1) := by decide +kernel
theorem d_M_inverts_202 : decode m_M_inverts.2.1 202 = .ok (.goto 12, 3) := by decide +kernel
theorem d_M_inverts_205 : decode m_M_inverts.2.1 205 = .ok (.iload_n 1, 1) := by decide +kernel
theorem d_M_inverts_206 : decode m_M_inverts.2.1 206 = .ok (.aload_n 0, 1) := by decide +kernel
theorem d_M_inverts_207 : decode m_M_inverts.2.1 207 = .ok (.getfield 33, 3) := by decide +kernel
theorem d_M_inverts_210 : decode m_M_inverts.2.1 210 = .ok (.bipush 11, 2) := by decide +kernel
theorem d_M_inverts_212 : decode m_M_inverts.2.1 212 = .ok (.iaload, 1) := by decide +kernel
theorem d_M_inverts_213 : decode m_M_inverts.2.1 213 = .ok (.iadd, 1) := by decide +kernel
theorem d_M_inverts_214 : decode m_M_inverts.2.1 214 = .ok (.iastore, 1) := by decide +kernel
theorem d_M_inverts_215 : decode m_M_inverts.2.1 215 = .ok (.return_, 1) := by decide +kernel
theorem d_M_inverts_216 : decode m_M_inverts.2.1 216 = .ok (.aload_n 0, 1) := by decide +kernel
theorem d_M_inverts_217 : decode m_M_inverts.2.1 217 = .ok (.getfield 33, 3) := by decide +kernel
theorem d_M_inverts_220 : decode m_M_inverts.2.1 220 = .ok (.bipush 42, 2) := by decide +kernel
theorem d_M_inverts_222 : decode m_M_inverts.2.1 222 = .ok (.aload_n 0, 1) := by decide +kernel
theorem d_M_inverts_223 : decode m_M_inverts.2.1 223 = .ok (.getfield 33, 3) := by decide +kernel
theorem d_M_inverts_226 : decode m_M_inverts.2.1 226 = .ok (.bipush 37, 2) := by decide +kernel
theorem d_M_inverts_228 : decode m_M_inverts.2.1 228 = .ok (.iaload, 1) := by decide +kernel
theorem d_M_inverts_229 : decode m_M_inverts.2.1 229 = .ok (.iconst 1, 1) := by decide +kernel
theorem d_M_inverts_230 : decode m_M_inverts.2.1 230 = .ok (.if_icmp .ne 15, 3) := by decide +kernel
theorem d_M_inverts_233 : decode m_M_inverts.2.1 233 = .ok (.aload_n 0, 1) := by decide +kernel
theorem d_M_inverts_234 : decode m_M_inverts.2.1 234 = .ok (.getfield 33, 3) := by decide +kernel
theorem d_M_inverts_237 : decode m_M_inverts.2.1 237 = .ok (.bipush 42, 2) := by decide +kernel
theorem d_M_inverts_239 : decode m_M_inverts.2.1 239 = .ok (.iaload, 1) := by decide +kernel
theorem d_M_inverts_240 : decode m_M_inverts.2.1 240 = .ok (.iconst 1, 1) := by decide +kernel
theorem d_M_inverts_241 : decode m_M_inverts.2.1 241 = .ok (.iadd, 1) := by decide +kernel
theorem d_M_inverts_242 : decode m_M_inverts.2.1 242 = .ok (.goto 4, 3) := by decide +kernel
theorem d_M_inverts_245 : decode m_M_inverts.2.1 245 = .ok (.iconst 0, 1) := by decide +kernel
theorem d_M_inverts_246 : decode m_M_inverts.2.1 246 = .ok (.iastore, 1) := by decide +kernel
theorem d_M_inverts_247 : decode m_M_inverts.2.1 247 = .ok (.aload_n 0, 1) := by decide +kernel
theorem d_M_inverts_248 : decode m_M_inverts.2.1 248 = .ok (.getfield 33, 3) := by decide +kernel
theorem d_M_inverts_251 : decode m_M_inverts.2.1 251 = .ok (.bipush 42, 2) := by decide +kernel
theorem d_M_inverts_253 : decode m_M_inverts.2.1 253 = .ok (.iaload, 1) := by decide +kernel
theorem d_M_inverts_254 : decode m_M_inverts.2.1 254 = .ok (.aload_n 0, 1) := by decide +kernel
theorem d_M_inverts_255 : decode m_M_inverts.2.1 255 = .ok (.getfield 33, 3) := by decide +kernel
theorem d_M_inverts_258 : decode m_M_inverts.2.1 258 = .ok (.bipush 10, 2) := by decide +kernel
theorem d_M_inverts_260 : decode m_M_inverts.2.1 260 = .ok (.iaload, 1) := by decide +kernel
theorem d_M_inverts_261 : decode m_M_inverts.2.1 261 = .ok (.if_icmp .ge 4, 3) := by decide +kernel
theorem d_M_inverts_264 : decode m_M_inverts.2.1 264 = .ok (.return_, 1) := by decide +kernel
theorem d_M_inverts_265 : decode m_M_inverts.2.1 265 = .ok (.aload_n 0, 1) := by decide +kernel
theorem d_M_inverts_266 : decode m_M_inverts.2.1 266 = .ok (.getfield 33, 3) := by decide +kernel
theorem d_M_inverts_269 : decode m_M_inverts.2.1 269 = .ok (.bipush 36, 2) := by decide +kernel
theorem d_M_inverts_271 : decode m_M_inverts.2.1 271 = .ok (.iconst 1, 1) := by decide +kernel
theorem d_M_inverts_272 : decode m_M_inverts.2.1 272 = .ok (.iastore, 1) := by decide +kernel
theorem d_M_inverts_273 : decode m_M_inverts.2.1 273 = .ok (.aload_n 0, 1) := by decide +kernel
theorem d_M_inverts_274 : decode m_M_inverts.2.1 274 = .ok (.getfield 33, 3) := by decide +kernel
theorem d_M_inverts_277 : decode m_M_inverts.2.1 277 = .ok (.bipush 39, 2) := by decide +kernel
theorem d_M_inverts_279 : decode m_M_inverts.2.1 279 = .ok (.ldc 171, 2) := by decide +kernel
theorem d_M_inverts_281 : decode m_M_inverts.2.1 281 = .ok (.iastore, 1) := by decide +kernel
theorem d_M_inverts_282 : decode m_M_inverts.2.1 282 = .ok (.aload_n 0, 1) := by decide +kernel
theorem d_M_inverts_283 : decode m_M_inverts.2.1 283 = .ok (.getfield 33, 3) := by decide +kernel
theorem d_M_inverts_286 : decode m_M_inverts.2.1 286 = .ok (.bipush 41, 2) := by decide +kernel
theorem d_M_inverts_288 : decode m_M_inverts.2.1 288 = .ok (.iconst 0, 1) := by decide +kernel
theorem d_M_inverts_289 : decode m_M_inverts.2.1 289 = .ok (.iastore, 1) := by decide +kernel
theorem d_M_inverts_290 : decode m_M_inverts.2.1 290 = .ok (.return_, 1) := by decide +kernel
theorem d_M_ticksOnce_0 : decode m_M_ticksOnce.2.1 0 = .ok (.aload_n 0, 1) := by decide +kernel
theorem d_M_ticksOnce_1 : decode m_M_ticksOnce.2.1 1 = .ok (.getfield 33, 3) := by decide +kernel
theorem d_M_ticksOnce_4 : decode m_M_ticksOnce.2.1 4 = .ok (.bipush 25, 2) := by decide +kernel
theorem d_M_ticksOnce_6 : decode m_M_ticksOnce.2.1 6 = .ok (.dup2, 1) := by decide +kernel
theorem d_M_ticksOnce_7 : decode m_M_ticksOnce.2.1 7 = .ok (.iaload, 1) := by decide +kernel
theorem d_M_ticksOnce_8 : decode m_M_ticksOnce.2.1 8 = .ok (.iconst 1, 1) := by decide +kernel
theorem d_M_ticksOnce_9 : decode m_M_ticksOnce.2.1 9 = .ok (.iadd, 1) := by decide +kernel
theorem d_M_ticksOnce_10 : decode m_M_ticksOnce.2.1 10 = .ok (.iastore, 1) := by decide +kernel
theorem d_M_ticksOnce_11 : decode m_M_ticksOnce.2.1 11 = .ok (.aload_n 0, 1) := by decide +kernel
theorem d_M_ticksOnce_12 : decode m_M_ticksOnce.2.1 12 = .ok (.invokevirtual 244, 3) := by decide +kernel
theorem d_M_ticksOnce_15 : decode m_M_ticksOnce.2.1 15 = .ok (.aload_n 0, 1) := by decide +kernel
theorem d_M_ticksOnce_16 : decode m_M_ticksOnce.2.1 16 = .ok (.invokevirtual 247, 3) := by decide +kernel
theorem d_M_ticksOnce_19 : decode m_M_ticksOnce.2.1 19 = .ok (.aload_n 0, 1) := by decide +kernel
theorem d_M_ticksOnce_20 : decode m_M_ticksOnce.2.1 20 = .ok (.invokevirtual 250, 3) := by decide +kernel
theorem d_M_ticksOnce_23 : decode m_M_ticksOnce.2.1 23 = .ok (.aload_n 0, 1) := by decide +kernel
theorem d_M_ticksOnce_24 : decode m_M_ticksOnce.2.1 24 = .ok (.invokevirtual 253, 3) := by decide +kernel
theorem d_M_ticksOnce_27 : decode m_M_ticksOnce.2.1 27 = .ok (.aload_n 0, 1) := by decide +kernel
theorem d_M_ticksOnce_28 : decode m_M_ticksOnce.2.1 28 = .ok (.getfield 200, 3) := by decide +kernel
theorem d_M_ticksOnce_31 : decode m_M_ticksOnce.2.1 31 = .ok (.aload_n 0, 1) := by decide +kernel
theorem d_M_ticksOnce_32 : decode m_M_ticksOnce.2.1 32 = .ok (.getfield 234, 3) := by decide +kernel
theorem d_M_ticksOnce_35 : decode m_M_ticksOnce.2.1 35 = .ok (.isub, 1) := by decide +kernel
theorem d_M_ticksOnce_36 : decode m_M_ticksOnce.2.1 36 = .ok (.aload_n 0, 1) := by decide +kernel
theorem d_M_ticksOnce_37 : decode m_M_ticksOnce.2.1 37 = .ok (.getfield 33, 3) := by decide +kernel
theorem d_M_ticksOnce_40 : decode m_M_ticksOnce.2.1 40 = .ok (.bipush 40, 2) := by decide +kernel
theorem d_M_ticksOnce_42 : decode m_M_ticksOnce.2.1 42 = .ok (.iaload, 1) := by decide +kernel
theorem d_M_ticksOnce_43 : decode m_M_ticksOnce.2.1 43 = .ok (.isub, 1) := by decide +kernel
theorem d_M_ticksOnce_44 : decode m_M_ticksOnce.2.1 44 = .ok (.istore_n 1, 1) := by decide +kernel
theorem d_M_ticksOnce_45 : decode m_M_ticksOnce.2.1 45 = .ok (.aload_n 0, 1) := by decide +kernel
theorem d_M_ticksOnce_46 : decode m_M_ticksOnce.2.1 46 = .ok (.getfield 39, 3) := by decide +kernel
theorem d_M_ticksOnce_49 : decode m_M_ticksOnce.2.1 49 = .ok (.iconst 0, 1) := by decide +kernel
theorem d_M_ticksOnce_50 : decode m_M_ticksOnce.2.1 50 = .ok (.dup2, 1) := by decide +kernel
theorem d_M_ticksOnce_51 : decode m_M_ticksOnce.2.1 51 = .ok (.laload, 1) := by decide +kernel
theorem d_M_ticksOnce_52 : decode m_M_ticksOnce.2.1 52 = .ok (.aload_n 0, 1) := by decide +kernel
theorem d_M_ticksOnce_53 : decode m_M_ticksOnce.2.1 53 = .ok (.getfield 200, 3) := by decide +kernel
theorem d_M_ticksOnce_56 : decode m_M_ticksOnce.2.1 56 = .ok (.i2l, 1) := by decide +kernel
theorem d_M_ticksOnce_57 : decode m_M_ticksOnce.2.1 57 = .ok (.ladd, 1) := by decide +kernel
theorem d_M_ticksOnce_58 : decode m_M_ticksOnce.2.1 58 = .ok (.lastore, 1) := by decide +kernel
theorem d_M_ticksOnce_59 : decode m_M_ticksOnce.2.1 59 = .ok (.aload_n 0, 1) := by decide +kernel
theorem d_M_ticksOnce_60 : decode m_M_ticksOnce.2.1 60 = .ok (.getfield 39, 3) := by decide +kernel
theorem d_M_ticksOnce_63 : decode m_M_ticksOnce.2.1 63 = .ok (.iconst 2, 1) := by decide +kernel
theorem d_M_ticksOnce_64 : decode m_M_ticksOnce.2.1 64 = .ok (.dup2, 1) := by decide +kernel
theorem d_M_ticksOnce_65 : decode m_M_ticksOnce.2.1 65 = .ok (.laload, 1) := by decide +kernel
theorem d_M_ticksOnce_66 : decode m_M_ticksOnce.2.1 66 = .ok (.aload_n 0, 1) := by decide +kernel
theorem d_M_ticksOnce_67 : decode m_M_ticksOnce.2.1 67 = .ok (.getfield 234, 3) := by decide +kernel
theorem d_M_ticksOnce_70 : decode m_M_ticksOnce.2.1 70 = .ok (.i2l, 1) := by decide +kernel
theorem d_M_ticksOnce_71 : decode m_M_ticksOnce.2.1 71 = .ok (.ladd, 1) := by decide +kernel
theorem d_M_ticksOnce_72 : decode m_M_ticksOnce.2.1 72 = .ok (.lastore, 1) := by decide +kernel
theorem d_M_ticksOnce_73 : decode m_M_ticksOnce.2.1 73 = .ok (.aload_n 0, 1) := by decide +kernel
theorem d_M_ticksOnce_74 : decode m_M_ticksOnce.2.1 74 = .ok (.getfield 39, 3) := by decide +kernel
theorem d_M_ticksOnce_77 : decode m_M_ticksOnce.2.1 77 = .ok (.iconst 3, 1) := by decide +kernel
theorem d_M_ticksOnce_78 : decode m_M_ticksOnce.2.1 78 = .ok (.dup2, 1) := by decide +kernel
theorem d_M_ticksOnce_79 : decode m_M_ticksOnce.2.1 79 = .ok (.laload, 1) := by decide +kernel
theorem d_M_ticksOnce_80 : decode m_M_ticksOnce.2.1 80 = .ok (.aload_n 0, 1) := by decide +kernel
theorem d_M_ticksOnce_81 : decode m_M_ticksOnce.2.1 81 = .ok (.getfield 33, 3) := by decide +kernel
theorem d_M_ticksOnce_84 : decode m_M_ticksOnce.2.1 84 = .ok (.bipush 40, 2) := by decide +kernel
theorem d_M_ticksOnce_86 : decode m_M_ticksOnce.2.1 86 = .ok (.iaload, 1) := by decide +kernel
theorem d_M_ticksOnce_87 : decode m_M_ticksOnce.2.1 87 = .ok (.i2l, 1) := by decide +kernel
theorem d_M_ticksOnce_88 : decode m_M_ticksOnce.2.1 88 = .ok (.ladd, 1) := by decide +kernel
theorem d_M_ticksOnce_89 : decode m_M_ticksOnce.2.1 89 = .ok (.lastore, 1) := by decide +kernel
theorem d_M_ticksOnce_90 : decode m_M_ticksOnce.2.1 90 = .ok (.aload_n 0, 1) := by decide +kernel
theorem d_M_ticksOnce_91 : decode m_M_ticksOnce.2.1 91 = .ok (.getfield 39, 3) := by decide +kernel
theorem d_M_ticksOnce_94 : decode m_M_ticksOnce.2.1 94 = .ok (.iconst 4, 1) := by decide +kernel
theorem d_M_ticksOnce_95 : decode m_M_ticksOnce.2.1 95 = .ok (.dup2, 1) := by decide +kernel
theorem d_M_ticksOnce_96 : decode m_M_ticksOnce.2.1 96 = .ok (.laload, 1) := by decide +kernel
theorem d_M_ticksOnce_97 : decode m_M_ticksOnce.2.1 97 = .ok (.iload_n 1, 1) := by decide +kernel
theorem d_M_ticksOnce_98 : decode m_M_ticksOnce.2.1 98 = .ok (.i2l, 1) := by decide +kernel
theorem d_M_ticksOnce_99 : decode m_M_ticksOnce.2.1 99 = .ok (.ladd, 1) := by decide +kernel
theorem d_M_ticksOnce_100 : decode m_M_ticksOnce.2.1 100 = .ok (.lastore, 1) := by decide +kernel
theorem d_M_ticksOnce_101 : decode m_M_ticksOnce.2.1 101 = .ok (.aload_n 0, 1) := by decide +kernel
theorem d_M_ticksOnce_102 : decode m_M_ticksOnce.2.1 102 = .ok (.getfield 178, 3) := by decide +kernel
theorem d_M_ticksOnce_105 : decode m_M_ticksOnce.2.1 105 = .ok (.ifCond .eq 4, 3) := by decide +kernel
theorem d_M_ticksOnce_108 : decode m_M_ticksOnce.2.1 108 = .ok (.return_, 1) := by decide +kernel
theorem d_M_ticksOnce_109 : decode m_M_ticksOnce.2.1 109 = .ok (.aload_n 0, 1) := by decide +kernel
theorem d_M_ticksOnce_110 : decode m_M_ticksOnce.2.1 110 = .ok (.getfield 39, 3) := by decide +kernel
theorem d_M_ticksOnce_113 : decode m_M_ticksOnce.2.1 113 = .ok (.iconst 1, 1) := by decide +kernel
theorem d_M_ticksOnce_114 : decode m_M_ticksOnce.2.1 114 = .ok (.dup2, 1) := by decide +kernel
theorem d_M_ticksOnce_115 : decode m_M_ticksOnce.2.1 115 = .ok (.laload, 1) := by decide +kernel
theorem d_M_ticksOnce_116 : decode m_M_ticksOnce.2.1 116 = .ok (.aload_n 0, 1) := by decide +kernel
theorem d_M_ticksOnce_117 : decode m_M_ticksOnce.2.1 117 = .ok (.invokevirtual 256, 3) := by decide +kernel
theorem d_M_ticksOnce_120 : decode m_M_ticksOnce.2.1 120 = .ok (.i2l, 1) := by decide +kernel
theorem d_M_ticksOnce_121 : decode m_M_ticksOnce.2.1 121 = .ok (.ladd, 1) := by decide +kernel
theorem d_M_ticksOnce_122 : decode m_M_ticksOnce.2.1 122 = .ok (.lastore, 1) := by decide +kernel
theorem d_M_ticksOnce_123 : decode m_M_ticksOnce.2.1 123 = .ok (.aload_n 0, 1) := by decide +kernel
theorem d_M_ticksOnce_124 : decode m_M_ticksOnce.2.1 124 = .ok (.iload_n 1, 1) := by decide +kernel
theorem d_M_ticksOnce_125 : decode m_M_ticksOnce.2.1 125 = .ok (.invokevirtual 259, 3) := by decide +kernel
theorem d_M_ticksOnce_128 : decode m_M_ticksOnce.2.1 128 = .ok (.return_, 1) := by decide +kernel
theorem d_M_notes_0 : decode m_M_notes.2.1 0 = .ok (.sipush 999, 3) := by decide +kernel
theorem d_M_notes_3 : decode m_M_notes.2.1 3 = .ok (.istore_n 2, 1) := by decide +kernel
theorem d_M_notes_4 : decode m_M_notes.2.1 4 = .ok (.iload_n 2, 1) := by decide +kernel
theorem d_M_notes_5 : decode m_M_notes.2.1 5 = .ok (.bipush 10, 2) := by decide +kernel
theorem d_M_notes_7 : decode m_M_notes.2.1 7 = .ok (.if_icmp .lt 24, 3) := by decide +kernel
theorem d_M_notes_10 : decode m_M_notes.2.1 10 = .ok (.aload_n 0, 1) := by decide +kernel
theorem d_M_notes_11 : decode m_M_notes.2.1 11 = .ok (.getfield 46, 3) := by decide +kernel
theorem d_M_notes_14 : decode m_M_notes.2.1 14 = .ok (.iload_n 2, 1) := by decide +kernel
theorem d_M_notes_15 : decode m_M_notes.2.1 15 = .ok (.aload_n 0, 1) := by decide +kernel
theorem d_M_notes_16 : decode m_M_notes.2.1 16 = .ok (.getfield 46, 3) := by decide +kernel
theorem d_M_notes_19 : decode m_M_notes.2.1 19 = .ok (.iload_n 2, 1) := by decide +kernel
theorem d_M_notes_20 : decode m_M_notes.2.1 20 = .ok (.bipush 10, 2) := by decide +kernel
theorem d_M_notes_22 : decode m_M_notes.2.1 22 = .ok (.isub, 1) := by decide +kernel
theorem d_M_notes_23 : decode m_M_notes.2.1 23 = .ok (.iaload, 1) := by decide +kernel
theorem d_M_notes_24 : decode m_M_notes.2.1 24 = .ok (.iastore, 1) := by decide +kernel
theorem d_M_notes_25 : decode m_M_notes.2.1 25 = .ok (.iinc 2 (-1), 3) := by decide +kernel
theorem d_M_notes_28 : decode m_M_notes.2.1 28 = .ok (.goto (-24), 3) := by decide +kernel
theorem d_M_notes_31 : decode m_M_notes.2.1 31 = .ok (.aload_n 0, 1) := by decide +kernel
theorem d_M_notes_32 : decode m_M_notes.2.1 32 = .ok (.getfield 46, 3) := by decide +kernel
theorem d_M_notes_35 : decode m_M_notes.2.1 35 = .ok (.iconst 0, 1) := by decide +kernel
theorem d_M_notes_36 : decode m_M_notes.2.1 36 = .ok (.aload_n 0, 1) := by decide +kernel
theorem d_M_notes_37 : decode m_M_notes.2.1 37 = .ok (.getfield 33, 3) := by decide +kernel
theorem d_M_notes_40 : decode m_M_notes.2.1 40 = .ok (.bipush 26, 2) := by decide +kernel
theorem d_M_notes_42 : decode m_M_notes.2.1 42 = .ok (.iaload, 1) := by decide +kernel
theorem d_M_notes_43 : decode m_M_notes.2.1 43 = .ok (.iastore, 1) := by decide +kernel
theorem d_M_notes_44 : decode m_M_notes.2.1 44 = .ok (.aload_n 0, 1) := by decide +kernel
theorem d_M_notes_45 : decode m_M_notes.2.1 45 = .ok (.getfield 46, 3) := by decide +kernel
theorem d_M_notes_48 : decode m_M_notes.2.1 48 = .ok (.iconst 1, 1) := by decide +kernel
theorem d_M_notes_49 : decode m_M_notes.2.1 49 = .ok (.aload_n 0, 1) := by decide +kernel
theorem d_M_notes_50 : decode m_M_notes.2.1 50 = .ok (.getfield 200, 3) := by decide +kernel
theorem d_M_notes_53 : decode m_M_notes.2.1 53 = .ok (.iastore, 1) := by decide +kernel
theorem d_M_notes_54 : decode m_M_notes.2.1 54 = .ok (.aload_n 0, 1) := by decide +kernel
theorem d_M_notes_55 : decode m_M_notes.2.1 55 = .ok (.getfield 46, 3) := by decide +kernel
theorem d_M_notes_58 : decode m_M_notes.2.1 58 = .ok (.iconst 2, 1) := by decide +kernel
theorem d_M_notes_59 : decode m_M_notes.2.1 59 = .ok (.aload_n 0, 1) := by decide +kernel
theorem d_M_notes_60 : decode m_M_notes.2.1 60 = .ok (.invokevirtual 256, 3) := by decide +kernel
theorem d_M_notes_63 : decode m_M_notes.2.1 63 = .ok (.iastore, 1) := by decide +kernel
theorem d_M_notes_64 : decode m_M_notes.2.1 64 = .ok (.aload_n 0, 1) := by decide +kernel
theorem d_M_notes_65 : decode m_M_notes.2.1 65 = .ok (.getfield 46, 3) := by decide +kernel
theorem d_M_notes_68 : decode m_M_notes.2.1 68 = .ok (.iconst 3, 1) := by decide +kernel
theorem d_M_notes_69 : decode m_M_notes.2.1 69 = .ok (.aload_n 0, 1) := by decide +kernel
theorem d_M_notes_70 : decode m_M_notes.2.1 70 = .ok (.getfield 234, 3) := by decide +kernel
theorem d_M_notes_73 : decode m_M_notes.2.1 73 = .ok (.iastore, 1) := by decide +kernel
theorem d_M_notes_74 : decode m_M_notes.2.1 74 = .ok (.aload_n 0, 1) := by decide +kernel
theorem d_M_notes_75 : decode m_M_notes.2.1 75 = .ok (.getfield 46, 3) := by decide +kernel
theorem d_M_notes_78 : decode m_M_notes.2.1 78 = .ok (.iconst 4, 1) := by decide +kernel
theorem d_M_notes_79 : decode m_M_notes.2.1 79 = .ok (.aload_n 0, 1) := by decide +kernel
theorem d_M_notes_80 : decode m_M_notes.2.1 80 = .ok (.getfield 33, 3) := by decide +kernel
theorem d_M_notes_83 : decode m_M_notes.2.1 83 = .ok (.bipush 40, 2) := by decide +kernel
theorem d_M_notes_85 : decode m_M_notes.2.1 85 = .ok (.iaload, 1) := by decide +kernel
theorem d_M_notes_86 : decode m_M_notes.2.1 86 = .ok (.iastore, 1) := by decide +kernel
theorem d_M_notes_87 : decode m_M_notes.2.1 87 = .ok (.aload_n 0, 1) := by decide +kernel
theorem d_M_notes_88 : decode m_M_notes.2.1 88 = .ok (.getfield 46, 3) := by decide +kernel
theorem d_M_notes_91 : decode m_M_notes.2.1 91 = .ok (.iconst 5, 1) := by decide +kernel
theorem d_M_notes_92 : decode m_M_notes.2.1 92 = .ok (.iload_n 1, 1) := by decide +kernel
theorem d_M_notes_93 : decode m_M_notes.2.1 93 = .ok (.iastore, 1) := by decide +kernel
theorem d_M_notes_94 : decode m_M_notes.2.1 94 = .ok (.aload_n 0, 1) := by decide +kernel
theorem d_M_notes_95 : decode m_M_notes.2.1 95 = .ok (.getfield 46, 3) := by decide +kernel
theorem d_M_notes_98 : decode m_M_notes.2.1 98 = .ok (.bipush 6, 2) := by decide +kernel
theorem d_M_notes_100 : decode m_M_notes.2.1 100 = .ok (.aload_n 0, 1) := by decide +kernel
theorem d_M_notes_101 : decode m_M_notes.2.1 101 = .ok (.getfield 33, 3) := by decide +kernel
theorem d_M_notes_104 : decode m_M_notes.2.1 104 = .ok (.bipush 39, 2) := by decide +kernel
theorem d_M_notes_106 : decode m_M_notes.2.1 106 = .ok (.iaload, 1) := by decide +kernel
theorem d_M_notes_107 : decode m_M_notes.2.1 107 = .ok (.iastore, 1) := by decide +kernel
theorem d_M_notes_108 : decode m_M_notes.2.1 108 = .ok (.aload_n 0, 1) := by decide +kernel
theorem d_M_notes_109 : decode m_M_notes.2.1 109 = .ok (.getfield 46, 3) := by decide +kernel
theorem d_M_notes_112 : decode m_M_notes.2.1 112 = .ok (.bipush 7, 2) := by decide +kernel
theorem d_M_notes_114 : decode m_M_notes.2.1 114 = .ok (.aload_n 0, 1) := by decide +kernel
theorem d_M_notes_115 : decode m_M_notes.2.1 115 = .ok (.getfield 33, 3) := by decide +kernel
theorem d_M_notes_118 : decode m_M_notes.2.1 118 = .ok (.bipush 34, 2) := by decide +kernel
theorem d_M_notes_120 : decode m_M_notes.2.1 120 = .ok (.iaload, 1) := by decide +kernel
theorem d_M_notes_121 : decode m_M_notes.2.1 121 = .ok (.iastore, 1) := by decide +kernel
theorem d_M_notes_122 : decode m_M_notes.2.1 122 = .ok (.aload_n 0, 1) := by decide +kernel
theorem d_M_notes_123 : decode m_M_notes.2.1 123 = .ok (.getfield 46, 3) := by decide +kernel
theorem d_M_notes_126 : decode m_M_notes.2.1 126 = .ok (.bipush 8, 2) := by decide +kernel
theorem d_M_notes_128 : decode m_M_notes.2.1 128 = .ok (.aload_n 0, 1) := by decide +kernel
theorem d_M_notes_129 : decode m_M_notes.2.1 129 = .ok (.getfield 33, 3) := by decide +kernel
theorem d_M_notes_132 : decode m_M_notes.2.1 132 = .ok (.bipush 36, 2) := by decide +kernel
theorem d_M_notes_134 : decode m_M_notes.2.1 134 = .ok (.iaload, 1) := by decide +kernel
theorem d_M_notes_135 : decode m_M_notes.2.1 135 = .ok (.iastore, 1) := by decide +kernel
theorem d_M_notes_136 : decode m_M_notes.2.1 136 = .ok (.aload_n 0, 1) := by decide +kernel
theorem d_M_notes_137 : decode m_M_notes.2.1 137 = .ok (.getfield 46, 3) := by decide +kernel
theorem d_M_notes_140 : decode m_M_notes.2.1 140 = .ok (.bipush 9, 2) := by decide +kernel
theorem d_M_notes_142 : decode m_M_notes.2.1 142 = .ok (.aload_n 0, 1) := by decide +kernel
theorem d_M_notes_143 : decode m_M_notes.2.1 143 = .ok (.getfield 212, 3) := by decide +kernel
theorem d_M_notes_146 : decode m_M_notes.2.1 146 = .ok (.ifCond .eq 7, 3) := by decide +kernel
theorem d_M_notes_149 : decode m_M_notes.2.1 149 = .ok (.iconst 1, 1) := by decide +kernel
theorem d_M_notes_150 : decode m_M_notes.2.1 150 = .ok (.goto 4, 3) := by decide +kernel
theorem d_M_notes_153 : decode m_M_notes.2.1 153 = .ok (.iconst 0, 1) := by decide +kernel
theorem d_M_notes_154 : decode m_M_notes.2.1 154 = .ok (.iastore, 1) := by decide +kernel
theorem d_M_notes_155 : decode m_M_notes.2.1 155 = .ok (.aload_n 0, 1) := by decide +kernel
theorem d_M_notes_156 : decode m_M_notes.2.1 156 = .ok (.aload_n 0, 1) := by decide +kernel
theorem d_M_notes_157 : decode m_M_notes.2.1 157 = .ok (.getfield 175, 3) := by decide +kernel
theorem d_M_notes_160 : decode m_M_notes.2.1 160 = .ok (.bipush 100, 2) := by decide +kernel
theorem d_M_notes_162 : decode m_M_notes.2.1 162 = .ok (.if_icmp .ge 12, 3) := by decide +kernel
theorem d_M_notes_165 : decode m_M_notes.2.1 165 = .ok (.aload_n 0, 1) := by decide +kernel
theorem d_M_notes_166 : decode m_M_notes.2.1 166 = .ok (.getfield 175, 3) := by decide +kernel
theorem d_M_notes_169 : decode m_M_notes.2.1 169 = .ok (.iconst 1, 1) := by decide +kernel
theorem d_M_notes_170 : decode m_M_notes.2.1 170 = .ok (.iadd, 1) := by decide +kernel
theorem d_M_notes_171 : decode m_M_notes.2.1 171 = .ok (.goto 5, 3) := by decide +kernel
theorem d_M_notes_174 : decode m_M_notes.2.1 174 = .ok (.bipush 100, 2) := by decide +kernel
theorem d_M_notes_176 : decode m_M_notes.2.1 176 = .ok (.putfield 175, 3) := by decide +kernel
theorem d_M_notes_179 : decode m_M_notes.2.1 179 = .ok (.return_, 1) := by decide +kernel
theorem d_M_ticks_0 : decode m_M_ticks.2.1 0 = .ok (.aload_n 0, 1) := by decide +kernel
theorem d_M_ticks_1 : decode m_M_ticks.2.1 1 = .ok (.iconst 0, 1) := by decide +kernel
theorem d_M_ticks_2 : decode m_M_ticks.2.1 2 = .ok (.putfield 55, 3) := by decide +kernel
theorem d_M_ticks_5 : decode m_M_ticks.2.1 5 = .ok (.iload_n 1, 1) := by decide +kernel
theorem d_M_ticks_6 : decode m_M_ticks.2.1 6 = .ok (.iconst 1, 1) := by decide +kernel
theorem d_M_ticks_7 : decode m_M_ticks.2.1 7 = .ok (.if_icmp .lt 32, 3) := by decide +kernel
theorem d_M_ticks_10 : decode m_M_ticks.2.1 10 = .ok (.iload_n 1, 1) := by decide +kernel
theorem d_M_ticks_11 : decode m_M_ticks.2.1 11 = .ok (.sipush 500, 3) := by decide +kernel
theorem d_M_ticks_14 : decode m_M_ticks.2.1 14 = .ok (.if_icmp .gt 25, 3) := by decide +kernel
theorem d_M_ticks_17 : decode m_M_ticks.2.1 17 = .ok (.aload_n 0, 1) := by decide +kernel
theorem d_M_ticks_18 : decode m_M_ticks.2.1 18 = .ok (.getfield 168, 3) := by decide +kernel
theorem d_M_ticks_21 : decode m_M_ticks.2.1 21 = .ok (.ifCond .eq 18, 3) := by decide +kernel
theorem d_M_ticks_24 : decode m_M_ticks.2.1 24 = .ok (.aload_n 0, 1) := by decide +kernel
theorem d_M_ticks_25 : decode m_M_ticks.2.1 25 = .ok (.getfield 33, 3) := by decide +kernel
theorem d_M_ticks_28 : decode m_M_ticks.2.1 28 = .ok (.bipush 25, 2) := by decide +kernel
theorem d_M_ticks_30 : decode m_M_ticks.2.1 30 = .ok (.iaload, 1) := by decide +kernel
theorem d_M_ticks_31 : decode m_M_ticks.2.1 31 = .ok (.iload_n 1, 1) := by decide +kernel
theorem d_M_ticks_32 : decode m_M_ticks.2.1 32 = .ok (.iadd, 1) := by decide +kernel
theorem d_M_ticks_33 : decode m_M_ticks.2.1 33 = .ok (.sipush 9999, 3) := by decide +kernel
theorem d_M_ticks_36 : decode m_M_ticks.2.1 36 = .ok (.if_icmp .le 5, 3) := by decide +kernel
theorem d_M_ticks_39 : decode m_M_ticks.2.1 39 = .ok (.iconst (-1), 1) := by decide +kernel
theorem d_M_ticks_40 : decode m_M_ticks.2.1 40 = .ok (.ireturn, 1) := by decide +kernel
theorem d_M_ticks_41 : decode m_M_ticks.2.1 41 = .ok (.aload_n 0, 1) := by decide +kernel
theorem d_M_ticks_42 : decode m_M_ticks.2.1 42 = .ok (.getfield 39, 3) := by decide +kernel
theorem d_M_ticks_45 : decode m_M_ticks.2.1 45 = .ok (.iconst 0, 1) := by decide +kernel
theorem d_M_ticks_46 : decode m_M_ticks.2.1 46 = .ok (.laload, 1) := by decide +kernel
theorem d_M_ticks_47 : decode m_M_ticks.2.1 47 = .ok (.lstore_n 2, 1) := by decide +kernel
theorem d_M_ticks_48 : decode m_M_ticks.2.1 48 = .ok (.iconst 0, 1) := by decide +kernel
theorem d_M_ticks_49 : decode m_M_ticks.2.1 49 = .ok (.istore 4, 2) := by decide +kernel
theorem d_M_ticks_51 : decode m_M_ticks.2.1 51 = .ok (.iload 4, 2) := by decide +kernel
theorem d_M_ticks_53 : decode m_M_ticks.2.1 53 = .ok (.iload_n 1, 1) := by decide +kernel
theorem d_M_ticks_54 : decode m_M_ticks.2.1 54 = .ok (.if_icmp .ge 13, 3) := by decide +kernel
theorem d_M_ticks_57 : decode m_M_ticks.2.1 57 = .ok (.aload_n 0, 1) := by decide +kernel
theorem d_M_ticks_58 : decode m_M_ticks.2.1 58 = .ok (.invokevirtual 262, 3) := by decide +kernel
theorem d_M_ticks_61 : decode m_M_ticks.2.1 61 = .ok (.iinc 4 1, 3) := by decide +kernel
theorem d_M_ticks_64 : decode m_M_ticks.2.1 64 = .ok (.goto (-13), 3) := by decide +kernel
theorem d_M_ticks_67 : decode m_M_ticks.2.1 67 = .ok (.aload_n 0, 1) := by decide +kernel
theorem d_M_ticks_68 : decode m_M_ticks.2.1 68 = .ok (.getfield 39, 3) := by decide +kernel
theorem d_M_ticks_71 : decode m_M_ticks.2.1 71 = .ok (.iconst 0, 1) := by decide +kernel
theorem d_M_ticks_72 : decode m_M_ticks.2.1 72 = .ok (.laload, 1) := by decide +kernel
theorem d_M_ticks_73 : decode m_M_ticks.2.1 73 = .ok (.lload_n 2, 1) := by decide +kernel
theorem d_M_ticks_74 : decode m_M_ticks.2.1 74 = .ok (.lsub, 1) := by decide +kernel
theorem d_M_ticks_75 : decode m_M_ticks.2.1 75 = .ok (.l2i, 1) := by decide +kernel
theorem d_M_ticks_76 : decode m_M_ticks.2.1 76 = .ok (.ireturn, 1) := by decide +kernel
theorem d_M_isModule_0 : decode m_M_isModule.2.1 0 = .ok (.iload_n 1, 1) := by decide +kernel
theorem d_M_isModule_1 : decode m_M_isModule.2.1 1 = .ok (.ifCond .lt 15, 3) := by decide +kernel
theorem d_M_isModule_4 : decode m_M_isModule.2.1 4 = .ok (.iload_n 1, 1) := by decide +kernel
theorem d_M_isModule_5 : decode m_M_isModule.2.1 5 = .ok (.aload_n 0, 1) := by decide +kernel
theorem d_M_isModule_6 : decode m_M_isModule.2.1 6 = .ok (.getfield 168, 3) := by decide +kernel
theorem d_M_isModule_9 : decode m_M_isModule.2.1 9 = .ok (.if_icmp .ge 7, 3) := by decide +kernel
theorem d_M_isModule_12 : decode m_M_isModule.2.1 12 = .ok (.iconst 1, 1) := by decide +kernel
theorem d_M_isModule_13 : decode m_M_isModule.2.1 13 = .ok (.goto 4, 3) := by decide +kernel
theorem d_M_isModule_16 : decode m_M_isModule.2.1 16 = .ok (.iconst 0, 1) := by decide +kernel
theorem d_M_isModule_17 : decode m_M_isModule.2.1 17 = .ok (.ireturn, 1) := by decide +kernel
theorem d_M_light_0 : decode m_M_light.2.1 0 = .ok (.aload_n 0, 1) := by decide +kernel
theorem d_M_light_1 : decode m_M_light.2.1 1 = .ok (.iconst 0, 1) := by decide +kernel
theorem d_M_light_2 : decode m_M_light.2.1 2 = .ok (.putfield 55, 3) := by decide +kernel
theorem d_M_light_5 : decode m_M_light.2.1 5 = .ok (.aload_n 0, 1) := by decide +kernel
theorem d_M_light_6 : decode m_M_light.2.1 6 = .ok (.iload_n 1, 1) := by decide +kernel
theorem d_M_light_7 : decode m_M_light.2.1 7 = .ok (.invokevirtual 265, 3) := by decide +kernel
theorem d_M_light_10 : decode m_M_light.2.1 10 = .ok (.ifCond .eq 13, 3) := by decide +kernel
theorem d_M_light_13 : decode m_M_light.2.1 13 = .ok (.iload_n 2, 1) := by decide +kernel
theorem d_M_light_14 : decode m_M_light.2.1 14 = .ok (.ifCond .lt 9, 3) := by decide +kernel
theorem d_M_light_17 : decode m_M_light.2.1 17 = .ok (.iload_n 2, 1) := by decide +kernel
theorem d_M_light_18 : decode m_M_light.2.1 18 = .ok (.bipush 100, 2) := by decide +kernel
theorem d_M_light_20 : decode m_M_light.2.1 20 = .ok (.if_icmp .le 5, 3) := by decide +kernel
theorem d_M_light_23 : decode m_M_light.2.1 23 = .ok (.iconst (-1), 1) := by decide +kernel
theorem d_M_light_24 : decode m_M_light.2.1 24 = .ok (.ireturn, 1) := by decide +kernel
theorem d_M_light_25 : decode m_M_light.2.1 25 = .ok (.aload_n 0, 1) := by decide +kernel
theorem d_M_light_26 : decode m_M_light.2.1 26 = .ok (.getfield 33, 3) := by decide +kernel
theorem d_M_light_29 : decode m_M_light.2.1 29 = .ok (.bipush 19, 2) := by decide +kernel
theorem d_M_light_31 : decode m_M_light.2.1 31 = .ok (.iload_n 1, 1) := by decide +kernel
theorem d_M_light_32 : decode m_M_light.2.1 32 = .ok (.iadd, 1) := by decide +kernel
theorem d_M_light_33 : decode m_M_light.2.1 33 = .ok (.iaload, 1) := by decide +kernel
theorem d_M_light_34 : decode m_M_light.2.1 34 = .ok (.istore_n 3, 1) := by decide +kernel
theorem d_M_light_35 : decode m_M_light.2.1 35 = .ok (.aload_n 0, 1) := by decide +kernel
theorem d_M_light_36 : decode m_M_light.2.1 36 = .ok (.iload_n 1, 1) := by decide +kernel
theorem d_M_light_37 : decode m_M_light.2.1 37 = .ok (.iload_n 2, 1) := by decide +kernel
theorem d_M_light_38 : decode m_M_light.2.1 38 = .ok (.invokevirtual 194, 3) := by decide +kernel
theorem d_M_light_41 : decode m_M_light.2.1 41 = .ok (.iload_n 3, 1) := by decide +kernel
theorem d_M_light_42 : decode m_M_light.2.1 42 = .ok (.ireturn, 1) := by decide +kernel
theorem d_M_grid_0 : decode m_M_grid.2.1 0 = .ok (.aload_n 0, 1) := by decide +kernel
theorem d_M_grid_1 : decode m_M_grid.2.1 1 = .ok (.iconst 0, 1) := by decide +kernel
theorem d_M_grid_2 : decode m_M_grid.2.1 2 = .ok (.putfield 55, 3) := by decide +kernel
theorem d_M_grid_5 : decode m_M_grid.2.1 5 = .ok (.iload_n 1, 1) := by decide +kernel
theorem d_M_grid_6 : decode m_M_grid.2.1 6 = .ok (.ifCond .lt 8, 3) := by decide +kernel
theorem d_M_grid_9 : decode m_M_grid.2.1 9 = .ok (.iload_n 1, 1) := by decide +kernel
theorem d_M_grid_10 : decode m_M_grid.2.1 10 = .ok (.iconst 1, 1) := by decide +kernel
theorem d_M_grid_11 : decode m_M_grid.2.1 11 = .ok (.if_icmp .le 5, 3) := by decide +kernel
theorem d_M_grid_14 : decode m_M_grid.2.1 14 = .ok (.iconst (-1), 1) := by decide +kernel
theorem d_M_grid_15 : decode m_M_grid.2.1 15 = .ok (.ireturn, 1) := by decide +kernel
theorem d_M_grid_16 : decode m_M_grid.2.1 16 = .ok (.aload_n 0, 1) := by decide +kernel
theorem d_M_grid_17 : decode m_M_grid.2.1 17 = .ok (.getfield 33, 3) := by decide +kernel
theorem d_M_grid_20 : decode m_M_grid.2.1 20 = .ok (.bipush 37, 2) := by decide +kernel
theorem d_M_grid_22 : decode m_M_grid.2.1 22 = .ok (.iaload, 1) := by decide +kernel
theorem d_M_grid_23 : decode m_M_grid.2.1 23 = .ok (.istore_n 2, 1) := by decide +kernel
theorem d_M_grid_24 : decode m_M_grid.2.1 24 = .ok (.aload_n 0, 1) := by decide +kernel
theorem d_M_grid_25 : decode m_M_grid.2.1 25 = .ok (.getfield 33, 3) := by decide +kernel
theorem d_M_grid_28 : decode m_M_grid.2.1 28 = .ok (.bipush 37, 2) := by decide +kernel
theorem d_M_grid_30 : decode m_M_grid.2.1 30 = .ok (.iload_n 1, 1) := by decide +kernel
theorem d_M_grid_31 : decode m_M_grid.2.1 31 = .ok (.iastore, 1) := by decide +kernel
theorem d_M_grid_32 : decode m_M_grid.2.1 32 = .ok (.iload_n 2, 1) := by decide +kernel
theorem d_M_grid_33 : decode m_M_grid.2.1 33 = .ok (.ireturn, 1) := by decide +kernel
theorem d_M_tune_0 : decode m_M_tune.2.1 0 = .ok (.aload_n 0, 1) := by decide +kernel
theorem d_M_tune_1 : decode m_M_tune.2.1 1 = .ok (.iconst 0, 1) := by decide +kernel
theorem d_M_tune_2 : decode m_M_tune.2.1 2 = .ok (.putfield 55, 3) := by decide +kernel
theorem d_M_tune_5 : decode m_M_tune.2.1 5 = .ok (.iload_n 1, 1) := by decide +kernel
theorem d_M_tune_6 : decode m_M_tune.2.1 6 = .ok (.ldc 145, 2) := by decide +kernel
theorem d_M_tune_8 : decode m_M_tune.2.1 8 = .ok (.if_icmp .lt 9, 3) := by decide +kernel
theorem d_M_tune_11 : decode m_M_tune.2.1 11 = .ok (.iload_n 1, 1) := by decide +kernel
theorem d_M_tune_12 : decode m_M_tune.2.1 12 = .ok (.ldc 146, 2) := by decide +kernel
theorem d_M_tune_14 : decode m_M_tune.2.1 14 = .ok (.if_icmp .le 5, 3) := by decide +kernel
theorem d_M_tune_17 : decode m_M_tune.2.1 17 = .ok (.iconst (-1), 1) := by decide +kernel
theorem d_M_tune_18 : decode m_M_tune.2.1 18 = .ok (.ireturn, 1) := by decide +kernel
theorem d_M_tune_19 : decode m_M_tune.2.1 19 = .ok (.aload_n 0, 1) := by decide +kernel
theorem d_M_tune_20 : decode m_M_tune.2.1 20 = .ok (.getfield 33, 3) := by decide +kernel
theorem d_M_tune_23 : decode m_M_tune.2.1 23 = .ok (.bipush 38, 2) := by decide +kernel
theorem d_M_tune_25 : decode m_M_tune.2.1 25 = .ok (.iaload, 1) := by decide +kernel
theorem d_M_tune_26 : decode m_M_tune.2.1 26 = .ok (.istore_n 2, 1) := by decide +kernel
theorem d_M_tune_27 : decode m_M_tune.2.1 27 = .ok (.aload_n 0, 1) := by decide +kernel
theorem d_M_tune_28 : decode m_M_tune.2.1 28 = .ok (.getfield 33, 3) := by decide +kernel
theorem d_M_tune_31 : decode m_M_tune.2.1 31 = .ok (.bipush 38, 2) := by decide +kernel
theorem d_M_tune_33 : decode m_M_tune.2.1 33 = .ok (.iload_n 1, 1) := by decide +kernel
theorem d_M_tune_34 : decode m_M_tune.2.1 34 = .ok (.iastore, 1) := by decide +kernel
theorem d_M_tune_35 : decode m_M_tune.2.1 35 = .ok (.iload_n 2, 1) := by decide +kernel
theorem d_M_tune_36 : decode m_M_tune.2.1 36 = .ok (.ireturn, 1) := by decide +kernel
theorem d_M_scan_0 : decode m_M_scan.2.1 0 = .ok (.aload_n 0, 1) := by decide +kernel
theorem d_M_scan_1 : decode m_M_scan.2.1 1 = .ok (.iconst 0, 1) := by decide +kernel
theorem d_M_scan_2 : decode m_M_scan.2.1 2 = .ok (.putfield 55, 3) := by decide +kernel
theorem d_M_scan_5 : decode m_M_scan.2.1 5 = .ok (.aload_n 0, 1) := by decide +kernel
theorem d_M_scan_6 : decode m_M_scan.2.1 6 = .ok (.getfield 168, 3) := by decide +kernel
theorem d_M_scan_9 : decode m_M_scan.2.1 9 = .ok (.ifCond .ne 5, 3) := by decide +kernel
theorem d_M_scan_12 : decode m_M_scan.2.1 12 = .ok (.iconst (-1), 1) := by decide +kernel
theorem d_M_scan_13 : decode m_M_scan.2.1 13 = .ok (.ireturn, 1) := by decide +kernel
theorem d_M_scan_14 : decode m_M_scan.2.1 14 = .ok (.aload_n 0, 1) := by decide +kernel
theorem d_M_scan_15 : decode m_M_scan.2.1 15 = .ok (.getfield 33, 3) := by decide +kernel
theorem d_M_scan_18 : decode m_M_scan.2.1 18 = .ok (.bipush 31, 2) := by decide +kernel
theorem d_M_scan_20 : decode m_M_scan.2.1 20 = .ok (.iaload, 1) := by decide +kernel
theorem d_M_scan_21 : decode m_M_scan.2.1 21 = .ok (.iconst 1, 1) := by decide +kernel
theorem d_M_scan_22 : decode m_M_scan.2.1 22 = .ok (.if_icmp .ne 5, 3) := by decide +kernel
theorem d_M_scan_25 : decode m_M_scan.2.1 25 = .ok (.iconst 0, 1) := by decide +kernel
theorem d_M_scan_26 : decode m_M_scan.2.1 26 = .ok (.ireturn, 1) := by decide +kernel
theorem d_M_scan_27 : decode m_M_scan.2.1 27 = .ok (.aload_n 0, 1) := by decide +kernel
theorem d_M_scan_28 : decode m_M_scan.2.1 28 = .ok (.invokevirtual 229, 3) := by decide +kernel
theorem d_M_scan_31 : decode m_M_scan.2.1 31 = .ok (.iconst 1, 1) := by decide +kernel
theorem d_M_scan_32 : decode m_M_scan.2.1 32 = .ok (.ireturn, 1) := by decide +kernel
theorem d_M_told_0 : decode m_M_told.2.1 0 = .ok (.aload_n 0, 1) := by decide +kernel
theorem d_M_told_1 : decode m_M_told.2.1 1 = .ok (.iconst 0, 1) := by decide +kernel
theorem d_M_told_2 : decode m_M_told.2.1 2 = .ok (.putfield 55, 3) := by decide +kernel
theorem d_M_told_5 : decode m_M_told.2.1 5 = .ok (.iload_n 1, 1) := by decide +kernel
theorem d_M_told_6 : decode m_M_told.2.1 6 = .ok (.ifCond .lt 18, 3) := by decide +kernel
theorem d_M_told_9 : decode m_M_told.2.1 9 = .ok (.iload_n 1, 1) := by decide +kernel
theorem d_M_told_10 : decode m_M_told.2.1 10 = .ok (.bipush 18, 2) := by decide +kernel
theorem d_M_told_12 : decode m_M_told.2.1 12 = .ok (.if_icmp .gt 12, 3) := by decide +kernel
theorem d_M_told_15 : decode m_M_told.2.1 15 = .ok (.aload_n 0, 1) := by decide +kernel
theorem d_M_told_16 : decode m_M_told.2.1 16 = .ok (.getfield 33, 3) := by decide +kernel
theorem d_M_told_19 : decode m_M_told.2.1 19 = .ok (.iload_n 1, 1) := by decide +kernel
theorem d_M_told_20 : decode m_M_told.2.1 20 = .ok (.iaload, 1) := by decide +kernel
theorem d_M_told_21 : decode m_M_told.2.1 21 = .ok (.goto 4, 3) := by decide +kernel
theorem d_M_told_24 : decode m_M_told.2.1 24 = .ok (.iconst (-1), 1) := by decide +kernel
theorem d_M_told_25 : decode m_M_told.2.1 25 = .ok (.ireturn, 1) := by decide +kernel
theorem d_M_settle_0 : decode m_M_settle.2.1 0 = .ok (.aload_n 0, 1) := by decide +kernel
theorem d_M_settle_1 : decode m_M_settle.2.1 1 = .ok (.iconst 0, 1) := by decide +kernel
theorem d_M_settle_2 : decode m_M_settle.2.1 2 = .ok (.putfield 55, 3) := by decide +kernel
theorem d_M_settle_5 : decode m_M_settle.2.1 5 = .ok (.iload_n 1, 1) := by decide +kernel
theorem d_M_settle_6 : decode m_M_settle.2.1 6 = .ok (.iconst 1, 1) := by decide +kernel
theorem d_M_settle_7 : decode m_M_settle.2.1 7 = .ok (.if_icmp .eq 14, 3) := by decide +kernel
theorem d_M_settle_10 : decode m_M_settle.2.1 10 = .ok (.iload_n 1, 1) := by decide +kernel
theorem d_M_settle_11 : decode m_M_settle.2.1 11 = .ok (.iconst 4, 1) := by decide +kernel
theorem d_M_settle_12 : decode m_M_settle.2.1 12 = .ok (.if_icmp .lt 25, 3) := by decide +kernel
theorem d_M_settle_15 : decode m_M_settle.2.1 15 = .ok (.iload_n 1, 1) := by decide +kernel
theorem d_M_settle_16 : decode m_M_settle.2.1 16 = .ok (.bipush 18, 2) := by decide +kernel
theorem d_M_settle_18 : decode m_M_settle.2.1 18 = .ok (.if_icmp .gt 19, 3) := by decide +kernel
theorem d_M_settle_21 : decode m_M_settle.2.1 21 = .ok (.iload_n 2, 1) := by decide +kernel
theorem d_M_settle_22 : decode m_M_settle.2.1 22 = .ok (.iload_n 1, 1) := by decide +kernel
theorem d_M_settle_23 : decode m_M_settle.2.1 23 = .ok (.invokestatic 118, 3) := by decide +kernel
theorem d_M_settle_26 : decode m_M_settle.2.1 26 = .ok (.if_icmp .lt 11, 3) := by decide +kernel
theorem d_M_settle_29 : decode m_M_settle.2.1 29 = .ok (.iload_n 2, 1) := by decide +kernel
theorem d_M_settle_30 : decode m_M_settle.2.1 30 = .ok (.iload_n 1, 1) := by decide +kernel
theorem d_M_settle_31 : decode m_M_settle.2.1 31 = .ok (.invokestatic 122, 3) := by decide +kernel
theorem d_M_settle_34 : decode m_M_settle.2.1 34 = .ok (.if_icmp .le 5, 3) := by decide +kernel
theorem d_M_settle_37 : decode m_M_settle.2.1 37 = .ok (.iconst (-1), 1) := by decide +kernel
theorem d_M_settle_38 : decode m_M_settle.2.1 38 = .ok (.ireturn, 1) := by decide +kernel
theorem d_M_settle_39 : decode m_M_settle.2.1 39 = .ok (.aload_n 0, 1) := by decide +kernel
theorem d_M_settle_40 : decode m_M_settle.2.1 40 = .ok (.getfield 33, 3) := by decide +kernel
theorem d_M_settle_43 : decode m_M_settle.2.1 43 = .ok (.iload_n 1, 1) := by decide +kernel
theorem d_M_settle_44 : decode m_M_settle.2.1 44 = .ok (.iaload, 1) := by decide +kernel
theorem d_M_settle_45 : decode m_M_settle.2.1 45 = .ok (.istore_n 3, 1) := by decide +kernel
theorem d_M_settle_46 : decode m_M_settle.2.1 46 = .ok (.aload_n 0, 1) := by decide +kernel
theorem d_M_settle_47 : decode m_M_settle.2.1 47 = .ok (.getfield 33, 3) := by decide +kernel
theorem d_M_settle_50 : decode m_M_settle.2.1 50 = .ok (.iload_n 1, 1) := by decide +kernel
theorem d_M_settle_51 : decode m_M_settle.2.1 51 = .ok (.iload_n 2, 1) := by decide +kernel
theorem d_M_settle_52 : decode m_M_settle.2.1 52 = .ok (.iastore, 1) := by decide +kernel
theorem d_M_settle_53 : decode m_M_settle.2.1 53 = .ok (.iload_n 3, 1) := by decide +kernel
theorem d_M_settle_54 : decode m_M_settle.2.1 54 = .ok (.ireturn, 1) := by decide +kernel
theorem d_M_module_0 : decode m_M_module.2.1 0 = .ok (.aload_n 0, 1) := by decide +kernel
theorem d_M_module_1 : decode m_M_module.2.1 1 = .ok (.iconst 0, 1) := by decide +kernel
theorem d_M_module_2 : decode m_M_module.2.1 2 = .ok (.putfield 55, 3) := by decide +kernel
theorem d_M_module_5 : decode m_M_module.2.1 5 = .ok (.aload_n 0, 1) := by decide +kernel
theorem d_M_module_6 : decode m_M_module.2.1 6 = .ok (.iload_n 1, 1) := by decide +kernel
theorem d_M_module_7 : decode m_M_module.2.1 7 = .ok (.invokevirtual 265, 3) := by decide +kernel
theorem d_M_module_10 : decode m_M_module.2.1 10 = .ok (.ifCond .ne 10, 3) := by decide +kernel
theorem d_M_module_13 : decode m_M_module.2.1 13 = .ok (.aload_n 0, 1) := by decide +kernel
theorem d_M_module_14 : decode m_M_module.2.1 14 = .ok (.iconst 1, 1) := by decide +kernel
theorem d_M_module_15 : decode m_M_module.2.1 15 = .ok (.putfield 55, 3) := by decide +kernel
theorem d_M_module_18 : decode m_M_module.2.1 18 = .ok (.iconst 0, 1) := by decide +kernel
theorem d_M_module_19 : decode m_M_module.2.1 19 = .ok (.ireturn, 1) := by decide +kernel
theorem d_M_module_20 : decode m_M_module.2.1 20 = .ok (.iload_n 2, 1) := by decide +kernel
theorem d_M_module_21 : decode m_M_module.2.1 21 = .ok (.tableswitch 61 0 3 #[31, 38, 45, 55], 31) := by decide +kernel
theorem d_M_module_52 : decode m_M_module.2.1 52 = .ok (.aload_n 0, 1) := by decide +kernel
theorem d_M_module_53 : decode m_M_module.2.1 53 = .ok (.getfield 20, 3) := by decide +kernel
theorem d_M_module_56 : decode m_M_module.2.1 56 = .ok (.iload_n 1, 1) := by decide +kernel
theorem d_M_module_57 : decode m_M_module.2.1 57 = .ok (.iaload, 1) := by decide +kernel
theorem d_M_module_58 : decode m_M_module.2.1 58 = .ok (.ireturn, 1) := by decide +kernel
theorem d_M_module_59 : decode m_M_module.2.1 59 = .ok (.aload_n 0, 1) := by decide +kernel
theorem d_M_module_60 : decode m_M_module.2.1 60 = .ok (.getfield 23, 3) := by decide +kernel
theorem d_M_module_63 : decode m_M_module.2.1 63 = .ok (.iload_n 1, 1) := by decide +kernel
theorem d_M_module_64 : decode m_M_module.2.1 64 = .ok (.iaload, 1) := by decide +kernel
theorem d_M_module_65 : decode m_M_module.2.1 65 = .ok (.ireturn, 1) := by decide +kernel
theorem d_M_module_66 : decode m_M_module.2.1 66 = .ok (.aload_n 0, 1) := by decide +kernel
theorem d_M_module_67 : decode m_M_module.2.1 67 = .ok (.getfield 33, 3) := by decide +kernel
theorem d_M_module_70 : decode m_M_module.2.1 70 = .ok (.bipush 19, 2) := by decide +kernel
theorem d_M_module_72 : decode m_M_module.2.1 72 = .ok (.iload_n 1, 1) := by decide +kernel
theorem d_M_module_73 : decode m_M_module.2.1 73 = .ok (.iadd, 1) := by decide +kernel
theorem d_M_module_74 : decode m_M_module.2.1 74 = .ok (.iaload, 1) := by decide +kernel
theorem d_M_module_75 : decode m_M_module.2.1 75 = .ok (.ireturn, 1) := by decide +kernel
theorem d_M_module_76 : decode m_M_module.2.1 76 = .ok (.aload_n 0, 1) := by decide +kernel
theorem d_M_module_77 : decode m_M_module.2.1 77 = .ok (.iload_n 1, 1) := by decide +kernel
theorem d_M_module_78 : decode m_M_module.2.1 78 = .ok (.invokevirtual 182, 3) := by decide +kernel
theorem d_M_module_81 : decode m_M_module.2.1 81 = .ok (.ireturn, 1) := by decide +kernel
theorem d_M_module_82 : decode m_M_module.2.1 82 = .ok (.aload_n 0, 1) := by decide +kernel
theorem d_M_module_83 : decode m_M_module.2.1 83 = .ok (.iconst 2, 1) := by decide +kernel
theorem d_M_module_84 : decode m_M_module.2.1 84 = .ok (.putfield 55, 3) := by decide +kernel
theorem d_M_module_87 : decode m_M_module.2.1 87 = .ok (.iconst 0, 1) := by decide +kernel
theorem d_M_module_88 : decode m_M_module.2.1 88 = .ok (.ireturn, 1) := by decide +kernel
theorem d_M_isPoint_0 : decode m_M_isPoint.2.1 0 = .ok (.iload_n 0, 1) := by decide +kernel
theorem d_M_isPoint_1 : decode m_M_isPoint.2.1 1 = .ok (.ifCond .lt 14, 3) := by decide +kernel
theorem d_M_isPoint_4 : decode m_M_isPoint.2.1 4 = .ok (.iload_n 0, 1) := by decide +kernel
theorem d_M_isPoint_5 : decode m_M_isPoint.2.1 5 = .ok (.sipush 1000, 3) := by decide +kernel
theorem d_M_isPoint_8 : decode m_M_isPoint.2.1 8 = .ok (.if_icmp .ge 7, 3) := by decide +kernel
theorem d_M_isPoint_11 : decode m_M_isPoint.2.1 11 = .ok (.iconst 1, 1) := by decide +kernel
theorem d_M_isPoint_12 : decode m_M_isPoint.2.1 12 = .ok (.goto 4, 3) := by decide +kernel
theorem d_M_isPoint_15 : decode m_M_isPoint.2.1 15 = .ok (.iconst 0, 1) := by decide +kernel
theorem d_M_isPoint_16 : decode m_M_isPoint.2.1 16 = .ok (.ireturn, 1) := by decide +kernel
theorem d_M_volts_0 : decode m_M_volts.2.1 0 = .ok (.aload_n 0, 1) := by decide +kernel
theorem d_M_volts_1 : decode m_M_volts.2.1 1 = .ok (.iconst 0, 1) := by decide +kernel
theorem d_M_volts_2 : decode m_M_volts.2.1 2 = .ok (.putfield 55, 3) := by decide +kernel
theorem d_M_volts_5 : decode m_M_volts.2.1 5 = .ok (.iload_n 1, 1) := by decide +kernel
theorem d_M_volts_6 : decode m_M_volts.2.1 6 = .ok (.invokestatic 268, 3) := by decide +kernel
theorem d_M_volts_9 : decode m_M_volts.2.1 9 = .ok (.ifCond .eq 11, 3) := by decide +kernel
theorem d_M_volts_12 : decode m_M_volts.2.1 12 = .ok (.aload_n 0, 1) := by decide +kernel
theorem d_M_volts_13 : decode m_M_volts.2.1 13 = .ok (.iload_n 1, 1) := by decide +kernel
theorem d_M_volts_14 : decode m_M_volts.2.1 14 = .ok (.invokevirtual 185, 3) := by decide +kernel
theorem d_M_volts_17 : decode m_M_volts.2.1 17 = .ok (.goto 4, 3) := by decide +kernel
theorem d_M_volts_20 : decode m_M_volts.2.1 20 = .ok (.iconst (-1), 1) := by decide +kernel
theorem d_M_volts_21 : decode m_M_volts.2.1 21 = .ok (.ireturn, 1) := by decide +kernel
theorem d_M_power_0 : decode m_M_power.2.1 0 = .ok (.aload_n 0, 1) := by decide +kernel
theorem d_M_power_1 : decode m_M_power.2.1 1 = .ok (.iconst 0, 1) := by decide +kernel
theorem d_M_power_2 : decode m_M_power.2.1 2 = .ok (.putfield 55, 3) := by decide +kernel
theorem d_M_power_5 : decode m_M_power.2.1 5 = .ok (.iload_n 1, 1) := by decide +kernel
theorem d_M_power_6 : decode m_M_power.2.1 6 = .ok (.invokestatic 268, 3) := by decide +kernel
theorem d_M_power_9 : decode m_M_power.2.1 9 = .ok (.ifCond .eq 11, 3) := by decide +kernel
theorem d_M_power_12 : decode m_M_power.2.1 12 = .ok (.aload_n 0, 1) := by decide +kernel
theorem d_M_power_13 : decode m_M_power.2.1 13 = .ok (.iload_n 1, 1) := by decide +kernel
theorem d_M_power_14 : decode m_M_power.2.1 14 = .ok (.invokevirtual 188, 3) := by decide +kernel
theorem d_M_power_17 : decode m_M_power.2.1 17 = .ok (.goto 4, 3) := by decide +kernel
theorem d_M_power_20 : decode m_M_power.2.1 20 = .ok (.iconst (-1), 1) := by decide +kernel
theorem d_M_power_21 : decode m_M_power.2.1 21 = .ok (.ireturn, 1) := by decide +kernel
theorem d_M_slope_0 : decode m_M_slope.2.1 0 = .ok (.aload_n 0, 1) := by decide +kernel
theorem d_M_slope_1 : decode m_M_slope.2.1 1 = .ok (.iconst 0, 1) := by decide +kernel
theorem d_M_slope_2 : decode m_M_slope.2.1 2 = .ok (.putfield 55, 3) := by decide +kernel
theorem d_M_slope_5 : decode m_M_slope.2.1 5 = .ok (.iload_n 1, 1) := by decide +kernel
theorem d_M_slope_6 : decode m_M_slope.2.1 6 = .ok (.ifCond .lt 26, 3) := by decide +kernel
theorem d_M_slope_9 : decode m_M_slope.2.1 9 = .ok (.iload_n 1, 1) := by decide +kernel
theorem d_M_slope_10 : decode m_M_slope.2.1 10 = .ok (.sipush 999, 3) := by decide +kernel
theorem d_M_slope_13 : decode m_M_slope.2.1 13 = .ok (.if_icmp .ge 19, 3) := by decide +kernel
theorem d_M_slope_16 : decode m_M_slope.2.1 16 = .ok (.aload_n 0, 1) := by decide +kernel
theorem d_M_slope_17 : decode m_M_slope.2.1 17 = .ok (.iload_n 1, 1) := by decide +kernel
theorem d_M_slope_18 : decode m_M_slope.2.1 18 = .ok (.iconst 1, 1) := by decide +kernel
theorem d_M_slope_19 : decode m_M_slope.2.1 19 = .ok (.iadd, 1) := by decide +kernel
theorem d_M_slope_20 : decode m_M_slope.2.1 20 = .ok (.invokevirtual 188, 3) := by decide +kernel
theorem d_M_slope_23 : decode m_M_slope.2.1 23 = .ok (.aload_n 0, 1) := by decide +kernel
theorem d_M_slope_24 : decode m_M_slope.2.1 24 = .ok (.iload_n 1, 1) := by decide +kernel
theorem d_M_slope_25 : decode m_M_slope.2.1 25 = .ok (.invokevirtual 188, 3) := by decide +kernel
theorem d_M_slope_28 : decode m_M_slope.2.1 28 = .ok (.isub, 1) := by decide +kernel
theorem d_M_slope_29 : decode m_M_slope.2.1 29 = .ok (.goto 6, 3) := by decide +kernel
theorem d_M_slope_32 : decode m_M_slope.2.1 32 = .ok (.ldc_w 271, 3) := by decide +kernel
theorem d_M_slope_35 : decode m_M_slope.2.1 35 = .ok (.ireturn, 1) := by decide +kernel
theorem d_M_topsTo_0 : decode m_M_topsTo.2.1 0 = .ok (.iconst 0, 1) := by decide +kernel
theorem d_M_topsTo_1 : decode m_M_topsTo.2.1 1 = .ok (.istore_n 2, 1) := by decide +kernel
theorem d_M_topsTo_2 : decode m_M_topsTo.2.1 2 = .ok (.iconst 1, 1) := by decide +kernel
theorem d_M_topsTo_3 : decode m_M_topsTo.2.1 3 = .ok (.istore_n 3, 1) := by decide +kernel
theorem d_M_topsTo_4 : decode m_M_topsTo.2.1 4 = .ok (.iload_n 3, 1) := by decide +kernel
theorem d_M_topsTo_5 : decode m_M_topsTo.2.1 5 = .ok (.sipush 1000, 3) := by decide +kernel
theorem d_M_topsTo_8 : decode m_M_topsTo.2.1 8 = .ok (.if_icmp .ge 132, 3) := by decide +kernel
theorem d_M_topsTo_11 : decode m_M_topsTo.2.1 11 = .ok (.aload_n 0, 1) := by decide +kernel
theorem d_M_topsTo_12 : decode m_M_topsTo.2.1 12 = .ok (.iload_n 3, 1) := by decide +kernel
theorem d_M_topsTo_13 : decode m_M_topsTo.2.1 13 = .ok (.invokevirtual 188, 3) := by decide +kernel
theorem d_M_topsTo_16 : decode m_M_topsTo.2.1 16 = .ok (.istore 4, 2) := by decide +kernel
theorem d_M_topsTo_18 : decode m_M_topsTo.2.1 18 = .ok (.iload_n 3, 1) := by decide +kernel
theorem d_M_topsTo_19 : decode m_M_topsTo.2.1 19 = .ok (.istore 5, 2) := by decide +kernel
theorem d_M_topsTo_21 : decode m_M_topsTo.2.1 21 = .ok (.iload 5, 2) := by decide +kernel
theorem d_M_topsTo_23 : decode m_M_topsTo.2.1 23 = .ok (.iconst 1, 1) := by decide +kernel
theorem d_M_topsTo_24 : decode m_M_topsTo.2.1 24 = .ok (.iadd, 1) := by decide +kernel
theorem d_M_topsTo_25 : decode m_M_topsTo.2.1 25 = .ok (.sipush 1000, 3) := by decide +kernel
theorem d_M_topsTo_28 : decode m_M_topsTo.2.1 28 = .ok (.if_icmp .ge 22, 3) := by decide +kernel
theorem d_M_topsTo_31 : decode m_M_topsTo.2.1 31 = .ok (.aload_n 0, 1) := by decide +kernel
theorem d_M_topsTo_32 : decode m_M_topsTo.2.1 32 = .ok (.iload 5, 2) := by decide +kernel
theorem d_M_topsTo_34 : decode m_M_topsTo.2.1 34 = .ok (.iconst 1, 1) := by decide +kernel
theorem d_M_topsTo_35 : decode m_M_topsTo.2.1 35 = .ok (.iadd, 1) := by decide +kernel
theorem d_M_topsTo_36 : decode m_M_topsTo.2.1 36 = .ok (.invokevirtual 188, 3) := by decide +kernel
theorem d_M_topsTo_39 : decode m_M_topsTo.2.1 39 = .ok (.iload 4, 2) := by decide +kernel
theorem d_M_topsTo_41 : decode m_M_topsTo.2.1 41 = .ok (.if_icmp .ne 9, 3) := by decide +kernel
theorem d_M_topsTo_44 : decode m_M_topsTo.2.1 44 = .ok (.iinc 5 1, 3) := by decide +kernel
theorem d_M_topsTo_47 : decode m_M_topsTo.2.1 47 = .ok (.goto (-26), 3) := by decide +kernel
theorem d_M_topsTo_50 : decode m_M_topsTo.2.1 50 = .ok (.iload 4, 2) := by decide +kernel
theorem d_M_topsTo_52 : decode m_M_topsTo.2.1 52 = .ok (.aload_n 0, 1) := by decide +kernel
theorem d_M_topsTo_53 : decode m_M_topsTo.2.1 53 = .ok (.iload_n 3, 1) := by decide +kernel
theorem d_M_topsTo_54 : decode m_M_topsTo.2.1 54 = .ok (.iconst 1, 1) := by decide +kernel
theorem d_M_topsTo_55 : decode m_M_topsTo.2.1 55 = .ok (.isub, 1) := by decide +kernel
theorem d_M_topsTo_56 : decode m_M_topsTo.2.1 56 = .ok (.invokevirtual 188, 3) := by decide +kernel
theorem d_M_topsTo_59 : decode m_M_topsTo.2.1 59 = .ok (.if_icmp .le 28, 3) := by decide +kernel
theorem d_M_topsTo_62 : decode m_M_topsTo.2.1 62 = .ok (.iload 5, 2) := by decide +kernel
theorem d_M_topsTo_64 : decode m_M_topsTo.2.1 64 = .ok (.sipush 999, 3) := by decide +kernel
theorem d_M_topsTo_67 : decode m_M_topsTo.2.1 67 = .ok (.if_icmp .eq 16, 3) := by decide +kernel
theorem d_M_topsTo_70 : decode m_M_topsTo.2.1 70 = .ok (.iload 4, 2) := by decide +kernel
theorem d_M_topsTo_72 : decode m_M_topsTo.2.1 72 = .ok (.aload_n 0, 1) := by decide +kernel
theorem d_M_topsTo_73 : decode m_M_topsTo.2.1 73 = .ok (.iload 5, 2) := by decide +kernel
theorem d_M_topsTo_75 : decode m_M_topsTo.2.1 75 = .ok (.iconst 1, 1) := by decide +kernel
theorem d_M_topsTo_76 : decode m_M_topsTo.2.1 76 = .ok (.iadd, 1) := by decide +kernel
theorem d_M_topsTo_77 : decode m_M_topsTo.2.1 77 = .ok (.invokevirtual 188, 3) := by decide +kernel
theorem d_M_topsTo_80 : decode m_M_topsTo.2.1 80 = .ok (.if_icmp .le 7, 3) := by decide +kernel
theorem d_M_topsTo_83 : decode m_M_topsTo.2.1 83 = .ok (.iconst 1, 1) := by decide +kernel
theorem d_M_topsTo_84 : decode m_M_topsTo.2.1 84 = .ok (.goto 4, 3) := by decide +kernel
theorem d_M_topsTo_87 : decode m_M_topsTo.2.1 87 = .ok (.iconst 0, 1) := by decide +kernel
theorem d_M_topsTo_88 : decode m_M_topsTo.2.1 88 = .ok (.istore 6, 2) := by decide +kernel
theorem d_M_topsTo_90 : decode m_M_topsTo.2.1 90 = .ok (.iload 6, 2) := by decide +kernel
theorem d_M_topsTo_92 : decode m_M_topsTo.2.1 92 = .ok (.ifCond .eq 27, 3) := by decide +kernel
theorem d_M_topsTo_95 : decode m_M_topsTo.2.1 95 = .ok (.iload_n 2, 1) := by decide +kernel
theorem d_M_topsTo_96 : decode m_M_topsTo.2.1 96 = .ok (.iload_n 1, 1) := by decide +kernel
theorem d_M_topsTo_97 : decode m_M_topsTo.2.1 97 = .ok (.if_icmp .ne 22, 3) := by decide +kernel
theorem d_M_topsTo_100 : decode m_M_topsTo.2.1 100 = .ok (.aload_n 0, 1) := by decide +kernel
theorem d_M_topsTo_101 : decode m_M_topsTo.2.1 101 = .ok (.iload_n 3, 1) := by decide +kernel
theorem d_M_topsTo_102 : decode m_M_topsTo.2.1 102 = .ok (.putfield 272, 3) := by decide +kernel
theorem d_M_topsTo_105 : decode m_M_topsTo.2.1 105 = .ok (.aload_n 0, 1) := by decide +kernel
theorem d_M_topsTo_106 : decode m_M_topsTo.2.1 106 = .ok (.iload 5, 2) := by decide +kernel
theorem d_M_topsTo_108 : decode m_M_topsTo.2.1 108 = .ok (.iload_n 3, 1) := by decide +kernel
theorem d_M_topsTo_109 : decode m_M_topsTo.2.1 109 = .ok (.isub, 1) := by decide +kernel
theorem d_M_topsTo_110 : decode m_M_topsTo.2.1 110 = .ok (.iconst 1, 1) := by decide +kernel
theorem d_M_topsTo_111 : decode m_M_topsTo.2.1 111 = .ok (.iadd, 1) := by decide +kernel
theorem d_M_topsTo_112 : decode m_M_topsTo.2.1 112 = .ok (.putfield 275, 3) := by decide +kernel
theorem d_M_topsTo_115 : decode m_M_topsTo.2.1 115 = .ok (.iload_n 2, 1) := by decide +kernel
theorem d_M_topsTo_116 : decode m_M_topsTo.2.1 116 = .ok (.iconst 1, 1) := by decide +kernel
theorem d_M_topsTo_117 : decode m_M_topsTo.2.1 117 = .ok (.iadd, 1) := by decide +kernel
theorem d_M_topsTo_118 : decode m_M_topsTo.2.1 118 = .ok (.ireturn, 1) := by decide +kernel
theorem d_M_topsTo_119 : decode m_M_topsTo.2.1 119 = .ok (.iload_n 2, 1) := by decide +kernel
theorem d_M_topsTo_120 : decode m_M_topsTo.2.1 120 = .ok (.iload 6, 2) := by decide +kernel
theorem d_M_topsTo_122 : decode m_M_topsTo.2.1 122 = .ok (.ifCond .eq 7, 3) := by decide +kernel
theorem d_M_topsTo_125 : decode m_M_topsTo.2.1 125 = .ok (.iconst 1, 1) := by decide +kernel
theorem d_M_topsTo_126 : decode m_M_topsTo.2.1 126 = .ok (.goto 4, 3) := by decide +kernel
theorem d_M_topsTo_129 : decode m_M_topsTo.2.1 129 = .ok (.iconst 0, 1) := by decide +kernel
theorem d_M_topsTo_130 : decode m_M_topsTo.2.1 130 = .ok (.iadd, 1) := by decide +kernel
theorem d_M_topsTo_131 : decode m_M_topsTo.2.1 131 = .ok (.istore_n 2, 1) := by decide +kernel
theorem d_M_topsTo_132 : decode m_M_topsTo.2.1 132 = .ok (.iload 5, 2) := by decide +kernel
theorem d_M_topsTo_134 : decode m_M_topsTo.2.1 134 = .ok (.iconst 1, 1) := by decide +kernel
theorem d_M_topsTo_135 : decode m_M_topsTo.2.1 135 = .ok (.iadd, 1) := by decide +kernel
theorem d_M_topsTo_136 : decode m_M_topsTo.2.1 136 = .ok (.istore_n 3, 1) := by decide +kernel
theorem d_M_topsTo_137 : decode m_M_topsTo.2.1 137 = .ok (.goto (-133), 3) := by decide +kernel
theorem d_M_topsTo_140 : decode m_M_topsTo.2.1 140 = .ok (.iload_n 2, 1) := by decide +kernel
theorem d_M_topsTo_141 : decode m_M_topsTo.2.1 141 = .ok (.ireturn, 1) := by decide +kernel
theorem d_M_tops_0 : decode m_M_tops.2.1 0 = .ok (.aload_n 0, 1) := by decide +kernel
theorem d_M_tops_1 : decode m_M_tops.2.1 1 = .ok (.iconst 0, 1) := by decide +kernel
theorem d_M_tops_2 : decode m_M_tops.2.1 2 = .ok (.putfield 55, 3) := by decide +kernel
theorem d_M_tops_5 : decode m_M_tops.2.1 5 = .ok (.aload_n 0, 1) := by decide +kernel
theorem d_M_tops_6 : decode m_M_tops.2.1 6 = .ok (.iconst (-1), 1) := by decide +kernel
theorem d_M_tops_7 : decode m_M_tops.2.1 7 = .ok (.invokevirtual 278, 3) := by decide +kernel
theorem d_M_tops_10 : decode m_M_tops.2.1 10 = .ok (.ireturn, 1) := by decide +kernel
theorem d_M_top_0 : decode m_M_top.2.1 0 = .ok (.aload_n 0, 1) := by decide +kernel
theorem d_M_top_1 : decode m_M_top.2.1 1 = .ok (.iconst 0, 1) := by decide +kernel
theorem d_M_top_2 : decode m_M_top.2.1 2 = .ok (.putfield 55, 3) := by decide +kernel
theorem d_M_top_5 : decode m_M_top.2.1 5 = .ok (.iload_n 1, 1) := by decide +kernel
theorem d_M_top_6 : decode m_M_top.2.1 6 = .ok (.ifCond .lt 12, 3) := by decide +kernel
theorem d_M_top_9 : decode m_M_top.2.1 9 = .ok (.iload_n 2, 1) := by decide +kernel
theorem d_M_top_10 : decode m_M_top.2.1 10 = .ok (.ifCond .lt 8, 3) := by decide +kernel
theorem d_M_top_13 : decode m_M_top.2.1 13 = .ok (.iload_n 2, 1) := by decide +kernel
theorem d_M_top_14 : decode m_M_top.2.1 14 = .ok (.iconst 2, 1) := by decide +kernel
theorem d_M_top_15 : decode m_M_top.2.1 15 = .ok (.if_icmp .le 5, 3) := by decide +kernel
theorem d_M_top_18 : decode m_M_top.2.1 18 = .ok (.iconst (-1), 1) := by decide +kernel
theorem d_M_top_19 : decode m_M_top.2.1 19 = .ok (.ireturn, 1) := by decide +kernel
theorem d_M_top_20 : decode m_M_top.2.1 20 = .ok (.aload_n 0, 1) := by decide +kernel
theorem d_M_top_21 : decode m_M_top.2.1 21 = .ok (.iload_n 1, 1) := by decide +kernel
theorem d_M_top_22 : decode m_M_top.2.1 22 = .ok (.invokevirtual 278, 3) := by decide +kernel
theorem d_M_top_25 : decode m_M_top.2.1 25 = .ok (.iload_n 1, 1) := by decide +kernel
theorem d_M_top_26 : decode m_M_top.2.1 26 = .ok (.if_icmp .gt 6, 3) := by decide +kernel
theorem d_M_top_29 : decode m_M_top.2.1 29 = .ok (.bipush (-2), 2) := by decide +kernel
theorem d_M_top_31 : decode m_M_top.2.1 31 = .ok (.ireturn, 1) := by decide +kernel
theorem d_M_top_32 : decode m_M_top.2.1 32 = .ok (.iload_n 2, 1) := by decide +kernel
theorem d_M_top_33 : decode m_M_top.2.1 33 = .ok (.ifCond .ne 10, 3) := by decide +kernel
theorem d_M_top_36 : decode m_M_top.2.1 36 = .ok (.aload_n 0, 1) := by decide +kernel
theorem d_M_top_37 : decode m_M_top.2.1 37 = .ok (.getfield 272, 3) := by decide +kernel
theorem d_M_top_40 : decode m_M_top.2.1 40 = .ok (.goto 23, 3) := by decide +kernel
theorem d_M_top_43 : decode m_M_top.2.1 43 = .ok (.iload_n 2, 1) := by decide +kernel
theorem d_M_top_44 : decode m_M_top.2.1 44 = .ok (.iconst 1, 1) := by decide +kernel
theorem d_M_top_45 : decode m_M_top.2.1 45 = .ok (.if_icmp .ne 14, 3) := by decide +kernel
theorem d_M_top_48 : decode m_M_top.2.1 48 = .ok (.aload_n 0, 1) := by decide +kernel
theorem d_M_top_49 : decode m_M_top.2.1 49 = .ok (.aload_n 0, 1) := by decide +kernel
theorem d_M_top_50 : decode m_M_top.2.1 50 = .ok (.getfield 272, 3) := by decide +kernel
theorem d_M_top_53 : decode m_M_top.2.1 53 = .ok (.invokevirtual 188, 3) := by decide +kernel
theorem d_M_top_56 : decode m_M_top.2.1 56 = .ok (.goto 7, 3) := by decide +kernel
theorem d_M_top_59 : decode m_M_top.2.1 59 = .ok (.aload_n 0, 1) := by decide +kernel
theorem d_M_top_60 : decode m_M_top.2.1 60 = .ok (.getfield 275, 3) := by decide +kernel
theorem d_M_top_63 : decode m_M_top.2.1 63 = .ok (.ireturn, 1) := by decide +kernel
theorem d_M_best_0 : decode m_M_best.2.1 0 = .ok (.aload_n 0, 1) := by decide +kernel
theorem d_M_best_1 : decode m_M_best.2.1 1 = .ok (.iconst 0, 1) := by decide +kernel
theorem d_M_best_2 : decode m_M_best.2.1 2 = .ok (.putfield 55, 3) := by decide +kernel
theorem d_M_best_5 : decode m_M_best.2.1 5 = .ok (.aload_n 0, 1) := by decide +kernel
theorem d_M_best_6 : decode m_M_best.2.1 6 = .ok (.invokevirtual 191, 3) := by decide +kernel
theorem d_M_best_9 : decode m_M_best.2.1 9 = .ok (.iload_n 1, 1) := by decide +kernel
theorem d_M_best_10 : decode m_M_best.2.1 10 = .ok (.ifCond .ne 14, 3) := by decide +kernel
theorem d_M_best_13 : decode m_M_best.2.1 13 = .ok (.aload_n 0, 1) := by decide +kernel
theorem d_M_best_14 : decode m_M_best.2.1 14 = .ok (.getfield 33, 3) := by decide +kernel
theorem d_M_best_17 : decode m_M_best.2.1 17 = .ok (.sipush 143, 3) := by decide +kernel
theorem d_M_best_20 : decode m_M_best.2.1 20 = .ok (.iaload, 1) := by decide +kernel
theorem d_M_best_21 : decode m_M_best.2.1 21 = .ok (.goto 20, 3) := by decide +kernel
theorem d_M_best_24 : decode m_M_best.2.1 24 = .ok (.iload_n 1, 1) := by decide +kernel
theorem d_M_best_25 : decode m_M_best.2.1 25 = .ok (.iconst 1, 1) := by decide +kernel
theorem d_M_best_26 : decode m_M_best.2.1 26 = .ok (.if_icmp .ne 14, 3) := by decide +kernel
theorem d_M_best_29 : decode m_M_best.2.1 29 = .ok (.aload_n 0, 1) := by decide +kernel
theorem d_M_best_30 : decode m_M_best.2.1 30 = .ok (.getfield 33, 3) := by decide +kernel
theorem d_M_best_33 : decode m_M_best.2.1 33 = .ok (.sipush 144, 3) := by decide +kernel
theorem d_M_best_36 : decode m_M_best.2.1 36 = .ok (.iaload, 1) := by decide +kernel
theorem d_M_best_37 : decode m_M_best.2.1 37 = .ok (.goto 4, 3) := by decide +kernel
theorem d_M_best_40 : decode m_M_best.2.1 40 = .ok (.iconst (-1), 1) := by decide +kernel
theorem d_M_best_41 : decode m_M_best.2.1 41 = .ok (.ireturn, 1) := by decide +kernel
theorem d_M_band_0 : decode m_M_band.2.1 0 = .ok (.aload_n 0, 1) := by decide +kernel
theorem d_M_band_1 : decode m_M_band.2.1 1 = .ok (.iconst 0, 1) := by decide +kernel
theorem d_M_band_2 : decode m_M_band.2.1 2 = .ok (.putfield 55, 3) := by decide +kernel
theorem d_M_band_5 : decode m_M_band.2.1 5 = .ok (.iload_n 1, 1) := by decide +kernel
theorem d_M_band_6 : decode m_M_band.2.1 6 = .ok (.iconst 1, 1) := by decide +kernel
theorem d_M_band_7 : decode m_M_band.2.1 7 = .ok (.if_icmp .lt 18, 3) := by decide +kernel
theorem d_M_band_10 : decode m_M_band.2.1 10 = .ok (.iload_n 1, 1) := by decide +kernel
theorem d_M_band_11 : decode m_M_band.2.1 11 = .ok (.bipush 100, 2) := by decide +kernel
theorem d_M_band_13 : decode m_M_band.2.1 13 = .ok (.if_icmp .gt 12, 3) := by decide +kernel
theorem d_M_band_16 : decode m_M_band.2.1 16 = .ok (.iload_n 2, 1) := by decide +kernel
theorem d_M_band_17 : decode m_M_band.2.1 17 = .ok (.ifCond .lt 8, 3) := by decide +kernel
theorem d_M_band_20 : decode m_M_band.2.1 20 = .ok (.iload_n 2, 1) := by decide +kernel
theorem d_M_band_21 : decode m_M_band.2.1 21 = .ok (.iconst 2, 1) := by decide +kernel
theorem d_M_band_22 : decode m_M_band.2.1 22 = .ok (.if_icmp .le 5, 3) := by decide +kernel
theorem d_M_band_25 : decode m_M_band.2.1 25 = .ok (.iconst (-1), 1) := by decide +kernel
theorem d_M_band_26 : decode m_M_band.2.1 26 = .ok (.ireturn, 1) := by decide +kernel
theorem d_M_band_27 : decode m_M_band.2.1 27 = .ok (.aload_n 0, 1) := by decide +kernel
theorem d_M_band_28 : decode m_M_band.2.1 28 = .ok (.invokevirtual 256, 3) := by decide +kernel
theorem d_M_band_31 : decode m_M_band.2.1 31 = .ok (.ifCond .ne 6, 3) := by decide +kernel
theorem d_M_band_34 : decode m_M_band.2.1 34 = .ok (.bipush (-2), 2) := by decide +kernel
theorem d_M_band_36 : decode m_M_band.2.1 36 = .ok (.ireturn, 1) := by decide +kernel
theorem d_M_band_37 : decode m_M_band.2.1 37 = .ok (.iconst (-1), 1) := by decide +kernel
theorem d_M_band_38 : decode m_M_band.2.1 38 = .ok (.istore_n 3, 1) := by decide +kernel
theorem d_M_band_39 : decode m_M_band.2.1 39 = .ok (.iconst (-1), 1) := by decide +kernel
theorem d_M_band_40 : decode m_M_band.2.1 40 = .ok (.istore 4, 2) := by decide +kernel
theorem d_M_band_42 : decode m_M_band.2.1 42 = .ok (.iconst 0, 1) := by decide +kernel
theorem d_M_band_43 : decode m_M_band.2.1 43 = .ok (.istore 5, 2) := by decide +kernel
theorem d_M_band_45 : decode m_M_band.2.1 45 = .ok (.iconst 0, 1) := by decide +kernel
theorem d_M_band_46 : decode m_M_band.2.1 46 = .ok (.istore 6, 2) := by decide +kernel
theorem d_M_band_48 : decode m_M_band.2.1 48 = .ok (.iload 6, 2) := by decide +kernel
theorem d_M_band_50 : decode m_M_band.2.1 50 = .ok (.sipush 1000, 3) := by decide +kernel
theorem d_M_band_53 : decode m_M_band.2.1 53 = .ok (.if_icmp .ge 58, 3) := by decide +kernel
theorem d_M_band_56 : decode m_M_band.2.1 56 = .ok (.ldc2_w 227, 3) := by decide +kernel
theorem d_M_band_59 : decode m_M_band.2.1 59 = .ok (.aload_n 0, 1) := by decide +kernel
theorem d_M_band_60 : decode m_M_band.2.1 60 = .ok (.iload 6, 2) := by decide +kernel
theorem d_M_band_62 : decode m_M_band.2.1 62 = .ok (.invokevirtual 188, 3) := by decide +kernel
theorem d_M_band_65 : decode m_M_band.2.1 65 = .ok (.i2l, 1) := by decide +kernel
theorem d_M_band_66 : decode m_M_band.2.1 66 = .ok (.lmul, 1) := by decide +kernel
theorem d_M_band_67 : decode m_M_band.2.1 67 = .ok (.iload_n 1, 1) := by decide +kernel
theorem d_M_band_68 : decode m_M_band.2.1 68 = .ok (.i2l, 1) := by decide +kernel
theorem d_M_band_69 : decode m_M_band.2.1 69 = .ok (.aload_n 0, 1) := by decide +kernel
theorem d_M_band_70 : decode m_M_band.2.1 70 = .ok (.getfield 33, 3) := by decide +kernel
theorem d_M_band_73 : decode m_M_band.2.1 73 = .ok (.sipush 144, 3) := by decide +kernel
theorem d_M_band_76 : decode m_M_band.2.1 76 = .ok (.iaload, 1) := by decide +kernel
theorem d_M_band_77 : decode m_M_band.2.1 77 = .ok (.i2l, 1) := by decide +kernel
theorem d_M_band_78 : decode m_M_band.2.1 78 = .ok (.lmul, 1) := by decide +kernel
theorem d_M_band_79 : decode m_M_band.2.1 79 = .ok (.lcmp, 1) := by decide +kernel
theorem d_M_band_80 : decode m_M_band.2.1 80 = .ok (.ifCond .ge 6, 3) := by decide +kernel
theorem d_M_band_83 : decode m_M_band.2.1 83 = .ok (.goto 22, 3) := by decide +kernel
theorem d_M_band_86 : decode m_M_band.2.1 86 = .ok (.iload_n 3, 1) := by decide +kernel
theorem d_M_band_87 : decode m_M_band.2.1 87 = .ok (.iconst (-1), 1) := by decide +kernel
theorem d_M_band_88 : decode m_M_band.2.1 88 = .ok (.if_icmp .ne 8, 3) := by decide +kernel
theorem d_M_band_91 : decode m_M_band.2.1 91 = .ok (.iload 6, 2) := by decide +kernel
theorem d_M_band_93 : decode m_M_band.2.1 93 = .ok (.goto 4, 3) := by decide +kernel
theorem d_M_band_96 : decode m_M_band.2.1 96 = .ok (.iload_n 3, 1) := by decide +kernel
theorem d_M_band_97 : decode m_M_band.2.1 97 = .ok (.istore_n 3, 1) := by decide +kernel
theorem d_M_band_98 : decode m_M_band.2.1 98 = .ok (.iload 6, 2) := by decide +kernel
theorem d_M_band_100 : decode m_M_band.2.1 100 = .ok (.istore 4, 2) := by decide +kernel
theorem d_M_band_102 : decode m_M_band.2.1 102 = .ok (.iinc 5 1, 3) := by decide +kernel
theorem d_M_band_105 : decode m_M_band.2.1 105 = .ok (.iinc 6 1, 3) := by decide +kernel
theorem d_M_band_108 : decode m_M_band.2.1 108 = .ok (.goto (-60), 3) := by decide +kernel
theorem d_M_band_111 : decode m_M_band.2.1 111 = .ok (.iload_n 2, 1) := by decide +kernel
theorem d_M_band_112 : decode m_M_band.2.1 112 = .ok (.ifCond .ne 7, 3) := by decide +kernel
theorem d_M_band_115 : decode m_M_band.2.1 115 = .ok (.iload_n 3, 1) := by decide +kernel
theorem d_M_band_116 : decode m_M_band.2.1 116 = .ok (.goto 15, 3) := by decide +kernel
theorem d_M_band_119 : decode m_M_band.2.1 119 = .ok (.iload_n 2, 1) := by decide +kernel
theorem d_M_band_120 : decode m_M_band.2.1 120 = .ok (.iconst 1, 1) := by decide +kernel
theorem d_M_band_121 : decode m_M_band.2.1 121 = .ok (.if_icmp .ne 8, 3) := by decide +kernel
theorem d_M_band_124 : decode m_M_band.2.1 124 = .ok (.iload 4, 2) := by decide +kernel
theorem d_M_band_126 : decode m_M_band.2.1 126 = .ok (.goto 5, 3) := by decide +kernel
theorem d_M_band_129 : decode m_M_band.2.1 129 = .ok (.iload 5, 2) := by decide +kernel
theorem d_M_band_131 : decode m_M_band.2.1 131 = .ok (.ireturn, 1) := by decide +kernel
theorem d_M_climbed_0 : decode m_M_climbed.2.1 0 = .ok (.aload_n 0, 1) := by decide +kernel
theorem d_M_climbed_1 : decode m_M_climbed.2.1 1 = .ok (.iconst 0, 1) := by decide +kernel
theorem d_M_climbed_2 : decode m_M_climbed.2.1 2 = .ok (.putfield 55, 3) := by decide +kernel
theorem d_M_climbed_5 : decode m_M_climbed.2.1 5 = .ok (.iload_n 1, 1) := by decide +kernel
theorem d_M_climbed_6 : decode m_M_climbed.2.1 6 = .ok (.invokestatic 268, 3) := by decide +kernel
theorem d_M_climbed_9 : decode m_M_climbed.2.1 9 = .ok (.ifCond .ne 5, 3) := by decide +kernel
theorem d_M_climbed_12 : decode m_M_climbed.2.1 12 = .ok (.iconst (-1), 1) := by decide +kernel
theorem d_M_climbed_13 : decode m_M_climbed.2.1 13 = .ok (.ireturn, 1) := by decide +kernel
theorem d_M_climbed_14 : decode m_M_climbed.2.1 14 = .ok (.iload_n 1, 1) := by decide +kernel
theorem d_M_climbed_15 : decode m_M_climbed.2.1 15 = .ok (.istore_n 2, 1) := by decide +kernel
theorem d_M_climbed_16 : decode m_M_climbed.2.1 16 = .ok (.iconst 1, 1) := by decide +kernel
theorem d_M_climbed_17 : decode m_M_climbed.2.1 17 = .ok (.istore_n 3, 1) := by decide +kernel
theorem d_M_climbed_18 : decode m_M_climbed.2.1 18 = .ok (.iload_n 3, 1) := by decide +kernel
theorem d_M_climbed_19 : decode m_M_climbed.2.1 19 = .ok (.ifCond .eq 89, 3) := by decide +kernel
theorem d_M_climbed_22 : decode m_M_climbed.2.1 22 = .ok (.aload_n 0, 1) := by decide +kernel
theorem d_M_climbed_23 : decode m_M_climbed.2.1 23 = .ok (.iload_n 2, 1) := by decide +kernel
theorem d_M_climbed_24 : decode m_M_climbed.2.1 24 = .ok (.invokevirtual 188, 3) := by decide +kernel
theorem d_M_climbed_27 : decode m_M_climbed.2.1 27 = .ok (.istore 4, 2) := by decide +kernel
theorem d_M_climbed_29 : decode m_M_climbed.2.1 29 = .ok (.iload_n 2, 1) := by decide +kernel
theorem d_M_climbed_30 : decode m_M_climbed.2.1 30 = .ok (.sipush 999, 3) := by decide +kernel
theorem d_M_climbed_33 : decode m_M_climbed.2.1 33 = .ok (.if_icmp .ge 13, 3) := by decide +kernel
theorem d_M_climbed_36 : decode m_M_climbed.2.1 36 = .ok (.aload_n 0, 1) := by decide +kernel
theorem d_M_climbed_37 : decode m_M_climbed.2.1 37 = .ok (.iload_n 2, 1) := by decide +kernel
theorem d_M_climbed_38 : decode m_M_climbed.2.1 38 = .ok (.iconst 1, 1) := by decide +kernel
theorem d_M_climbed_39 : decode m_M_climbed.2.1 39 = .ok (.iadd, 1) := by decide +kernel
theorem d_M_climbed_40 : decode m_M_climbed.2.1 40 = .ok (.invokevirtual 188, 3) := by decide +kernel
theorem d_M_climbed_43 : decode m_M_climbed.2.1 43 = .ok (.goto 4, 3) := by decide +kernel
theorem d_M_climbed_46 : decode m_M_climbed.2.1 46 = .ok (.iconst (-1), 1) := by decide +kernel
theorem d_M_climbed_47 : decode m_M_climbed.2.1 47 = .ok (.istore 5, 2) := by decide +kernel
theorem d_M_climbed_49 : decode m_M_climbed.2.1 49 = .ok (.iload_n 2, 1) := by decide +kernel
theorem d_M_climbed_50 : decode m_M_climbed.2.1 50 = .ok (.ifCond .le 13, 3) := by decide +kernel
theorem d_M_climbed_53 : decode m_M_climbed.2.1 53 = .ok (.aload_n 0, 1) := by decide +kernel
theorem d_M_climbed_54 : decode m_M_climbed.2.1 54 = .ok (.iload_n 2, 1) := by decide +kernel
theorem d_M_climbed_55 : decode m_M_climbed.2.1 55 = .ok (.iconst 1, 1) := by decide +kernel
theorem d_M_climbed_56 : decode m_M_climbed.2.1 56 = .ok (.isub, 1) := by decide +kernel
theorem d_M_climbed_57 : decode m_M_climbed.2.1 57 = .ok (.invokevirtual 188, 3) := by decide +kernel
theorem d_M_climbed_60 : decode m_M_climbed.2.1 60 = .ok (.goto 4, 3) := by decide +kernel
theorem d_M_climbed_63 : decode m_M_climbed.2.1 63 = .ok (.iconst (-1), 1) := by decide +kernel
theorem d_M_climbed_64 : decode m_M_climbed.2.1 64 = .ok (.istore 6, 2) := by decide +kernel
theorem d_M_climbed_66 : decode m_M_climbed.2.1 66 = .ok (.iload 5, 2) := by decide +kernel
theorem d_M_climbed_68 : decode m_M_climbed.2.1 68 = .ok (.iload 4, 2) := by decide +kernel
theorem d_M_climbed_70 : decode m_M_climbed.2.1 70 = .ok (.if_icmp .gt 10, 3) := by decide +kernel
theorem d_M_climbed_73 : decode m_M_climbed.2.1 73 = .ok (.iload 6, 2) := by decide +kernel
theorem d_M_climbed_75 : decode m_M_climbed.2.1 75 = .ok (.iload 4, 2) := by decide +kernel
theorem d_M_climbed_77 : decode m_M_climbed.2.1 77 = .ok (.if_icmp .le 7, 3) := by decide +kernel
theorem d_M_climbed_80 : decode m_M_climbed.2.1 80 = .ok (.iconst 1, 1) := by decide +kernel
theorem d_M_climbed_81 : decode m_M_climbed.2.1 81 = .ok (.goto 4, 3) := by decide +kernel
theorem d_M_climbed_84 : decode m_M_climbed.2.1 84 = .ok (.iconst 0, 1) := by decide +kernel
theorem d_M_climbed_85 : decode m_M_climbed.2.1 85 = .ok (.istore_n 3, 1) := by decide +kernel
theorem d_M_climbed_86 : decode m_M_climbed.2.1 86 = .ok (.iload_n 3, 1) := by decide +kernel
theorem d_M_climbed_87 : decode m_M_climbed.2.1 87 = .ok (.ifCond .eq 18, 3) := by decide +kernel
theorem d_M_climbed_90 : decode m_M_climbed.2.1 90 = .ok (.iload_n 2, 1) := by decide +kernel
theorem d_M_climbed_91 : decode m_M_climbed.2.1 91 = .ok (.iload 5, 2) := by decide +kernel
theorem d_M_climbed_93 : decode m_M_climbed.2.1 93 = .ok (.iload 6, 2) := by decide +kernel
theorem d_M_climbed_95 : decode m_M_climbed.2.1 95 = .ok (.if_icmp .le 7, 3) := by decide +kernel
theorem d_M_climbed_98 : decode m_M_climbed.2.1 98 = .ok (.iconst 1, 1) := by decide +kernel
theorem d_M_climbed_99 : decode m_M_climbed.2.1 99 = .ok (.goto 4, 3) := by decide +kernel
theorem d_M_climbed_102 : decode m_M_climbed.2.1 102 = .ok (.iconst (-1), 1) := by decide +kernel
theorem d_M_climbed_103 : decode m_M_climbed.2.1 103 = .ok (.iadd, 1) := by decide +kernel
theorem d_M_climbed_104 : decode m_M_climbed.2.1 104 = .ok (.istore_n 2, 1) := by decide +kernel
theorem d_M_climbed_105 : decode m_M_climbed.2.1 105 = .ok (.goto (-87), 3) := by decide +kernel
theorem d_M_climbed_108 : decode m_M_climbed.2.1 108 = .ok (.iload_n 2, 1) := by decide +kernel
theorem d_M_climbed_109 : decode m_M_climbed.2.1 109 = .ok (.ireturn, 1) := by decide +kernel
theorem d_M_bestBy_0 : decode m_M_bestBy.2.1 0 = .ok (.aload_n 0, 1) := by decide +kernel
theorem d_M_bestBy_1 : decode m_M_bestBy.2.1 1 = .ok (.getfield 33, 3) := by decide +kernel
theorem d_M_bestBy_4 : decode m_M_bestBy.2.1 4 = .ok (.bipush 19, 2) := by decide +kernel
theorem d_M_bestBy_6 : decode m_M_bestBy.2.1 6 = .ok (.iload_n 1, 1) := by decide +kernel
theorem d_M_bestBy_7 : decode m_M_bestBy.2.1 7 = .ok (.iadd, 1) := by decide +kernel
theorem d_M_bestBy_8 : decode m_M_bestBy.2.1 8 = .ok (.iaload, 1) := by decide +kernel
theorem d_M_bestBy_9 : decode m_M_bestBy.2.1 9 = .ok (.istore_n 3, 1) := by decide +kernel
theorem d_M_bestBy_10 : decode m_M_bestBy.2.1 10 = .ok (.aload_n 0, 1) := by decide +kernel
theorem d_M_bestBy_11 : decode m_M_bestBy.2.1 11 = .ok (.iload_n 1, 1) := by decide +kernel
theorem d_M_bestBy_12 : decode m_M_bestBy.2.1 12 = .ok (.iload_n 2, 1) := by decide +kernel
theorem d_M_bestBy_13 : decode m_M_bestBy.2.1 13 = .ok (.invokevirtual 194, 3) := by decide +kernel
theorem d_M_bestBy_16 : decode m_M_bestBy.2.1 16 = .ok (.aload_n 0, 1) := by decide +kernel
theorem d_M_bestBy_17 : decode m_M_bestBy.2.1 17 = .ok (.invokevirtual 256, 3) := by decide +kernel
theorem d_M_bestBy_20 : decode m_M_bestBy.2.1 20 = .ok (.istore 4, 2) := by decide +kernel
theorem d_M_bestBy_22 : decode m_M_bestBy.2.1 22 = .ok (.aload_n 0, 1) := by decide +kernel
theorem d_M_bestBy_23 : decode m_M_bestBy.2.1 23 = .ok (.iload_n 1, 1) := by decide +kernel
theorem d_M_bestBy_24 : decode m_M_bestBy.2.1 24 = .ok (.iload_n 3, 1) := by decide +kernel
theorem d_M_bestBy_25 : decode m_M_bestBy.2.1 25 = .ok (.invokevirtual 194, 3) := by decide +kernel
theorem d_M_bestBy_28 : decode m_M_bestBy.2.1 28 = .ok (.iload 4, 2) := by decide +kernel
theorem d_M_bestBy_30 : decode m_M_bestBy.2.1 30 = .ok (.ireturn, 1) := by decide +kernel
theorem d_M_shadeOf_0 : decode m_M_shadeOf.2.1 0 = .ok (.aload_n 0, 1) := by decide +kernel
theorem d_M_shadeOf_1 : decode m_M_shadeOf.2.1 1 = .ok (.iconst 0, 1) := by decide +kernel
theorem d_M_shadeOf_2 : decode m_M_shadeOf.2.1 2 = .ok (.putfield 55, 3) := by decide +kernel
theorem d_M_shadeOf_5 : decode m_M_shadeOf.2.1 5 = .ok (.aload_n 0, 1) := by decide +kernel
theorem d_M_shadeOf_6 : decode m_M_shadeOf.2.1 6 = .ok (.iload_n 1, 1) := by decide +kernel
theorem d_M_shadeOf_7 : decode m_M_shadeOf.2.1 7 = .ok (.invokevirtual 265, 3) := by decide +kernel
theorem d_M_shadeOf_10 : decode m_M_shadeOf.2.1 10 = .ok (.ifCond .eq 18, 3) := by decide +kernel
theorem d_M_shadeOf_13 : decode m_M_shadeOf.2.1 13 = .ok (.aload_n 0, 1) := by decide +kernel
theorem d_M_shadeOf_14 : decode m_M_shadeOf.2.1 14 = .ok (.iload_n 1, 1) := by decide +kernel
theorem d_M_shadeOf_15 : decode m_M_shadeOf.2.1 15 = .ok (.bipush 100, 2) := by decide +kernel
theorem d_M_shadeOf_17 : decode m_M_shadeOf.2.1 17 = .ok (.invokevirtual 281, 3) := by decide +kernel
theorem d_M_shadeOf_20 : decode m_M_shadeOf.2.1 20 = .ok (.aload_n 0, 1) := by decide +kernel
theorem d_M_shadeOf_21 : decode m_M_shadeOf.2.1 21 = .ok (.invokevirtual 256, 3) := by decide +kernel
theorem d_M_shadeOf_24 : decode m_M_shadeOf.2.1 24 = .ok (.isub, 1) := by decide +kernel
theorem d_M_shadeOf_25 : decode m_M_shadeOf.2.1 25 = .ok (.goto 4, 3) := by decide +kernel
theorem d_M_shadeOf_28 : decode m_M_shadeOf.2.1 28 = .ok (.iconst (-1), 1) := by decide +kernel
theorem d_M_shadeOf_29 : decode m_M_shadeOf.2.1 29 = .ok (.ireturn, 1) := by decide +kernel
theorem d_M_lightFor_0 : decode m_M_lightFor.2.1 0 = .ok (.aload_n 0, 1) := by decide +kernel
theorem d_M_lightFor_1 : decode m_M_lightFor.2.1 1 = .ok (.iconst 0, 1) := by decide +kernel
theorem d_M_lightFor_2 : decode m_M_lightFor.2.1 2 = .ok (.putfield 55, 3) := by decide +kernel
theorem d_M_lightFor_5 : decode m_M_lightFor.2.1 5 = .ok (.aload_n 0, 1) := by decide +kernel
theorem d_M_lightFor_6 : decode m_M_lightFor.2.1 6 = .ok (.iload_n 1, 1) := by decide +kernel
theorem d_M_lightFor_7 : decode m_M_lightFor.2.1 7 = .ok (.invokevirtual 265, 3) := by decide +kernel
theorem d_M_lightFor_10 : decode m_M_lightFor.2.1 10 = .ok (.ifCond .eq 14, 3) := by decide +kernel
theorem d_M_lightFor_13 : decode m_M_lightFor.2.1 13 = .ok (.iload_n 2, 1) := by decide +kernel
theorem d_M_lightFor_14 : decode m_M_lightFor.2.1 14 = .ok (.ifCond .lt 10, 3) := by decide +kernel
theorem d_M_lightFor_17 : decode m_M_lightFor.2.1 17 = .ok (.iload_n 2, 1) := by decide +kernel
theorem d_M_lightFor_18 : decode m_M_lightFor.2.1 18 = .ok (.ldc_w 284, 3) := by decide +kernel
theorem d_M_lightFor_21 : decode m_M_lightFor.2.1 21 = .ok (.if_icmp .le 5, 3) := by decide +kernel
theorem d_M_lightFor_24 : decode m_M_lightFor.2.1 24 = .ok (.iconst (-1), 1) := by decide +kernel
theorem d_M_lightFor_25 : decode m_M_lightFor.2.1 25 = .ok (.ireturn, 1) := by decide +kernel
theorem d_M_lightFor_26 : decode m_M_lightFor.2.1 26 = .ok (.iconst 0, 1) := by decide +kernel
theorem d_M_lightFor_27 : decode m_M_lightFor.2.1 27 = .ok (.istore_n 3, 1) := by decide +kernel
theorem d_M_lightFor_28 : decode m_M_lightFor.2.1 28 = .ok (.iload_n 3, 1) := by decide +kernel
theorem d_M_lightFor_29 : decode m_M_lightFor.2.1 29 = .ok (.bipush 100, 2) := by decide +kernel
theorem d_M_lightFor_31 : decode m_M_lightFor.2.1 31 = .ok (.if_icmp .gt 21, 3) := by decide +kernel
theorem d_M_lightFor_34 : decode m_M_lightFor.2.1 34 = .ok (.aload_n 0, 1) := by decide +kernel
theorem d_M_lightFor_35 : decode m_M_lightFor.2.1 35 = .ok (.iload_n 1, 1) := by decide +kernel
theorem d_M_lightFor_36 : decode m_M_lightFor.2.1 36 = .ok (.iload_n 3, 1) := by decide +kernel
theorem d_M_lightFor_37 : decode m_M_lightFor.2.1 37 = .ok (.invokevirtual 281, 3) := by decide +kernel
theorem d_M_lightFor_40 : decode m_M_lightFor.2.1 40 = .ok (.iload_n 2, 1) := by decide +kernel
theorem d_M_lightFor_41 : decode m_M_lightFor.2.1 41 = .ok (.if_icmp .lt 5, 3) := by decide +kernel
theorem d_M_lightFor_44 : decode m_M_lightFor.2.1 44 = .ok (.iload_n 3, 1) := by decide +kernel
theorem d_M_lightFor_45 : decode m_M_lightFor.2.1 45 = .ok (.ireturn, 1) := by decide +kernel
theorem d_M_lightFor_46 : decode m_M_lightFor.2.1 46 = .ok (.iinc 3 1, 3) := by decide +kernel
theorem d_M_lightFor_49 : decode m_M_lightFor.2.1 49 = .ok (.goto (-21), 3) := by decide +kernel
theorem d_M_lightFor_52 : decode m_M_lightFor.2.1 52 = .ok (.bipush (-2), 2) := by decide +kernel
theorem d_M_lightFor_54 : decode m_M_lightFor.2.1 54 = .ok (.ireturn, 1) := by decide +kernel
theorem d_M_darkest_0 : decode m_M_darkest.2.1 0 = .ok (.aload_n 0, 1) := by decide +kernel
theorem d_M_darkest_1 : decode m_M_darkest.2.1 1 = .ok (.iconst 0, 1) := by decide +kernel
theorem d_M_darkest_2 : decode m_M_darkest.2.1 2 = .ok (.putfield 55, 3) := by decide +kernel
theorem d_M_darkest_5 : decode m_M_darkest.2.1 5 = .ok (.bipush (-2), 2) := by decide +kernel
theorem d_M_darkest_7 : decode m_M_darkest.2.1 7 = .ok (.istore_n 1, 1) := by decide +kernel
theorem d_M_darkest_8 : decode m_M_darkest.2.1 8 = .ok (.iconst (-1), 1) := by decide +kernel
theorem d_M_darkest_9 : decode m_M_darkest.2.1 9 = .ok (.istore_n 2, 1) := by decide +kernel
theorem d_M_darkest_10 : decode m_M_darkest.2.1 10 = .ok (.iconst 0, 1) := by decide +kernel
theorem d_M_darkest_11 : decode m_M_darkest.2.1 11 = .ok (.istore_n 3, 1) := by decide +kernel
theorem d_M_darkest_12 : decode m_M_darkest.2.1 12 = .ok (.iload_n 3, 1) := by decide +kernel
theorem d_M_darkest_13 : decode m_M_darkest.2.1 13 = .ok (.aload_n 0, 1) := by decide +kernel
theorem d_M_darkest_14 : decode m_M_darkest.2.1 14 = .ok (.getfield 168, 3) := by decide +kernel
theorem d_M_darkest_17 : decode m_M_darkest.2.1 17 = .ok (.if_icmp .ge 37, 3) := by decide +kernel
theorem d_M_darkest_20 : decode m_M_darkest.2.1 20 = .ok (.aload_n 0, 1) := by decide +kernel
theorem d_M_darkest_21 : decode m_M_darkest.2.1 21 = .ok (.iload_n 3, 1) := by decide +kernel
theorem d_M_darkest_22 : decode m_M_darkest.2.1 22 = .ok (.bipush 100, 2) := by decide +kernel
theorem d_M_darkest_24 : decode m_M_darkest.2.1 24 = .ok (.invokevirtual 281, 3) := by decide +kernel
theorem d_M_darkest_27 : decode m_M_darkest.2.1 27 = .ok (.aload_n 0, 1) := by decide +kernel
theorem d_M_darkest_28 : decode m_M_darkest.2.1 28 = .ok (.invokevirtual 256, 3) := by decide +kernel
theorem d_M_darkest_31 : decode m_M_darkest.2.1 31 = .ok (.isub, 1) := by decide +kernel
theorem d_M_darkest_32 : decode m_M_darkest.2.1 32 = .ok (.istore 4, 2) := by decide +kernel
theorem d_M_darkest_34 : decode m_M_darkest.2.1 34 = .ok (.iload 4, 2) := by decide +kernel
theorem d_M_darkest_36 : decode m_M_darkest.2.1 36 = .ok (.iload_n 2, 1) := by decide +kernel
theorem d_M_darkest_37 : decode m_M_darkest.2.1 37 = .ok (.if_icmp .gt 6, 3) := by decide +kernel
theorem d_M_darkest_40 : decode m_M_darkest.2.1 40 = .ok (.goto 8, 3) := by decide +kernel
theorem d_M_darkest_43 : decode m_M_darkest.2.1 43 = .ok (.iload_n 3, 1) := by decide +kernel
theorem d_M_darkest_44 : decode m_M_darkest.2.1 44 = .ok (.istore_n 1, 1) := by decide +kernel
theorem d_M_darkest_45 : decode m_M_darkest.2.1 45 = .ok (.iload 4, 2) := by decide +kernel
theorem d_M_darkest_47 : decode m_M_darkest.2.1 47 = .ok (.istore_n 2, 1) := by decide +kernel
theorem d_M_darkest_48 : decode m_M_darkest.2.1 48 = .ok (.iinc 3 1, 3) := by decide +kernel
theorem d_M_darkest_51 : decode m_M_darkest.2.1 51 = .ok (.goto (-39), 3) := by decide +kernel
theorem d_M_darkest_54 : decode m_M_darkest.2.1 54 = .ok (.iload_n 1, 1) := by decide +kernel
theorem d_M_darkest_55 : decode m_M_darkest.2.1 55 = .ok (.ireturn, 1) := by decide +kernel
theorem d_M_bestShare_0 : decode m_M_bestShare.2.1 0 = .ok (.aload_n 0, 1) := by decide +kernel
theorem d_M_bestShare_1 : decode m_M_bestShare.2.1 1 = .ok (.iconst 0, 1) := by decide +kernel
theorem d_M_bestShare_2 : decode m_M_bestShare.2.1 2 = .ok (.putfield 55, 3) := by decide +kernel
theorem d_M_bestShare_5 : decode m_M_bestShare.2.1 5 = .ok (.aload_n 0, 1) := by decide +kernel
theorem d_M_bestShare_6 : decode m_M_bestShare.2.1 6 = .ok (.getfield 168, 3) := by decide +kernel
theorem d_M_bestShare_9 : decode m_M_bestShare.2.1 9 = .ok (.ifCond .ne 6, 3) := by decide +kernel
theorem d_M_bestShare_12 : decode m_M_bestShare.2.1 12 = .ok (.bipush (-2), 2) := by decide +kernel
theorem d_M_bestShare_14 : decode m_M_bestShare.2.1 14 = .ok (.ireturn, 1) := by decide +kernel
theorem d_M_bestShare_15 : decode m_M_bestShare.2.1 15 = .ok (.iconst (-1), 1) := by decide +kernel
theorem d_M_bestShare_16 : decode m_M_bestShare.2.1 16 = .ok (.istore_n 1, 1) := by decide +kernel
theorem d_M_bestShare_17 : decode m_M_bestShare.2.1 17 = .ok (.iconst (-1), 1) := by decide +kernel
theorem d_M_bestShare_18 : decode m_M_bestShare.2.1 18 = .ok (.istore_n 2, 1) := by decide +kernel
theorem d_M_bestShare_19 : decode m_M_bestShare.2.1 19 = .ok (.iconst 1, 1) := by decide +kernel
theorem d_M_bestShare_20 : decode m_M_bestShare.2.1 20 = .ok (.istore_n 3, 1) := by decide +kernel
theorem d_M_bestShare_21 : decode m_M_bestShare.2.1 21 = .ok (.iload_n 3, 1) := by decide +kernel
theorem d_M_bestShare_22 : decode m_M_bestShare.2.1 22 = .ok (.bipush 99, 2) := by decide +kernel
theorem d_M_bestShare_24 : decode m_M_bestShare.2.1 24 = .ok (.if_icmp .gt 34, 3) := by decide +kernel
theorem d_M_bestShare_27 : decode m_M_bestShare.2.1 27 = .ok (.aload_n 0, 1) := by decide +kernel
theorem d_M_bestShare_28 : decode m_M_bestShare.2.1 28 = .ok (.aload_n 0, 1) := by decide +kernel
theorem d_M_bestShare_29 : decode m_M_bestShare.2.1 29 = .ok (.iload_n 3, 1) := by decide +kernel
theorem d_M_bestShare_30 : decode m_M_bestShare.2.1 30 = .ok (.invokevirtual 218, 3) := by decide +kernel
theorem d_M_bestShare_33 : decode m_M_bestShare.2.1 33 = .ok (.invokevirtual 188, 3) := by decide +kernel
theorem d_M_bestShare_36 : decode m_M_bestShare.2.1 36 = .ok (.istore 4, 2) := by decide +kernel
theorem d_M_bestShare_38 : decode m_M_bestShare.2.1 38 = .ok (.iload 4, 2) := by decide +kernel
theorem d_M_bestShare_40 : decode m_M_bestShare.2.1 40 = .ok (.iload_n 2, 1) := by decide +kernel
theorem d_M_bestShare_41 : decode m_M_bestShare.2.1 41 = .ok (.if_icmp .gt 6, 3) := by decide +kernel
theorem d_M_bestShare_44 : decode m_M_bestShare.2.1 44 = .ok (.goto 8, 3) := by decide +kernel
theorem d_M_bestShare_47 : decode m_M_bestShare.2.1 47 = .ok (.iload_n 3, 1) := by decide +kernel
theorem d_M_bestShare_48 : decode m_M_bestShare.2.1 48 = .ok (.istore_n 1, 1) := by decide +kernel
theorem d_M_bestShare_49 : decode m_M_bestShare.2.1 49 = .ok (.iload 4, 2) := by decide +kernel
theorem d_M_bestShare_51 : decode m_M_bestShare.2.1 51 = .ok (.istore_n 2, 1) := by decide +kernel
theorem d_M_bestShare_52 : decode m_M_bestShare.2.1 52 = .ok (.iinc 3 1, 3) := by decide +kernel
theorem d_M_bestShare_55 : decode m_M_bestShare.2.1 55 = .ok (.goto (-34), 3) := by decide +kernel
theorem d_M_bestShare_58 : decode m_M_bestShare.2.1 58 = .ok (.iload_n 1, 1) := by decide +kernel
theorem d_M_bestShare_59 : decode m_M_bestShare.2.1 59 = .ok (.ireturn, 1) := by decide +kernel
theorem d_M_now_0 : decode m_M_now.2.1 0 = .ok (.aload_n 0, 1) := by decide +kernel
theorem d_M_now_1 : decode m_M_now.2.1 1 = .ok (.iconst 0, 1) := by decide +kernel
theorem d_M_now_2 : decode m_M_now.2.1 2 = .ok (.putfield 55, 3) := by decide +kernel
theorem d_M_now_5 : decode m_M_now.2.1 5 = .ok (.iload_n 1, 1) := by decide +kernel
theorem d_M_now_6 : decode m_M_now.2.1 6 = .ok (.ifCond .lt 21, 3) := by decide +kernel
theorem d_M_now_9 : decode m_M_now.2.1 9 = .ok (.iload_n 1, 1) := by decide +kernel
theorem d_M_now_10 : decode m_M_now.2.1 10 = .ok (.bipush 17, 2) := by decide +kernel
theorem d_M_now_12 : decode m_M_now.2.1 12 = .ok (.if_icmp .gt 15, 3) := by decide +kernel
theorem d_M_now_15 : decode m_M_now.2.1 15 = .ok (.aload_n 0, 1) := by decide +kernel
theorem d_M_now_16 : decode m_M_now.2.1 16 = .ok (.getfield 33, 3) := by decide +kernel
theorem d_M_now_19 : decode m_M_now.2.1 19 = .ok (.bipush 25, 2) := by decide +kernel
theorem d_M_now_21 : decode m_M_now.2.1 21 = .ok (.iload_n 1, 1) := by decide +kernel
theorem d_M_now_22 : decode m_M_now.2.1 22 = .ok (.iadd, 1) := by decide +kernel
theorem d_M_now_23 : decode m_M_now.2.1 23 = .ok (.iaload, 1) := by decide +kernel
theorem d_M_now_24 : decode m_M_now.2.1 24 = .ok (.goto 5, 3) := by decide +kernel
theorem d_M_now_27 : decode m_M_now.2.1 27 = .ok (.bipush (-10), 2) := by decide +kernel
theorem d_M_now_29 : decode m_M_now.2.1 29 = .ok (.ireturn, 1) := by decide +kernel
theorem d_M_sum_0 : decode m_M_sum.2.1 0 = .ok (.aload_n 0, 1) := by decide +kernel
theorem d_M_sum_1 : decode m_M_sum.2.1 1 = .ok (.iconst 0, 1) := by decide +kernel
theorem d_M_sum_2 : decode m_M_sum.2.1 2 = .ok (.putfield 55, 3) := by decide +kernel
theorem d_M_sum_5 : decode m_M_sum.2.1 5 = .ok (.iload_n 1, 1) := by decide +kernel
theorem d_M_sum_6 : decode m_M_sum.2.1 6 = .ok (.ifCond .lt 18, 3) := by decide +kernel
theorem d_M_sum_9 : decode m_M_sum.2.1 9 = .ok (.iload_n 1, 1) := by decide +kernel
theorem d_M_sum_10 : decode m_M_sum.2.1 10 = .ok (.bipush 10, 2) := by decide +kernel
theorem d_M_sum_12 : decode m_M_sum.2.1 12 = .ok (.if_icmp .gt 12, 3) := by decide +kernel
theorem d_M_sum_15 : decode m_M_sum.2.1 15 = .ok (.aload_n 0, 1) := by decide +kernel
theorem d_M_sum_16 : decode m_M_sum.2.1 16 = .ok (.getfield 39, 3) := by decide +kernel
theorem d_M_sum_19 : decode m_M_sum.2.1 19 = .ok (.iload_n 1, 1) := by decide +kernel
theorem d_M_sum_20 : decode m_M_sum.2.1 20 = .ok (.laload, 1) := by decide +kernel
theorem d_M_sum_21 : decode m_M_sum.2.1 21 = .ok (.goto 6, 3) := by decide +kernel
theorem d_M_sum_24 : decode m_M_sum.2.1 24 = .ok (.ldc2_w 285, 3) := by decide +kernel
theorem d_M_sum_27 : decode m_M_sum.2.1 27 = .ok (.lreturn, 1) := by decide +kernel
theorem d_M_past_0 : decode m_M_past.2.1 0 = .ok (.aload_n 0, 1) := by decide +kernel
theorem d_M_past_1 : decode m_M_past.2.1 1 = .ok (.iconst 0, 1) := by decide +kernel
theorem d_M_past_2 : decode m_M_past.2.1 2 = .ok (.putfield 55, 3) := by decide +kernel
theorem d_M_past_5 : decode m_M_past.2.1 5 = .ok (.iload_n 1, 1) := by decide +kernel
theorem d_M_past_6 : decode m_M_past.2.1 6 = .ok (.ifCond .lt 13, 3) := by decide +kernel
theorem d_M_past_9 : decode m_M_past.2.1 9 = .ok (.iload_n 2, 1) := by decide +kernel
theorem d_M_past_10 : decode m_M_past.2.1 10 = .ok (.ifCond .lt 9, 3) := by decide +kernel
theorem d_M_past_13 : decode m_M_past.2.1 13 = .ok (.iload_n 2, 1) := by decide +kernel
theorem d_M_past_14 : decode m_M_past.2.1 14 = .ok (.bipush 9, 2) := by decide +kernel
theorem d_M_past_16 : decode m_M_past.2.1 16 = .ok (.if_icmp .le 5, 3) := by decide +kernel
theorem d_M_past_19 : decode m_M_past.2.1 19 = .ok (.iconst (-1), 1) := by decide +kernel
theorem d_M_past_20 : decode m_M_past.2.1 20 = .ok (.ireturn, 1) := by decide +kernel
theorem d_M_past_21 : decode m_M_past.2.1 21 = .ok (.iload_n 1, 1) := by decide +kernel
theorem d_M_past_22 : decode m_M_past.2.1 22 = .ok (.aload_n 0, 1) := by decide +kernel
theorem d_M_past_23 : decode m_M_past.2.1 23 = .ok (.getfield 175, 3) := by decide +kernel
theorem d_M_past_26 : decode m_M_past.2.1 26 = .ok (.if_icmp .ge 17, 3) := by decide +kernel
theorem d_M_past_29 : decode m_M_past.2.1 29 = .ok (.aload_n 0, 1) := by decide +kernel
theorem d_M_past_30 : decode m_M_past.2.1 30 = .ok (.getfield 46, 3) := by decide +kernel
theorem d_M_past_33 : decode m_M_past.2.1 33 = .ok (.bipush 10, 2) := by decide +kernel
theorem d_M_past_35 : decode m_M_past.2.1 35 = .ok (.iload_n 1, 1) := by decide +kernel
theorem d_M_past_36 : decode m_M_past.2.1 36 = .ok (.imul, 1) := by decide +kernel
theorem d_M_past_37 : decode m_M_past.2.1 37 = .ok (.iload_n 2, 1) := by decide +kernel
theorem d_M_past_38 : decode m_M_past.2.1 38 = .ok (.iadd, 1) := by decide +kernel
theorem d_M_past_39 : decode m_M_past.2.1 39 = .ok (.iaload, 1) := by decide +kernel
theorem d_M_past_40 : decode m_M_past.2.1 40 = .ok (.goto 5, 3) := by decide +kernel
theorem d_M_past_43 : decode m_M_past.2.1 43 = .ok (.bipush (-2), 2) := by decide +kernel
theorem d_M_past_45 : decode m_M_past.2.1 45 = .ok (.ireturn, 1) := by decide +kernel
theorem d_M_wasNear_0 : decode m_M_wasNear.2.1 0 = .ok (.ldc2_w 227, 3) := by decide +kernel
theorem d_M_wasNear_3 : decode m_M_wasNear.2.1 3 = .ok (.aload_n 0, 1) := by decide +kernel
theorem d_M_wasNear_4 : decode m_M_wasNear.2.1 4 = .ok (.getfield 46, 3) := by decide +kernel
theorem d_M_wasNear_7 : decode m_M_wasNear.2.1 7 = .ok (.bipush 10, 2) := by decide +kernel
theorem d_M_wasNear_9 : decode m_M_wasNear.2.1 9 = .ok (.iload_n 1, 1) := by decide +kernel
theorem d_M_wasNear_10 : decode m_M_wasNear.2.1 10 = .ok (.imul, 1) := by decide +kernel
theorem d_M_wasNear_11 : decode m_M_wasNear.2.1 11 = .ok (.iconst 1, 1) := by decide +kernel
theorem d_M_wasNear_12 : decode m_M_wasNear.2.1 12 = .ok (.iadd, 1) := by decide +kernel
theorem d_M_wasNear_13 : decode m_M_wasNear.2.1 13 = .ok (.iaload, 1) := by decide +kernel
theorem d_M_wasNear_14 : decode m_M_wasNear.2.1 14 = .ok (.i2l, 1) := by decide +kernel
theorem d_M_wasNear_15 : decode m_M_wasNear.2.1 15 = .ok (.lmul, 1) := by decide +kernel
theorem d_M_wasNear_16 : decode m_M_wasNear.2.1 16 = .ok (.iload_n 2, 1) := by decide +kernel
theorem d_M_wasNear_17 : decode m_M_wasNear.2.1 17 = .ok (.i2l, 1) := by decide +kernel
theorem d_M_wasNear_18 : decode m_M_wasNear.2.1 18 = .ok (.aload_n 0, 1) := by decide +kernel
theorem d_M_wasNear_19 : decode m_M_wasNear.2.1 19 = .ok (.getfield 46, 3) := by decide +kernel
theorem d_M_wasNear_22 : decode m_M_wasNear.2.1 22 = .ok (.bipush 10, 2) := by decide +kernel
theorem d_M_wasNear_24 : decode m_M_wasNear.2.1 24 = .ok (.iload_n 1, 1) := by decide +kernel
theorem d_M_wasNear_25 : decode m_M_wasNear.2.1 25 = .ok (.imul, 1) := by decide +kernel
theorem d_M_wasNear_26 : decode m_M_wasNear.2.1 26 = .ok (.iconst 2, 1) := by decide +kernel
theorem d_M_wasNear_27 : decode m_M_wasNear.2.1 27 = .ok (.iadd, 1) := by decide +kernel
theorem d_M_wasNear_28 : decode m_M_wasNear.2.1 28 = .ok (.iaload, 1) := by decide +kernel
theorem d_M_wasNear_29 : decode m_M_wasNear.2.1 29 = .ok (.i2l, 1) := by decide +kernel
theorem d_M_wasNear_30 : decode m_M_wasNear.2.1 30 = .ok (.lmul, 1) := by decide +kernel
theorem d_M_wasNear_31 : decode m_M_wasNear.2.1 31 = .ok (.lcmp, 1) := by decide +kernel
theorem d_M_wasNear_32 : decode m_M_wasNear.2.1 32 = .ok (.ifCond .lt 7, 3) := by decide +kernel
theorem d_M_wasNear_35 : decode m_M_wasNear.2.1 35 = .ok (.iconst 1, 1) := by decide +kernel
theorem d_M_wasNear_36 : decode m_M_wasNear.2.1 36 = .ok (.goto 4, 3) := by decide +kernel
theorem d_M_wasNear_39 : decode m_M_wasNear.2.1 39 = .ok (.iconst 0, 1) := by decide +kernel
theorem d_M_wasNear_40 : decode m_M_wasNear.2.1 40 = .ok (.ireturn, 1) := by decide +kernel
theorem d_M_isPart_0 : decode m_M_isPart.2.1 0 = .ok (.iload_n 0, 1) := by decide +kernel
theorem d_M_isPart_1 : decode m_M_isPart.2.1 1 = .ok (.ifCond .lt 13, 3) := by decide +kernel
theorem d_M_isPart_4 : decode m_M_isPart.2.1 4 = .ok (.iload_n 0, 1) := by decide +kernel
theorem d_M_isPart_5 : decode m_M_isPart.2.1 5 = .ok (.bipush 100, 2) := by decide +kernel
theorem d_M_isPart_7 : decode m_M_isPart.2.1 7 = .ok (.if_icmp .gt 7, 3) := by decide +kernel
theorem d_M_isPart_10 : decode m_M_isPart.2.1 10 = .ok (.iconst 1, 1) := by decide +kernel
theorem d_M_isPart_11 : decode m_M_isPart.2.1 11 = .ok (.goto 4, 3) := by decide +kernel
theorem d_M_isPart_14 : decode m_M_isPart.2.1 14 = .ok (.iconst 0, 1) := by decide +kernel
theorem d_M_isPart_15 : decode m_M_isPart.2.1 15 = .ok (.ireturn, 1) := by decide +kernel
theorem d_M_near_0 : decode m_M_near.2.1 0 = .ok (.aload_n 0, 1) := by decide +kernel
theorem d_M_near_1 : decode m_M_near.2.1 1 = .ok (.iconst 0, 1) := by decide +kernel
theorem d_M_near_2 : decode m_M_near.2.1 2 = .ok (.putfield 55, 3) := by decide +kernel
theorem d_M_near_5 : decode m_M_near.2.1 5 = .ok (.iload_n 1, 1) := by decide +kernel
theorem d_M_near_6 : decode m_M_near.2.1 6 = .ok (.invokestatic 287, 3) := by decide +kernel
theorem d_M_near_9 : decode m_M_near.2.1 9 = .ok (.ifCond .ne 5, 3) := by decide +kernel
theorem d_M_near_12 : decode m_M_near.2.1 12 = .ok (.iconst (-1), 1) := by decide +kernel
theorem d_M_near_13 : decode m_M_near.2.1 13 = .ok (.ireturn, 1) := by decide +kernel
theorem d_M_near_14 : decode m_M_near.2.1 14 = .ok (.iconst 0, 1) := by decide +kernel
theorem d_M_near_15 : decode m_M_near.2.1 15 = .ok (.istore_n 2, 1) := by decide +kernel
theorem d_M_near_16 : decode m_M_near.2.1 16 = .ok (.iconst 0, 1) := by decide +kernel
theorem d_M_near_17 : decode m_M_near.2.1 17 = .ok (.istore_n 3, 1) := by decide +kernel
theorem d_M_near_18 : decode m_M_near.2.1 18 = .ok (.iload_n 3, 1) := by decide +kernel
theorem d_M_near_19 : decode m_M_near.2.1 19 = .ok (.aload_n 0, 1) := by decide +kernel
theorem d_M_near_20 : decode m_M_near.2.1 20 = .ok (.getfield 175, 3) := by decide +kernel
theorem d_M_near_23 : decode m_M_near.2.1 23 = .ok (.if_icmp .ge 26, 3) := by decide +kernel
theorem d_M_near_26 : decode m_M_near.2.1 26 = .ok (.iload_n 2, 1) := by decide +kernel
theorem d_M_near_27 : decode m_M_near.2.1 27 = .ok (.aload_n 0, 1) := by decide +kernel
theorem d_M_near_28 : decode m_M_near.2.1 28 = .ok (.iload_n 3, 1) := by decide +kernel
theorem d_M_near_29 : decode m_M_near.2.1 29 = .ok (.iload_n 1, 1) := by decide +kernel
theorem d_M_near_30 : decode m_M_near.2.1 30 = .ok (.invokevirtual 290, 3) := by decide +kernel
theorem d_M_near_33 : decode m_M_near.2.1 33 = .ok (.ifCond .eq 7, 3) := by decide +kernel
theorem d_M_near_36 : decode m_M_near.2.1 36 = .ok (.iconst 1, 1) := by decide +kernel
theorem d_M_near_37 : decode m_M_near.2.1 37 = .ok (.goto 4, 3) := by decide +kernel
theorem d_M_near_40 : decode m_M_near.2.1 40 = .ok (.iconst 0, 1) := by decide +kernel
theorem d_M_near_41 : decode m_M_near.2.1 41 = .ok (.iadd, 1) := by decide +kernel
theorem d_M_near_42 : decode m_M_near.2.1 42 = .ok (.istore_n 2, 1) := by decide +kernel
theorem d_M_near_43 : decode m_M_near.2.1 43 = .ok (.iinc 3 1, 3) := by decide +kernel
theorem d_M_near_46 : decode m_M_near.2.1 46 = .ok (.goto (-28), 3) := by decide +kernel
theorem d_M_near_49 : decode m_M_near.2.1 49 = .ok (.iload_n 2, 1) := by decide +kernel
theorem d_M_near_50 : decode m_M_near.2.1 50 = .ok (.ireturn, 1) := by decide +kernel
theorem d_M_longestAway_0 : decode m_M_longestAway.2.1 0 = .ok (.aload_n 0, 1) := by decide +kernel
theorem d_M_longestAway_1 : decode m_M_longestAway.2.1 1 = .ok (.iconst 0, 1) := by decide +kernel
theorem d_M_longestAway_2 : decode m_M_longestAway.2.1 2 = .ok (.putfield 55, 3) := by decide +kernel
theorem d_M_longestAway_5 : decode m_M_longestAway.2.1 5 = .ok (.iload_n 1, 1) := by decide +kernel
theorem d_M_longestAway_6 : decode m_M_longestAway.2.1 6 = .ok (.invokestatic 287, 3) := by decide +kernel
theorem d_M_longestAway_9 : decode m_M_longestAway.2.1 9 = .ok (.ifCond .ne 5, 3) := by decide +kernel
theorem d_M_longestAway_12 : decode m_M_longestAway.2.1 12 = .ok (.iconst (-1), 1) := by decide +kernel
theorem d_M_longestAway_13 : decode m_M_longestAway.2.1 13 = .ok (.ireturn, 1) := by decide +kernel
theorem d_M_longestAway_14 : decode m_M_longestAway.2.1 14 = .ok (.iconst 0, 1) := by decide +kernel
theorem d_M_longestAway_15 : decode m_M_longestAway.2.1 15 = .ok (.istore_n 2, 1) := by decide +kernel
theorem d_M_longestAway_16 : decode m_M_longestAway.2.1 16 = .ok (.iconst 0, 1) := by decide +kernel
theorem d_M_longestAway_17 : decode m_M_longestAway.2.1 17 = .ok (.istore_n 3, 1) := by decide +kernel
theorem d_M_longestAway_18 : decode m_M_longestAway.2.1 18 = .ok (.iconst 0, 1) := by decide +kernel
theorem d_M_longestAway_19 : decode m_M_longestAway.2.1 19 = .ok (.istore 4, 2) := by decide +kernel
theorem d_M_longestAway_21 : decode m_M_longestAway.2.1 21 = .ok (.iload 4, 2) := by decide +kernel
theorem d_M_longestAway_23 : decode m_M_longestAway.2.1 23 = .ok (.aload_n 0, 1) := by decide +kernel
theorem d_M_longestAway_24 : decode m_M_longestAway.2.1 24 = .ok (.getfield 175, 3) := by decide +kernel
theorem d_M_longestAway_27 : decode m_M_longestAway.2.1 27 = .ok (.if_icmp .ge 38, 3) := by decide +kernel
theorem d_M_longestAway_30 : decode m_M_longestAway.2.1 30 = .ok (.aload_n 0, 1) := by decide +kernel
theorem d_M_longestAway_31 : decode m_M_longestAway.2.1 31 = .ok (.iload 4, 2) := by decide +kernel
theorem d_M_longestAway_33 : decode m_M_longestAway.2.1 33 = .ok (.iload_n 1, 1) := by decide +kernel
theorem d_M_longestAway_34 : decode m_M_longestAway.2.1 34 = .ok (.invokevirtual 290, 3) := by decide +kernel
theorem d_M_longestAway_37 : decode m_M_longestAway.2.1 37 = .ok (.ifCond .eq 7, 3) := by decide +kernel
theorem d_M_longestAway_40 : decode m_M_longestAway.2.1 40 = .ok (.iconst 0, 1) := by decide +kernel
theorem d_M_longestAway_41 : decode m_M_longestAway.2.1 41 = .ok (.goto 6, 3) := by decide +kernel
theorem d_M_longestAway_44 : decode m_M_longestAway.2.1 44 = .ok (.iload_n 3, 1) := by decide +kernel
theorem d_M_longestAway_45 : decode m_M_longestAway.2.1 45 = .ok (.iconst 1, 1) := by decide +kernel
theorem d_M_longestAway_46 : decode m_M_longestAway.2.1 46 = .ok (.iadd, 1) := by decide +kernel
theorem d_M_longestAway_47 : decode m_M_longestAway.2.1 47 = .ok (.istore_n 3, 1) := by decide +kernel
theorem d_M_longestAway_48 : decode m_M_longestAway.2.1 48 = .ok (.iload_n 3, 1) := by decide +kernel
theorem d_M_longestAway_49 : decode m_M_longestAway.2.1 49 = .ok (.iload_n 2, 1) := by decide +kernel
theorem d_M_longestAway_50 : decode m_M_longestAway.2.1 50 = .ok (.if_icmp .le 7, 3) := by decide +kernel
theorem d_M_longestAway_53 : decode m_M_longestAway.2.1 53 = .ok (.iload_n 3, 1) := by decide +kernel
theorem d_M_longestAway_54 : decode m_M_longestAway.2.1 54 = .ok (.goto 4, 3) := by decide +kernel
theorem d_M_longestAway_57 : decode m_M_longestAway.2.1 57 = .ok (.iload_n 2, 1) := by decide +kernel
theorem d_M_longestAway_58 : decode m_M_longestAway.2.1 58 = .ok (.istore_n 2, 1) := by decide +kernel
theorem d_M_longestAway_59 : decode m_M_longestAway.2.1 59 = .ok (.iinc 4 1, 3) := by decide +kernel
theorem d_M_longestAway_62 : decode m_M_longestAway.2.1 62 = .ok (.goto (-41), 3) := by decide +kernel
theorem d_M_longestAway_65 : decode m_M_longestAway.2.1 65 = .ok (.iload_n 2, 1) := by decide +kernel
theorem d_M_longestAway_66 : decode m_M_longestAway.2.1 66 = .ok (.ireturn, 1) := by decide +kernel
theorem d_M_ripple_0 : decode m_M_ripple.2.1 0 = .ok (.aload_n 0, 1) := by decide +kernel
theorem d_M_ripple_1 : decode m_M_ripple.2.1 1 = .ok (.iconst 0, 1) := by decide +kernel
theorem d_M_ripple_2 : decode m_M_ripple.2.1 2 = .ok (.putfield 55, 3) := by decide +kernel
theorem d_M_ripple_5 : decode m_M_ripple.2.1 5 = .ok (.iload_n 1, 1) := by decide +kernel
theorem d_M_ripple_6 : decode m_M_ripple.2.1 6 = .ok (.iconst 1, 1) := by decide +kernel
theorem d_M_ripple_7 : decode m_M_ripple.2.1 7 = .ok (.if_icmp .lt 9, 3) := by decide +kernel
theorem d_M_ripple_10 : decode m_M_ripple.2.1 10 = .ok (.iload_n 1, 1) := by decide +kernel
theorem d_M_ripple_11 : decode m_M_ripple.2.1 11 = .ok (.bipush 100, 2) := by decide +kernel
theorem d_M_ripple_13 : decode m_M_ripple.2.1 13 = .ok (.if_icmp .le 5, 3) := by decide +kernel
theorem d_M_ripple_16 : decode m_M_ripple.2.1 16 = .ok (.iconst (-1), 1) := by decide +kernel
theorem d_M_ripple_17 : decode m_M_ripple.2.1 17 = .ok (.ireturn, 1) := by decide +kernel
theorem d_M_ripple_18 : decode m_M_ripple.2.1 18 = .ok (.aload_n 0, 1) := by decide +kernel
theorem d_M_ripple_19 : decode m_M_ripple.2.1 19 = .ok (.getfield 175, 3) := by decide +kernel
theorem d_M_ripple_22 : decode m_M_ripple.2.1 22 = .ok (.ifCond .ne 6, 3) := by decide +kernel
theorem d_M_ripple_25 : decode m_M_ripple.2.1 25 = .ok (.bipush (-2), 2) := by decide +kernel
theorem d_M_ripple_27 : decode m_M_ripple.2.1 27 = .ok (.ireturn, 1) := by decide +kernel
theorem d_M_ripple_28 : decode m_M_ripple.2.1 28 = .ok (.aload_n 0, 1) := by decide +kernel
theorem d_M_ripple_29 : decode m_M_ripple.2.1 29 = .ok (.getfield 46, 3) := by decide +kernel
theorem d_M_ripple_32 : decode m_M_ripple.2.1 32 = .ok (.iconst 0, 1) := by decide +kernel
theorem d_M_ripple_33 : decode m_M_ripple.2.1 33 = .ok (.iaload, 1) := by decide +kernel
theorem d_M_ripple_34 : decode m_M_ripple.2.1 34 = .ok (.istore_n 2, 1) := by decide +kernel
theorem d_M_ripple_35 : decode m_M_ripple.2.1 35 = .ok (.aload_n 0, 1) := by decide +kernel
theorem d_M_ripple_36 : decode m_M_ripple.2.1 36 = .ok (.getfield 46, 3) := by decide +kernel
theorem d_M_ripple_39 : decode m_M_ripple.2.1 39 = .ok (.iconst 0, 1) := by decide +kernel
theorem d_M_ripple_40 : decode m_M_ripple.2.1 40 = .ok (.iaload, 1) := by decide +kernel
theorem d_M_ripple_41 : decode m_M_ripple.2.1 41 = .ok (.istore_n 3, 1) := by decide +kernel
theorem d_M_ripple_42 : decode m_M_ripple.2.1 42 = .ok (.iconst 1, 1) := by decide +kernel
theorem d_M_ripple_43 : decode m_M_ripple.2.1 43 = .ok (.istore 4, 2) := by decide +kernel
theorem d_M_ripple_45 : decode m_M_ripple.2.1 45 = .ok (.iload 4, 2) := by decide +kernel
theorem d_M_ripple_47 : decode m_M_ripple.2.1 47 = .ok (.iload_n 1, 1) := by decide +kernel
theorem d_M_ripple_48 : decode m_M_ripple.2.1 48 = .ok (.if_icmp .ge 76, 3) := by decide +kernel
theorem d_M_ripple_51 : decode m_M_ripple.2.1 51 = .ok (.iload 4, 2) := by decide +kernel
theorem d_M_ripple_53 : decode m_M_ripple.2.1 53 = .ok (.aload_n 0, 1) := by decide +kernel
theorem d_M_ripple_54 : decode m_M_ripple.2.1 54 = .ok (.getfield 175, 3) := by decide +kernel
theorem d_M_ripple_57 : decode m_M_ripple.2.1 57 = .ok (.if_icmp .ge 67, 3) := by decide +kernel
theorem d_M_ripple_60 : decode m_M_ripple.2.1 60 = .ok (.aload_n 0, 1) := by decide +kernel
theorem d_M_ripple_61 : decode m_M_ripple.2.1 61 = .ok (.getfield 46, 3) := by decide +kernel
theorem d_M_ripple_64 : decode m_M_ripple.2.1 64 = .ok (.bipush 10, 2) := by decide +kernel
theorem d_M_ripple_66 : decode m_M_ripple.2.1 66 = .ok (.iload 4, 2) := by decide +kernel
theorem d_M_ripple_68 : decode m_M_ripple.2.1 68 = .ok (.imul, 1) := by decide +kernel
theorem d_M_ripple_69 : decode m_M_ripple.2.1 69 = .ok (.iaload, 1) := by decide +kernel
theorem d_M_ripple_70 : decode m_M_ripple.2.1 70 = .ok (.iload_n 2, 1) := by decide +kernel
theorem d_M_ripple_71 : decode m_M_ripple.2.1 71 = .ok (.if_icmp .ge 16, 3) := by decide +kernel
theorem d_M_ripple_74 : decode m_M_ripple.2.1 74 = .ok (.aload_n 0, 1) := by decide +kernel
theorem d_M_ripple_75 : decode m_M_ripple.2.1 75 = .ok (.getfield 46, 3) := by decide +kernel
theorem d_M_ripple_78 : decode m_M_ripple.2.1 78 = .ok (.bipush 10, 2) := by decide +kernel
theorem d_M_ripple_80 : decode m_M_ripple.2.1 80 = .ok (.iload 4, 2) := by decide +kernel
theorem d_M_ripple_82 : decode m_M_ripple.2.1 82 = .ok (.imul, 1) := by decide +kernel
theorem d_M_ripple_83 : decode m_M_ripple.2.1 83 = .ok (.iaload, 1) := by decide +kernel
theorem d_M_ripple_84 : decode m_M_ripple.2.1 84 = .ok (.goto 4, 3) := by decide +kernel
theorem d_M_ripple_87 : decode m_M_ripple.2.1 87 = .ok (.iload_n 2, 1) := by decide +kernel
theorem d_M_ripple_88 : decode m_M_ripple.2.1 88 = .ok (.istore_n 2, 1) := by decide +kernel
theorem d_M_ripple_89 : decode m_M_ripple.2.1 89 = .ok (.aload_n 0, 1) := by decide +kernel
theorem d_M_ripple_90 : decode m_M_ripple.2.1 90 = .ok (.getfield 46, 3) := by decide +kernel
theorem d_M_ripple_93 : decode m_M_ripple.2.1 93 = .ok (.bipush 10, 2) := by decide +kernel
theorem d_M_ripple_95 : decode m_M_ripple.2.1 95 = .ok (.iload 4, 2) := by decide +kernel
theorem d_M_ripple_97 : decode m_M_ripple.2.1 97 = .ok (.imul, 1) := by decide +kernel
theorem d_M_ripple_98 : decode m_M_ripple.2.1 98 = .ok (.iaload, 1) := by decide +kernel
theorem d_M_ripple_99 : decode m_M_ripple.2.1 99 = .ok (.iload_n 3, 1) := by decide +kernel
theorem d_M_ripple_100 : decode m_M_ripple.2.1 100 = .ok (.if_icmp .le 16, 3) := by decide +kernel
theorem d_M_ripple_103 : decode m_M_ripple.2.1 103 = .ok (.aload_n 0, 1) := by decide +kernel
theorem d_M_ripple_104 : decode m_M_ripple.2.1 104 = .ok (.getfield 46, 3) := by decide +kernel
theorem d_M_ripple_107 : decode m_M_ripple.2.1 107 = .ok (.bipush 10, 2) := by decide +kernel
theorem d_M_ripple_109 : decode m_M_ripple.2.1 109 = .ok (.iload 4, 2) := by decide +kernel
theorem d_M_ripple_111 : decode m_M_ripple.2.1 111 = .ok (.imul, 1) := by decide +kernel
theorem d_M_ripple_112 : decode m_M_ripple.2.1 112 = .ok (.iaload, 1) := by decide +kernel
theorem d_M_ripple_113 : decode m_M_ripple.2.1 113 = .ok (.goto 4, 3) := by decide +kernel
theorem d_M_ripple_116 : decode m_M_ripple.2.1 116 = .ok (.iload_n 3, 1) := by decide +kernel
theorem d_M_ripple_117 : decode m_M_ripple.2.1 117 = .ok (.istore_n 3, 1) := by decide +kernel
theorem d_M_ripple_118 : decode m_M_ripple.2.1 118 = .ok (.iinc 4 1, 3) := by decide +kernel
theorem d_M_ripple_121 : decode m_M_ripple.2.1 121 = .ok (.goto (-76), 3) := by decide +kernel
theorem d_M_ripple_124 : decode m_M_ripple.2.1 124 = .ok (.iload_n 3, 1) := by decide +kernel
theorem d_M_ripple_125 : decode m_M_ripple.2.1 125 = .ok (.iload_n 2, 1) := by decide +kernel
theorem d_M_ripple_126 : decode m_M_ripple.2.1 126 = .ok (.isub, 1) := by decide +kernel
theorem d_M_ripple_127 : decode m_M_ripple.2.1 127 = .ok (.ireturn, 1) := by decide +kernel
theorem d_M_average_0 : decode m_M_average.2.1 0 = .ok (.aload_n 0, 1) := by decide +kernel
theorem d_M_average_1 : decode m_M_average.2.1 1 = .ok (.iconst 0, 1) := by decide +kernel
theorem d_M_average_2 : decode m_M_average.2.1 2 = .ok (.putfield 55, 3) := by decide +kernel
theorem d_M_average_5 : decode m_M_average.2.1 5 = .ok (.iload_n 1, 1) := by decide +kernel
theorem d_M_average_6 : decode m_M_average.2.1 6 = .ok (.iconst 1, 1) := by decide +kernel
theorem d_M_average_7 : decode m_M_average.2.1 7 = .ok (.if_icmp .lt 9, 3) := by decide +kernel
theorem d_M_average_10 : decode m_M_average.2.1 10 = .ok (.iload_n 1, 1) := by decide +kernel
theorem d_M_average_11 : decode m_M_average.2.1 11 = .ok (.bipush 100, 2) := by decide +kernel
theorem d_M_average_13 : decode m_M_average.2.1 13 = .ok (.if_icmp .le 5, 3) := by decide +kernel
theorem d_M_average_16 : decode m_M_average.2.1 16 = .ok (.iconst (-1), 1) := by decide +kernel
theorem d_M_average_17 : decode m_M_average.2.1 17 = .ok (.ireturn, 1) := by decide +kernel
theorem d_M_average_18 : decode m_M_average.2.1 18 = .ok (.aload_n 0, 1) := by decide +kernel
theorem d_M_average_19 : decode m_M_average.2.1 19 = .ok (.getfield 175, 3) := by decide +kernel
theorem d_M_average_22 : decode m_M_average.2.1 22 = .ok (.ifCond .ne 6, 3) := by decide +kernel
theorem d_M_average_25 : decode m_M_average.2.1 25 = .ok (.bipush (-2), 2) := by decide +kernel
theorem d_M_average_27 : decode m_M_average.2.1 27 = .ok (.ireturn, 1) := by decide +kernel
theorem d_M_average_28 : decode m_M_average.2.1 28 = .ok (.iload_n 1, 1) := by decide +kernel
theorem d_M_average_29 : decode m_M_average.2.1 29 = .ok (.aload_n 0, 1) := by decide +kernel
theorem d_M_average_30 : decode m_M_average.2.1 30 = .ok (.getfield 175, 3) := by decide +kernel
theorem d_M_average_33 : decode m_M_average.2.1 33 = .ok (.if_icmp .ge 7, 3) := by decide +kernel
theorem d_M_average_36 : decode m_M_average.2.1 36 = .ok (.iload_n 1, 1) := by decide +kernel
theorem d_M_average_37 : decode m_M_average.2.1 37 = .ok (.goto 7, 3) := by decide +kernel
theorem d_M_average_40 : decode m_M_average.2.1 40 = .ok (.aload_n 0, 1) := by decide +kernel
theorem d_M_average_41 : decode m_M_average.2.1 41 = .ok (.getfield 175, 3) := by decide +kernel
theorem d_M_average_44 : decode m_M_average.2.1 44 = .ok (.istore_n 2, 1) := by decide +kernel
theorem d_M_average_45 : decode m_M_average.2.1 45 = .ok (.lconst 0, 1) := by decide +kernel
theorem d_M_average_46 : decode m_M_average.2.1 46 = .ok (.lstore_n 3, 1) := by decide +kernel
theorem d_M_average_47 : decode m_M_average.2.1 47 = .ok (.iconst 0, 1) := by decide +kernel
theorem d_M_average_48 : decode m_M_average.2.1 48 = .ok (.istore 5, 2) := by decide +kernel
theorem d_M_average_50 : decode m_M_average.2.1 50 = .ok (.iload 5, 2) := by decide +kernel
theorem d_M_average_52 : decode m_M_average.2.1 52 = .ok (.iload_n 2, 1) := by decide +kernel
theorem d_M_average_53 : decode m_M_average.2.1 53 = .ok (.if_icmp .ge 25, 3) := by decide +kernel
theorem d_M_average_56 : decode m_M_average.2.1 56 = .ok (.lload_n 3, 1) := by decide +kernel
theorem d_M_average_57 : decode m_M_average.2.1 57 = .ok (.aload_n 0, 1) := by decide +kernel
theorem d_M_average_58 : decode m_M_average.2.1 58 = .ok (.getfield 46, 3) := by decide +kernel
theorem d_M_average_61 : decode m_M_average.2.1 61 = .ok (.bipush 10, 2) := by decide +kernel
theorem d_M_average_63 : decode m_M_average.2.1 63 = .ok (.iload 5, 2) := by decide +kernel
theorem d_M_average_65 : decode m_M_average.2.1 65 = .ok (.imul, 1) := by decide +kernel
theorem d_M_average_66 : decode m_M_average.2.1 66 = .ok (.iconst 1, 1) := by decide +kernel
theorem d_M_average_67 : decode m_M_average.2.1 67 = .ok (.iadd, 1) := by decide +kernel
theorem d_M_average_68 : decode m_M_average.2.1 68 = .ok (.iaload, 1) := by decide +kernel
theorem d_M_average_69 : decode m_M_average.2.1 69 = .ok (.i2l, 1) := by decide +kernel
theorem d_M_average_70 : decode m_M_average.2.1 70 = .ok (.ladd, 1) := by decide +kernel
theorem d_M_average_71 : decode m_M_average.2.1 71 = .ok (.lstore_n 3, 1) := by decide +kernel
theorem d_M_average_72 : decode m_M_average.2.1 72 = .ok (.iinc 5 1, 3) := by decide +kernel
theorem d_M_average_75 : decode m_M_average.2.1 75 = .ok (.goto (-25), 3) := by decide +kernel
theorem d_M_average_78 : decode m_M_average.2.1 78 = .ok (.lload_n 3, 1) := by decide +kernel
theorem d_M_average_79 : decode m_M_average.2.1 79 = .ok (.iload_n 2, 1) := by decide +kernel
theorem d_M_average_80 : decode m_M_average.2.1 80 = .ok (.i2l, 1) := by decide +kernel
theorem d_M_average_81 : decode m_M_average.2.1 81 = .ok (.ldiv, 1) := by decide +kernel
theorem d_M_average_82 : decode m_M_average.2.1 82 = .ok (.l2i, 1) := by decide +kernel
theorem d_M_average_83 : decode m_M_average.2.1 83 = .ok (.ireturn, 1) := by decide +kernel
theorem d_M_worst_0 : decode m_M_worst.2.1 0 = .ok (.aload_n 0, 1) := by decide +kernel
theorem d_M_worst_1 : decode m_M_worst.2.1 1 = .ok (.iconst 0, 1) := by decide +kernel
theorem d_M_worst_2 : decode m_M_worst.2.1 2 = .ok (.putfield 55, 3) := by decide +kernel
theorem d_M_worst_5 : decode m_M_worst.2.1 5 = .ok (.iload_n 1, 1) := by decide +kernel
theorem d_M_worst_6 : decode m_M_worst.2.1 6 = .ok (.ifCond .lt 8, 3) := by decide +kernel
theorem d_M_worst_9 : decode m_M_worst.2.1 9 = .ok (.iload_n 1, 1) := by decide +kernel
theorem d_M_worst_10 : decode m_M_worst.2.1 10 = .ok (.iconst 1, 1) := by decide +kernel
theorem d_M_worst_11 : decode m_M_worst.2.1 11 = .ok (.if_icmp .le 5, 3) := by decide +kernel
theorem d_M_worst_14 : decode m_M_worst.2.1 14 = .ok (.iconst (-1), 1) := by decide +kernel
theorem d_M_worst_15 : decode m_M_worst.2.1 15 = .ok (.ireturn, 1) := by decide +kernel
theorem d_M_worst_16 : decode m_M_worst.2.1 16 = .ok (.bipush (-2), 2) := by decide +kernel
theorem d_M_worst_18 : decode m_M_worst.2.1 18 = .ok (.istore_n 2, 1) := by decide +kernel
theorem d_M_worst_19 : decode m_M_worst.2.1 19 = .ok (.iconst (-1), 1) := by decide +kernel
theorem d_M_worst_20 : decode m_M_worst.2.1 20 = .ok (.istore_n 3, 1) := by decide +kernel
theorem d_M_worst_21 : decode m_M_worst.2.1 21 = .ok (.iconst 0, 1) := by decide +kernel
theorem d_M_worst_22 : decode m_M_worst.2.1 22 = .ok (.istore 4, 2) := by decide +kernel
theorem d_M_worst_24 : decode m_M_worst.2.1 24 = .ok (.iload 4, 2) := by decide +kernel
theorem d_M_worst_26 : decode m_M_worst.2.1 26 = .ok (.aload_n 0, 1) := by decide +kernel
theorem d_M_worst_27 : decode m_M_worst.2.1 27 = .ok (.getfield 175, 3) := by decide +kernel
theorem d_M_worst_30 : decode m_M_worst.2.1 30 = .ok (.if_icmp .ge 51, 3) := by decide +kernel
theorem d_M_worst_33 : decode m_M_worst.2.1 33 = .ok (.aload_n 0, 1) := by decide +kernel
theorem d_M_worst_34 : decode m_M_worst.2.1 34 = .ok (.getfield 46, 3) := by decide +kernel
theorem d_M_worst_37 : decode m_M_worst.2.1 37 = .ok (.bipush 10, 2) := by decide +kernel
theorem d_M_worst_39 : decode m_M_worst.2.1 39 = .ok (.iload 4, 2) := by decide +kernel
theorem d_M_worst_41 : decode m_M_worst.2.1 41 = .ok (.imul, 1) := by decide +kernel
theorem d_M_worst_42 : decode m_M_worst.2.1 42 = .ok (.iconst 2, 1) := by decide +kernel
theorem d_M_worst_43 : decode m_M_worst.2.1 43 = .ok (.iadd, 1) := by decide +kernel
theorem d_M_worst_44 : decode m_M_worst.2.1 44 = .ok (.iaload, 1) := by decide +kernel
theorem d_M_worst_45 : decode m_M_worst.2.1 45 = .ok (.aload_n 0, 1) := by decide +kernel
theorem d_M_worst_46 : decode m_M_worst.2.1 46 = .ok (.getfield 46, 3) := by decide +kernel
theorem d_M_worst_49 : decode m_M_worst.2.1 49 = .ok (.bipush 10, 2) := by decide +kernel
theorem d_M_worst_51 : decode m_M_worst.2.1 51 = .ok (.iload 4, 2) := by decide +kernel
theorem d_M_worst_53 : decode m_M_worst.2.1 53 = .ok (.imul, 1) := by decide +kernel
theorem d_M_worst_54 : decode m_M_worst.2.1 54 = .ok (.iconst 1, 1) := by decide +kernel
theorem d_M_worst_55 : decode m_M_worst.2.1 55 = .ok (.iadd, 1) := by decide +kernel
theorem d_M_worst_56 : decode m_M_worst.2.1 56 = .ok (.iaload, 1) := by decide +kernel
theorem d_M_worst_57 : decode m_M_worst.2.1 57 = .ok (.isub, 1) := by decide +kernel
theorem d_M_worst_58 : decode m_M_worst.2.1 58 = .ok (.istore 5, 2) := by decide +kernel
theorem d_M_worst_60 : decode m_M_worst.2.1 60 = .ok (.iload 5, 2) := by decide +kernel
theorem d_M_worst_62 : decode m_M_worst.2.1 62 = .ok (.iload_n 3, 1) := by decide +kernel
theorem d_M_worst_63 : decode m_M_worst.2.1 63 = .ok (.if_icmp .gt 6, 3) := by decide +kernel
theorem d_M_worst_66 : decode m_M_worst.2.1 66 = .ok (.goto 9, 3) := by decide +kernel
theorem d_M_worst_69 : decode m_M_worst.2.1 69 = .ok (.iload 4, 2) := by decide +kernel
theorem d_M_worst_71 : decode m_M_worst.2.1 71 = .ok (.istore_n 2, 1) := by decide +kernel
theorem d_M_worst_72 : decode m_M_worst.2.1 72 = .ok (.iload 5, 2) := by decide +kernel
theorem d_M_worst_74 : decode m_M_worst.2.1 74 = .ok (.istore_n 3, 1) := by decide +kernel
theorem d_M_worst_75 : decode m_M_worst.2.1 75 = .ok (.iinc 4 1, 3) := by decide +kernel
theorem d_M_worst_78 : decode m_M_worst.2.1 78 = .ok (.goto (-54), 3) := by decide +kernel
theorem d_M_worst_81 : decode m_M_worst.2.1 81 = .ok (.iload_n 1, 1) := by decide +kernel
theorem d_M_worst_82 : decode m_M_worst.2.1 82 = .ok (.ifCond .eq 9, 3) := by decide +kernel
theorem d_M_worst_85 : decode m_M_worst.2.1 85 = .ok (.iload_n 2, 1) := by decide +kernel
theorem d_M_worst_86 : decode m_M_worst.2.1 86 = .ok (.bipush (-2), 2) := by decide +kernel
theorem d_M_worst_88 : decode m_M_worst.2.1 88 = .ok (.if_icmp .ne 7, 3) := by decide +kernel
theorem d_M_worst_91 : decode m_M_worst.2.1 91 = .ok (.iload_n 2, 1) := by decide +kernel
theorem d_M_worst_92 : decode m_M_worst.2.1 92 = .ok (.goto 4, 3) := by decide +kernel
theorem d_M_worst_95 : decode m_M_worst.2.1 95 = .ok (.iload_n 3, 1) := by decide +kernel
theorem d_M_worst_96 : decode m_M_worst.2.1 96 = .ok (.ireturn, 1) := by decide +kernel
theorem d_M_comes_0 : decode m_M_comes.2.1 0 = .ok (.aload_n 0, 1) := by decide +kernel
theorem d_M_comes_1 : decode m_M_comes.2.1 1 = .ok (.iconst 0, 1) := by decide +kernel
theorem d_M_comes_2 : decode m_M_comes.2.1 2 = .ok (.putfield 55, 3) := by decide +kernel
theorem d_M_comes_5 : decode m_M_comes.2.1 5 = .ok (.iload_n 1, 1) := by decide +kernel
theorem d_M_comes_6 : decode m_M_comes.2.1 6 = .ok (.ifCond .lt 12, 3) := by decide +kernel
theorem d_M_comes_9 : decode m_M_comes.2.1 9 = .ok (.iload_n 2, 1) := by decide +kernel
theorem d_M_comes_10 : decode m_M_comes.2.1 10 = .ok (.ifCond .lt 8, 3) := by decide +kernel
theorem d_M_comes_13 : decode m_M_comes.2.1 13 = .ok (.iload_n 2, 1) := by decide +kernel
theorem d_M_comes_14 : decode m_M_comes.2.1 14 = .ok (.iconst 3, 1) := by decide +kernel
theorem d_M_comes_15 : decode m_M_comes.2.1 15 = .ok (.if_icmp .le 5, 3) := by decide +kernel
theorem d_M_comes_18 : decode m_M_comes.2.1 18 = .ok (.iconst (-1), 1) := by decide +kernel
theorem d_M_comes_19 : decode m_M_comes.2.1 19 = .ok (.ireturn, 1) := by decide +kernel
theorem d_M_comes_20 : decode m_M_comes.2.1 20 = .ok (.iload_n 1, 1) := by decide +kernel
theorem d_M_comes_21 : decode m_M_comes.2.1 21 = .ok (.aload_n 0, 1) := by decide +kernel
theorem d_M_comes_22 : decode m_M_comes.2.1 22 = .ok (.getfield 33, 3) := by decide +kernel
theorem d_M_comes_25 : decode m_M_comes.2.1 25 = .ok (.bipush 46, 2) := by decide +kernel
theorem d_M_comes_27 : decode m_M_comes.2.1 27 = .ok (.iaload, 1) := by decide +kernel
theorem d_M_comes_28 : decode m_M_comes.2.1 28 = .ok (.if_icmp .ge 19, 3) := by decide +kernel
theorem d_M_comes_31 : decode m_M_comes.2.1 31 = .ok (.aload_n 0, 1) := by decide +kernel
theorem d_M_comes_32 : decode m_M_comes.2.1 32 = .ok (.getfield 33, 3) := by decide +kernel
theorem d_M_comes_35 : decode m_M_comes.2.1 35 = .ok (.bipush 47, 2) := by decide +kernel
theorem d_M_comes_37 : decode m_M_comes.2.1 37 = .ok (.iconst 4, 1) := by decide +kernel
theorem d_M_comes_38 : decode m_M_comes.2.1 38 = .ok (.iload_n 1, 1) := by decide +kernel
theorem d_M_comes_39 : decode m_M_comes.2.1 39 = .ok (.imul, 1) := by decide +kernel
theorem d_M_comes_40 : decode m_M_comes.2.1 40 = .ok (.iadd, 1) := by decide +kernel
theorem d_M_comes_41 : decode m_M_comes.2.1 41 = .ok (.iload_n 2, 1) := by decide +kernel
theorem d_M_comes_42 : decode m_M_comes.2.1 42 = .ok (.iadd, 1) := by decide +kernel
theorem d_M_comes_43 : decode m_M_comes.2.1 43 = .ok (.iaload, 1) := by decide +kernel
theorem d_M_comes_44 : decode m_M_comes.2.1 44 = .ok (.goto 5, 3) := by decide +kernel
theorem d_M_comes_47 : decode m_M_comes.2.1 47 = .ok (.bipush (-2), 2) := by decide +kernel
theorem d_M_comes_49 : decode m_M_comes.2.1 49 = .ok (.ireturn, 1) := by decide +kernel
theorem d_M_cancel_0 : decode m_M_cancel.2.1 0 = .ok (.aload_n 0, 1) := by decide +kernel
theorem d_M_cancel_1 : decode m_M_cancel.2.1 1 = .ok (.iconst 0, 1) := by decide +kernel
theorem d_M_cancel_2 : decode m_M_cancel.2.1 2 = .ok (.putfield 55, 3) := by decide +kernel
theorem d_M_cancel_5 : decode m_M_cancel.2.1 5 = .ok (.iload_n 1, 1) := by decide +kernel
theorem d_M_cancel_6 : decode m_M_cancel.2.1 6 = .ok (.ifCond .ge 5, 3) := by decide +kernel
theorem d_M_cancel_9 : decode m_M_cancel.2.1 9 = .ok (.iconst (-1), 1) := by decide +kernel
theorem d_M_cancel_10 : decode m_M_cancel.2.1 10 = .ok (.ireturn, 1) := by decide +kernel
theorem d_M_cancel_11 : decode m_M_cancel.2.1 11 = .ok (.iload_n 1, 1) := by decide +kernel
theorem d_M_cancel_12 : decode m_M_cancel.2.1 12 = .ok (.aload_n 0, 1) := by decide +kernel
theorem d_M_cancel_13 : decode m_M_cancel.2.1 13 = .ok (.getfield 33, 3) := by decide +kernel
theorem d_M_cancel_16 : decode m_M_cancel.2.1 16 = .ok (.bipush 46, 2) := by decide +kernel
theorem d_M_cancel_18 : decode m_M_cancel.2.1 18 = .ok (.iaload, 1) := by decide +kernel
theorem d_M_cancel_19 : decode m_M_cancel.2.1 19 = .ok (.if_icmp .lt 6, 3) := by decide +kernel
theorem d_M_cancel_22 : decode m_M_cancel.2.1 22 = .ok (.bipush (-2), 2) := by decide +kernel
theorem d_M_cancel_24 : decode m_M_cancel.2.1 24 = .ok (.ireturn, 1) := by decide +kernel
theorem d_M_cancel_25 : decode m_M_cancel.2.1 25 = .ok (.aload_n 0, 1) := by decide +kernel
theorem d_M_cancel_26 : decode m_M_cancel.2.1 26 = .ok (.iload_n 1, 1) := by decide +kernel
theorem d_M_cancel_27 : decode m_M_cancel.2.1 27 = .ok (.invokevirtual 197, 3) := by decide +kernel
theorem d_M_cancel_30 : decode m_M_cancel.2.1 30 = .ok (.aload_n 0, 1) := by decide +kernel
theorem d_M_cancel_31 : decode m_M_cancel.2.1 31 = .ok (.getfield 33, 3) := by decide +kernel
theorem d_M_cancel_34 : decode m_M_cancel.2.1 34 = .ok (.bipush 46, 2) := by decide +kernel
theorem d_M_cancel_36 : decode m_M_cancel.2.1 36 = .ok (.iaload, 1) := by decide +kernel
theorem d_M_cancel_37 : decode m_M_cancel.2.1 37 = .ok (.ireturn, 1) := by decide +kernel
theorem d_M_canTry_0 : decode m_M_canTry.2.1 0 = .ok (.iload_n 1, 1) := by decide +kernel
theorem d_M_canTry_1 : decode m_M_canTry.2.1 1 = .ok (.iconst 1, 1) := by decide +kernel
theorem d_M_canTry_2 : decode m_M_canTry.2.1 2 = .ok (.if_icmp .lt 21, 3) := by decide +kernel
theorem d_M_canTry_5 : decode m_M_canTry.2.1 5 = .ok (.iload_n 1, 1) := by decide +kernel
theorem d_M_canTry_6 : decode m_M_canTry.2.1 6 = .ok (.sipush 300, 3) := by decide +kernel
theorem d_M_canTry_9 : decode m_M_canTry.2.1 9 = .ok (.if_icmp .gt 14, 3) := by decide +kernel
theorem d_M_canTry_12 : decode m_M_canTry.2.1 12 = .ok (.aload_n 0, 1) := by decide +kernel
theorem d_M_canTry_13 : decode m_M_canTry.2.1 13 = .ok (.getfield 168, 3) := by decide +kernel
theorem d_M_canTry_16 : decode m_M_canTry.2.1 16 = .ok (.ifCond .le 7, 3) := by decide +kernel
theorem d_M_canTry_19 : decode m_M_canTry.2.1 19 = .ok (.iconst 1, 1) := by decide +kernel
theorem d_M_canTry_20 : decode m_M_canTry.2.1 20 = .ok (.goto 4, 3) := by decide +kernel
theorem d_M_canTry_23 : decode m_M_canTry.2.1 23 = .ok (.iconst 0, 1) := by decide +kernel
theorem d_M_canTry_24 : decode m_M_canTry.2.1 24 = .ok (.ireturn, 1) := by decide +kernel
theorem d_M_runs_0 : decode m_M_runs.2.1 0 = .ok (.iconst 0, 1) := by decide +kernel
theorem d_M_runs_1 : decode m_M_runs.2.1 1 = .ok (.istore_n 2, 1) := by decide +kernel
theorem d_M_runs_2 : decode m_M_runs.2.1 2 = .ok (.iload_n 2, 1) := by decide +kernel
theorem d_M_runs_3 : decode m_M_runs.2.1 3 = .ok (.iload_n 1, 1) := by decide +kernel
theorem d_M_runs_4 : decode m_M_runs.2.1 4 = .ok (.if_icmp .ge 13, 3) := by decide +kernel
theorem d_M_runs_7 : decode m_M_runs.2.1 7 = .ok (.aload_n 0, 1) := by decide +kernel
theorem d_M_runs_8 : decode m_M_runs.2.1 8 = .ok (.invokevirtual 262, 3) := by decide +kernel
theorem d_M_runs_11 : decode m_M_runs.2.1 11 = .ok (.iinc 2 1, 3) := by decide +kernel
theorem d_M_runs_14 : decode m_M_runs.2.1 14 = .ok (.goto (-12), 3) := by decide +kernel
theorem d_M_runs_17 : decode m_M_runs.2.1 17 = .ok (.return_, 1) := by decide +kernel
theorem d_M_ifTicks_0 : decode m_M_ifTicks.2.1 0 = .ok (.aload_n 0, 1) := by decide +kernel
theorem d_M_ifTicks_1 : decode m_M_ifTicks.2.1 1 = .ok (.iconst 0, 1) := by decide +kernel
theorem d_M_ifTicks_2 : decode m_M_ifTicks.2.1 2 = .ok (.putfield 55, 3) := by decide +kernel
theorem d_M_ifTicks_5 : decode m_M_ifTicks.2.1 5 = .ok (.aload_n 0, 1) := by decide +kernel
theorem d_M_ifTicks_6 : decode m_M_ifTicks.2.1 6 = .ok (.iload_n 1, 1) := by decide +kernel
theorem d_M_ifTicks_7 : decode m_M_ifTicks.2.1 7 = .ok (.invokevirtual 294, 3) := by decide +kernel
theorem d_M_ifTicks_10 : decode m_M_ifTicks.2.1 10 = .ok (.ifCond .eq 13, 3) := by decide +kernel
theorem d_M_ifTicks_13 : decode m_M_ifTicks.2.1 13 = .ok (.iload_n 2, 1) := by decide +kernel
theorem d_M_ifTicks_14 : decode m_M_ifTicks.2.1 14 = .ok (.ifCond .lt 9, 3) := by decide +kernel
theorem d_M_ifTicks_17 : decode m_M_ifTicks.2.1 17 = .ok (.iload_n 2, 1) := by decide +kernel
theorem d_M_ifTicks_18 : decode m_M_ifTicks.2.1 18 = .ok (.bipush 7, 2) := by decide +kernel
theorem d_M_ifTicks_20 : decode m_M_ifTicks.2.1 20 = .ok (.if_icmp .le 5, 3) := by decide +kernel
theorem d_M_ifTicks_23 : decode m_M_ifTicks.2.1 23 = .ok (.iconst (-1), 1) := by decide +kernel
theorem d_M_ifTicks_24 : decode m_M_ifTicks.2.1 24 = .ok (.ireturn, 1) := by decide +kernel
theorem d_M_ifTicks_25 : decode m_M_ifTicks.2.1 25 = .ok (.aload_n 0, 1) := by decide +kernel
theorem d_M_ifTicks_26 : decode m_M_ifTicks.2.1 26 = .ok (.invokevirtual 297, 3) := by decide +kernel
theorem d_M_ifTicks_29 : decode m_M_ifTicks.2.1 29 = .ok (.aload_n 0, 1) := by decide +kernel
theorem d_M_ifTicks_30 : decode m_M_ifTicks.2.1 30 = .ok (.iload_n 1, 1) := by decide +kernel
theorem d_M_ifTicks_31 : decode m_M_ifTicks.2.1 31 = .ok (.invokevirtual 300, 3) := by decide +kernel
theorem d_M_ifTicks_34 : decode m_M_ifTicks.2.1 34 = .ok (.iload_n 2, 1) := by decide +kernel
theorem d_M_ifTicks_35 : decode m_M_ifTicks.2.1 35 = .ok (.tableswitch 123 0 6 #[41, 59, 59, 59, 81, 92, 103], 41) := by decide +kernel
theorem d_M_ifTicks_76 : decode m_M_ifTicks.2.1 76 = .ok (.aload_n 0, 1) := by decide +kernel
theorem d_M_ifTicks_77 : decode m_M_ifTicks.2.1 77 = .ok (.getfield 39, 3) := by decide +kernel
theorem d_M_ifTicks_80 : decode m_M_ifTicks.2.1 80 = .ok (.iconst 0, 1) := by decide +kernel
theorem d_M_ifTicks_81 : decode m_M_ifTicks.2.1 81 = .ok (.laload, 1) := by decide +kernel
theorem d_M_ifTicks_82 : decode m_M_ifTicks.2.1 82 = .ok (.aload_n 0, 1) := by decide +kernel
theorem d_M_ifTicks_83 : decode m_M_ifTicks.2.1 83 = .ok (.getfield 43, 3) := by decide +kernel
theorem d_M_ifTicks_86 : decode m_M_ifTicks.2.1 86 = .ok (.iconst 0, 1) := by decide +kernel
theorem d_M_ifTicks_87 : decode m_M_ifTicks.2.1 87 = .ok (.laload, 1) := by decide +kernel
theorem d_M_ifTicks_88 : decode m_M_ifTicks.2.1 88 = .ok (.lsub, 1) := by decide +kernel
theorem d_M_ifTicks_89 : decode m_M_ifTicks.2.1 89 = .ok (.l2i, 1) := by decide +kernel
theorem d_M_ifTicks_90 : decode m_M_ifTicks.2.1 90 = .ok (.istore_n 3, 1) := by decide +kernel
theorem d_M_ifTicks_91 : decode m_M_ifTicks.2.1 91 = .ok (.goto 75, 3) := by decide +kernel
theorem d_M_ifTicks_94 : decode m_M_ifTicks.2.1 94 = .ok (.aload_n 0, 1) := by decide +kernel
theorem d_M_ifTicks_95 : decode m_M_ifTicks.2.1 95 = .ok (.getfield 39, 3) := by decide +kernel
theorem d_M_ifTicks_98 : decode m_M_ifTicks.2.1 98 = .ok (.iload_n 2, 1) := by decide +kernel
theorem d_M_ifTicks_99 : decode m_M_ifTicks.2.1 99 = .ok (.iconst 1, 1) := by decide +kernel
theorem d_M_ifTicks_100 : decode m_M_ifTicks.2.1 100 = .ok (.iadd, 1) := by decide +kernel
theorem d_M_ifTicks_101 : decode m_M_ifTicks.2.1 101 = .ok (.laload, 1) := by decide +kernel
theorem d_M_ifTicks_102 : decode m_M_ifTicks.2.1 102 = .ok (.aload_n 0, 1) := by decide +kernel
theorem d_M_ifTicks_103 : decode m_M_ifTicks.2.1 103 = .ok (.getfield 43, 3) := by decide +kernel
theorem d_M_ifTicks_106 : decode m_M_ifTicks.2.1 106 = .ok (.iload_n 2, 1) := by decide +kernel
theorem d_M_ifTicks_107 : decode m_M_ifTicks.2.1 107 = .ok (.iconst 1, 1) := by decide +kernel
theorem d_M_ifTicks_108 : decode m_M_ifTicks.2.1 108 = .ok (.iadd, 1) := by decide +kernel
theorem d_M_ifTicks_109 : decode m_M_ifTicks.2.1 109 = .ok (.laload, 1) := by decide +kernel
theorem d_M_ifTicks_110 : decode m_M_ifTicks.2.1 110 = .ok (.lsub, 1) := by decide +kernel
theorem d_M_ifTicks_111 : decode m_M_ifTicks.2.1 111 = .ok (.l2i, 1) := by decide +kernel
theorem d_M_ifTicks_112 : decode m_M_ifTicks.2.1 112 = .ok (.istore_n 3, 1) := by decide +kernel
theorem d_M_ifTicks_113 : decode m_M_ifTicks.2.1 113 = .ok (.goto 53, 3) := by decide +kernel
theorem d_M_ifTicks_116 : decode m_M_ifTicks.2.1 116 = .ok (.aload_n 0, 1) := by decide +kernel
theorem d_M_ifTicks_117 : decode m_M_ifTicks.2.1 117 = .ok (.getfield 33, 3) := by decide +kernel
theorem d_M_ifTicks_120 : decode m_M_ifTicks.2.1 120 = .ok (.bipush 33, 2) := by decide +kernel
theorem d_M_ifTicks_122 : decode m_M_ifTicks.2.1 122 = .ok (.iaload, 1) := by decide +kernel
theorem d_M_ifTicks_123 : decode m_M_ifTicks.2.1 123 = .ok (.istore_n 3, 1) := by decide +kernel
theorem d_M_ifTicks_124 : decode m_M_ifTicks.2.1 124 = .ok (.goto 42, 3) := by decide +kernel
theorem d_M_ifTicks_127 : decode m_M_ifTicks.2.1 127 = .ok (.aload_n 0, 1) := by decide +kernel
theorem d_M_ifTicks_128 : decode m_M_ifTicks.2.1 128 = .ok (.getfield 33, 3) := by decide +kernel
theorem d_M_ifTicks_131 : decode m_M_ifTicks.2.1 131 = .ok (.bipush 34, 2) := by decide +kernel
theorem d_M_ifTicks_133 : decode m_M_ifTicks.2.1 133 = .ok (.iaload, 1) := by decide +kernel
theorem d_M_ifTicks_134 : decode m_M_ifTicks.2.1 134 = .ok (.istore_n 3, 1) := by decide +kernel
theorem d_M_ifTicks_135 : decode m_M_ifTicks.2.1 135 = .ok (.goto 31, 3) := by decide +kernel
theorem d_M_ifTicks_138 : decode m_M_ifTicks.2.1 138 = .ok (.aload_n 0, 1) := by decide +kernel
theorem d_M_ifTicks_139 : decode m_M_ifTicks.2.1 139 = .ok (.getfield 39, 3) := by decide +kernel
theorem d_M_ifTicks_142 : decode m_M_ifTicks.2.1 142 = .ok (.bipush 6, 2) := by decide +kernel
theorem d_M_ifTicks_144 : decode m_M_ifTicks.2.1 144 = .ok (.laload, 1) := by decide +kernel
theorem d_M_ifTicks_145 : decode m_M_ifTicks.2.1 145 = .ok (.aload_n 0, 1) := by decide +kernel
theorem d_M_ifTicks_146 : decode m_M_ifTicks.2.1 146 = .ok (.getfield 43, 3) := by decide +kernel
theorem d_M_ifTicks_149 : decode m_M_ifTicks.2.1 149 = .ok (.bipush 6, 2) := by decide +kernel
theorem d_M_ifTicks_151 : decode m_M_ifTicks.2.1 151 = .ok (.laload, 1) := by decide +kernel
theorem d_M_ifTicks_152 : decode m_M_ifTicks.2.1 152 = .ok (.lsub, 1) := by decide +kernel
theorem d_M_ifTicks_153 : decode m_M_ifTicks.2.1 153 = .ok (.l2i, 1) := by decide +kernel
theorem d_M_ifTicks_154 : decode m_M_ifTicks.2.1 154 = .ok (.istore_n 3, 1) := by decide +kernel
theorem d_M_ifTicks_155 : decode m_M_ifTicks.2.1 155 = .ok (.goto 11, 3) := by decide +kernel
theorem d_M_ifTicks_158 : decode m_M_ifTicks.2.1 158 = .ok (.aload_n 0, 1) := by decide +kernel
theorem d_M_ifTicks_159 : decode m_M_ifTicks.2.1 159 = .ok (.getfield 33, 3) := by decide +kernel
theorem d_M_ifTicks_162 : decode m_M_ifTicks.2.1 162 = .ok (.bipush 26, 2) := by decide +kernel
theorem d_M_ifTicks_164 : decode m_M_ifTicks.2.1 164 = .ok (.iaload, 1) := by decide +kernel
theorem d_M_ifTicks_165 : decode m_M_ifTicks.2.1 165 = .ok (.istore_n 3, 1) := by decide +kernel
theorem d_M_ifTicks_166 : decode m_M_ifTicks.2.1 166 = .ok (.aload_n 0, 1) := by decide +kernel
theorem d_M_ifTicks_167 : decode m_M_ifTicks.2.1 167 = .ok (.invokevirtual 303, 3) := by decide +kernel
theorem d_M_ifTicks_170 : decode m_M_ifTicks.2.1 170 = .ok (.iload_n 3, 1) := by decide +kernel
theorem d_M_ifTicks_171 : decode m_M_ifTicks.2.1 171 = .ok (.ireturn, 1) := by decide +kernel
theorem d_M_firstBy_0 : decode m_M_firstBy.2.1 0 = .ok (.aload_n 0, 1) := by decide +kernel
theorem d_M_firstBy_1 : decode m_M_firstBy.2.1 1 = .ok (.iload_n 1, 1) := by decide +kernel
theorem d_M_firstBy_2 : decode m_M_firstBy.2.1 2 = .ok (.invokevirtual 294, 3) := by decide +kernel
theorem d_M_firstBy_5 : decode m_M_firstBy.2.1 5 = .ok (.ifCond .ne 5, 3) := by decide +kernel
theorem d_M_firstBy_8 : decode m_M_firstBy.2.1 8 = .ok (.iconst (-1), 1) := by decide +kernel
theorem d_M_firstBy_9 : decode m_M_firstBy.2.1 9 = .ok (.ireturn, 1) := by decide +kernel
theorem d_M_firstBy_10 : decode m_M_firstBy.2.1 10 = .ok (.aload_n 0, 1) := by decide +kernel
theorem d_M_firstBy_11 : decode m_M_firstBy.2.1 11 = .ok (.invokevirtual 297, 3) := by decide +kernel
theorem d_M_firstBy_14 : decode m_M_firstBy.2.1 14 = .ok (.bipush (-2), 2) := by decide +kernel
theorem d_M_firstBy_16 : decode m_M_firstBy.2.1 16 = .ok (.istore_n 3, 1) := by decide +kernel
theorem d_M_firstBy_17 : decode m_M_firstBy.2.1 17 = .ok (.iconst 1, 1) := by decide +kernel
theorem d_M_firstBy_18 : decode m_M_firstBy.2.1 18 = .ok (.istore 4, 2) := by decide +kernel
theorem d_M_firstBy_20 : decode m_M_firstBy.2.1 20 = .ok (.iload 4, 2) := by decide +kernel
theorem d_M_firstBy_22 : decode m_M_firstBy.2.1 22 = .ok (.iload_n 1, 1) := by decide +kernel
theorem d_M_firstBy_23 : decode m_M_firstBy.2.1 23 = .ok (.if_icmp .gt 109, 3) := by decide +kernel
theorem d_M_firstBy_26 : decode m_M_firstBy.2.1 26 = .ok (.iload_n 3, 1) := by decide +kernel
theorem d_M_firstBy_27 : decode m_M_firstBy.2.1 27 = .ok (.bipush (-2), 2) := by decide +kernel
theorem d_M_firstBy_29 : decode m_M_firstBy.2.1 29 = .ok (.if_icmp .ne 103, 3) := by decide +kernel
theorem d_M_firstBy_32 : decode m_M_firstBy.2.1 32 = .ok (.aload_n 0, 1) := by decide +kernel
theorem d_M_firstBy_33 : decode m_M_firstBy.2.1 33 = .ok (.invokevirtual 262, 3) := by decide +kernel
theorem d_M_firstBy_36 : decode m_M_firstBy.2.1 36 = .ok (.iload_n 2, 1) := by decide +kernel
theorem d_M_firstBy_37 : decode m_M_firstBy.2.1 37 = .ok (.ifCond .ne 29, 3) := by decide +kernel
theorem d_M_firstBy_40 : decode m_M_firstBy.2.1 40 = .ok (.aload_n 0, 1) := by decide +kernel
theorem d_M_firstBy_41 : decode m_M_firstBy.2.1 41 = .ok (.getfield 39, 3) := by decide +kernel
theorem d_M_firstBy_44 : decode m_M_firstBy.2.1 44 = .ok (.bipush 6, 2) := by decide +kernel
theorem d_M_firstBy_46 : decode m_M_firstBy.2.1 46 = .ok (.laload, 1) := by decide +kernel
theorem d_M_firstBy_47 : decode m_M_firstBy.2.1 47 = .ok (.aload_n 0, 1) := by decide +kernel
theorem d_M_firstBy_48 : decode m_M_firstBy.2.1 48 = .ok (.getfield 43, 3) := by decide +kernel
theorem d_M_firstBy_51 : decode m_M_firstBy.2.1 51 = .ok (.bipush 6, 2) := by decide +kernel
theorem d_M_firstBy_53 : decode m_M_firstBy.2.1 53 = .ok (.laload, 1) := by decide +kernel
theorem d_M_firstBy_54 : decode m_M_firstBy.2.1 54 = .ok (.lcmp, 1) := by decide +kernel
theorem d_M_firstBy_55 : decode m_M_firstBy.2.1 55 = .ok (.ifCond .le 7, 3) := by decide +kernel
theorem d_M_firstBy_58 : decode m_M_firstBy.2.1 58 = .ok (.iconst 1, 1) := by decide +kernel
theorem d_M_firstBy_59 : decode m_M_firstBy.2.1 59 = .ok (.goto 52, 3) := by decide +kernel
theorem d_M_firstBy_62 : decode m_M_firstBy.2.1 62 = .ok (.iconst 0, 1) := by decide +kernel
theorem d_M_firstBy_63 : decode m_M_firstBy.2.1 63 = .ok (.goto 48, 3) := by decide +kernel
theorem d_M_firstBy_66 : decode m_M_firstBy.2.1 66 = .ok (.iload_n 2, 1) := by decide +kernel
theorem d_M_firstBy_67 : decode m_M_firstBy.2.1 67 = .ok (.iconst 1, 1) := by decide +kernel
theorem d_M_firstBy_68 : decode m_M_firstBy.2.1 68 = .ok (.if_icmp .ne 22, 3) := by decide +kernel
theorem d_M_firstBy_71 : decode m_M_firstBy.2.1 71 = .ok (.aload_n 0, 1) := by decide +kernel
theorem d_M_firstBy_72 : decode m_M_firstBy.2.1 72 = .ok (.getfield 33, 3) := by decide +kernel
theorem d_M_firstBy_75 : decode m_M_firstBy.2.1 75 = .ok (.bipush 34, 2) := by decide +kernel
theorem d_M_firstBy_77 : decode m_M_firstBy.2.1 77 = .ok (.iaload, 1) := by decide +kernel
theorem d_M_firstBy_78 : decode m_M_firstBy.2.1 78 = .ok (.iconst 2, 1) := by decide +kernel
theorem d_M_firstBy_79 : decode m_M_firstBy.2.1 79 = .ok (.if_icmp .ne 7, 3) := by decide +kernel
theorem d_M_firstBy_82 : decode m_M_firstBy.2.1 82 = .ok (.iconst 1, 1) := by decide +kernel
theorem d_M_firstBy_83 : decode m_M_firstBy.2.1 83 = .ok (.goto 28, 3) := by decide +kernel
theorem d_M_firstBy_86 : decode m_M_firstBy.2.1 86 = .ok (.iconst 0, 1) := by decide +kernel
theorem d_M_firstBy_87 : decode m_M_firstBy.2.1 87 = .ok (.goto 24, 3) := by decide +kernel
theorem d_M_firstBy_90 : decode m_M_firstBy.2.1 90 = .ok (.aload_n 0, 1) := by decide +kernel
theorem d_M_firstBy_91 : decode m_M_firstBy.2.1 91 = .ok (.getfield 33, 3) := by decide +kernel
theorem d_M_firstBy_94 : decode m_M_firstBy.2.1 94 = .ok (.bipush 33, 2) := by decide +kernel
theorem d_M_firstBy_96 : decode m_M_firstBy.2.1 96 = .ok (.iaload, 1) := by decide +kernel
theorem d_M_firstBy_97 : decode m_M_firstBy.2.1 97 = .ok (.aload_n 0, 1) := by decide +kernel
theorem d_M_firstBy_98 : decode m_M_firstBy.2.1 98 = .ok (.getfield 33, 3) := by decide +kernel
theorem d_M_firstBy_101 : decode m_M_firstBy.2.1 101 = .ok (.iconst 0, 1) := by decide +kernel
theorem d_M_firstBy_102 : decode m_M_firstBy.2.1 102 = .ok (.iaload, 1) := by decide +kernel
theorem d_M_firstBy_103 : decode m_M_firstBy.2.1 103 = .ok (.if_icmp .ne 7, 3) := by decide +kernel
theorem d_M_firstBy_106 : decode m_M_firstBy.2.1 106 = .ok (.iconst 1, 1) := by decide +kernel
theorem d_M_firstBy_107 : decode m_M_firstBy.2.1 107 = .ok (.goto 4, 3) := by decide +kernel
theorem d_M_firstBy_110 : decode m_M_firstBy.2.1 110 = .ok (.iconst 0, 1) := by decide +kernel
theorem d_M_firstBy_111 : decode m_M_firstBy.2.1 111 = .ok (.istore 5, 2) := by decide +kernel
theorem d_M_firstBy_113 : decode m_M_firstBy.2.1 113 = .ok (.iload 5, 2) := by decide +kernel
theorem d_M_firstBy_115 : decode m_M_firstBy.2.1 115 = .ok (.ifCond .eq 8, 3) := by decide +kernel
theorem d_M_firstBy_118 : decode m_M_firstBy.2.1 118 = .ok (.iload 4, 2) := by decide +kernel
theorem d_M_firstBy_120 : decode m_M_firstBy.2.1 120 = .ok (.goto 5, 3) := by decide +kernel
theorem d_M_firstBy_123 : decode m_M_firstBy.2.1 123 = .ok (.bipush (-2), 2) := by decide +kernel
theorem d_M_firstBy_125 : decode m_M_firstBy.2.1 125 = .ok (.istore_n 3, 1) := by decide +kernel
theorem d_M_firstBy_126 : decode m_M_firstBy.2.1 126 = .ok (.iinc 4 1, 3) := by decide +kernel
theorem d_M_firstBy_129 : decode m_M_firstBy.2.1 129 = .ok (.goto (-109), 3) := by decide +kernel
theorem d_M_firstBy_132 : decode m_M_firstBy.2.1 132 = .ok (.aload_n 0, 1) := by decide +kernel
theorem d_M_firstBy_133 : decode m_M_firstBy.2.1 133 = .ok (.invokevirtual 303, 3) := by decide +kernel
theorem d_M_firstBy_136 : decode m_M_firstBy.2.1 136 = .ok (.iload_n 3, 1) := by decide +kernel
theorem d_M_firstBy_137 : decode m_M_firstBy.2.1 137 = .ok (.ireturn, 1) := by decide +kernel
theorem d_M_firstSeen_0 : decode m_M_firstSeen.2.1 0 = .ok (.aload_n 0, 1) := by decide +kernel
theorem d_M_firstSeen_1 : decode m_M_firstSeen.2.1 1 = .ok (.iconst 0, 1) := by decide +kernel
theorem d_M_firstSeen_2 : decode m_M_firstSeen.2.1 2 = .ok (.putfield 55, 3) := by decide +kernel
theorem d_M_firstSeen_5 : decode m_M_firstSeen.2.1 5 = .ok (.aload_n 0, 1) := by decide +kernel
theorem d_M_firstSeen_6 : decode m_M_firstSeen.2.1 6 = .ok (.iload_n 1, 1) := by decide +kernel
theorem d_M_firstSeen_7 : decode m_M_firstSeen.2.1 7 = .ok (.iconst 0, 1) := by decide +kernel
theorem d_M_firstSeen_8 : decode m_M_firstSeen.2.1 8 = .ok (.invokevirtual 306, 3) := by decide +kernel
theorem d_M_firstSeen_11 : decode m_M_firstSeen.2.1 11 = .ok (.ireturn, 1) := by decide +kernel
theorem d_M_firstFloat_0 : decode m_M_firstFloat.2.1 0 = .ok (.aload_n 0, 1) := by decide +kernel
theorem d_M_firstFloat_1 : decode m_M_firstFloat.2.1 1 = .ok (.iconst 0, 1) := by decide +kernel
theorem d_M_firstFloat_2 : decode m_M_firstFloat.2.1 2 = .ok (.putfield 55, 3) := by decide +kernel
theorem d_M_firstFloat_5 : decode m_M_firstFloat.2.1 5 = .ok (.aload_n 0, 1) := by decide +kernel
theorem d_M_firstFloat_6 : decode m_M_firstFloat.2.1 6 = .ok (.iload_n 1, 1) := by decide +kernel
theorem d_M_firstFloat_7 : decode m_M_firstFloat.2.1 7 = .ok (.iconst 1, 1) := by decide +kernel
theorem d_M_firstFloat_8 : decode m_M_firstFloat.2.1 8 = .ok (.invokevirtual 306, 3) := by decide +kernel
theorem d_M_firstFloat_11 : decode m_M_firstFloat.2.1 11 = .ok (.ireturn, 1) := by decide +kernel
theorem d_M_firstFull_0 : decode m_M_firstFull.2.1 0 = .ok (.aload_n 0, 1) := by decide +kernel
theorem d_M_firstFull_1 : decode m_M_firstFull.2.1 1 = .ok (.iconst 0, 1) := by decide +kernel
theorem d_M_firstFull_2 : decode m_M_firstFull.2.1 2 = .ok (.putfield 55, 3) := by decide +kernel
theorem d_M_firstFull_5 : decode m_M_firstFull.2.1 5 = .ok (.aload_n 0, 1) := by decide +kernel
theorem d_M_firstFull_6 : decode m_M_firstFull.2.1 6 = .ok (.iload_n 1, 1) := by decide +kernel
theorem d_M_firstFull_7 : decode m_M_firstFull.2.1 7 = .ok (.iconst 2, 1) := by decide +kernel
theorem d_M_firstFull_8 : decode m_M_firstFull.2.1 8 = .ok (.invokevirtual 306, 3) := by decide +kernel
theorem d_M_firstFull_11 : decode m_M_firstFull.2.1 11 = .ok (.ireturn, 1) := by decide +kernel
theorem d_M_seenIn_0 : decode m_M_seenIn.2.1 0 = .ok (.aload_n 0, 1) := by decide +kernel
theorem d_M_seenIn_1 : decode m_M_seenIn.2.1 1 = .ok (.getfield 33, 3) := by decide +kernel
theorem d_M_seenIn_4 : decode m_M_seenIn.2.1 4 = .ok (.bipush 39, 2) := by decide +kernel
theorem d_M_seenIn_6 : decode m_M_seenIn.2.1 6 = .ok (.iaload, 1) := by decide +kernel
theorem d_M_seenIn_7 : decode m_M_seenIn.2.1 7 = .ok (.istore 4, 2) := by decide +kernel
theorem d_M_seenIn_9 : decode m_M_seenIn.2.1 9 = .ok (.aload_n 0, 1) := by decide +kernel
theorem d_M_seenIn_10 : decode m_M_seenIn.2.1 10 = .ok (.getfield 33, 3) := by decide +kernel
theorem d_M_seenIn_13 : decode m_M_seenIn.2.1 13 = .ok (.bipush 41, 2) := by decide +kernel
theorem d_M_seenIn_15 : decode m_M_seenIn.2.1 15 = .ok (.iaload, 1) := by decide +kernel
theorem d_M_seenIn_16 : decode m_M_seenIn.2.1 16 = .ok (.istore 5, 2) := by decide +kernel
theorem d_M_seenIn_18 : decode m_M_seenIn.2.1 18 = .ok (.iconst 1, 1) := by decide +kernel
theorem d_M_seenIn_19 : decode m_M_seenIn.2.1 19 = .ok (.istore 6, 2) := by decide +kernel
theorem d_M_seenIn_21 : decode m_M_seenIn.2.1 21 = .ok (.iload 6, 2) := by decide +kernel
theorem d_M_seenIn_23 : decode m_M_seenIn.2.1 23 = .ok (.iload_n 1, 1) := by decide +kernel
theorem d_M_seenIn_24 : decode m_M_seenIn.2.1 24 = .ok (.if_icmp .gt 53, 3) := by decide +kernel
theorem d_M_seenIn_27 : decode m_M_seenIn.2.1 27 = .ok (.aload_n 0, 1) := by decide +kernel
theorem d_M_seenIn_28 : decode m_M_seenIn.2.1 28 = .ok (.iload 4, 2) := by decide +kernel
theorem d_M_seenIn_30 : decode m_M_seenIn.2.1 30 = .ok (.iload_n 2, 1) := by decide +kernel
theorem d_M_seenIn_31 : decode m_M_seenIn.2.1 31 = .ok (.iload_n 3, 1) := by decide +kernel
theorem d_M_seenIn_32 : decode m_M_seenIn.2.1 32 = .ok (.invokevirtual 237, 3) := by decide +kernel
theorem d_M_seenIn_35 : decode m_M_seenIn.2.1 35 = .ok (.istore 4, 2) := by decide +kernel
theorem d_M_seenIn_37 : decode m_M_seenIn.2.1 37 = .ok (.aload_n 0, 1) := by decide +kernel
theorem d_M_seenIn_38 : decode m_M_seenIn.2.1 38 = .ok (.iload 4, 2) := by decide +kernel
theorem d_M_seenIn_40 : decode m_M_seenIn.2.1 40 = .ok (.invokevirtual 241, 3) := by decide +kernel
theorem d_M_seenIn_43 : decode m_M_seenIn.2.1 43 = .ok (.ifCond .eq 10, 3) := by decide +kernel
theorem d_M_seenIn_46 : decode m_M_seenIn.2.1 46 = .ok (.iload 5, 2) := by decide +kernel
theorem d_M_seenIn_48 : decode m_M_seenIn.2.1 48 = .ok (.iconst 1, 1) := by decide +kernel
theorem d_M_seenIn_49 : decode m_M_seenIn.2.1 49 = .ok (.iadd, 1) := by decide +kernel
theorem d_M_seenIn_50 : decode m_M_seenIn.2.1 50 = .ok (.goto 4, 3) := by decide +kernel
theorem d_M_seenIn_53 : decode m_M_seenIn.2.1 53 = .ok (.iconst 0, 1) := by decide +kernel
theorem d_M_seenIn_54 : decode m_M_seenIn.2.1 54 = .ok (.istore 5, 2) := by decide +kernel
theorem d_M_seenIn_56 : decode m_M_seenIn.2.1 56 = .ok (.iload 5, 2) := by decide +kernel
theorem d_M_seenIn_58 : decode m_M_seenIn.2.1 58 = .ok (.aload_n 0, 1) := by decide +kernel
theorem d_M_seenIn_59 : decode m_M_seenIn.2.1 59 = .ok (.getfield 33, 3) := by decide +kernel
theorem d_M_seenIn_62 : decode m_M_seenIn.2.1 62 = .ok (.bipush 8, 2) := by decide +kernel
theorem d_M_seenIn_64 : decode m_M_seenIn.2.1 64 = .ok (.iaload, 1) := by decide +kernel
theorem d_M_seenIn_65 : decode m_M_seenIn.2.1 65 = .ok (.if_icmp .lt 6, 3) := by decide +kernel
theorem d_M_seenIn_68 : decode m_M_seenIn.2.1 68 = .ok (.iload 6, 2) := by decide +kernel
theorem d_M_seenIn_70 : decode m_M_seenIn.2.1 70 = .ok (.ireturn, 1) := by decide +kernel
theorem d_M_seenIn_71 : decode m_M_seenIn.2.1 71 = .ok (.iinc 6 1, 3) := by decide +kernel
theorem d_M_seenIn_74 : decode m_M_seenIn.2.1 74 = .ok (.goto (-53), 3) := by decide +kernel
theorem d_M_seenIn_77 : decode m_M_seenIn.2.1 77 = .ok (.bipush (-2), 2) := by decide +kernel
theorem d_M_seenIn_79 : decode m_M_seenIn.2.1 79 = .ok (.ireturn, 1) := by decide +kernel
theorem d_M_isSome_0 : decode m_M_isSome.2.1 0 = .ok (.iload_n 0, 1) := by decide +kernel
theorem d_M_isSome_1 : decode m_M_isSome.2.1 1 = .ok (.iconst 1, 1) := by decide +kernel
theorem d_M_isSome_2 : decode m_M_isSome.2.1 2 = .ok (.if_icmp .lt 14, 3) := by decide +kernel
theorem d_M_isSome_5 : decode m_M_isSome.2.1 5 = .ok (.iload_n 0, 1) := by decide +kernel
theorem d_M_isSome_6 : decode m_M_isSome.2.1 6 = .ok (.sipush 200, 3) := by decide +kernel
theorem d_M_isSome_9 : decode m_M_isSome.2.1 9 = .ok (.if_icmp .gt 7, 3) := by decide +kernel
theorem d_M_isSome_12 : decode m_M_isSome.2.1 12 = .ok (.iconst 1, 1) := by decide +kernel
theorem d_M_isSome_13 : decode m_M_isSome.2.1 13 = .ok (.goto 4, 3) := by decide +kernel
theorem d_M_isSome_16 : decode m_M_isSome.2.1 16 = .ok (.iconst 0, 1) := by decide +kernel
theorem d_M_isSome_17 : decode m_M_isSome.2.1 17 = .ok (.ireturn, 1) := by decide +kernel
theorem d_M_leastPush_0 : decode m_M_leastPush.2.1 0 = .ok (.aload_n 0, 1) := by decide +kernel
theorem d_M_leastPush_1 : decode m_M_leastPush.2.1 1 = .ok (.iconst 0, 1) := by decide +kernel
theorem d_M_leastPush_2 : decode m_M_leastPush.2.1 2 = .ok (.putfield 55, 3) := by decide +kernel
theorem d_M_leastPush_5 : decode m_M_leastPush.2.1 5 = .ok (.iload_n 1, 1) := by decide +kernel
theorem d_M_leastPush_6 : decode m_M_leastPush.2.1 6 = .ok (.invokestatic 309, 3) := by decide +kernel
theorem d_M_leastPush_9 : decode m_M_leastPush.2.1 9 = .ok (.ifCond .ne 5, 3) := by decide +kernel
theorem d_M_leastPush_12 : decode m_M_leastPush.2.1 12 = .ok (.iconst (-1), 1) := by decide +kernel
theorem d_M_leastPush_13 : decode m_M_leastPush.2.1 13 = .ok (.ireturn, 1) := by decide +kernel
theorem d_M_leastPush_14 : decode m_M_leastPush.2.1 14 = .ok (.iconst 0, 1) := by decide +kernel
theorem d_M_leastPush_15 : decode m_M_leastPush.2.1 15 = .ok (.istore_n 2, 1) := by decide +kernel
theorem d_M_leastPush_16 : decode m_M_leastPush.2.1 16 = .ok (.iload_n 2, 1) := by decide +kernel
theorem d_M_leastPush_17 : decode m_M_leastPush.2.1 17 = .ok (.sipush 1000, 3) := by decide +kernel
theorem d_M_leastPush_20 : decode m_M_leastPush.2.1 20 = .ok (.if_icmp .gt 29, 3) := by decide +kernel
theorem d_M_leastPush_23 : decode m_M_leastPush.2.1 23 = .ok (.aload_n 0, 1) := by decide +kernel
theorem d_M_leastPush_24 : decode m_M_leastPush.2.1 24 = .ok (.iload_n 1, 1) := by decide +kernel
theorem d_M_leastPush_25 : decode m_M_leastPush.2.1 25 = .ok (.aload_n 0, 1) := by decide +kernel
theorem d_M_leastPush_26 : decode m_M_leastPush.2.1 26 = .ok (.getfield 33, 3) := by decide +kernel
theorem d_M_leastPush_29 : decode m_M_leastPush.2.1 29 = .ok (.bipush 38, 2) := by decide +kernel
theorem d_M_leastPush_31 : decode m_M_leastPush.2.1 31 = .ok (.iaload, 1) := by decide +kernel
theorem d_M_leastPush_32 : decode m_M_leastPush.2.1 32 = .ok (.iload_n 2, 1) := by decide +kernel
theorem d_M_leastPush_33 : decode m_M_leastPush.2.1 33 = .ok (.invokevirtual 312, 3) := by decide +kernel
theorem d_M_leastPush_36 : decode m_M_leastPush.2.1 36 = .ok (.bipush (-2), 2) := by decide +kernel
theorem d_M_leastPush_38 : decode m_M_leastPush.2.1 38 = .ok (.if_icmp .eq 5, 3) := by decide +kernel
theorem d_M_leastPush_41 : decode m_M_leastPush.2.1 41 = .ok (.iload_n 2, 1) := by decide +kernel
theorem d_M_leastPush_42 : decode m_M_leastPush.2.1 42 = .ok (.ireturn, 1) := by decide +kernel
theorem d_M_leastPush_43 : decode m_M_leastPush.2.1 43 = .ok (.iinc 2 1, 3) := by decide +kernel
theorem d_M_leastPush_46 : decode m_M_leastPush.2.1 46 = .ok (.goto (-30), 3) := by decide +kernel
theorem d_M_leastPush_49 : decode m_M_leastPush.2.1 49 = .ok (.bipush (-2), 2) := by decide +kernel
theorem d_M_leastPush_51 : decode m_M_leastPush.2.1 51 = .ok (.ireturn, 1) := by decide +kernel
theorem d_M_seenBy_0 : decode m_M_seenBy.2.1 0 = .ok (.aload_n 0, 1) := by decide +kernel
theorem d_M_seenBy_1 : decode m_M_seenBy.2.1 1 = .ok (.iconst 0, 1) := by decide +kernel
theorem d_M_seenBy_2 : decode m_M_seenBy.2.1 2 = .ok (.putfield 55, 3) := by decide +kernel
theorem d_M_seenBy_5 : decode m_M_seenBy.2.1 5 = .ok (.iload_n 1, 1) := by decide +kernel
theorem d_M_seenBy_6 : decode m_M_seenBy.2.1 6 = .ok (.ldc 145, 2) := by decide +kernel
theorem d_M_seenBy_8 : decode m_M_seenBy.2.1 8 = .ok (.if_icmp .lt 32, 3) := by decide +kernel
theorem d_M_seenBy_11 : decode m_M_seenBy.2.1 11 = .ok (.iload_n 1, 1) := by decide +kernel
theorem d_M_seenBy_12 : decode m_M_seenBy.2.1 12 = .ok (.ldc 146, 2) := by decide +kernel
theorem d_M_seenBy_14 : decode m_M_seenBy.2.1 14 = .ok (.if_icmp .gt 26, 3) := by decide +kernel
theorem d_M_seenBy_17 : decode m_M_seenBy.2.1 17 = .ok (.iload_n 2, 1) := by decide +kernel
theorem d_M_seenBy_18 : decode m_M_seenBy.2.1 18 = .ok (.invokestatic 309, 3) := by decide +kernel
theorem d_M_seenBy_21 : decode m_M_seenBy.2.1 21 = .ok (.ifCond .eq 19, 3) := by decide +kernel
theorem d_M_seenBy_24 : decode m_M_seenBy.2.1 24 = .ok (.aload_n 0, 1) := by decide +kernel
theorem d_M_seenBy_25 : decode m_M_seenBy.2.1 25 = .ok (.iload_n 2, 1) := by decide +kernel
theorem d_M_seenBy_26 : decode m_M_seenBy.2.1 26 = .ok (.iload_n 1, 1) := by decide +kernel
theorem d_M_seenBy_27 : decode m_M_seenBy.2.1 27 = .ok (.aload_n 0, 1) := by decide +kernel
theorem d_M_seenBy_28 : decode m_M_seenBy.2.1 28 = .ok (.getfield 33, 3) := by decide +kernel
theorem d_M_seenBy_31 : decode m_M_seenBy.2.1 31 = .ok (.bipush 9, 2) := by decide +kernel
theorem d_M_seenBy_33 : decode m_M_seenBy.2.1 33 = .ok (.iaload, 1) := by decide +kernel
theorem d_M_seenBy_34 : decode m_M_seenBy.2.1 34 = .ok (.invokevirtual 312, 3) := by decide +kernel
theorem d_M_seenBy_37 : decode m_M_seenBy.2.1 37 = .ok (.goto 4, 3) := by decide +kernel
theorem d_M_seenBy_40 : decode m_M_seenBy.2.1 40 = .ok (.iconst (-1), 1) := by decide +kernel
theorem d_M_seenBy_41 : decode m_M_seenBy.2.1 41 = .ok (.ireturn, 1) := by decide +kernel
theorem d_M_blind_0 : decode m_M_blind.2.1 0 = .ok (.aload_n 0, 1) := by decide +kernel
theorem d_M_blind_1 : decode m_M_blind.2.1 1 = .ok (.iconst 0, 1) := by decide +kernel
theorem d_M_blind_2 : decode m_M_blind.2.1 2 = .ok (.putfield 55, 3) := by decide +kernel
theorem d_M_blind_5 : decode m_M_blind.2.1 5 = .ok (.iload_n 1, 1) := by decide +kernel
theorem d_M_blind_6 : decode m_M_blind.2.1 6 = .ok (.invokestatic 309, 3) := by decide +kernel
theorem d_M_blind_9 : decode m_M_blind.2.1 9 = .ok (.ifCond .ne 5, 3) := by decide +kernel
theorem d_M_blind_12 : decode m_M_blind.2.1 12 = .ok (.iconst (-1), 1) := by decide +kernel
theorem d_M_blind_13 : decode m_M_blind.2.1 13 = .ok (.ireturn, 1) := by decide +kernel
theorem d_M_blind_14 : decode m_M_blind.2.1 14 = .ok (.iconst 0, 1) := by decide +kernel
theorem d_M_blind_15 : decode m_M_blind.2.1 15 = .ok (.istore_n 2, 1) := by decide +kernel
theorem d_M_blind_16 : decode m_M_blind.2.1 16 = .ok (.ldc 145, 2) := by decide +kernel
theorem d_M_blind_18 : decode m_M_blind.2.1 18 = .ok (.istore_n 3, 1) := by decide +kernel
theorem d_M_blind_19 : decode m_M_blind.2.1 19 = .ok (.iload_n 3, 1) := by decide +kernel
theorem d_M_blind_20 : decode m_M_blind.2.1 20 = .ok (.ldc 146, 2) := by decide +kernel
theorem d_M_blind_22 : decode m_M_blind.2.1 22 = .ok (.if_icmp .gt 35, 3) := by decide +kernel
theorem d_M_blind_25 : decode m_M_blind.2.1 25 = .ok (.iload_n 2, 1) := by decide +kernel
theorem d_M_blind_26 : decode m_M_blind.2.1 26 = .ok (.aload_n 0, 1) := by decide +kernel
theorem d_M_blind_27 : decode m_M_blind.2.1 27 = .ok (.iload_n 1, 1) := by decide +kernel
theorem d_M_blind_28 : decode m_M_blind.2.1 28 = .ok (.iload_n 3, 1) := by decide +kernel
theorem d_M_blind_29 : decode m_M_blind.2.1 29 = .ok (.aload_n 0, 1) := by decide +kernel
theorem d_M_blind_30 : decode m_M_blind.2.1 30 = .ok (.getfield 33, 3) := by decide +kernel
theorem d_M_blind_33 : decode m_M_blind.2.1 33 = .ok (.bipush 9, 2) := by decide +kernel
theorem d_M_blind_35 : decode m_M_blind.2.1 35 = .ok (.iaload, 1) := by decide +kernel
theorem d_M_blind_36 : decode m_M_blind.2.1 36 = .ok (.invokevirtual 312, 3) := by decide +kernel
theorem d_M_blind_39 : decode m_M_blind.2.1 39 = .ok (.bipush (-2), 2) := by decide +kernel
theorem d_M_blind_41 : decode m_M_blind.2.1 41 = .ok (.if_icmp .ne 7, 3) := by decide +kernel
theorem d_M_blind_44 : decode m_M_blind.2.1 44 = .ok (.iconst 1, 1) := by decide +kernel
theorem d_M_blind_45 : decode m_M_blind.2.1 45 = .ok (.goto 4, 3) := by decide +kernel
theorem d_M_blind_48 : decode m_M_blind.2.1 48 = .ok (.iconst 0, 1) := by decide +kernel
theorem d_M_blind_49 : decode m_M_blind.2.1 49 = .ok (.iadd, 1) := by decide +kernel
theorem d_M_blind_50 : decode m_M_blind.2.1 50 = .ok (.istore_n 2, 1) := by decide +kernel
theorem d_M_blind_51 : decode m_M_blind.2.1 51 = .ok (.iinc 3 100, 3) := by decide +kernel
theorem d_M_blind_54 : decode m_M_blind.2.1 54 = .ok (.goto (-35), 3) := by decide +kernel
theorem d_M_blind_57 : decode m_M_blind.2.1 57 = .ok (.iload_n 2, 1) := by decide +kernel
theorem d_M_blind_58 : decode m_M_blind.2.1 58 = .ok (.ireturn, 1) := by decide +kernel
theorem d_M_givenBy_0 : decode m_M_givenBy.2.1 0 = .ok (.aload_n 0, 1) := by decide +kernel
theorem d_M_givenBy_1 : decode m_M_givenBy.2.1 1 = .ok (.invokevirtual 297, 3) := by decide +kernel
theorem d_M_givenBy_4 : decode m_M_givenBy.2.1 4 = .ok (.iload_n 2, 1) := by decide +kernel
theorem d_M_givenBy_5 : decode m_M_givenBy.2.1 5 = .ok (.ifCond .ne 22, 3) := by decide +kernel
theorem d_M_givenBy_8 : decode m_M_givenBy.2.1 8 = .ok (.aload_n 0, 1) := by decide +kernel
theorem d_M_givenBy_9 : decode m_M_givenBy.2.1 9 = .ok (.getfield 33, 3) := by decide +kernel
theorem d_M_givenBy_12 : decode m_M_givenBy.2.1 12 = .ok (.bipush 12, 2) := by decide +kernel
theorem d_M_givenBy_14 : decode m_M_givenBy.2.1 14 = .ok (.iload_n 3, 1) := by decide +kernel
theorem d_M_givenBy_15 : decode m_M_givenBy.2.1 15 = .ok (.iastore, 1) := by decide +kernel
theorem d_M_givenBy_16 : decode m_M_givenBy.2.1 16 = .ok (.aload_n 0, 1) := by decide +kernel
theorem d_M_givenBy_17 : decode m_M_givenBy.2.1 17 = .ok (.getfield 33, 3) := by decide +kernel
theorem d_M_givenBy_20 : decode m_M_givenBy.2.1 20 = .ok (.bipush 28, 2) := by decide +kernel
theorem d_M_givenBy_22 : decode m_M_givenBy.2.1 22 = .ok (.iload_n 3, 1) := by decide +kernel
theorem d_M_givenBy_23 : decode m_M_givenBy.2.1 23 = .ok (.iastore, 1) := by decide +kernel
theorem d_M_givenBy_24 : decode m_M_givenBy.2.1 24 = .ok (.goto 31, 3) := by decide +kernel
theorem d_M_givenBy_27 : decode m_M_givenBy.2.1 27 = .ok (.iload_n 2, 1) := by decide +kernel
theorem d_M_givenBy_28 : decode m_M_givenBy.2.1 28 = .ok (.iconst 1, 1) := by decide +kernel
theorem d_M_givenBy_29 : decode m_M_givenBy.2.1 29 = .ok (.if_icmp .ne 18, 3) := by decide +kernel
theorem d_M_givenBy_32 : decode m_M_givenBy.2.1 32 = .ok (.aload_n 0, 1) := by decide +kernel
theorem d_M_givenBy_33 : decode m_M_givenBy.2.1 33 = .ok (.getfield 33, 3) := by decide +kernel
theorem d_M_givenBy_36 : decode m_M_givenBy.2.1 36 = .ok (.bipush 14, 2) := by decide +kernel
theorem d_M_givenBy_38 : decode m_M_givenBy.2.1 38 = .ok (.iload_n 3, 1) := by decide +kernel
theorem d_M_givenBy_39 : decode m_M_givenBy.2.1 39 = .ok (.iastore, 1) := by decide +kernel
theorem d_M_givenBy_40 : decode m_M_givenBy.2.1 40 = .ok (.aload_n 0, 1) := by decide +kernel
theorem d_M_givenBy_41 : decode m_M_givenBy.2.1 41 = .ok (.invokevirtual 229, 3) := by decide +kernel
theorem d_M_givenBy_44 : decode m_M_givenBy.2.1 44 = .ok (.goto 11, 3) := by decide +kernel
theorem d_M_givenBy_47 : decode m_M_givenBy.2.1 47 = .ok (.aload_n 0, 1) := by decide +kernel
theorem d_M_givenBy_48 : decode m_M_givenBy.2.1 48 = .ok (.getfield 33, 3) := by decide +kernel
theorem d_M_givenBy_51 : decode m_M_givenBy.2.1 51 = .ok (.bipush 17, 2) := by decide +kernel
theorem d_M_givenBy_53 : decode m_M_givenBy.2.1 53 = .ok (.iload_n 3, 1) := by decide +kernel
theorem d_M_givenBy_54 : decode m_M_givenBy.2.1 54 = .ok (.iastore, 1) := by decide +kernel
theorem d_M_givenBy_55 : decode m_M_givenBy.2.1 55 = .ok (.aload_n 0, 1) := by decide +kernel
theorem d_M_givenBy_56 : decode m_M_givenBy.2.1 56 = .ok (.iload_n 1, 1) := by decide +kernel
theorem d_M_givenBy_57 : decode m_M_givenBy.2.1 57 = .ok (.invokevirtual 300, 3) := by decide +kernel
theorem d_M_givenBy_60 : decode m_M_givenBy.2.1 60 = .ok (.aload_n 0, 1) := by decide +kernel
theorem d_M_givenBy_61 : decode m_M_givenBy.2.1 61 = .ok (.getfield 39, 3) := by decide +kernel
theorem d_M_givenBy_64 : decode m_M_givenBy.2.1 64 = .ok (.iconst 0, 1) := by decide +kernel
theorem d_M_givenBy_65 : decode m_M_givenBy.2.1 65 = .ok (.laload, 1) := by decide +kernel
theorem d_M_givenBy_66 : decode m_M_givenBy.2.1 66 = .ok (.aload_n 0, 1) := by decide +kernel
theorem d_M_givenBy_67 : decode m_M_givenBy.2.1 67 = .ok (.getfield 43, 3) := by decide +kernel
theorem d_M_givenBy_70 : decode m_M_givenBy.2.1 70 = .ok (.iconst 0, 1) := by decide +kernel
theorem d_M_givenBy_71 : decode m_M_givenBy.2.1 71 = .ok (.laload, 1) := by decide +kernel
theorem d_M_givenBy_72 : decode m_M_givenBy.2.1 72 = .ok (.lsub, 1) := by decide +kernel
theorem d_M_givenBy_73 : decode m_M_givenBy.2.1 73 = .ok (.lstore 4, 2) := by decide +kernel
theorem d_M_givenBy_75 : decode m_M_givenBy.2.1 75 = .ok (.aload_n 0, 1) := by decide +kernel
theorem d_M_givenBy_76 : decode m_M_givenBy.2.1 76 = .ok (.invokevirtual 303, 3) := by decide +kernel
theorem d_M_givenBy_79 : decode m_M_givenBy.2.1 79 = .ok (.lload 4, 2) := by decide +kernel
theorem d_M_givenBy_81 : decode m_M_givenBy.2.1 81 = .ok (.lreturn, 1) := by decide +kernel
theorem d_M_bestStep_0 : decode m_M_bestStep.2.1 0 = .ok (.aload_n 0, 1) := by decide +kernel
theorem d_M_bestStep_1 : decode m_M_bestStep.2.1 1 = .ok (.iconst 0, 1) := by decide +kernel
theorem d_M_bestStep_2 : decode m_M_bestStep.2.1 2 = .ok (.putfield 55, 3) := by decide +kernel
theorem d_M_bestStep_5 : decode m_M_bestStep.2.1 5 = .ok (.aload_n 0, 1) := by decide +kernel
theorem d_M_bestStep_6 : decode m_M_bestStep.2.1 6 = .ok (.iload_n 1, 1) := by decide +kernel
theorem d_M_bestStep_7 : decode m_M_bestStep.2.1 7 = .ok (.invokevirtual 294, 3) := by decide +kernel
theorem d_M_bestStep_10 : decode m_M_bestStep.2.1 10 = .ok (.ifCond .ne 5, 3) := by decide +kernel
theorem d_M_bestStep_13 : decode m_M_bestStep.2.1 13 = .ok (.iconst (-1), 1) := by decide +kernel
theorem d_M_bestStep_14 : decode m_M_bestStep.2.1 14 = .ok (.ireturn, 1) := by decide +kernel
theorem d_M_bestStep_15 : decode m_M_bestStep.2.1 15 = .ok (.iconst (-1), 1) := by decide +kernel
theorem d_M_bestStep_16 : decode m_M_bestStep.2.1 16 = .ok (.istore_n 2, 1) := by decide +kernel
theorem d_M_bestStep_17 : decode m_M_bestStep.2.1 17 = .ok (.ldc2_w 285, 3) := by decide +kernel
theorem d_M_bestStep_20 : decode m_M_bestStep.2.1 20 = .ok (.lstore_n 3, 1) := by decide +kernel
theorem d_M_bestStep_21 : decode m_M_bestStep.2.1 21 = .ok (.iconst 1, 1) := by decide +kernel
theorem d_M_bestStep_22 : decode m_M_bestStep.2.1 22 = .ok (.istore 5, 2) := by decide +kernel
theorem d_M_bestStep_24 : decode m_M_bestStep.2.1 24 = .ok (.iload 5, 2) := by decide +kernel
theorem d_M_bestStep_26 : decode m_M_bestStep.2.1 26 = .ok (.bipush 64, 2) := by decide +kernel
theorem d_M_bestStep_28 : decode m_M_bestStep.2.1 28 = .ok (.if_icmp .gt 38, 3) := by decide +kernel
theorem d_M_bestStep_31 : decode m_M_bestStep.2.1 31 = .ok (.aload_n 0, 1) := by decide +kernel
theorem d_M_bestStep_32 : decode m_M_bestStep.2.1 32 = .ok (.iload_n 1, 1) := by decide +kernel
theorem d_M_bestStep_33 : decode m_M_bestStep.2.1 33 = .ok (.iconst 0, 1) := by decide +kernel
theorem d_M_bestStep_34 : decode m_M_bestStep.2.1 34 = .ok (.iload 5, 2) := by decide +kernel
theorem d_M_bestStep_36 : decode m_M_bestStep.2.1 36 = .ok (.invokevirtual 315, 3) := by decide +kernel
theorem d_M_bestStep_39 : decode m_M_bestStep.2.1 39 = .ok (.lstore 6, 2) := by decide +kernel
theorem d_M_bestStep_41 : decode m_M_bestStep.2.1 41 = .ok (.lload 6, 2) := by decide +kernel
theorem d_M_bestStep_43 : decode m_M_bestStep.2.1 43 = .ok (.lload_n 3, 1) := by decide +kernel
theorem d_M_bestStep_44 : decode m_M_bestStep.2.1 44 = .ok (.lcmp, 1) := by decide +kernel
theorem d_M_bestStep_45 : decode m_M_bestStep.2.1 45 = .ok (.ifCond .gt 6, 3) := by decide +kernel
theorem d_M_bestStep_48 : decode m_M_bestStep.2.1 48 = .ok (.goto 9, 3) := by decide +kernel
theorem d_M_bestStep_51 : decode m_M_bestStep.2.1 51 = .ok (.iload 5, 2) := by decide +kernel
theorem d_M_bestStep_53 : decode m_M_bestStep.2.1 53 = .ok (.istore_n 2, 1) := by decide +kernel
theorem d_M_bestStep_54 : decode m_M_bestStep.2.1 54 = .ok (.lload 6, 2) := by decide +kernel
theorem d_M_bestStep_56 : decode m_M_bestStep.2.1 56 = .ok (.lstore_n 3, 1) := by decide +kernel
theorem d_M_bestStep_57 : decode m_M_bestStep.2.1 57 = .ok (.iload 5, 2) := by decide +kernel
theorem d_M_bestStep_59 : decode m_M_bestStep.2.1 59 = .ok (.iconst 2, 1) := by decide +kernel
theorem d_M_bestStep_60 : decode m_M_bestStep.2.1 60 = .ok (.imul, 1) := by decide +kernel
theorem d_M_bestStep_61 : decode m_M_bestStep.2.1 61 = .ok (.istore 5, 2) := by decide +kernel
theorem d_M_bestStep_63 : decode m_M_bestStep.2.1 63 = .ok (.goto (-39), 3) := by decide +kernel
theorem d_M_bestStep_66 : decode m_M_bestStep.2.1 66 = .ok (.iload_n 2, 1) := by decide +kernel
theorem d_M_bestStep_67 : decode m_M_bestStep.2.1 67 = .ok (.ireturn, 1) := by decide +kernel
theorem d_M_bestGap_0 : decode m_M_bestGap.2.1 0 = .ok (.aload_n 0, 1) := by decide +kernel
theorem d_M_bestGap_1 : decode m_M_bestGap.2.1 1 = .ok (.iconst 0, 1) := by decide +kernel
theorem d_M_bestGap_2 : decode m_M_bestGap.2.1 2 = .ok (.putfield 55, 3) := by decide +kernel
theorem d_M_bestGap_5 : decode m_M_bestGap.2.1 5 = .ok (.aload_n 0, 1) := by decide +kernel
theorem d_M_bestGap_6 : decode m_M_bestGap.2.1 6 = .ok (.iload_n 1, 1) := by decide +kernel
theorem d_M_bestGap_7 : decode m_M_bestGap.2.1 7 = .ok (.invokevirtual 294, 3) := by decide +kernel
theorem d_M_bestGap_10 : decode m_M_bestGap.2.1 10 = .ok (.ifCond .ne 5, 3) := by decide +kernel
theorem d_M_bestGap_13 : decode m_M_bestGap.2.1 13 = .ok (.iconst (-1), 1) := by decide +kernel
theorem d_M_bestGap_14 : decode m_M_bestGap.2.1 14 = .ok (.ireturn, 1) := by decide +kernel
theorem d_M_bestGap_15 : decode m_M_bestGap.2.1 15 = .ok (.iconst (-1), 1) := by decide +kernel
theorem d_M_bestGap_16 : decode m_M_bestGap.2.1 16 = .ok (.istore_n 2, 1) := by decide +kernel
theorem d_M_bestGap_17 : decode m_M_bestGap.2.1 17 = .ok (.ldc2_w 285, 3) := by decide +kernel
theorem d_M_bestGap_20 : decode m_M_bestGap.2.1 20 = .ok (.lstore_n 3, 1) := by decide +kernel
theorem d_M_bestGap_21 : decode m_M_bestGap.2.1 21 = .ok (.bipush 10, 2) := by decide +kernel
theorem d_M_bestGap_23 : decode m_M_bestGap.2.1 23 = .ok (.istore 5, 2) := by decide +kernel
theorem d_M_bestGap_25 : decode m_M_bestGap.2.1 25 = .ok (.iload 5, 2) := by decide +kernel
theorem d_M_bestGap_27 : decode m_M_bestGap.2.1 27 = .ok (.sipush 200, 3) := by decide +kernel
theorem d_M_bestGap_30 : decode m_M_bestGap.2.1 30 = .ok (.if_icmp .gt 35, 3) := by decide +kernel
theorem d_M_bestGap_33 : decode m_M_bestGap.2.1 33 = .ok (.aload_n 0, 1) := by decide +kernel
theorem d_M_bestGap_34 : decode m_M_bestGap.2.1 34 = .ok (.iload_n 1, 1) := by decide +kernel
theorem d_M_bestGap_35 : decode m_M_bestGap.2.1 35 = .ok (.iconst 1, 1) := by decide +kernel
theorem d_M_bestGap_36 : decode m_M_bestGap.2.1 36 = .ok (.iload 5, 2) := by decide +kernel
theorem d_M_bestGap_38 : decode m_M_bestGap.2.1 38 = .ok (.invokevirtual 315, 3) := by decide +kernel
theorem d_M_bestGap_41 : decode m_M_bestGap.2.1 41 = .ok (.lstore 6, 2) := by decide +kernel
theorem d_M_bestGap_43 : decode m_M_bestGap.2.1 43 = .ok (.lload 6, 2) := by decide +kernel
theorem d_M_bestGap_45 : decode m_M_bestGap.2.1 45 = .ok (.lload_n 3, 1) := by decide +kernel
theorem d_M_bestGap_46 : decode m_M_bestGap.2.1 46 = .ok (.lcmp, 1) := by decide +kernel
theorem d_M_bestGap_47 : decode m_M_bestGap.2.1 47 = .ok (.ifCond .gt 6, 3) := by decide +kernel
theorem d_M_bestGap_50 : decode m_M_bestGap.2.1 50 = .ok (.goto 9, 3) := by decide +kernel
theorem d_M_bestGap_53 : decode m_M_bestGap.2.1 53 = .ok (.iload 5, 2) := by decide +kernel
theorem d_M_bestGap_55 : decode m_M_bestGap.2.1 55 = .ok (.istore_n 2, 1) := by decide +kernel
theorem d_M_bestGap_56 : decode m_M_bestGap.2.1 56 = .ok (.lload 6, 2) := by decide +kernel
theorem d_M_bestGap_58 : decode m_M_bestGap.2.1 58 = .ok (.lstore_n 3, 1) := by decide +kernel
theorem d_M_bestGap_59 : decode m_M_bestGap.2.1 59 = .ok (.iinc 5 10, 3) := by decide +kernel
theorem d_M_bestGap_62 : decode m_M_bestGap.2.1 62 = .ok (.goto (-37), 3) := by decide +kernel
theorem d_M_bestGap_65 : decode m_M_bestGap.2.1 65 = .ok (.iload_n 2, 1) := by decide +kernel
theorem d_M_bestGap_66 : decode m_M_bestGap.2.1 66 = .ok (.ireturn, 1) := by decide +kernel
theorem d_M_bestWay_0 : decode m_M_bestWay.2.1 0 = .ok (.aload_n 0, 1) := by decide +kernel
theorem d_M_bestWay_1 : decode m_M_bestWay.2.1 1 = .ok (.iconst 0, 1) := by decide +kernel
theorem d_M_bestWay_2 : decode m_M_bestWay.2.1 2 = .ok (.putfield 55, 3) := by decide +kernel
theorem d_M_bestWay_5 : decode m_M_bestWay.2.1 5 = .ok (.aload_n 0, 1) := by decide +kernel
theorem d_M_bestWay_6 : decode m_M_bestWay.2.1 6 = .ok (.iload_n 1, 1) := by decide +kernel
theorem d_M_bestWay_7 : decode m_M_bestWay.2.1 7 = .ok (.invokevirtual 294, 3) := by decide +kernel
theorem d_M_bestWay_10 : decode m_M_bestWay.2.1 10 = .ok (.ifCond .ne 5, 3) := by decide +kernel
theorem d_M_bestWay_13 : decode m_M_bestWay.2.1 13 = .ok (.iconst (-1), 1) := by decide +kernel
theorem d_M_bestWay_14 : decode m_M_bestWay.2.1 14 = .ok (.ireturn, 1) := by decide +kernel
theorem d_M_bestWay_15 : decode m_M_bestWay.2.1 15 = .ok (.iconst (-1), 1) := by decide +kernel
theorem d_M_bestWay_16 : decode m_M_bestWay.2.1 16 = .ok (.istore_n 2, 1) := by decide +kernel
theorem d_M_bestWay_17 : decode m_M_bestWay.2.1 17 = .ok (.ldc2_w 285, 3) := by decide +kernel
theorem d_M_bestWay_20 : decode m_M_bestWay.2.1 20 = .ok (.lstore_n 3, 1) := by decide +kernel
theorem d_M_bestWay_21 : decode m_M_bestWay.2.1 21 = .ok (.iconst 0, 1) := by decide +kernel
theorem d_M_bestWay_22 : decode m_M_bestWay.2.1 22 = .ok (.istore 5, 2) := by decide +kernel
theorem d_M_bestWay_24 : decode m_M_bestWay.2.1 24 = .ok (.iload 5, 2) := by decide +kernel
theorem d_M_bestWay_26 : decode m_M_bestWay.2.1 26 = .ok (.iconst 2, 1) := by decide +kernel
theorem d_M_bestWay_27 : decode m_M_bestWay.2.1 27 = .ok (.if_icmp .gt 35, 3) := by decide +kernel
theorem d_M_bestWay_30 : decode m_M_bestWay.2.1 30 = .ok (.aload_n 0, 1) := by decide +kernel
theorem d_M_bestWay_31 : decode m_M_bestWay.2.1 31 = .ok (.iload_n 1, 1) := by decide +kernel
theorem d_M_bestWay_32 : decode m_M_bestWay.2.1 32 = .ok (.iconst 2, 1) := by decide +kernel
theorem d_M_bestWay_33 : decode m_M_bestWay.2.1 33 = .ok (.iload 5, 2) := by decide +kernel
theorem d_M_bestWay_35 : decode m_M_bestWay.2.1 35 = .ok (.invokevirtual 315, 3) := by decide +kernel
theorem d_M_bestWay_38 : decode m_M_bestWay.2.1 38 = .ok (.lstore 6, 2) := by decide +kernel
theorem d_M_bestWay_40 : decode m_M_bestWay.2.1 40 = .ok (.lload 6, 2) := by decide +kernel
theorem d_M_bestWay_42 : decode m_M_bestWay.2.1 42 = .ok (.lload_n 3, 1) := by decide +kernel
theorem d_M_bestWay_43 : decode m_M_bestWay.2.1 43 = .ok (.lcmp, 1) := by decide +kernel
theorem d_M_bestWay_44 : decode m_M_bestWay.2.1 44 = .ok (.ifCond .gt 6, 3) := by decide +kernel
theorem d_M_bestWay_47 : decode m_M_bestWay.2.1 47 = .ok (.goto 9, 3) := by decide +kernel
theorem d_M_bestWay_50 : decode m_M_bestWay.2.1 50 = .ok (.iload 5, 2) := by decide +kernel
theorem d_M_bestWay_52 : decode m_M_bestWay.2.1 52 = .ok (.istore_n 2, 1) := by decide +kernel
theorem d_M_bestWay_53 : decode m_M_bestWay.2.1 53 = .ok (.lload 6, 2) := by decide +kernel
theorem d_M_bestWay_55 : decode m_M_bestWay.2.1 55 = .ok (.lstore_n 3, 1) := by decide +kernel
theorem d_M_bestWay_56 : decode m_M_bestWay.2.1 56 = .ok (.iinc 5 1, 3) := by decide +kernel
theorem d_M_bestWay_59 : decode m_M_bestWay.2.1 59 = .ok (.goto (-35), 3) := by decide +kernel
theorem d_M_bestWay_62 : decode m_M_bestWay.2.1 62 = .ok (.iload_n 2, 1) := by decide +kernel
theorem d_M_bestWay_63 : decode m_M_bestWay.2.1 63 = .ok (.ireturn, 1) := by decide +kernel
theorem d_M_ifNear_0 : decode m_M_ifNear.2.1 0 = .ok (.aload_n 0, 1) := by decide +kernel
theorem d_M_ifNear_1 : decode m_M_ifNear.2.1 1 = .ok (.iconst 0, 1) := by decide +kernel
theorem d_M_ifNear_2 : decode m_M_ifNear.2.1 2 = .ok (.putfield 55, 3) := by decide +kernel
theorem d_M_ifNear_5 : decode m_M_ifNear.2.1 5 = .ok (.aload_n 0, 1) := by decide +kernel
theorem d_M_ifNear_6 : decode m_M_ifNear.2.1 6 = .ok (.iload_n 1, 1) := by decide +kernel
theorem d_M_ifNear_7 : decode m_M_ifNear.2.1 7 = .ok (.invokevirtual 294, 3) := by decide +kernel
theorem d_M_ifNear_10 : decode m_M_ifNear.2.1 10 = .ok (.ifCond .eq 10, 3) := by decide +kernel
theorem d_M_ifNear_13 : decode m_M_ifNear.2.1 13 = .ok (.iload_n 2, 1) := by decide +kernel
theorem d_M_ifNear_14 : decode m_M_ifNear.2.1 14 = .ok (.invokestatic 287, 3) := by decide +kernel
theorem d_M_ifNear_17 : decode m_M_ifNear.2.1 17 = .ok (.ifCond .ne 5, 3) := by decide +kernel
theorem d_M_ifNear_20 : decode m_M_ifNear.2.1 20 = .ok (.iconst (-1), 1) := by decide +kernel
theorem d_M_ifNear_21 : decode m_M_ifNear.2.1 21 = .ok (.ireturn, 1) := by decide +kernel
theorem d_M_ifNear_22 : decode m_M_ifNear.2.1 22 = .ok (.aload_n 0, 1) := by decide +kernel
theorem d_M_ifNear_23 : decode m_M_ifNear.2.1 23 = .ok (.invokevirtual 297, 3) := by decide +kernel
theorem d_M_ifNear_26 : decode m_M_ifNear.2.1 26 = .ok (.iconst 0, 1) := by decide +kernel
theorem d_M_ifNear_27 : decode m_M_ifNear.2.1 27 = .ok (.istore_n 3, 1) := by decide +kernel
theorem d_M_ifNear_28 : decode m_M_ifNear.2.1 28 = .ok (.iconst 0, 1) := by decide +kernel
theorem d_M_ifNear_29 : decode m_M_ifNear.2.1 29 = .ok (.istore 4, 2) := by decide +kernel
theorem d_M_ifNear_31 : decode m_M_ifNear.2.1 31 = .ok (.iload 4, 2) := by decide +kernel
theorem d_M_ifNear_33 : decode m_M_ifNear.2.1 33 = .ok (.iload_n 1, 1) := by decide +kernel
theorem d_M_ifNear_34 : decode m_M_ifNear.2.1 34 = .ok (.if_icmp .ge 42, 3) := by decide +kernel
theorem d_M_ifNear_37 : decode m_M_ifNear.2.1 37 = .ok (.aload_n 0, 1) := by decide +kernel
theorem d_M_ifNear_38 : decode m_M_ifNear.2.1 38 = .ok (.invokevirtual 262, 3) := by decide +kernel
theorem d_M_ifNear_41 : decode m_M_ifNear.2.1 41 = .ok (.iload_n 3, 1) := by decide +kernel
theorem d_M_ifNear_42 : decode m_M_ifNear.2.1 42 = .ok (.ldc2_w 227, 3) := by decide +kernel
theorem d_M_ifNear_45 : decode m_M_ifNear.2.1 45 = .ok (.aload_n 0, 1) := by decide +kernel
theorem d_M_ifNear_46 : decode m_M_ifNear.2.1 46 = .ok (.getfield 200, 3) := by decide +kernel
theorem d_M_ifNear_49 : decode m_M_ifNear.2.1 49 = .ok (.i2l, 1) := by decide +kernel
theorem d_M_ifNear_50 : decode m_M_ifNear.2.1 50 = .ok (.lmul, 1) := by decide +kernel
theorem d_M_ifNear_51 : decode m_M_ifNear.2.1 51 = .ok (.iload_n 2, 1) := by decide +kernel
theorem d_M_ifNear_52 : decode m_M_ifNear.2.1 52 = .ok (.i2l, 1) := by decide +kernel
theorem d_M_ifNear_53 : decode m_M_ifNear.2.1 53 = .ok (.aload_n 0, 1) := by decide +kernel
theorem d_M_ifNear_54 : decode m_M_ifNear.2.1 54 = .ok (.invokevirtual 256, 3) := by decide +kernel
theorem d_M_ifNear_57 : decode m_M_ifNear.2.1 57 = .ok (.i2l, 1) := by decide +kernel
theorem d_M_ifNear_58 : decode m_M_ifNear.2.1 58 = .ok (.lmul, 1) := by decide +kernel
theorem d_M_ifNear_59 : decode m_M_ifNear.2.1 59 = .ok (.lcmp, 1) := by decide +kernel
theorem d_M_ifNear_60 : decode m_M_ifNear.2.1 60 = .ok (.ifCond .lt 7, 3) := by decide +kernel
theorem d_M_ifNear_63 : decode m_M_ifNear.2.1 63 = .ok (.iconst 1, 1) := by decide +kernel
theorem d_M_ifNear_64 : decode m_M_ifNear.2.1 64 = .ok (.goto 4, 3) := by decide +kernel
theorem d_M_ifNear_67 : decode m_M_ifNear.2.1 67 = .ok (.iconst 0, 1) := by decide +kernel
theorem d_M_ifNear_68 : decode m_M_ifNear.2.1 68 = .ok (.iadd, 1) := by decide +kernel
theorem d_M_ifNear_69 : decode m_M_ifNear.2.1 69 = .ok (.istore_n 3, 1) := by decide +kernel
theorem d_M_ifNear_70 : decode m_M_ifNear.2.1 70 = .ok (.iinc 4 1, 3) := by decide +kernel
theorem d_M_ifNear_73 : decode m_M_ifNear.2.1 73 = .ok (.goto (-42), 3) := by decide +kernel
theorem d_M_ifNear_76 : decode m_M_ifNear.2.1 76 = .ok (.aload_n 0, 1) := by decide +kernel
theorem d_M_ifNear_77 : decode m_M_ifNear.2.1 77 = .ok (.invokevirtual 303, 3) := by decide +kernel
theorem d_M_ifNear_80 : decode m_M_ifNear.2.1 80 = .ok (.iload_n 3, 1) := by decide +kernel
theorem d_M_ifNear_81 : decode m_M_ifNear.2.1 81 = .ok (.ireturn, 1) := by decide +kernel
theorem d_M_count_0 : decode m_M_count.2.1 0 = .ok (.aload_n 0, 1) := by decide +kernel
theorem d_M_count_1 : decode m_M_count.2.1 1 = .ok (.iconst 0, 1) := by decide +kernel
theorem d_M_count_2 : decode m_M_count.2.1 2 = .ok (.putfield 55, 3) := by decide +kernel
theorem d_M_count_5 : decode m_M_count.2.1 5 = .ok (.iload_n 1, 1) := by decide +kernel
theorem d_M_count_6 : decode m_M_count.2.1 6 = .ok (.tableswitch 53 0 3 #[30, 35, 43, 48], 30) := by decide +kernel
theorem d_M_count_36 : decode m_M_count.2.1 36 = .ok (.aload_n 0, 1) := by decide +kernel
theorem d_M_count_37 : decode m_M_count.2.1 37 = .ok (.getfield 168, 3) := by decide +kernel
theorem d_M_count_40 : decode m_M_count.2.1 40 = .ok (.ireturn, 1) := by decide +kernel
theorem d_M_count_41 : decode m_M_count.2.1 41 = .ok (.aload_n 0, 1) := by decide +kernel
theorem d_M_count_42 : decode m_M_count.2.1 42 = .ok (.getfield 33, 3) := by decide +kernel
theorem d_M_count_45 : decode m_M_count.2.1 45 = .ok (.bipush 46, 2) := by decide +kernel
theorem d_M_count_47 : decode m_M_count.2.1 47 = .ok (.iaload, 1) := by decide +kernel
theorem d_M_count_48 : decode m_M_count.2.1 48 = .ok (.ireturn, 1) := by decide +kernel
theorem d_M_count_49 : decode m_M_count.2.1 49 = .ok (.aload_n 0, 1) := by decide +kernel
theorem d_M_count_50 : decode m_M_count.2.1 50 = .ok (.getfield 175, 3) := by decide +kernel
theorem d_M_count_53 : decode m_M_count.2.1 53 = .ok (.ireturn, 1) := by decide +kernel
theorem d_M_count_54 : decode m_M_count.2.1 54 = .ok (.aload_n 0, 1) := by decide +kernel
theorem d_M_count_55 : decode m_M_count.2.1 55 = .ok (.getfield 58, 3) := by decide +kernel
theorem d_M_count_58 : decode m_M_count.2.1 58 = .ok (.ireturn, 1) := by decide +kernel
theorem d_M_count_59 : decode m_M_count.2.1 59 = .ok (.iconst (-1), 1) := by decide +kernel
theorem d_M_count_60 : decode m_M_count.2.1 60 = .ok (.ireturn, 1) := by decide +kernel
