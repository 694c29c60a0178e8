theorem d_S_init_0 : decode m_S_init.2.1 0 = .ok (.aload_n 0, 1) := by decide +kernel
theorem d_S_init_1 : decode m_S_init.2.1 1 = .ok (.invokespecial 3, 3) := by decide +kernel
theorem d_S_init_4 : decode m_S_init.2.1 4 = .ok (.aload_n 0, 1) := by decide +kernel
theorem d_S_init_5 : decode m_S_init.2.1 5 = .ok (.new 9, 3) := by decide +kernel
theorem d_S_init_8 : decode m_S_init.2.1 8 = .ok (.dup, 1) := by decide +kernel
theorem d_S_init_9 : decode m_S_init.2.1 9 = .ok (.invokespecial 11, 3) := by decide +kernel
theorem d_S_init_12 : decode m_S_init.2.1 12 = .ok (.putfield 12, 3) := by decide +kernel
theorem d_S_init_15 : decode m_S_init.2.1 15 = .ok (.aload_n 0, 1) := by decide +kernel
theorem d_S_init_16 : decode m_S_init.2.1 16 = .ok (.new 16, 3) := by decide +kernel
theorem d_S_init_19 : decode m_S_init.2.1 19 = .ok (.dup, 1) := by decide +kernel
theorem d_S_init_20 : decode m_S_init.2.1 20 = .ok (.aload_n 0, 1) := by decide +kernel
theorem d_S_init_21 : decode m_S_init.2.1 21 = .ok (.getfield 12, 3) := by decide +kernel
theorem d_S_init_24 : decode m_S_init.2.1 24 = .ok (.invokespecial 18, 3) := by decide +kernel
theorem d_S_init_27 : decode m_S_init.2.1 27 = .ok (.putfield 21, 3) := by decide +kernel
theorem d_S_init_30 : decode m_S_init.2.1 30 = .ok (.aload_n 0, 1) := by decide +kernel
theorem d_S_init_31 : decode m_S_init.2.1 31 = .ok (.new 25, 3) := by decide +kernel
theorem d_S_init_34 : decode m_S_init.2.1 34 = .ok (.dup, 1) := by decide +kernel
theorem d_S_init_35 : decode m_S_init.2.1 35 = .ok (.invokespecial 27, 3) := by decide +kernel
theorem d_S_init_38 : decode m_S_init.2.1 38 = .ok (.putfield 28, 3) := by decide +kernel
theorem d_S_init_41 : decode m_S_init.2.1 41 = .ok (.aload_n 0, 1) := by decide +kernel
theorem d_S_init_42 : decode m_S_init.2.1 42 = .ok (.new 25, 3) := by decide +kernel
theorem d_S_init_45 : decode m_S_init.2.1 45 = .ok (.dup, 1) := by decide +kernel
theorem d_S_init_46 : decode m_S_init.2.1 46 = .ok (.invokespecial 27, 3) := by decide +kernel
theorem d_S_init_49 : decode m_S_init.2.1 49 = .ok (.putfield 32, 3) := by decide +kernel
theorem d_S_init_52 : decode m_S_init.2.1 52 = .ok (.aload_n 0, 1) := by decide +kernel
theorem d_S_init_53 : decode m_S_init.2.1 53 = .ok (.new 35, 3) := by decide +kernel
theorem d_S_init_56 : decode m_S_init.2.1 56 = .ok (.dup, 1) := by decide +kernel
theorem d_S_init_57 : decode m_S_init.2.1 57 = .ok (.invokespecial 37, 3) := by decide +kernel
theorem d_S_init_60 : decode m_S_init.2.1 60 = .ok (.putfield 38, 3) := by decide +kernel
theorem d_S_init_63 : decode m_S_init.2.1 63 = .ok (.return_, 1) := by decide +kernel
theorem d_S_feed_0 : decode m_S_feed.2.1 0 = .ok (.aload_n 0, 1) := by decide +kernel
theorem d_S_feed_1 : decode m_S_feed.2.1 1 = .ok (.getfield 12, 3) := by decide +kernel
theorem d_S_feed_4 : decode m_S_feed.2.1 4 = .ok (.bipush 20, 2) := by decide +kernel
theorem d_S_feed_6 : decode m_S_feed.2.1 6 = .ok (.invokevirtual 42, 3) := by decide +kernel
theorem d_S_feed_9 : decode m_S_feed.2.1 9 = .ok (.ifCond .ne 5, 3) := by decide +kernel
theorem d_S_feed_12 : decode m_S_feed.2.1 12 = .ok (.iconst (-1), 1) := by decide +kernel
theorem d_S_feed_13 : decode m_S_feed.2.1 13 = .ok (.ireturn, 1) := by decide +kernel
theorem d_S_feed_14 : decode m_S_feed.2.1 14 = .ok (.aload_n 0, 1) := by decide +kernel
theorem d_S_feed_15 : decode m_S_feed.2.1 15 = .ok (.getfield 12, 3) := by decide +kernel
theorem d_S_feed_18 : decode m_S_feed.2.1 18 = .ok (.iload_n 1, 1) := by decide +kernel
theorem d_S_feed_19 : decode m_S_feed.2.1 19 = .ok (.invokevirtual 46, 3) := by decide +kernel
theorem d_S_feed_22 : decode m_S_feed.2.1 22 = .ok (.aload_n 0, 1) := by decide +kernel
theorem d_S_feed_23 : decode m_S_feed.2.1 23 = .ok (.getfield 12, 3) := by decide +kernel
theorem d_S_feed_26 : decode m_S_feed.2.1 26 = .ok (.iload_n 2, 1) := by decide +kernel
theorem d_S_feed_27 : decode m_S_feed.2.1 27 = .ok (.invokevirtual 46, 3) := by decide +kernel
theorem d_S_feed_30 : decode m_S_feed.2.1 30 = .ok (.aload_n 0, 1) := by decide +kernel
theorem d_S_feed_31 : decode m_S_feed.2.1 31 = .ok (.getfield 12, 3) := by decide +kernel
theorem d_S_feed_34 : decode m_S_feed.2.1 34 = .ok (.iload_n 3, 1) := by decide +kernel
theorem d_S_feed_35 : decode m_S_feed.2.1 35 = .ok (.invokevirtual 46, 3) := by decide +kernel
theorem d_S_feed_38 : decode m_S_feed.2.1 38 = .ok (.aload_n 0, 1) := by decide +kernel
theorem d_S_feed_39 : decode m_S_feed.2.1 39 = .ok (.getfield 12, 3) := by decide +kernel
theorem d_S_feed_42 : decode m_S_feed.2.1 42 = .ok (.iload 4, 2) := by decide +kernel
theorem d_S_feed_44 : decode m_S_feed.2.1 44 = .ok (.invokevirtual 46, 3) := by decide +kernel
theorem d_S_feed_47 : decode m_S_feed.2.1 47 = .ok (.aload_n 0, 1) := by decide +kernel
theorem d_S_feed_48 : decode m_S_feed.2.1 48 = .ok (.getfield 12, 3) := by decide +kernel
theorem d_S_feed_51 : decode m_S_feed.2.1 51 = .ok (.iload 5, 2) := by decide +kernel
theorem d_S_feed_53 : decode m_S_feed.2.1 53 = .ok (.invokevirtual 46, 3) := by decide +kernel
theorem d_S_feed_56 : decode m_S_feed.2.1 56 = .ok (.aload_n 0, 1) := by decide +kernel
theorem d_S_feed_57 : decode m_S_feed.2.1 57 = .ok (.getfield 12, 3) := by decide +kernel
theorem d_S_feed_60 : decode m_S_feed.2.1 60 = .ok (.getfield 50, 3) := by decide +kernel
theorem d_S_feed_63 : decode m_S_feed.2.1 63 = .ok (.ireturn, 1) := by decide +kernel
theorem d_S_text_0 : decode m_S_text.2.1 0 = .ok (.iload_n 1, 1) := by decide +kernel
theorem d_S_text_1 : decode m_S_text.2.1 1 = .ok (.iconst 0, 1) := by decide +kernel
theorem d_S_text_2 : decode m_S_text.2.1 2 = .ok (.aload_n 0, 1) := by decide +kernel
theorem d_S_text_3 : decode m_S_text.2.1 3 = .ok (.getfield 12, 3) := by decide +kernel
theorem d_S_text_6 : decode m_S_text.2.1 6 = .ok (.getfield 50, 3) := by decide +kernel
theorem d_S_text_9 : decode m_S_text.2.1 9 = .ok (.invokestatic 54, 3) := by decide +kernel
theorem d_S_text_12 : decode m_S_text.2.1 12 = .ok (.ifCond .ne 6, 3) := by decide +kernel
theorem d_S_text_15 : decode m_S_text.2.1 15 = .ok (.bipush (-2), 2) := by decide +kernel
theorem d_S_text_17 : decode m_S_text.2.1 17 = .ok (.ireturn, 1) := by decide +kernel
theorem d_S_text_18 : decode m_S_text.2.1 18 = .ok (.aload_n 0, 1) := by decide +kernel
theorem d_S_text_19 : decode m_S_text.2.1 19 = .ok (.getfield 21, 3) := by decide +kernel
theorem d_S_text_22 : decode m_S_text.2.1 22 = .ok (.aload_n 0, 1) := by decide +kernel
theorem d_S_text_23 : decode m_S_text.2.1 23 = .ok (.getfield 32, 3) := by decide +kernel
theorem d_S_text_26 : decode m_S_text.2.1 26 = .ok (.iload_n 1, 1) := by decide +kernel
theorem d_S_text_27 : decode m_S_text.2.1 27 = .ok (.invokevirtual 58, 3) := by decide +kernel
theorem d_S_text_30 : decode m_S_text.2.1 30 = .ok (.istore_n 2, 1) := by decide +kernel
theorem d_S_text_31 : decode m_S_text.2.1 31 = .ok (.aload_n 0, 1) := by decide +kernel
theorem d_S_text_32 : decode m_S_text.2.1 32 = .ok (.getfield 12, 3) := by decide +kernel
theorem d_S_text_35 : decode m_S_text.2.1 35 = .ok (.iconst 0, 1) := by decide +kernel
theorem d_S_text_36 : decode m_S_text.2.1 36 = .ok (.putfield 50, 3) := by decide +kernel
theorem d_S_text_39 : decode m_S_text.2.1 39 = .ok (.iload_n 2, 1) := by decide +kernel
theorem d_S_text_40 : decode m_S_text.2.1 40 = .ok (.iconst (-1), 1) := by decide +kernel
theorem d_S_text_41 : decode m_S_text.2.1 41 = .ok (.if_icmp .ne 5, 3) := by decide +kernel
theorem d_S_text_44 : decode m_S_text.2.1 44 = .ok (.iconst (-1), 1) := by decide +kernel
theorem d_S_text_45 : decode m_S_text.2.1 45 = .ok (.ireturn, 1) := by decide +kernel
theorem d_S_text_46 : decode m_S_text.2.1 46 = .ok (.aload_n 0, 1) := by decide +kernel
theorem d_S_text_47 : decode m_S_text.2.1 47 = .ok (.getfield 28, 3) := by decide +kernel
theorem d_S_text_50 : decode m_S_text.2.1 50 = .ok (.aload_n 0, 1) := by decide +kernel
theorem d_S_text_51 : decode m_S_text.2.1 51 = .ok (.getfield 32, 3) := by decide +kernel
theorem d_S_text_54 : decode m_S_text.2.1 54 = .ok (.invokevirtual 62, 3) := by decide +kernel
theorem d_S_text_57 : decode m_S_text.2.1 57 = .ok (.aload_n 0, 1) := by decide +kernel
theorem d_S_text_58 : decode m_S_text.2.1 58 = .ok (.getfield 38, 3) := by decide +kernel
theorem d_S_text_61 : decode m_S_text.2.1 61 = .ok (.iconst 0, 1) := by decide +kernel
theorem d_S_text_62 : decode m_S_text.2.1 62 = .ok (.putfield 66, 3) := by decide +kernel
theorem d_S_text_65 : decode m_S_text.2.1 65 = .ok (.iload_n 2, 1) := by decide +kernel
theorem d_S_text_66 : decode m_S_text.2.1 66 = .ok (.ireturn, 1) := by decide +kernel
theorem d_S_fault_0 : decode m_S_fault.2.1 0 = .ok (.iload_n 1, 1) := by decide +kernel
theorem d_S_fault_1 : decode m_S_fault.2.1 1 = .ok (.lookupswitch 43 #[(0, 27), (1, 35)], 27) := by decide +kernel
theorem d_S_fault_28 : decode m_S_fault.2.1 28 = .ok (.aload_n 0, 1) := by decide +kernel
theorem d_S_fault_29 : decode m_S_fault.2.1 29 = .ok (.getfield 21, 3) := by decide +kernel
theorem d_S_fault_32 : decode m_S_fault.2.1 32 = .ok (.getfield 69, 3) := by decide +kernel
theorem d_S_fault_35 : decode m_S_fault.2.1 35 = .ok (.ireturn, 1) := by decide +kernel
theorem d_S_fault_36 : decode m_S_fault.2.1 36 = .ok (.aload_n 0, 1) := by decide +kernel
theorem d_S_fault_37 : decode m_S_fault.2.1 37 = .ok (.getfield 21, 3) := by decide +kernel
theorem d_S_fault_40 : decode m_S_fault.2.1 40 = .ok (.getfield 72, 3) := by decide +kernel
theorem d_S_fault_43 : decode m_S_fault.2.1 43 = .ok (.ireturn, 1) := by decide +kernel
theorem d_S_fault_44 : decode m_S_fault.2.1 44 = .ok (.iconst (-1), 1) := by decide +kernel
theorem d_S_fault_45 : decode m_S_fault.2.1 45 = .ok (.ireturn, 1) := by decide +kernel
theorem d_S_ticks_0 : decode m_S_ticks.2.1 0 = .ok (.iload_n 1, 1) := by decide +kernel
theorem d_S_ticks_1 : decode m_S_ticks.2.1 1 = .ok (.iconst 1, 1) := by decide +kernel
theorem d_S_ticks_2 : decode m_S_ticks.2.1 2 = .ok (.sipush 500, 3) := by decide +kernel
theorem d_S_ticks_5 : decode m_S_ticks.2.1 5 = .ok (.invokestatic 54, 3) := by decide +kernel
theorem d_S_ticks_8 : decode m_S_ticks.2.1 8 = .ok (.ifCond .eq 25, 3) := by decide +kernel
theorem d_S_ticks_11 : decode m_S_ticks.2.1 11 = .ok (.aload_n 0, 1) := by decide +kernel
theorem d_S_ticks_12 : decode m_S_ticks.2.1 12 = .ok (.getfield 28, 3) := by decide +kernel
theorem d_S_ticks_15 : decode m_S_ticks.2.1 15 = .ok (.getfield 75, 3) := by decide +kernel
theorem d_S_ticks_18 : decode m_S_ticks.2.1 18 = .ok (.iload_n 1, 1) := by decide +kernel
theorem d_S_ticks_19 : decode m_S_ticks.2.1 19 = .ok (.iadd, 1) := by decide +kernel
theorem d_S_ticks_20 : decode m_S_ticks.2.1 20 = .ok (.sipush 9999, 3) := by decide +kernel
theorem d_S_ticks_23 : decode m_S_ticks.2.1 23 = .ok (.if_icmp .gt 10, 3) := by decide +kernel
theorem d_S_ticks_26 : decode m_S_ticks.2.1 26 = .ok (.aload_n 0, 1) := by decide +kernel
theorem d_S_ticks_27 : decode m_S_ticks.2.1 27 = .ok (.invokevirtual 78, 3) := by decide +kernel
theorem d_S_ticks_30 : decode m_S_ticks.2.1 30 = .ok (.ifCond .ne 5, 3) := by decide +kernel
theorem d_S_ticks_33 : decode m_S_ticks.2.1 33 = .ok (.iconst (-1), 1) := by decide +kernel
theorem d_S_ticks_34 : decode m_S_ticks.2.1 34 = .ok (.ireturn, 1) := by decide +kernel
theorem d_S_ticks_35 : decode m_S_ticks.2.1 35 = .ok (.iconst 0, 1) := by decide +kernel
theorem d_S_ticks_36 : decode m_S_ticks.2.1 36 = .ok (.istore_n 2, 1) := by decide +kernel
theorem d_S_ticks_37 : decode m_S_ticks.2.1 37 = .ok (.iconst 0, 1) := by decide +kernel
theorem d_S_ticks_38 : decode m_S_ticks.2.1 38 = .ok (.istore_n 3, 1) := by decide +kernel
theorem d_S_ticks_39 : decode m_S_ticks.2.1 39 = .ok (.iload_n 3, 1) := by decide +kernel
theorem d_S_ticks_40 : decode m_S_ticks.2.1 40 = .ok (.iload_n 1, 1) := by decide +kernel
theorem d_S_ticks_41 : decode m_S_ticks.2.1 41 = .ok (.if_icmp .ge 40, 3) := by decide +kernel
theorem d_S_ticks_44 : decode m_S_ticks.2.1 44 = .ok (.aload_n 0, 1) := by decide +kernel
theorem d_S_ticks_45 : decode m_S_ticks.2.1 45 = .ok (.getfield 28, 3) := by decide +kernel
theorem d_S_ticks_48 : decode m_S_ticks.2.1 48 = .ok (.invokevirtual 82, 3) := by decide +kernel
theorem d_S_ticks_51 : decode m_S_ticks.2.1 51 = .ok (.aload_n 0, 1) := by decide +kernel
theorem d_S_ticks_52 : decode m_S_ticks.2.1 52 = .ok (.getfield 38, 3) := by decide +kernel
theorem d_S_ticks_55 : decode m_S_ticks.2.1 55 = .ok (.aload_n 0, 1) := by decide +kernel
theorem d_S_ticks_56 : decode m_S_ticks.2.1 56 = .ok (.getfield 28, 3) := by decide +kernel
theorem d_S_ticks_59 : decode m_S_ticks.2.1 59 = .ok (.invokevirtual 85, 3) := by decide +kernel
theorem d_S_ticks_62 : decode m_S_ticks.2.1 62 = .ok (.iload_n 2, 1) := by decide +kernel
theorem d_S_ticks_63 : decode m_S_ticks.2.1 63 = .ok (.aload_n 0, 1) := by decide +kernel
theorem d_S_ticks_64 : decode m_S_ticks.2.1 64 = .ok (.getfield 28, 3) := by decide +kernel
theorem d_S_ticks_67 : decode m_S_ticks.2.1 67 = .ok (.getfield 88, 3) := by decide +kernel
theorem d_S_ticks_70 : decode m_S_ticks.2.1 70 = .ok (.getfield 92, 3) := by decide +kernel
theorem d_S_ticks_73 : decode m_S_ticks.2.1 73 = .ok (.iadd, 1) := by decide +kernel
theorem d_S_ticks_74 : decode m_S_ticks.2.1 74 = .ok (.istore_n 2, 1) := by decide +kernel
theorem d_S_ticks_75 : decode m_S_ticks.2.1 75 = .ok (.iinc 3 1, 3) := by decide +kernel
theorem d_S_ticks_78 : decode m_S_ticks.2.1 78 = .ok (.goto (-39), 3) := by decide +kernel
theorem d_S_ticks_81 : decode m_S_ticks.2.1 81 = .ok (.iload_n 2, 1) := by decide +kernel
theorem d_S_ticks_82 : decode m_S_ticks.2.1 82 = .ok (.ireturn, 1) := by decide +kernel
theorem d_S_light_0 : decode m_S_light.2.1 0 = .ok (.aload_n 0, 1) := by decide +kernel
theorem d_S_light_1 : decode m_S_light.2.1 1 = .ok (.iload_n 1, 1) := by decide +kernel
theorem d_S_light_2 : decode m_S_light.2.1 2 = .ok (.invokevirtual 97, 3) := by decide +kernel
theorem d_S_light_5 : decode m_S_light.2.1 5 = .ok (.ifCond .eq 13, 3) := by decide +kernel
theorem d_S_light_8 : decode m_S_light.2.1 8 = .ok (.iload_n 2, 1) := by decide +kernel
theorem d_S_light_9 : decode m_S_light.2.1 9 = .ok (.iconst 0, 1) := by decide +kernel
theorem d_S_light_10 : decode m_S_light.2.1 10 = .ok (.bipush 100, 2) := by decide +kernel
theorem d_S_light_12 : decode m_S_light.2.1 12 = .ok (.invokestatic 54, 3) := by decide +kernel
theorem d_S_light_15 : decode m_S_light.2.1 15 = .ok (.ifCond .ne 5, 3) := by decide +kernel
theorem d_S_light_18 : decode m_S_light.2.1 18 = .ok (.iconst (-1), 1) := by decide +kernel
theorem d_S_light_19 : decode m_S_light.2.1 19 = .ok (.ireturn, 1) := by decide +kernel
theorem d_S_light_20 : decode m_S_light.2.1 20 = .ok (.aload_n 0, 1) := by decide +kernel
theorem d_S_light_21 : decode m_S_light.2.1 21 = .ok (.getfield 28, 3) := by decide +kernel
theorem d_S_light_24 : decode m_S_light.2.1 24 = .ok (.getfield 100, 3) := by decide +kernel
theorem d_S_light_27 : decode m_S_light.2.1 27 = .ok (.iload_n 1, 1) := by decide +kernel
theorem d_S_light_28 : decode m_S_light.2.1 28 = .ok (.invokevirtual 104, 3) := by decide +kernel
theorem d_S_light_31 : decode m_S_light.2.1 31 = .ok (.istore_n 3, 1) := by decide +kernel
theorem d_S_light_32 : decode m_S_light.2.1 32 = .ok (.aload_n 0, 1) := by decide +kernel
theorem d_S_light_33 : decode m_S_light.2.1 33 = .ok (.getfield 28, 3) := by decide +kernel
theorem d_S_light_36 : decode m_S_light.2.1 36 = .ok (.getfield 100, 3) := by decide +kernel
theorem d_S_light_39 : decode m_S_light.2.1 39 = .ok (.iload_n 1, 1) := by decide +kernel
theorem d_S_light_40 : decode m_S_light.2.1 40 = .ok (.iload_n 2, 1) := by decide +kernel
theorem d_S_light_41 : decode m_S_light.2.1 41 = .ok (.invokevirtual 110, 3) := by decide +kernel
theorem d_S_light_44 : decode m_S_light.2.1 44 = .ok (.aload_n 0, 1) := by decide +kernel
theorem d_S_light_45 : decode m_S_light.2.1 45 = .ok (.getfield 28, 3) := by decide +kernel
theorem d_S_light_48 : decode m_S_light.2.1 48 = .ok (.getfield 100, 3) := by decide +kernel
theorem d_S_light_51 : decode m_S_light.2.1 51 = .ok (.invokevirtual 114, 3) := by decide +kernel
theorem d_S_light_54 : decode m_S_light.2.1 54 = .ok (.iload_n 3, 1) := by decide +kernel
theorem d_S_light_55 : decode m_S_light.2.1 55 = .ok (.ireturn, 1) := by decide +kernel
theorem d_S_grid_0 : decode m_S_grid.2.1 0 = .ok (.iload_n 1, 1) := by decide +kernel
theorem d_S_grid_1 : decode m_S_grid.2.1 1 = .ok (.iconst 0, 1) := by decide +kernel
theorem d_S_grid_2 : decode m_S_grid.2.1 2 = .ok (.iconst 1, 1) := by decide +kernel
theorem d_S_grid_3 : decode m_S_grid.2.1 3 = .ok (.invokestatic 54, 3) := by decide +kernel
theorem d_S_grid_6 : decode m_S_grid.2.1 6 = .ok (.ifCond .ne 5, 3) := by decide +kernel
theorem d_S_grid_9 : decode m_S_grid.2.1 9 = .ok (.iconst (-1), 1) := by decide +kernel
theorem d_S_grid_10 : decode m_S_grid.2.1 10 = .ok (.ireturn, 1) := by decide +kernel
theorem d_S_grid_11 : decode m_S_grid.2.1 11 = .ok (.aload_n 0, 1) := by decide +kernel
theorem d_S_grid_12 : decode m_S_grid.2.1 12 = .ok (.getfield 28, 3) := by decide +kernel
theorem d_S_grid_15 : decode m_S_grid.2.1 15 = .ok (.getfield 117, 3) := by decide +kernel
theorem d_S_grid_18 : decode m_S_grid.2.1 18 = .ok (.getfield 121, 3) := by decide +kernel
theorem d_S_grid_21 : decode m_S_grid.2.1 21 = .ok (.istore_n 2, 1) := by decide +kernel
theorem d_S_grid_22 : decode m_S_grid.2.1 22 = .ok (.aload_n 0, 1) := by decide +kernel
theorem d_S_grid_23 : decode m_S_grid.2.1 23 = .ok (.getfield 28, 3) := by decide +kernel
theorem d_S_grid_26 : decode m_S_grid.2.1 26 = .ok (.getfield 117, 3) := by decide +kernel
theorem d_S_grid_29 : decode m_S_grid.2.1 29 = .ok (.iload_n 1, 1) := by decide +kernel
theorem d_S_grid_30 : decode m_S_grid.2.1 30 = .ok (.putfield 121, 3) := by decide +kernel
theorem d_S_grid_33 : decode m_S_grid.2.1 33 = .ok (.iload_n 2, 1) := by decide +kernel
theorem d_S_grid_34 : decode m_S_grid.2.1 34 = .ok (.ireturn, 1) := by decide +kernel
theorem d_S_tune_0 : decode m_S_tune.2.1 0 = .ok (.iload_n 1, 1) := by decide +kernel
theorem d_S_tune_1 : decode m_S_tune.2.1 1 = .ok (.ldc 126, 2) := by decide +kernel
theorem d_S_tune_3 : decode m_S_tune.2.1 3 = .ok (.ldc 127, 2) := by decide +kernel
theorem d_S_tune_5 : decode m_S_tune.2.1 5 = .ok (.invokestatic 54, 3) := by decide +kernel
theorem d_S_tune_8 : decode m_S_tune.2.1 8 = .ok (.ifCond .ne 5, 3) := by decide +kernel
theorem d_S_tune_11 : decode m_S_tune.2.1 11 = .ok (.iconst (-1), 1) := by decide +kernel
theorem d_S_tune_12 : decode m_S_tune.2.1 12 = .ok (.ireturn, 1) := by decide +kernel
theorem d_S_tune_13 : decode m_S_tune.2.1 13 = .ok (.aload_n 0, 1) := by decide +kernel
theorem d_S_tune_14 : decode m_S_tune.2.1 14 = .ok (.getfield 28, 3) := by decide +kernel
theorem d_S_tune_17 : decode m_S_tune.2.1 17 = .ok (.getfield 117, 3) := by decide +kernel
theorem d_S_tune_20 : decode m_S_tune.2.1 20 = .ok (.getfield 128, 3) := by decide +kernel
theorem d_S_tune_23 : decode m_S_tune.2.1 23 = .ok (.istore_n 2, 1) := by decide +kernel
theorem d_S_tune_24 : decode m_S_tune.2.1 24 = .ok (.aload_n 0, 1) := by decide +kernel
theorem d_S_tune_25 : decode m_S_tune.2.1 25 = .ok (.getfield 28, 3) := by decide +kernel
theorem d_S_tune_28 : decode m_S_tune.2.1 28 = .ok (.getfield 117, 3) := by decide +kernel
theorem d_S_tune_31 : decode m_S_tune.2.1 31 = .ok (.iload_n 1, 1) := by decide +kernel
theorem d_S_tune_32 : decode m_S_tune.2.1 32 = .ok (.putfield 128, 3) := by decide +kernel
theorem d_S_tune_35 : decode m_S_tune.2.1 35 = .ok (.iload_n 2, 1) := by decide +kernel
theorem d_S_tune_36 : decode m_S_tune.2.1 36 = .ok (.ireturn, 1) := by decide +kernel
theorem d_S_scan_0 : decode m_S_scan.2.1 0 = .ok (.aload_n 0, 1) := by decide +kernel
theorem d_S_scan_1 : decode m_S_scan.2.1 1 = .ok (.invokevirtual 78, 3) := by decide +kernel
theorem d_S_scan_4 : decode m_S_scan.2.1 4 = .ok (.ifCond .ne 5, 3) := by decide +kernel
theorem d_S_scan_7 : decode m_S_scan.2.1 7 = .ok (.iconst (-1), 1) := by decide +kernel
theorem d_S_scan_8 : decode m_S_scan.2.1 8 = .ok (.ireturn, 1) := by decide +kernel
theorem d_S_scan_9 : decode m_S_scan.2.1 9 = .ok (.aload_n 0, 1) := by decide +kernel
theorem d_S_scan_10 : decode m_S_scan.2.1 10 = .ok (.getfield 28, 3) := by decide +kernel
theorem d_S_scan_13 : decode m_S_scan.2.1 13 = .ok (.getfield 88, 3) := by decide +kernel
theorem d_S_scan_16 : decode m_S_scan.2.1 16 = .ok (.getfield 131, 3) := by decide +kernel
theorem d_S_scan_19 : decode m_S_scan.2.1 19 = .ok (.ifCond .eq 5, 3) := by decide +kernel
theorem d_S_scan_22 : decode m_S_scan.2.1 22 = .ok (.iconst 0, 1) := by decide +kernel
theorem d_S_scan_23 : decode m_S_scan.2.1 23 = .ok (.ireturn, 1) := by decide +kernel
theorem d_S_scan_24 : decode m_S_scan.2.1 24 = .ok (.aload_n 0, 1) := by decide +kernel
theorem d_S_scan_25 : decode m_S_scan.2.1 25 = .ok (.getfield 28, 3) := by decide +kernel
theorem d_S_scan_28 : decode m_S_scan.2.1 28 = .ok (.getfield 88, 3) := by decide +kernel
theorem d_S_scan_31 : decode m_S_scan.2.1 31 = .ok (.invokevirtual 135, 3) := by decide +kernel
theorem d_S_scan_34 : decode m_S_scan.2.1 34 = .ok (.iconst 1, 1) := by decide +kernel
theorem d_S_scan_35 : decode m_S_scan.2.1 35 = .ok (.ireturn, 1) := by decide +kernel
theorem d_S_told_0 : decode m_S_told.2.1 0 = .ok (.iload_n 1, 1) := by decide +kernel
theorem d_S_told_1 : decode m_S_told.2.1 1 = .ok (.invokestatic 138, 3) := by decide +kernel
theorem d_S_told_4 : decode m_S_told.2.1 4 = .ok (.ifCond .eq 17, 3) := by decide +kernel
theorem d_S_told_7 : decode m_S_told.2.1 7 = .ok (.aload_n 0, 1) := by decide +kernel
theorem d_S_told_8 : decode m_S_told.2.1 8 = .ok (.getfield 28, 3) := by decide +kernel
theorem d_S_told_11 : decode m_S_told.2.1 11 = .ok (.getfield 143, 3) := by decide +kernel
theorem d_S_told_14 : decode m_S_told.2.1 14 = .ok (.iload_n 1, 1) := by decide +kernel
theorem d_S_told_15 : decode m_S_told.2.1 15 = .ok (.invokevirtual 147, 3) := by decide +kernel
theorem d_S_told_18 : decode m_S_told.2.1 18 = .ok (.goto 4, 3) := by decide +kernel
theorem d_S_told_21 : decode m_S_told.2.1 21 = .ok (.iconst (-1), 1) := by decide +kernel
theorem d_S_told_22 : decode m_S_told.2.1 22 = .ok (.ireturn, 1) := by decide +kernel
theorem d_S_settle_0 : decode m_S_settle.2.1 0 = .ok (.iload_n 1, 1) := by decide +kernel
theorem d_S_settle_1 : decode m_S_settle.2.1 1 = .ok (.iconst 1, 1) := by decide +kernel
theorem d_S_settle_2 : decode m_S_settle.2.1 2 = .ok (.if_icmp .eq 13, 3) := by decide +kernel
theorem d_S_settle_5 : decode m_S_settle.2.1 5 = .ok (.iload_n 1, 1) := by decide +kernel
theorem d_S_settle_6 : decode m_S_settle.2.1 6 = .ok (.iconst 4, 1) := by decide +kernel
theorem d_S_settle_7 : decode m_S_settle.2.1 7 = .ok (.bipush 18, 2) := by decide +kernel
theorem d_S_settle_9 : decode m_S_settle.2.1 9 = .ok (.invokestatic 54, 3) := by decide +kernel
theorem d_S_settle_12 : decode m_S_settle.2.1 12 = .ok (.ifCond .eq 7, 3) := by decide +kernel
theorem d_S_settle_15 : decode m_S_settle.2.1 15 = .ok (.iconst 1, 1) := by decide +kernel
theorem d_S_settle_16 : decode m_S_settle.2.1 16 = .ok (.goto 4, 3) := by decide +kernel
theorem d_S_settle_19 : decode m_S_settle.2.1 19 = .ok (.iconst 0, 1) := by decide +kernel
theorem d_S_settle_20 : decode m_S_settle.2.1 20 = .ok (.istore_n 3, 1) := by decide +kernel
theorem d_S_settle_21 : decode m_S_settle.2.1 21 = .ok (.iload_n 3, 1) := by decide +kernel
theorem d_S_settle_22 : decode m_S_settle.2.1 22 = .ok (.ifCond .eq 11, 3) := by decide +kernel
theorem d_S_settle_25 : decode m_S_settle.2.1 25 = .ok (.iload_n 1, 1) := by decide +kernel
theorem d_S_settle_26 : decode m_S_settle.2.1 26 = .ok (.iload_n 2, 1) := by decide +kernel
theorem d_S_settle_27 : decode m_S_settle.2.1 27 = .ok (.invokestatic 150, 3) := by decide +kernel
theorem d_S_settle_30 : decode m_S_settle.2.1 30 = .ok (.ifCond .ne 5, 3) := by decide +kernel
theorem d_S_settle_33 : decode m_S_settle.2.1 33 = .ok (.iconst (-1), 1) := by decide +kernel
theorem d_S_settle_34 : decode m_S_settle.2.1 34 = .ok (.ireturn, 1) := by decide +kernel
theorem d_S_settle_35 : decode m_S_settle.2.1 35 = .ok (.aload_n 0, 1) := by decide +kernel
theorem d_S_settle_36 : decode m_S_settle.2.1 36 = .ok (.getfield 28, 3) := by decide +kernel
theorem d_S_settle_39 : decode m_S_settle.2.1 39 = .ok (.getfield 143, 3) := by decide +kernel
theorem d_S_settle_42 : decode m_S_settle.2.1 42 = .ok (.iload_n 1, 1) := by decide +kernel
theorem d_S_settle_43 : decode m_S_settle.2.1 43 = .ok (.invokevirtual 147, 3) := by decide +kernel
theorem d_S_settle_46 : decode m_S_settle.2.1 46 = .ok (.istore 4, 2) := by decide +kernel
theorem d_S_settle_48 : decode m_S_settle.2.1 48 = .ok (.aload_n 0, 1) := by decide +kernel
theorem d_S_settle_49 : decode m_S_settle.2.1 49 = .ok (.getfield 28, 3) := by decide +kernel
theorem d_S_settle_52 : decode m_S_settle.2.1 52 = .ok (.getfield 143, 3) := by decide +kernel
theorem d_S_settle_55 : decode m_S_settle.2.1 55 = .ok (.iload_n 1, 1) := by decide +kernel
theorem d_S_settle_56 : decode m_S_settle.2.1 56 = .ok (.iload_n 2, 1) := by decide +kernel
theorem d_S_settle_57 : decode m_S_settle.2.1 57 = .ok (.invokevirtual 154, 3) := by decide +kernel
theorem d_S_settle_60 : decode m_S_settle.2.1 60 = .ok (.iload 4, 2) := by decide +kernel
theorem d_S_settle_62 : decode m_S_settle.2.1 62 = .ok (.ireturn, 1) := by decide +kernel
theorem d_S_module_0 : decode m_S_module.2.1 0 = .ok (.aload_n 0, 1) := by decide +kernel
theorem d_S_module_1 : decode m_S_module.2.1 1 = .ok (.iload_n 1, 1) := by decide +kernel
theorem d_S_module_2 : decode m_S_module.2.1 2 = .ok (.invokevirtual 97, 3) := by decide +kernel
theorem d_S_module_5 : decode m_S_module.2.1 5 = .ok (.ifCond .ne 13, 3) := by decide +kernel
theorem d_S_module_8 : decode m_S_module.2.1 8 = .ok (.new 157, 3) := by decide +kernel
theorem d_S_module_11 : decode m_S_module.2.1 11 = .ok (.dup, 1) := by decide +kernel
theorem d_S_module_12 : decode m_S_module.2.1 12 = .ok (.ldc 159, 2) := by decide +kernel
theorem d_S_module_14 : decode m_S_module.2.1 14 = .ok (.invokespecial 161, 3) := by decide +kernel
theorem d_S_module_17 : decode m_S_module.2.1 17 = .ok (.athrow, 1) := by decide +kernel
theorem d_S_module_18 : decode m_S_module.2.1 18 = .ok (.iload_n 2, 1) := by decide +kernel
theorem d_S_module_19 : decode m_S_module.2.1 19 = .ok (.tableswitch 77 0 3 #[29, 41, 53, 65], 29) := by decide +kernel
theorem d_S_module_48 : decode m_S_module.2.1 48 = .ok (.aload_n 0, 1) := by decide +kernel
theorem d_S_module_49 : decode m_S_module.2.1 49 = .ok (.getfield 28, 3) := by decide +kernel
theorem d_S_module_52 : decode m_S_module.2.1 52 = .ok (.getfield 100, 3) := by decide +kernel
theorem d_S_module_55 : decode m_S_module.2.1 55 = .ok (.iload_n 1, 1) := by decide +kernel
theorem d_S_module_56 : decode m_S_module.2.1 56 = .ok (.invokevirtual 164, 3) := by decide +kernel
theorem d_S_module_59 : decode m_S_module.2.1 59 = .ok (.ireturn, 1) := by decide +kernel
theorem d_S_module_60 : decode m_S_module.2.1 60 = .ok (.aload_n 0, 1) := by decide +kernel
theorem d_S_module_61 : decode m_S_module.2.1 61 = .ok (.getfield 28, 3) := by decide +kernel
theorem d_S_module_64 : decode m_S_module.2.1 64 = .ok (.getfield 100, 3) := by decide +kernel
theorem d_S_module_67 : decode m_S_module.2.1 67 = .ok (.iload_n 1, 1) := by decide +kernel
theorem d_S_module_68 : decode m_S_module.2.1 68 = .ok (.invokevirtual 167, 3) := by decide +kernel
theorem d_S_module_71 : decode m_S_module.2.1 71 = .ok (.ireturn, 1) := by decide +kernel
theorem d_S_module_72 : decode m_S_module.2.1 72 = .ok (.aload_n 0, 1) := by decide +kernel
theorem d_S_module_73 : decode m_S_module.2.1 73 = .ok (.getfield 28, 3) := by decide +kernel
theorem d_S_module_76 : decode m_S_module.2.1 76 = .ok (.getfield 100, 3) := by decide +kernel
theorem d_S_module_79 : decode m_S_module.2.1 79 = .ok (.iload_n 1, 1) := by decide +kernel
theorem d_S_module_80 : decode m_S_module.2.1 80 = .ok (.invokevirtual 104, 3) := by decide +kernel
theorem d_S_module_83 : decode m_S_module.2.1 83 = .ok (.ireturn, 1) := by decide +kernel
theorem d_S_module_84 : decode m_S_module.2.1 84 = .ok (.aload_n 0, 1) := by decide +kernel
theorem d_S_module_85 : decode m_S_module.2.1 85 = .ok (.getfield 28, 3) := by decide +kernel
theorem d_S_module_88 : decode m_S_module.2.1 88 = .ok (.getfield 100, 3) := by decide +kernel
theorem d_S_module_91 : decode m_S_module.2.1 91 = .ok (.iload_n 1, 1) := by decide +kernel
theorem d_S_module_92 : decode m_S_module.2.1 92 = .ok (.invokevirtual 170, 3) := by decide +kernel
theorem d_S_module_95 : decode m_S_module.2.1 95 = .ok (.ireturn, 1) := by decide +kernel
theorem d_S_module_96 : decode m_S_module.2.1 96 = .ok (.new 173, 3) := by decide +kernel
theorem d_S_module_99 : decode m_S_module.2.1 99 = .ok (.dup, 1) := by decide +kernel
theorem d_S_module_100 : decode m_S_module.2.1 100 = .ok (.ldc 175, 2) := by decide +kernel
theorem d_S_module_102 : decode m_S_module.2.1 102 = .ok (.invokespecial 177, 3) := by decide +kernel
theorem d_S_module_105 : decode m_S_module.2.1 105 = .ok (.athrow, 1) := by decide +kernel
theorem d_S_volts_0 : decode m_S_volts.2.1 0 = .ok (.iload_n 1, 1) := by decide +kernel
theorem d_S_volts_1 : decode m_S_volts.2.1 1 = .ok (.invokestatic 178, 3) := by decide +kernel
theorem d_S_volts_4 : decode m_S_volts.2.1 4 = .ok (.ifCond .eq 17, 3) := by decide +kernel
theorem d_S_volts_7 : decode m_S_volts.2.1 7 = .ok (.aload_n 0, 1) := by decide +kernel
theorem d_S_volts_8 : decode m_S_volts.2.1 8 = .ok (.getfield 28, 3) := by decide +kernel
theorem d_S_volts_11 : decode m_S_volts.2.1 11 = .ok (.getfield 100, 3) := by decide +kernel
theorem d_S_volts_14 : decode m_S_volts.2.1 14 = .ok (.iload_n 1, 1) := by decide +kernel
theorem d_S_volts_15 : decode m_S_volts.2.1 15 = .ok (.invokevirtual 181, 3) := by decide +kernel
theorem d_S_volts_18 : decode m_S_volts.2.1 18 = .ok (.goto 4, 3) := by decide +kernel
theorem d_S_volts_21 : decode m_S_volts.2.1 21 = .ok (.iconst (-1), 1) := by decide +kernel
theorem d_S_volts_22 : decode m_S_volts.2.1 22 = .ok (.ireturn, 1) := by decide +kernel
theorem d_S_power_0 : decode m_S_power.2.1 0 = .ok (.iload_n 1, 1) := by decide +kernel
theorem d_S_power_1 : decode m_S_power.2.1 1 = .ok (.invokestatic 178, 3) := by decide +kernel
theorem d_S_power_4 : decode m_S_power.2.1 4 = .ok (.ifCond .eq 17, 3) := by decide +kernel
theorem d_S_power_7 : decode m_S_power.2.1 7 = .ok (.aload_n 0, 1) := by decide +kernel
theorem d_S_power_8 : decode m_S_power.2.1 8 = .ok (.getfield 28, 3) := by decide +kernel
theorem d_S_power_11 : decode m_S_power.2.1 11 = .ok (.getfield 100, 3) := by decide +kernel
theorem d_S_power_14 : decode m_S_power.2.1 14 = .ok (.iload_n 1, 1) := by decide +kernel
theorem d_S_power_15 : decode m_S_power.2.1 15 = .ok (.invokevirtual 184, 3) := by decide +kernel
theorem d_S_power_18 : decode m_S_power.2.1 18 = .ok (.goto 4, 3) := by decide +kernel
theorem d_S_power_21 : decode m_S_power.2.1 21 = .ok (.iconst (-1), 1) := by decide +kernel
theorem d_S_power_22 : decode m_S_power.2.1 22 = .ok (.ireturn, 1) := by decide +kernel
theorem d_S_tops_0 : decode m_S_tops.2.1 0 = .ok (.iconst 0, 1) := by decide +kernel
theorem d_S_tops_1 : decode m_S_tops.2.1 1 = .ok (.istore_n 1, 1) := by decide +kernel
theorem d_S_tops_2 : decode m_S_tops.2.1 2 = .ok (.iconst 0, 1) := by decide +kernel
theorem d_S_tops_3 : decode m_S_tops.2.1 3 = .ok (.istore_n 2, 1) := by decide +kernel
theorem d_S_tops_4 : decode m_S_tops.2.1 4 = .ok (.iload_n 2, 1) := by decide +kernel
theorem d_S_tops_5 : decode m_S_tops.2.1 5 = .ok (.sipush 1000, 3) := by decide +kernel
theorem d_S_tops_8 : decode m_S_tops.2.1 8 = .ok (.if_icmp .ge 27, 3) := by decide +kernel
theorem d_S_tops_11 : decode m_S_tops.2.1 11 = .ok (.aload_n 0, 1) := by decide +kernel
theorem d_S_tops_12 : decode m_S_tops.2.1 12 = .ok (.getfield 28, 3) := by decide +kernel
theorem d_S_tops_15 : decode m_S_tops.2.1 15 = .ok (.getfield 100, 3) := by decide +kernel
theorem d_S_tops_18 : decode m_S_tops.2.1 18 = .ok (.iload_n 2, 1) := by decide +kernel
theorem d_S_tops_19 : decode m_S_tops.2.1 19 = .ok (.invokevirtual 187, 3) := by decide +kernel
theorem d_S_tops_22 : decode m_S_tops.2.1 22 = .ok (.iconst (-1), 1) := by decide +kernel
theorem d_S_tops_23 : decode m_S_tops.2.1 23 = .ok (.if_icmp .eq 6, 3) := by decide +kernel
theorem d_S_tops_26 : decode m_S_tops.2.1 26 = .ok (.iinc 1 1, 3) := by decide +kernel
theorem d_S_tops_29 : decode m_S_tops.2.1 29 = .ok (.iinc 2 1, 3) := by decide +kernel
theorem d_S_tops_32 : decode m_S_tops.2.1 32 = .ok (.goto (-28), 3) := by decide +kernel
theorem d_S_tops_35 : decode m_S_tops.2.1 35 = .ok (.iload_n 1, 1) := by decide +kernel
theorem d_S_tops_36 : decode m_S_tops.2.1 36 = .ok (.ireturn, 1) := by decide +kernel
theorem d_S_top_0 : decode m_S_top.2.1 0 = .ok (.iload_n 1, 1) := by decide +kernel
theorem d_S_top_1 : decode m_S_top.2.1 1 = .ok (.ifCond .lt 12, 3) := by decide +kernel
theorem d_S_top_4 : decode m_S_top.2.1 4 = .ok (.iload_n 2, 1) := by decide +kernel
theorem d_S_top_5 : decode m_S_top.2.1 5 = .ok (.iconst 0, 1) := by decide +kernel
theorem d_S_top_6 : decode m_S_top.2.1 6 = .ok (.iconst 2, 1) := by decide +kernel
theorem d_S_top_7 : decode m_S_top.2.1 7 = .ok (.invokestatic 54, 3) := by decide +kernel
theorem d_S_top_10 : decode m_S_top.2.1 10 = .ok (.ifCond .ne 5, 3) := by decide +kernel
theorem d_S_top_13 : decode m_S_top.2.1 13 = .ok (.iconst (-1), 1) := by decide +kernel
theorem d_S_top_14 : decode m_S_top.2.1 14 = .ok (.ireturn, 1) := by decide +kernel
theorem d_S_top_15 : decode m_S_top.2.1 15 = .ok (.iconst 0, 1) := by decide +kernel
theorem d_S_top_16 : decode m_S_top.2.1 16 = .ok (.istore_n 3, 1) := by decide +kernel
theorem d_S_top_17 : decode m_S_top.2.1 17 = .ok (.iconst 0, 1) := by decide +kernel
theorem d_S_top_18 : decode m_S_top.2.1 18 = .ok (.istore 4, 2) := by decide +kernel
theorem d_S_top_20 : decode m_S_top.2.1 20 = .ok (.iload 4, 2) := by decide +kernel
theorem d_S_top_22 : decode m_S_top.2.1 22 = .ok (.sipush 1000, 3) := by decide +kernel
theorem d_S_top_25 : decode m_S_top.2.1 25 = .ok (.if_icmp .ge 77, 3) := by decide +kernel
theorem d_S_top_28 : decode m_S_top.2.1 28 = .ok (.aload_n 0, 1) := by decide +kernel
theorem d_S_top_29 : decode m_S_top.2.1 29 = .ok (.getfield 28, 3) := by decide +kernel
theorem d_S_top_32 : decode m_S_top.2.1 32 = .ok (.getfield 100, 3) := by decide +kernel
theorem d_S_top_35 : decode m_S_top.2.1 35 = .ok (.iload 4, 2) := by decide +kernel
theorem d_S_top_37 : decode m_S_top.2.1 37 = .ok (.invokevirtual 187, 3) := by decide +kernel
theorem d_S_top_40 : decode m_S_top.2.1 40 = .ok (.istore 5, 2) := by decide +kernel
theorem d_S_top_42 : decode m_S_top.2.1 42 = .ok (.iload 5, 2) := by decide +kernel
theorem d_S_top_44 : decode m_S_top.2.1 44 = .ok (.iconst (-1), 1) := by decide +kernel
theorem d_S_top_45 : decode m_S_top.2.1 45 = .ok (.if_icmp .ne 6, 3) := by decide +kernel
theorem d_S_top_48 : decode m_S_top.2.1 48 = .ok (.goto 48, 3) := by decide +kernel
theorem d_S_top_51 : decode m_S_top.2.1 51 = .ok (.iload_n 3, 1) := by decide +kernel
theorem d_S_top_52 : decode m_S_top.2.1 52 = .ok (.iload_n 1, 1) := by decide +kernel
theorem d_S_top_53 : decode m_S_top.2.1 53 = .ok (.if_icmp .ne 40, 3) := by decide +kernel
theorem d_S_top_56 : decode m_S_top.2.1 56 = .ok (.iload_n 2, 1) := by decide +kernel
theorem d_S_top_57 : decode m_S_top.2.1 57 = .ok (.ifCond .ne 8, 3) := by decide +kernel
theorem d_S_top_60 : decode m_S_top.2.1 60 = .ok (.iload 4, 2) := by decide +kernel
theorem d_S_top_62 : decode m_S_top.2.1 62 = .ok (.goto 30, 3) := by decide +kernel
theorem d_S_top_65 : decode m_S_top.2.1 65 = .ok (.iload_n 2, 1) := by decide +kernel
theorem d_S_top_66 : decode m_S_top.2.1 66 = .ok (.iconst 1, 1) := by decide +kernel
theorem d_S_top_67 : decode m_S_top.2.1 67 = .ok (.if_icmp .ne 18, 3) := by decide +kernel
theorem d_S_top_70 : decode m_S_top.2.1 70 = .ok (.aload_n 0, 1) := by decide +kernel
theorem d_S_top_71 : decode m_S_top.2.1 71 = .ok (.getfield 28, 3) := by decide +kernel
theorem d_S_top_74 : decode m_S_top.2.1 74 = .ok (.getfield 100, 3) := by decide +kernel
theorem d_S_top_77 : decode m_S_top.2.1 77 = .ok (.iload 4, 2) := by decide +kernel
theorem d_S_top_79 : decode m_S_top.2.1 79 = .ok (.invokevirtual 184, 3) := by decide +kernel
theorem d_S_top_82 : decode m_S_top.2.1 82 = .ok (.goto 10, 3) := by decide +kernel
theorem d_S_top_85 : decode m_S_top.2.1 85 = .ok (.iload 5, 2) := by decide +kernel
theorem d_S_top_87 : decode m_S_top.2.1 87 = .ok (.iload 4, 2) := by decide +kernel
theorem d_S_top_89 : decode m_S_top.2.1 89 = .ok (.isub, 1) := by decide +kernel
theorem d_S_top_90 : decode m_S_top.2.1 90 = .ok (.iconst 1, 1) := by decide +kernel
theorem d_S_top_91 : decode m_S_top.2.1 91 = .ok (.iadd, 1) := by decide +kernel
theorem d_S_top_92 : decode m_S_top.2.1 92 = .ok (.ireturn, 1) := by decide +kernel
theorem d_S_top_93 : decode m_S_top.2.1 93 = .ok (.iinc 3 1, 3) := by decide +kernel
theorem d_S_top_96 : decode m_S_top.2.1 96 = .ok (.iinc 4 1, 3) := by decide +kernel
theorem d_S_top_99 : decode m_S_top.2.1 99 = .ok (.goto (-79), 3) := by decide +kernel
theorem d_S_top_102 : decode m_S_top.2.1 102 = .ok (.bipush (-2), 2) := by decide +kernel
theorem d_S_top_104 : decode m_S_top.2.1 104 = .ok (.ireturn, 1) := by decide +kernel
theorem d_S_best_0 : decode m_S_best.2.1 0 = .ok (.iload_n 1, 1) := by decide +kernel
theorem d_S_best_1 : decode m_S_best.2.1 1 = .ok (.lookupswitch 49 #[(0, 27), (1, 38)], 27) := by decide +kernel
theorem d_S_best_28 : decode m_S_best.2.1 28 = .ok (.aload_n 0, 1) := by decide +kernel
theorem d_S_best_29 : decode m_S_best.2.1 29 = .ok (.getfield 28, 3) := by decide +kernel
theorem d_S_best_32 : decode m_S_best.2.1 32 = .ok (.getfield 100, 3) := by decide +kernel
theorem d_S_best_35 : decode m_S_best.2.1 35 = .ok (.getfield 190, 3) := by decide +kernel
theorem d_S_best_38 : decode m_S_best.2.1 38 = .ok (.ireturn, 1) := by decide +kernel
theorem d_S_best_39 : decode m_S_best.2.1 39 = .ok (.aload_n 0, 1) := by decide +kernel
theorem d_S_best_40 : decode m_S_best.2.1 40 = .ok (.getfield 28, 3) := by decide +kernel
theorem d_S_best_43 : decode m_S_best.2.1 43 = .ok (.getfield 100, 3) := by decide +kernel
theorem d_S_best_46 : decode m_S_best.2.1 46 = .ok (.getfield 193, 3) := by decide +kernel
theorem d_S_best_49 : decode m_S_best.2.1 49 = .ok (.ireturn, 1) := by decide +kernel
theorem d_S_best_50 : decode m_S_best.2.1 50 = .ok (.iconst (-1), 1) := by decide +kernel
theorem d_S_best_51 : decode m_S_best.2.1 51 = .ok (.ireturn, 1) := by decide +kernel
theorem d_S_band_0 : decode m_S_band.2.1 0 = .ok (.iload_n 1, 1) := by decide +kernel
theorem d_S_band_1 : decode m_S_band.2.1 1 = .ok (.iconst 1, 1) := by decide +kernel
theorem d_S_band_2 : decode m_S_band.2.1 2 = .ok (.bipush 100, 2) := by decide +kernel
theorem d_S_band_4 : decode m_S_band.2.1 4 = .ok (.invokestatic 54, 3) := by decide +kernel
theorem d_S_band_7 : decode m_S_band.2.1 7 = .ok (.ifCond .eq 12, 3) := by decide +kernel
theorem d_S_band_10 : decode m_S_band.2.1 10 = .ok (.iload_n 2, 1) := by decide +kernel
theorem d_S_band_11 : decode m_S_band.2.1 11 = .ok (.iconst 0, 1) := by decide +kernel
theorem d_S_band_12 : decode m_S_band.2.1 12 = .ok (.iconst 2, 1) := by decide +kernel
theorem d_S_band_13 : decode m_S_band.2.1 13 = .ok (.invokestatic 54, 3) := by decide +kernel
theorem d_S_band_16 : decode m_S_band.2.1 16 = .ok (.ifCond .ne 5, 3) := by decide +kernel
theorem d_S_band_19 : decode m_S_band.2.1 19 = .ok (.iconst (-1), 1) := by decide +kernel
theorem d_S_band_20 : decode m_S_band.2.1 20 = .ok (.ireturn, 1) := by decide +kernel
theorem d_S_band_21 : decode m_S_band.2.1 21 = .ok (.aload_n 0, 1) := by decide +kernel
theorem d_S_band_22 : decode m_S_band.2.1 22 = .ok (.getfield 28, 3) := by decide +kernel
theorem d_S_band_25 : decode m_S_band.2.1 25 = .ok (.getfield 100, 3) := by decide +kernel
theorem d_S_band_28 : decode m_S_band.2.1 28 = .ok (.getfield 193, 3) := by decide +kernel
theorem d_S_band_31 : decode m_S_band.2.1 31 = .ok (.ifCond .ne 6, 3) := by decide +kernel
theorem d_S_band_34 : decode m_S_band.2.1 34 = .ok (.bipush (-2), 2) := by decide +kernel
theorem d_S_band_36 : decode m_S_band.2.1 36 = .ok (.ireturn, 1) := by decide +kernel
theorem d_S_band_37 : decode m_S_band.2.1 37 = .ok (.iconst (-1), 1) := by decide +kernel
theorem d_S_band_38 : decode m_S_band.2.1 38 = .ok (.istore_n 3, 1) := by decide +kernel
theorem d_S_band_39 : decode m_S_band.2.1 39 = .ok (.iconst (-1), 1) := by decide +kernel
theorem d_S_band_40 : decode m_S_band.2.1 40 = .ok (.istore 4, 2) := by decide +kernel
theorem d_S_band_42 : decode m_S_band.2.1 42 = .ok (.iconst 0, 1) := by decide +kernel
theorem d_S_band_43 : decode m_S_band.2.1 43 = .ok (.istore 5, 2) := by decide +kernel
theorem d_S_band_45 : decode m_S_band.2.1 45 = .ok (.iconst 0, 1) := by decide +kernel
theorem d_S_band_46 : decode m_S_band.2.1 46 = .ok (.istore 6, 2) := by decide +kernel
theorem d_S_band_48 : decode m_S_band.2.1 48 = .ok (.iload 6, 2) := by decide +kernel
theorem d_S_band_50 : decode m_S_band.2.1 50 = .ok (.sipush 1000, 3) := by decide +kernel
theorem d_S_band_53 : decode m_S_band.2.1 53 = .ok (.if_icmp .ge 57, 3) := by decide +kernel
theorem d_S_band_56 : decode m_S_band.2.1 56 = .ok (.aload_n 0, 1) := by decide +kernel
theorem d_S_band_57 : decode m_S_band.2.1 57 = .ok (.getfield 28, 3) := by decide +kernel
theorem d_S_band_60 : decode m_S_band.2.1 60 = .ok (.getfield 100, 3) := by decide +kernel
theorem d_S_band_63 : decode m_S_band.2.1 63 = .ok (.iload 6, 2) := by decide +kernel
theorem d_S_band_65 : decode m_S_band.2.1 65 = .ok (.invokevirtual 184, 3) := by decide +kernel
theorem d_S_band_68 : decode m_S_band.2.1 68 = .ok (.iload_n 1, 1) := by decide +kernel
theorem d_S_band_69 : decode m_S_band.2.1 69 = .ok (.aload_n 0, 1) := by decide +kernel
theorem d_S_band_70 : decode m_S_band.2.1 70 = .ok (.getfield 28, 3) := by decide +kernel
theorem d_S_band_73 : decode m_S_band.2.1 73 = .ok (.getfield 100, 3) := by decide +kernel
theorem d_S_band_76 : decode m_S_band.2.1 76 = .ok (.getfield 193, 3) := by decide +kernel
theorem d_S_band_79 : decode m_S_band.2.1 79 = .ok (.invokestatic 196, 3) := by decide +kernel
theorem d_S_band_82 : decode m_S_band.2.1 82 = .ok (.ifCond .eq 22, 3) := by decide +kernel
theorem d_S_band_85 : decode m_S_band.2.1 85 = .ok (.iload_n 3, 1) := by decide +kernel
theorem d_S_band_86 : decode m_S_band.2.1 86 = .ok (.iconst (-1), 1) := by decide +kernel
theorem d_S_band_87 : decode m_S_band.2.1 87 = .ok (.if_icmp .ne 8, 3) := by decide +kernel
theorem d_S_band_90 : decode m_S_band.2.1 90 = .ok (.iload 6, 2) := by decide +kernel
theorem d_S_band_92 : decode m_S_band.2.1 92 = .ok (.goto 4, 3) := by decide +kernel
theorem d_S_band_95 : decode m_S_band.2.1 95 = .ok (.iload_n 3, 1) := by decide +kernel
theorem d_S_band_96 : decode m_S_band.2.1 96 = .ok (.istore_n 3, 1) := by decide +kernel
theorem d_S_band_97 : decode m_S_band.2.1 97 = .ok (.iload 6, 2) := by decide +kernel
theorem d_S_band_99 : decode m_S_band.2.1 99 = .ok (.istore 4, 2) := by decide +kernel
theorem d_S_band_101 : decode m_S_band.2.1 101 = .ok (.iinc 5 1, 3) := by decide +kernel
theorem d_S_band_104 : decode m_S_band.2.1 104 = .ok (.iinc 6 1, 3) := by decide +kernel
theorem d_S_band_107 : decode m_S_band.2.1 107 = .ok (.goto (-59), 3) := by decide +kernel
theorem d_S_band_110 : decode m_S_band.2.1 110 = .ok (.iload_n 2, 1) := by decide +kernel
theorem d_S_band_111 : decode m_S_band.2.1 111 = .ok (.ifCond .ne 7, 3) := by decide +kernel
theorem d_S_band_114 : decode m_S_band.2.1 114 = .ok (.iload_n 3, 1) := by decide +kernel
theorem d_S_band_115 : decode m_S_band.2.1 115 = .ok (.goto 15, 3) := by decide +kernel
theorem d_S_band_118 : decode m_S_band.2.1 118 = .ok (.iload_n 2, 1) := by decide +kernel
theorem d_S_band_119 : decode m_S_band.2.1 119 = .ok (.iconst 1, 1) := by decide +kernel
theorem d_S_band_120 : decode m_S_band.2.1 120 = .ok (.if_icmp .ne 8, 3) := by decide +kernel
theorem d_S_band_123 : decode m_S_band.2.1 123 = .ok (.iload 4, 2) := by decide +kernel
theorem d_S_band_125 : decode m_S_band.2.1 125 = .ok (.goto 5, 3) := by decide +kernel
theorem d_S_band_128 : decode m_S_band.2.1 128 = .ok (.iload 5, 2) := by decide +kernel
theorem d_S_band_130 : decode m_S_band.2.1 130 = .ok (.ireturn, 1) := by decide +kernel
theorem d_S_climbed_0 : decode m_S_climbed.2.1 0 = .ok (.iload_n 1, 1) := by decide +kernel
theorem d_S_climbed_1 : decode m_S_climbed.2.1 1 = .ok (.invokestatic 178, 3) := by decide +kernel
theorem d_S_climbed_4 : decode m_S_climbed.2.1 4 = .ok (.ifCond .ne 5, 3) := by decide +kernel
theorem d_S_climbed_7 : decode m_S_climbed.2.1 7 = .ok (.iconst (-1), 1) := by decide +kernel
theorem d_S_climbed_8 : decode m_S_climbed.2.1 8 = .ok (.ireturn, 1) := by decide +kernel
theorem d_S_climbed_9 : decode m_S_climbed.2.1 9 = .ok (.iload_n 1, 1) := by decide +kernel
theorem d_S_climbed_10 : decode m_S_climbed.2.1 10 = .ok (.istore_n 2, 1) := by decide +kernel
theorem d_S_climbed_11 : decode m_S_climbed.2.1 11 = .ok (.iconst 0, 1) := by decide +kernel
theorem d_S_climbed_12 : decode m_S_climbed.2.1 12 = .ok (.istore_n 3, 1) := by decide +kernel
theorem d_S_climbed_13 : decode m_S_climbed.2.1 13 = .ok (.iload_n 3, 1) := by decide +kernel
theorem d_S_climbed_14 : decode m_S_climbed.2.1 14 = .ok (.sipush 1000, 3) := by decide +kernel
theorem d_S_climbed_17 : decode m_S_climbed.2.1 17 = .ok (.if_icmp .ge 35, 3) := by decide +kernel
theorem d_S_climbed_20 : decode m_S_climbed.2.1 20 = .ok (.aload_n 0, 1) := by decide +kernel
theorem d_S_climbed_21 : decode m_S_climbed.2.1 21 = .ok (.getfield 28, 3) := by decide +kernel
theorem d_S_climbed_24 : decode m_S_climbed.2.1 24 = .ok (.getfield 100, 3) := by decide +kernel
theorem d_S_climbed_27 : decode m_S_climbed.2.1 27 = .ok (.iload_n 2, 1) := by decide +kernel
theorem d_S_climbed_28 : decode m_S_climbed.2.1 28 = .ok (.invokevirtual 199, 3) := by decide +kernel
theorem d_S_climbed_31 : decode m_S_climbed.2.1 31 = .ok (.istore 4, 2) := by decide +kernel
theorem d_S_climbed_33 : decode m_S_climbed.2.1 33 = .ok (.iload 4, 2) := by decide +kernel
theorem d_S_climbed_35 : decode m_S_climbed.2.1 35 = .ok (.ifCond .ne 6, 3) := by decide +kernel
theorem d_S_climbed_38 : decode m_S_climbed.2.1 38 = .ok (.goto 14, 3) := by decide +kernel
theorem d_S_climbed_41 : decode m_S_climbed.2.1 41 = .ok (.iload_n 2, 1) := by decide +kernel
theorem d_S_climbed_42 : decode m_S_climbed.2.1 42 = .ok (.iload 4, 2) := by decide +kernel
theorem d_S_climbed_44 : decode m_S_climbed.2.1 44 = .ok (.iadd, 1) := by decide +kernel
theorem d_S_climbed_45 : decode m_S_climbed.2.1 45 = .ok (.istore_n 2, 1) := by decide +kernel
theorem d_S_climbed_46 : decode m_S_climbed.2.1 46 = .ok (.iinc 3 1, 3) := by decide +kernel
theorem d_S_climbed_49 : decode m_S_climbed.2.1 49 = .ok (.goto (-36), 3) := by decide +kernel
theorem d_S_climbed_52 : decode m_S_climbed.2.1 52 = .ok (.iload_n 2, 1) := by decide +kernel
theorem d_S_climbed_53 : decode m_S_climbed.2.1 53 = .ok (.ireturn, 1) := by decide +kernel
theorem d_S_shadeOf_0 : decode m_S_shadeOf.2.1 0 = .ok (.aload_n 0, 1) := by decide +kernel
theorem d_S_shadeOf_1 : decode m_S_shadeOf.2.1 1 = .ok (.iload_n 1, 1) := by decide +kernel
theorem d_S_shadeOf_2 : decode m_S_shadeOf.2.1 2 = .ok (.invokevirtual 97, 3) := by decide +kernel
theorem d_S_shadeOf_5 : decode m_S_shadeOf.2.1 5 = .ok (.ifCond .eq 24, 3) := by decide +kernel
theorem d_S_shadeOf_8 : decode m_S_shadeOf.2.1 8 = .ok (.aload_n 0, 1) := by decide +kernel
theorem d_S_shadeOf_9 : decode m_S_shadeOf.2.1 9 = .ok (.iload_n 1, 1) := by decide +kernel
theorem d_S_shadeOf_10 : decode m_S_shadeOf.2.1 10 = .ok (.bipush 100, 2) := by decide +kernel
theorem d_S_shadeOf_12 : decode m_S_shadeOf.2.1 12 = .ok (.invokevirtual 202, 3) := by decide +kernel
theorem d_S_shadeOf_15 : decode m_S_shadeOf.2.1 15 = .ok (.aload_n 0, 1) := by decide +kernel
theorem d_S_shadeOf_16 : decode m_S_shadeOf.2.1 16 = .ok (.getfield 28, 3) := by decide +kernel
theorem d_S_shadeOf_19 : decode m_S_shadeOf.2.1 19 = .ok (.getfield 100, 3) := by decide +kernel
theorem d_S_shadeOf_22 : decode m_S_shadeOf.2.1 22 = .ok (.getfield 193, 3) := by decide +kernel
theorem d_S_shadeOf_25 : decode m_S_shadeOf.2.1 25 = .ok (.isub, 1) := by decide +kernel
theorem d_S_shadeOf_26 : decode m_S_shadeOf.2.1 26 = .ok (.goto 4, 3) := by decide +kernel
theorem d_S_shadeOf_29 : decode m_S_shadeOf.2.1 29 = .ok (.iconst (-1), 1) := by decide +kernel
theorem d_S_shadeOf_30 : decode m_S_shadeOf.2.1 30 = .ok (.ireturn, 1) := by decide +kernel
theorem d_S_lightFor_0 : decode m_S_lightFor.2.1 0 = .ok (.aload_n 0, 1) := by decide +kernel
theorem d_S_lightFor_1 : decode m_S_lightFor.2.1 1 = .ok (.iload_n 1, 1) := by decide +kernel
theorem d_S_lightFor_2 : decode m_S_lightFor.2.1 2 = .ok (.invokevirtual 97, 3) := by decide +kernel
theorem d_S_lightFor_5 : decode m_S_lightFor.2.1 5 = .ok (.ifCond .eq 13, 3) := by decide +kernel
theorem d_S_lightFor_8 : decode m_S_lightFor.2.1 8 = .ok (.iload_n 2, 1) := by decide +kernel
theorem d_S_lightFor_9 : decode m_S_lightFor.2.1 9 = .ok (.iconst 0, 1) := by decide +kernel
theorem d_S_lightFor_10 : decode m_S_lightFor.2.1 10 = .ok (.ldc 206, 2) := by decide +kernel
theorem d_S_lightFor_12 : decode m_S_lightFor.2.1 12 = .ok (.invokestatic 54, 3) := by decide +kernel
theorem d_S_lightFor_15 : decode m_S_lightFor.2.1 15 = .ok (.ifCond .ne 5, 3) := by decide +kernel
theorem d_S_lightFor_18 : decode m_S_lightFor.2.1 18 = .ok (.iconst (-1), 1) := by decide +kernel
theorem d_S_lightFor_19 : decode m_S_lightFor.2.1 19 = .ok (.ireturn, 1) := by decide +kernel
theorem d_S_lightFor_20 : decode m_S_lightFor.2.1 20 = .ok (.aload_n 0, 1) := by decide +kernel
theorem d_S_lightFor_21 : decode m_S_lightFor.2.1 21 = .ok (.iload_n 1, 1) := by decide +kernel
theorem d_S_lightFor_22 : decode m_S_lightFor.2.1 22 = .ok (.bipush 100, 2) := by decide +kernel
theorem d_S_lightFor_24 : decode m_S_lightFor.2.1 24 = .ok (.invokevirtual 202, 3) := by decide +kernel
theorem d_S_lightFor_27 : decode m_S_lightFor.2.1 27 = .ok (.iload_n 2, 1) := by decide +kernel
theorem d_S_lightFor_28 : decode m_S_lightFor.2.1 28 = .ok (.if_icmp .ge 6, 3) := by decide +kernel
theorem d_S_lightFor_31 : decode m_S_lightFor.2.1 31 = .ok (.bipush (-2), 2) := by decide +kernel
theorem d_S_lightFor_33 : decode m_S_lightFor.2.1 33 = .ok (.ireturn, 1) := by decide +kernel
theorem d_S_lightFor_34 : decode m_S_lightFor.2.1 34 = .ok (.iconst 0, 1) := by decide +kernel
theorem d_S_lightFor_35 : decode m_S_lightFor.2.1 35 = .ok (.istore_n 3, 1) := by decide +kernel
theorem d_S_lightFor_36 : decode m_S_lightFor.2.1 36 = .ok (.bipush 100, 2) := by decide +kernel
theorem d_S_lightFor_38 : decode m_S_lightFor.2.1 38 = .ok (.istore 4, 2) := by decide +kernel
theorem d_S_lightFor_40 : decode m_S_lightFor.2.1 40 = .ok (.iconst 0, 1) := by decide +kernel
theorem d_S_lightFor_41 : decode m_S_lightFor.2.1 41 = .ok (.istore 5, 2) := by decide +kernel
theorem d_S_lightFor_43 : decode m_S_lightFor.2.1 43 = .ok (.iload 5, 2) := by decide +kernel
theorem d_S_lightFor_45 : decode m_S_lightFor.2.1 45 = .ok (.bipush 7, 2) := by decide +kernel
theorem d_S_lightFor_47 : decode m_S_lightFor.2.1 47 = .ok (.if_icmp .ge 46, 3) := by decide +kernel
theorem d_S_lightFor_50 : decode m_S_lightFor.2.1 50 = .ok (.iload_n 3, 1) := by decide +kernel
theorem d_S_lightFor_51 : decode m_S_lightFor.2.1 51 = .ok (.iload 4, 2) := by decide +kernel
theorem d_S_lightFor_53 : decode m_S_lightFor.2.1 53 = .ok (.if_icmp .ge 40, 3) := by decide +kernel
theorem d_S_lightFor_56 : decode m_S_lightFor.2.1 56 = .ok (.iload_n 3, 1) := by decide +kernel
theorem d_S_lightFor_57 : decode m_S_lightFor.2.1 57 = .ok (.iload 4, 2) := by decide +kernel
theorem d_S_lightFor_59 : decode m_S_lightFor.2.1 59 = .ok (.iadd, 1) := by decide +kernel
theorem d_S_lightFor_60 : decode m_S_lightFor.2.1 60 = .ok (.iconst 2, 1) := by decide +kernel
theorem d_S_lightFor_61 : decode m_S_lightFor.2.1 61 = .ok (.idiv, 1) := by decide +kernel
theorem d_S_lightFor_62 : decode m_S_lightFor.2.1 62 = .ok (.istore 6, 2) := by decide +kernel
theorem d_S_lightFor_64 : decode m_S_lightFor.2.1 64 = .ok (.aload_n 0, 1) := by decide +kernel
theorem d_S_lightFor_65 : decode m_S_lightFor.2.1 65 = .ok (.iload_n 1, 1) := by decide +kernel
theorem d_S_lightFor_66 : decode m_S_lightFor.2.1 66 = .ok (.iload 6, 2) := by decide +kernel
theorem d_S_lightFor_68 : decode m_S_lightFor.2.1 68 = .ok (.invokevirtual 202, 3) := by decide +kernel
theorem d_S_lightFor_71 : decode m_S_lightFor.2.1 71 = .ok (.iload_n 2, 1) := by decide +kernel
theorem d_S_lightFor_72 : decode m_S_lightFor.2.1 72 = .ok (.if_icmp .lt 10, 3) := by decide +kernel
theorem d_S_lightFor_75 : decode m_S_lightFor.2.1 75 = .ok (.iload 6, 2) := by decide +kernel
theorem d_S_lightFor_77 : decode m_S_lightFor.2.1 77 = .ok (.istore 4, 2) := by decide +kernel
theorem d_S_lightFor_79 : decode m_S_lightFor.2.1 79 = .ok (.goto 8, 3) := by decide +kernel
theorem d_S_lightFor_82 : decode m_S_lightFor.2.1 82 = .ok (.iload 6, 2) := by decide +kernel
theorem d_S_lightFor_84 : decode m_S_lightFor.2.1 84 = .ok (.iconst 1, 1) := by decide +kernel
theorem d_S_lightFor_85 : decode m_S_lightFor.2.1 85 = .ok (.iadd, 1) := by decide +kernel
theorem d_S_lightFor_86 : decode m_S_lightFor.2.1 86 = .ok (.istore_n 3, 1) := by decide +kernel
theorem d_S_lightFor_87 : decode m_S_lightFor.2.1 87 = .ok (.iinc 5 1, 3) := by decide +kernel
theorem d_S_lightFor_90 : decode m_S_lightFor.2.1 90 = .ok (.goto (-47), 3) := by decide +kernel
theorem d_S_lightFor_93 : decode m_S_lightFor.2.1 93 = .ok (.iload 4, 2) := by decide +kernel
theorem d_S_lightFor_95 : decode m_S_lightFor.2.1 95 = .ok (.ireturn, 1) := by decide +kernel
theorem d_S_darkest_0 : decode m_S_darkest.2.1 0 = .ok (.bipush (-2), 2) := by decide +kernel
theorem d_S_darkest_2 : decode m_S_darkest.2.1 2 = .ok (.istore_n 1, 1) := by decide +kernel
theorem d_S_darkest_3 : decode m_S_darkest.2.1 3 = .ok (.iconst (-1), 1) := by decide +kernel
theorem d_S_darkest_4 : decode m_S_darkest.2.1 4 = .ok (.istore_n 2, 1) := by decide +kernel
theorem d_S_darkest_5 : decode m_S_darkest.2.1 5 = .ok (.iconst 0, 1) := by decide +kernel
theorem d_S_darkest_6 : decode m_S_darkest.2.1 6 = .ok (.istore_n 3, 1) := by decide +kernel
theorem d_S_darkest_7 : decode m_S_darkest.2.1 7 = .ok (.iload_n 3, 1) := by decide +kernel
theorem d_S_darkest_8 : decode m_S_darkest.2.1 8 = .ok (.aload_n 0, 1) := by decide +kernel
theorem d_S_darkest_9 : decode m_S_darkest.2.1 9 = .ok (.getfield 28, 3) := by decide +kernel
theorem d_S_darkest_12 : decode m_S_darkest.2.1 12 = .ok (.getfield 100, 3) := by decide +kernel
theorem d_S_darkest_15 : decode m_S_darkest.2.1 15 = .ok (.getfield 207, 3) := by decide +kernel
theorem d_S_darkest_18 : decode m_S_darkest.2.1 18 = .ok (.if_icmp .ge 40, 3) := by decide +kernel
theorem d_S_darkest_21 : decode m_S_darkest.2.1 21 = .ok (.aload_n 0, 1) := by decide +kernel
theorem d_S_darkest_22 : decode m_S_darkest.2.1 22 = .ok (.iload_n 3, 1) := by decide +kernel
theorem d_S_darkest_23 : decode m_S_darkest.2.1 23 = .ok (.bipush 100, 2) := by decide +kernel
theorem d_S_darkest_25 : decode m_S_darkest.2.1 25 = .ok (.invokevirtual 202, 3) := by decide +kernel
theorem d_S_darkest_28 : decode m_S_darkest.2.1 28 = .ok (.aload_n 0, 1) := by decide +kernel
theorem d_S_darkest_29 : decode m_S_darkest.2.1 29 = .ok (.getfield 28, 3) := by decide +kernel
theorem d_S_darkest_32 : decode m_S_darkest.2.1 32 = .ok (.getfield 100, 3) := by decide +kernel
theorem d_S_darkest_35 : decode m_S_darkest.2.1 35 = .ok (.getfield 193, 3) := by decide +kernel
theorem d_S_darkest_38 : decode m_S_darkest.2.1 38 = .ok (.isub, 1) := by decide +kernel
theorem d_S_darkest_39 : decode m_S_darkest.2.1 39 = .ok (.istore 4, 2) := by decide +kernel
theorem d_S_darkest_41 : decode m_S_darkest.2.1 41 = .ok (.iload 4, 2) := by decide +kernel
theorem d_S_darkest_43 : decode m_S_darkest.2.1 43 = .ok (.iload_n 2, 1) := by decide +kernel
theorem d_S_darkest_44 : decode m_S_darkest.2.1 44 = .ok (.if_icmp .le 8, 3) := by decide +kernel
theorem d_S_darkest_47 : decode m_S_darkest.2.1 47 = .ok (.iload 4, 2) := by decide +kernel
theorem d_S_darkest_49 : decode m_S_darkest.2.1 49 = .ok (.istore_n 2, 1) := by decide +kernel
theorem d_S_darkest_50 : decode m_S_darkest.2.1 50 = .ok (.iload_n 3, 1) := by decide +kernel
theorem d_S_darkest_51 : decode m_S_darkest.2.1 51 = .ok (.istore_n 1, 1) := by decide +kernel
theorem d_S_darkest_52 : decode m_S_darkest.2.1 52 = .ok (.iinc 3 1, 3) := by decide +kernel
theorem d_S_darkest_55 : decode m_S_darkest.2.1 55 = .ok (.goto (-48), 3) := by decide +kernel
theorem d_S_darkest_58 : decode m_S_darkest.2.1 58 = .ok (.iload_n 1, 1) := by decide +kernel
theorem d_S_darkest_59 : decode m_S_darkest.2.1 59 = .ok (.ireturn, 1) := by decide +kernel
theorem d_S_now_0 : decode m_S_now.2.1 0 = .ok (.iload_n 1, 1) := by decide +kernel
theorem d_S_now_1 : decode m_S_now.2.1 1 = .ok (.iconst 0, 1) := by decide +kernel
theorem d_S_now_2 : decode m_S_now.2.1 2 = .ok (.bipush 7, 2) := by decide +kernel
theorem d_S_now_4 : decode m_S_now.2.1 4 = .ok (.invokestatic 54, 3) := by decide +kernel
theorem d_S_now_7 : decode m_S_now.2.1 7 = .ok (.ifCond .eq 11, 3) := by decide +kernel
theorem d_S_now_10 : decode m_S_now.2.1 10 = .ok (.aload_n 0, 1) := by decide +kernel
theorem d_S_now_11 : decode m_S_now.2.1 11 = .ok (.iload_n 1, 1) := by decide +kernel
theorem d_S_now_12 : decode m_S_now.2.1 12 = .ok (.invokevirtual 208, 3) := by decide +kernel
theorem d_S_now_15 : decode m_S_now.2.1 15 = .ok (.goto 8, 3) := by decide +kernel
theorem d_S_now_18 : decode m_S_now.2.1 18 = .ok (.aload_n 0, 1) := by decide +kernel
theorem d_S_now_19 : decode m_S_now.2.1 19 = .ok (.iload_n 1, 1) := by decide +kernel
theorem d_S_now_20 : decode m_S_now.2.1 20 = .ok (.invokevirtual 211, 3) := by decide +kernel
theorem d_S_now_23 : decode m_S_now.2.1 23 = .ok (.ireturn, 1) := by decide +kernel
theorem d_S_sum_0 : decode m_S_sum.2.1 0 = .ok (.aload_n 0, 1) := by decide +kernel
theorem d_S_sum_1 : decode m_S_sum.2.1 1 = .ok (.getfield 28, 3) := by decide +kernel
theorem d_S_sum_4 : decode m_S_sum.2.1 4 = .ok (.iload_n 1, 1) := by decide +kernel
theorem d_S_sum_5 : decode m_S_sum.2.1 5 = .ok (.invokevirtual 214, 3) := by decide +kernel
theorem d_S_sum_8 : decode m_S_sum.2.1 8 = .ok (.ifCond .eq 14, 3) := by decide +kernel
theorem d_S_sum_11 : decode m_S_sum.2.1 11 = .ok (.aload_n 0, 1) := by decide +kernel
theorem d_S_sum_12 : decode m_S_sum.2.1 12 = .ok (.getfield 28, 3) := by decide +kernel
theorem d_S_sum_15 : decode m_S_sum.2.1 15 = .ok (.iload_n 1, 1) := by decide +kernel
theorem d_S_sum_16 : decode m_S_sum.2.1 16 = .ok (.invokevirtual 217, 3) := by decide +kernel
theorem d_S_sum_19 : decode m_S_sum.2.1 19 = .ok (.goto 6, 3) := by decide +kernel
theorem d_S_sum_22 : decode m_S_sum.2.1 22 = .ok (.ldc2_w 221, 3) := by decide +kernel
theorem d_S_sum_25 : decode m_S_sum.2.1 25 = .ok (.lreturn, 1) := by decide +kernel
theorem d_S_past_0 : decode m_S_past.2.1 0 = .ok (.iload_n 1, 1) := by decide +kernel
theorem d_S_past_1 : decode m_S_past.2.1 1 = .ok (.ifCond .lt 13, 3) := by decide +kernel
theorem d_S_past_4 : decode m_S_past.2.1 4 = .ok (.iload_n 2, 1) := by decide +kernel
theorem d_S_past_5 : decode m_S_past.2.1 5 = .ok (.iconst 0, 1) := by decide +kernel
theorem d_S_past_6 : decode m_S_past.2.1 6 = .ok (.bipush 9, 2) := by decide +kernel
theorem d_S_past_8 : decode m_S_past.2.1 8 = .ok (.invokestatic 54, 3) := by decide +kernel
theorem d_S_past_11 : decode m_S_past.2.1 11 = .ok (.ifCond .ne 5, 3) := by decide +kernel
theorem d_S_past_14 : decode m_S_past.2.1 14 = .ok (.iconst (-1), 1) := by decide +kernel
theorem d_S_past_15 : decode m_S_past.2.1 15 = .ok (.ireturn, 1) := by decide +kernel
theorem d_S_past_16 : decode m_S_past.2.1 16 = .ok (.iload_n 1, 1) := by decide +kernel
theorem d_S_past_17 : decode m_S_past.2.1 17 = .ok (.aload_n 0, 1) := by decide +kernel
theorem d_S_past_18 : decode m_S_past.2.1 18 = .ok (.getfield 38, 3) := by decide +kernel
theorem d_S_past_21 : decode m_S_past.2.1 21 = .ok (.getfield 66, 3) := by decide +kernel
theorem d_S_past_24 : decode m_S_past.2.1 24 = .ok (.if_icmp .ge 15, 3) := by decide +kernel
theorem d_S_past_27 : decode m_S_past.2.1 27 = .ok (.aload_n 0, 1) := by decide +kernel
theorem d_S_past_28 : decode m_S_past.2.1 28 = .ok (.getfield 38, 3) := by decide +kernel
theorem d_S_past_31 : decode m_S_past.2.1 31 = .ok (.iload_n 1, 1) := by decide +kernel
theorem d_S_past_32 : decode m_S_past.2.1 32 = .ok (.iload_n 2, 1) := by decide +kernel
theorem d_S_past_33 : decode m_S_past.2.1 33 = .ok (.invokevirtual 223, 3) := by decide +kernel
theorem d_S_past_36 : decode m_S_past.2.1 36 = .ok (.goto 5, 3) := by decide +kernel
theorem d_S_past_39 : decode m_S_past.2.1 39 = .ok (.bipush (-2), 2) := by decide +kernel
theorem d_S_past_41 : decode m_S_past.2.1 41 = .ok (.ireturn, 1) := by decide +kernel
theorem d_S_near_0 : decode m_S_near.2.1 0 = .ok (.iload_n 1, 1) := by decide +kernel
theorem d_S_near_1 : decode m_S_near.2.1 1 = .ok (.iconst 0, 1) := by decide +kernel
theorem d_S_near_2 : decode m_S_near.2.1 2 = .ok (.bipush 100, 2) := by decide +kernel
theorem d_S_near_4 : decode m_S_near.2.1 4 = .ok (.invokestatic 54, 3) := by decide +kernel
theorem d_S_near_7 : decode m_S_near.2.1 7 = .ok (.ifCond .ne 5, 3) := by decide +kernel
theorem d_S_near_10 : decode m_S_near.2.1 10 = .ok (.iconst (-1), 1) := by decide +kernel
theorem d_S_near_11 : decode m_S_near.2.1 11 = .ok (.ireturn, 1) := by decide +kernel
theorem d_S_near_12 : decode m_S_near.2.1 12 = .ok (.iconst 0, 1) := by decide +kernel
theorem d_S_near_13 : decode m_S_near.2.1 13 = .ok (.istore_n 2, 1) := by decide +kernel
theorem d_S_near_14 : decode m_S_near.2.1 14 = .ok (.iconst 0, 1) := by decide +kernel
theorem d_S_near_15 : decode m_S_near.2.1 15 = .ok (.istore_n 3, 1) := by decide +kernel
theorem d_S_near_16 : decode m_S_near.2.1 16 = .ok (.iload_n 3, 1) := by decide +kernel
theorem d_S_near_17 : decode m_S_near.2.1 17 = .ok (.aload_n 0, 1) := by decide +kernel
theorem d_S_near_18 : decode m_S_near.2.1 18 = .ok (.getfield 38, 3) := by decide +kernel
theorem d_S_near_21 : decode m_S_near.2.1 21 = .ok (.getfield 66, 3) := by decide +kernel
theorem d_S_near_24 : decode m_S_near.2.1 24 = .ok (.if_icmp .ge 24, 3) := by decide +kernel
theorem d_S_near_27 : decode m_S_near.2.1 27 = .ok (.aload_n 0, 1) := by decide +kernel
theorem d_S_near_28 : decode m_S_near.2.1 28 = .ok (.getfield 38, 3) := by decide +kernel
theorem d_S_near_31 : decode m_S_near.2.1 31 = .ok (.iload_n 3, 1) := by decide +kernel
theorem d_S_near_32 : decode m_S_near.2.1 32 = .ok (.iload_n 1, 1) := by decide +kernel
theorem d_S_near_33 : decode m_S_near.2.1 33 = .ok (.invokevirtual 225, 3) := by decide +kernel
theorem d_S_near_36 : decode m_S_near.2.1 36 = .ok (.ifCond .eq 6, 3) := by decide +kernel
theorem d_S_near_39 : decode m_S_near.2.1 39 = .ok (.iinc 2 1, 3) := by decide +kernel
theorem d_S_near_42 : decode m_S_near.2.1 42 = .ok (.iinc 3 1, 3) := by decide +kernel
theorem d_S_near_45 : decode m_S_near.2.1 45 = .ok (.goto (-29), 3) := by decide +kernel
theorem d_S_near_48 : decode m_S_near.2.1 48 = .ok (.iload_n 2, 1) := by decide +kernel
theorem d_S_near_49 : decode m_S_near.2.1 49 = .ok (.ireturn, 1) := by decide +kernel
theorem d_S_longestAway_0 : decode m_S_longestAway.2.1 0 = .ok (.iload_n 1, 1) := by decide +kernel
theorem d_S_longestAway_1 : decode m_S_longestAway.2.1 1 = .ok (.iconst 0, 1) := by decide +kernel
theorem d_S_longestAway_2 : decode m_S_longestAway.2.1 2 = .ok (.bipush 100, 2) := by decide +kernel
theorem d_S_longestAway_4 : decode m_S_longestAway.2.1 4 = .ok (.invokestatic 54, 3) := by decide +kernel
theorem d_S_longestAway_7 : decode m_S_longestAway.2.1 7 = .ok (.ifCond .ne 5, 3) := by decide +kernel
theorem d_S_longestAway_10 : decode m_S_longestAway.2.1 10 = .ok (.iconst (-1), 1) := by decide +kernel
theorem d_S_longestAway_11 : decode m_S_longestAway.2.1 11 = .ok (.ireturn, 1) := by decide +kernel
theorem d_S_longestAway_12 : decode m_S_longestAway.2.1 12 = .ok (.iconst 0, 1) := by decide +kernel
theorem d_S_longestAway_13 : decode m_S_longestAway.2.1 13 = .ok (.istore_n 2, 1) := by decide +kernel
theorem d_S_longestAway_14 : decode m_S_longestAway.2.1 14 = .ok (.iconst 0, 1) := by decide +kernel
theorem d_S_longestAway_15 : decode m_S_longestAway.2.1 15 = .ok (.istore_n 3, 1) := by decide +kernel
theorem d_S_longestAway_16 : decode m_S_longestAway.2.1 16 = .ok (.iconst 0, 1) := by decide +kernel
theorem d_S_longestAway_17 : decode m_S_longestAway.2.1 17 = .ok (.istore 4, 2) := by decide +kernel
theorem d_S_longestAway_19 : decode m_S_longestAway.2.1 19 = .ok (.iload 4, 2) := by decide +kernel
theorem d_S_longestAway_21 : decode m_S_longestAway.2.1 21 = .ok (.aload_n 0, 1) := by decide +kernel
theorem d_S_longestAway_22 : decode m_S_longestAway.2.1 22 = .ok (.getfield 38, 3) := by decide +kernel
theorem d_S_longestAway_25 : decode m_S_longestAway.2.1 25 = .ok (.getfield 66, 3) := by decide +kernel
theorem d_S_longestAway_28 : decode m_S_longestAway.2.1 28 = .ok (.if_icmp .ge 36, 3) := by decide +kernel
theorem d_S_longestAway_31 : decode m_S_longestAway.2.1 31 = .ok (.aload_n 0, 1) := by decide +kernel
theorem d_S_longestAway_32 : decode m_S_longestAway.2.1 32 = .ok (.getfield 38, 3) := by decide +kernel
theorem d_S_longestAway_35 : decode m_S_longestAway.2.1 35 = .ok (.iload 4, 2) := by decide +kernel
theorem d_S_longestAway_37 : decode m_S_longestAway.2.1 37 = .ok (.iload_n 1, 1) := by decide +kernel
theorem d_S_longestAway_38 : decode m_S_longestAway.2.1 38 = .ok (.invokevirtual 225, 3) := by decide +kernel
theorem d_S_longestAway_41 : decode m_S_longestAway.2.1 41 = .ok (.ifCond .eq 7, 3) := by decide +kernel
theorem d_S_longestAway_44 : decode m_S_longestAway.2.1 44 = .ok (.iconst 0, 1) := by decide +kernel
theorem d_S_longestAway_45 : decode m_S_longestAway.2.1 45 = .ok (.goto 6, 3) := by decide +kernel
theorem d_S_longestAway_48 : decode m_S_longestAway.2.1 48 = .ok (.iload_n 3, 1) := by decide +kernel
theorem d_S_longestAway_49 : decode m_S_longestAway.2.1 49 = .ok (.iconst 1, 1) := by decide +kernel
theorem d_S_longestAway_50 : decode m_S_longestAway.2.1 50 = .ok (.iadd, 1) := by decide +kernel
theorem d_S_longestAway_51 : decode m_S_longestAway.2.1 51 = .ok (.istore_n 3, 1) := by decide +kernel
theorem d_S_longestAway_52 : decode m_S_longestAway.2.1 52 = .ok (.iload_n 2, 1) := by decide +kernel
theorem d_S_longestAway_53 : decode m_S_longestAway.2.1 53 = .ok (.iload_n 3, 1) := by decide +kernel
theorem d_S_longestAway_54 : decode m_S_longestAway.2.1 54 = .ok (.invokestatic 228, 3) := by decide +kernel
theorem d_S_longestAway_57 : decode m_S_longestAway.2.1 57 = .ok (.istore_n 2, 1) := by decide +kernel
theorem d_S_longestAway_58 : decode m_S_longestAway.2.1 58 = .ok (.iinc 4 1, 3) := by decide +kernel
theorem d_S_longestAway_61 : decode m_S_longestAway.2.1 61 = .ok (.goto (-42), 3) := by decide +kernel
theorem d_S_longestAway_64 : decode m_S_longestAway.2.1 64 = .ok (.iload_n 2, 1) := by decide +kernel
theorem d_S_longestAway_65 : decode m_S_longestAway.2.1 65 = .ok (.ireturn, 1) := by decide +kernel
theorem d_S_ripple_0 : decode m_S_ripple.2.1 0 = .ok (.iload_n 1, 1) := by decide +kernel
theorem d_S_ripple_1 : decode m_S_ripple.2.1 1 = .ok (.iconst 1, 1) := by decide +kernel
theorem d_S_ripple_2 : decode m_S_ripple.2.1 2 = .ok (.bipush 100, 2) := by decide +kernel
theorem d_S_ripple_4 : decode m_S_ripple.2.1 4 = .ok (.invokestatic 54, 3) := by decide +kernel
theorem d_S_ripple_7 : decode m_S_ripple.2.1 7 = .ok (.ifCond .ne 5, 3) := by decide +kernel
theorem d_S_ripple_10 : decode m_S_ripple.2.1 10 = .ok (.iconst (-1), 1) := by decide +kernel
theorem d_S_ripple_11 : decode m_S_ripple.2.1 11 = .ok (.ireturn, 1) := by decide +kernel
theorem d_S_ripple_12 : decode m_S_ripple.2.1 12 = .ok (.aload_n 0, 1) := by decide +kernel
theorem d_S_ripple_13 : decode m_S_ripple.2.1 13 = .ok (.getfield 38, 3) := by decide +kernel
theorem d_S_ripple_16 : decode m_S_ripple.2.1 16 = .ok (.getfield 66, 3) := by decide +kernel
theorem d_S_ripple_19 : decode m_S_ripple.2.1 19 = .ok (.ifCond .ne 6, 3) := by decide +kernel
theorem d_S_ripple_22 : decode m_S_ripple.2.1 22 = .ok (.bipush (-2), 2) := by decide +kernel
theorem d_S_ripple_24 : decode m_S_ripple.2.1 24 = .ok (.ireturn, 1) := by decide +kernel
theorem d_S_ripple_25 : decode m_S_ripple.2.1 25 = .ok (.aload_n 0, 1) := by decide +kernel
theorem d_S_ripple_26 : decode m_S_ripple.2.1 26 = .ok (.getfield 38, 3) := by decide +kernel
theorem d_S_ripple_29 : decode m_S_ripple.2.1 29 = .ok (.iconst 0, 1) := by decide +kernel
theorem d_S_ripple_30 : decode m_S_ripple.2.1 30 = .ok (.iconst 0, 1) := by decide +kernel
theorem d_S_ripple_31 : decode m_S_ripple.2.1 31 = .ok (.invokevirtual 223, 3) := by decide +kernel
theorem d_S_ripple_34 : decode m_S_ripple.2.1 34 = .ok (.istore_n 2, 1) := by decide +kernel
theorem d_S_ripple_35 : decode m_S_ripple.2.1 35 = .ok (.iload_n 2, 1) := by decide +kernel
theorem d_S_ripple_36 : decode m_S_ripple.2.1 36 = .ok (.istore_n 3, 1) := by decide +kernel
theorem d_S_ripple_37 : decode m_S_ripple.2.1 37 = .ok (.iconst 1, 1) := by decide +kernel
theorem d_S_ripple_38 : decode m_S_ripple.2.1 38 = .ok (.istore 4, 2) := by decide +kernel
theorem d_S_ripple_40 : decode m_S_ripple.2.1 40 = .ok (.iload 4, 2) := by decide +kernel
theorem d_S_ripple_42 : decode m_S_ripple.2.1 42 = .ok (.iload_n 1, 1) := by decide +kernel
theorem d_S_ripple_43 : decode m_S_ripple.2.1 43 = .ok (.if_icmp .ge 47, 3) := by decide +kernel
theorem d_S_ripple_46 : decode m_S_ripple.2.1 46 = .ok (.iload 4, 2) := by decide +kernel
theorem d_S_ripple_48 : decode m_S_ripple.2.1 48 = .ok (.aload_n 0, 1) := by decide +kernel
theorem d_S_ripple_49 : decode m_S_ripple.2.1 49 = .ok (.getfield 38, 3) := by decide +kernel
theorem d_S_ripple_52 : decode m_S_ripple.2.1 52 = .ok (.getfield 66, 3) := by decide +kernel
theorem d_S_ripple_55 : decode m_S_ripple.2.1 55 = .ok (.if_icmp .ge 35, 3) := by decide +kernel
theorem d_S_ripple_58 : decode m_S_ripple.2.1 58 = .ok (.aload_n 0, 1) := by decide +kernel
theorem d_S_ripple_59 : decode m_S_ripple.2.1 59 = .ok (.getfield 38, 3) := by decide +kernel
theorem d_S_ripple_62 : decode m_S_ripple.2.1 62 = .ok (.iload 4, 2) := by decide +kernel
theorem d_S_ripple_64 : decode m_S_ripple.2.1 64 = .ok (.iconst 0, 1) := by decide +kernel
theorem d_S_ripple_65 : decode m_S_ripple.2.1 65 = .ok (.invokevirtual 223, 3) := by decide +kernel
theorem d_S_ripple_68 : decode m_S_ripple.2.1 68 = .ok (.istore 5, 2) := by decide +kernel
theorem d_S_ripple_70 : decode m_S_ripple.2.1 70 = .ok (.iload_n 2, 1) := by decide +kernel
theorem d_S_ripple_71 : decode m_S_ripple.2.1 71 = .ok (.iload 5, 2) := by decide +kernel
theorem d_S_ripple_73 : decode m_S_ripple.2.1 73 = .ok (.invokestatic 233, 3) := by decide +kernel
theorem d_S_ripple_76 : decode m_S_ripple.2.1 76 = .ok (.istore_n 2, 1) := by decide +kernel
theorem d_S_ripple_77 : decode m_S_ripple.2.1 77 = .ok (.iload_n 3, 1) := by decide +kernel
theorem d_S_ripple_78 : decode m_S_ripple.2.1 78 = .ok (.iload 5, 2) := by decide +kernel
theorem d_S_ripple_80 : decode m_S_ripple.2.1 80 = .ok (.invokestatic 228, 3) := by decide +kernel
theorem d_S_ripple_83 : decode m_S_ripple.2.1 83 = .ok (.istore_n 3, 1) := by decide +kernel
theorem d_S_ripple_84 : decode m_S_ripple.2.1 84 = .ok (.iinc 4 1, 3) := by decide +kernel
theorem d_S_ripple_87 : decode m_S_ripple.2.1 87 = .ok (.goto (-47), 3) := by decide +kernel
theorem d_S_ripple_90 : decode m_S_ripple.2.1 90 = .ok (.iload_n 3, 1) := by decide +kernel
theorem d_S_ripple_91 : decode m_S_ripple.2.1 91 = .ok (.iload_n 2, 1) := by decide +kernel
theorem d_S_ripple_92 : decode m_S_ripple.2.1 92 = .ok (.isub, 1) := by decide +kernel
theorem d_S_ripple_93 : decode m_S_ripple.2.1 93 = .ok (.ireturn, 1) := by decide +kernel
theorem d_S_average_0 : decode m_S_average.2.1 0 = .ok (.iload_n 1, 1) := by decide +kernel
theorem d_S_average_1 : decode m_S_average.2.1 1 = .ok (.iconst 1, 1) := by decide +kernel
theorem d_S_average_2 : decode m_S_average.2.1 2 = .ok (.bipush 100, 2) := by decide +kernel
theorem d_S_average_4 : decode m_S_average.2.1 4 = .ok (.invokestatic 54, 3) := by decide +kernel
theorem d_S_average_7 : decode m_S_average.2.1 7 = .ok (.ifCond .ne 5, 3) := by decide +kernel
theorem d_S_average_10 : decode m_S_average.2.1 10 = .ok (.iconst (-1), 1) := by decide +kernel
theorem d_S_average_11 : decode m_S_average.2.1 11 = .ok (.ireturn, 1) := by decide +kernel
theorem d_S_average_12 : decode m_S_average.2.1 12 = .ok (.iload_n 1, 1) := by decide +kernel
theorem d_S_average_13 : decode m_S_average.2.1 13 = .ok (.aload_n 0, 1) := by decide +kernel
theorem d_S_average_14 : decode m_S_average.2.1 14 = .ok (.getfield 38, 3) := by decide +kernel
theorem d_S_average_17 : decode m_S_average.2.1 17 = .ok (.getfield 66, 3) := by decide +kernel
theorem d_S_average_20 : decode m_S_average.2.1 20 = .ok (.invokestatic 233, 3) := by decide +kernel
theorem d_S_average_23 : decode m_S_average.2.1 23 = .ok (.istore_n 2, 1) := by decide +kernel
theorem d_S_average_24 : decode m_S_average.2.1 24 = .ok (.iload_n 2, 1) := by decide +kernel
theorem d_S_average_25 : decode m_S_average.2.1 25 = .ok (.ifCond .ne 6, 3) := by decide +kernel
theorem d_S_average_28 : decode m_S_average.2.1 28 = .ok (.bipush (-2), 2) := by decide +kernel
theorem d_S_average_30 : decode m_S_average.2.1 30 = .ok (.ireturn, 1) := by decide +kernel
theorem d_S_average_31 : decode m_S_average.2.1 31 = .ok (.iconst 0, 1) := by decide +kernel
theorem d_S_average_32 : decode m_S_average.2.1 32 = .ok (.istore_n 3, 1) := by decide +kernel
theorem d_S_average_33 : decode m_S_average.2.1 33 = .ok (.iconst 0, 1) := by decide +kernel
theorem d_S_average_34 : decode m_S_average.2.1 34 = .ok (.istore 4, 2) := by decide +kernel
theorem d_S_average_36 : decode m_S_average.2.1 36 = .ok (.iload 4, 2) := by decide +kernel
theorem d_S_average_38 : decode m_S_average.2.1 38 = .ok (.iload_n 2, 1) := by decide +kernel
theorem d_S_average_39 : decode m_S_average.2.1 39 = .ok (.if_icmp .ge 22, 3) := by decide +kernel
theorem d_S_average_42 : decode m_S_average.2.1 42 = .ok (.iload_n 3, 1) := by decide +kernel
theorem d_S_average_43 : decode m_S_average.2.1 43 = .ok (.aload_n 0, 1) := by decide +kernel
theorem d_S_average_44 : decode m_S_average.2.1 44 = .ok (.getfield 38, 3) := by decide +kernel
theorem d_S_average_47 : decode m_S_average.2.1 47 = .ok (.iload 4, 2) := by decide +kernel
theorem d_S_average_49 : decode m_S_average.2.1 49 = .ok (.iconst 1, 1) := by decide +kernel
theorem d_S_average_50 : decode m_S_average.2.1 50 = .ok (.invokevirtual 223, 3) := by decide +kernel
theorem d_S_average_53 : decode m_S_average.2.1 53 = .ok (.iadd, 1) := by decide +kernel
theorem d_S_average_54 : decode m_S_average.2.1 54 = .ok (.istore_n 3, 1) := by decide +kernel
theorem d_S_average_55 : decode m_S_average.2.1 55 = .ok (.iinc 4 1, 3) := by decide +kernel
theorem d_S_average_58 : decode m_S_average.2.1 58 = .ok (.goto (-22), 3) := by decide +kernel
theorem d_S_average_61 : decode m_S_average.2.1 61 = .ok (.iload_n 3, 1) := by decide +kernel
theorem d_S_average_62 : decode m_S_average.2.1 62 = .ok (.iload_n 2, 1) := by decide +kernel
theorem d_S_average_63 : decode m_S_average.2.1 63 = .ok (.idiv, 1) := by decide +kernel
theorem d_S_average_64 : decode m_S_average.2.1 64 = .ok (.ireturn, 1) := by decide +kernel
theorem d_S_worst_0 : decode m_S_worst.2.1 0 = .ok (.iload_n 1, 1) := by decide +kernel
theorem d_S_worst_1 : decode m_S_worst.2.1 1 = .ok (.iconst 0, 1) := by decide +kernel
theorem d_S_worst_2 : decode m_S_worst.2.1 2 = .ok (.iconst 1, 1) := by decide +kernel
theorem d_S_worst_3 : decode m_S_worst.2.1 3 = .ok (.invokestatic 54, 3) := by decide +kernel
theorem d_S_worst_6 : decode m_S_worst.2.1 6 = .ok (.ifCond .ne 5, 3) := by decide +kernel
theorem d_S_worst_9 : decode m_S_worst.2.1 9 = .ok (.iconst (-1), 1) := by decide +kernel
theorem d_S_worst_10 : decode m_S_worst.2.1 10 = .ok (.ireturn, 1) := by decide +kernel
theorem d_S_worst_11 : decode m_S_worst.2.1 11 = .ok (.aload_n 0, 1) := by decide +kernel
theorem d_S_worst_12 : decode m_S_worst.2.1 12 = .ok (.getfield 38, 3) := by decide +kernel
theorem d_S_worst_15 : decode m_S_worst.2.1 15 = .ok (.getfield 66, 3) := by decide +kernel
theorem d_S_worst_18 : decode m_S_worst.2.1 18 = .ok (.ifCond .ne 6, 3) := by decide +kernel
theorem d_S_worst_21 : decode m_S_worst.2.1 21 = .ok (.bipush (-2), 2) := by decide +kernel
theorem d_S_worst_23 : decode m_S_worst.2.1 23 = .ok (.ireturn, 1) := by decide +kernel
theorem d_S_worst_24 : decode m_S_worst.2.1 24 = .ok (.iconst 0, 1) := by decide +kernel
theorem d_S_worst_25 : decode m_S_worst.2.1 25 = .ok (.istore_n 2, 1) := by decide +kernel
theorem d_S_worst_26 : decode m_S_worst.2.1 26 = .ok (.iconst (-1), 1) := by decide +kernel
theorem d_S_worst_27 : decode m_S_worst.2.1 27 = .ok (.istore_n 3, 1) := by decide +kernel
theorem d_S_worst_28 : decode m_S_worst.2.1 28 = .ok (.iconst 0, 1) := by decide +kernel
theorem d_S_worst_29 : decode m_S_worst.2.1 29 = .ok (.istore 4, 2) := by decide +kernel
theorem d_S_worst_31 : decode m_S_worst.2.1 31 = .ok (.iload 4, 2) := by decide +kernel
theorem d_S_worst_33 : decode m_S_worst.2.1 33 = .ok (.aload_n 0, 1) := by decide +kernel
theorem d_S_worst_34 : decode m_S_worst.2.1 34 = .ok (.getfield 38, 3) := by decide +kernel
theorem d_S_worst_37 : decode m_S_worst.2.1 37 = .ok (.getfield 66, 3) := by decide +kernel
theorem d_S_worst_40 : decode m_S_worst.2.1 40 = .ok (.if_icmp .ge 44, 3) := by decide +kernel
theorem d_S_worst_43 : decode m_S_worst.2.1 43 = .ok (.aload_n 0, 1) := by decide +kernel
theorem d_S_worst_44 : decode m_S_worst.2.1 44 = .ok (.getfield 38, 3) := by decide +kernel
theorem d_S_worst_47 : decode m_S_worst.2.1 47 = .ok (.iload 4, 2) := by decide +kernel
theorem d_S_worst_49 : decode m_S_worst.2.1 49 = .ok (.iconst 2, 1) := by decide +kernel
theorem d_S_worst_50 : decode m_S_worst.2.1 50 = .ok (.invokevirtual 223, 3) := by decide +kernel
theorem d_S_worst_53 : decode m_S_worst.2.1 53 = .ok (.aload_n 0, 1) := by decide +kernel
theorem d_S_worst_54 : decode m_S_worst.2.1 54 = .ok (.getfield 38, 3) := by decide +kernel
theorem d_S_worst_57 : decode m_S_worst.2.1 57 = .ok (.iload 4, 2) := by decide +kernel
theorem d_S_worst_59 : decode m_S_worst.2.1 59 = .ok (.iconst 1, 1) := by decide +kernel
theorem d_S_worst_60 : decode m_S_worst.2.1 60 = .ok (.invokevirtual 223, 3) := by decide +kernel
theorem d_S_worst_63 : decode m_S_worst.2.1 63 = .ok (.isub, 1) := by decide +kernel
theorem d_S_worst_64 : decode m_S_worst.2.1 64 = .ok (.istore 5, 2) := by decide +kernel
theorem d_S_worst_66 : decode m_S_worst.2.1 66 = .ok (.iload 5, 2) := by decide +kernel
theorem d_S_worst_68 : decode m_S_worst.2.1 68 = .ok (.iload_n 3, 1) := by decide +kernel
theorem d_S_worst_69 : decode m_S_worst.2.1 69 = .ok (.if_icmp .le 9, 3) := by decide +kernel
theorem d_S_worst_72 : decode m_S_worst.2.1 72 = .ok (.iload 5, 2) := by decide +kernel
theorem d_S_worst_74 : decode m_S_worst.2.1 74 = .ok (.istore_n 3, 1) := by decide +kernel
theorem d_S_worst_75 : decode m_S_worst.2.1 75 = .ok (.iload 4, 2) := by decide +kernel
theorem d_S_worst_77 : decode m_S_worst.2.1 77 = .ok (.istore_n 2, 1) := by decide +kernel
theorem d_S_worst_78 : decode m_S_worst.2.1 78 = .ok (.iinc 4 1, 3) := by decide +kernel
theorem d_S_worst_81 : decode m_S_worst.2.1 81 = .ok (.goto (-50), 3) := by decide +kernel
theorem d_S_worst_84 : decode m_S_worst.2.1 84 = .ok (.iload_n 1, 1) := by decide +kernel
theorem d_S_worst_85 : decode m_S_worst.2.1 85 = .ok (.ifCond .ne 7, 3) := by decide +kernel
theorem d_S_worst_88 : decode m_S_worst.2.1 88 = .ok (.iload_n 2, 1) := by decide +kernel
theorem d_S_worst_89 : decode m_S_worst.2.1 89 = .ok (.goto 4, 3) := by decide +kernel
theorem d_S_worst_92 : decode m_S_worst.2.1 92 = .ok (.iload_n 3, 1) := by decide +kernel
theorem d_S_worst_93 : decode m_S_worst.2.1 93 = .ok (.ireturn, 1) := by decide +kernel
theorem d_S_comes_0 : decode m_S_comes.2.1 0 = .ok (.iload_n 1, 1) := by decide +kernel
theorem d_S_comes_1 : decode m_S_comes.2.1 1 = .ok (.ifCond .lt 12, 3) := by decide +kernel
theorem d_S_comes_4 : decode m_S_comes.2.1 4 = .ok (.iload_n 2, 1) := by decide +kernel
theorem d_S_comes_5 : decode m_S_comes.2.1 5 = .ok (.iconst 0, 1) := by decide +kernel
theorem d_S_comes_6 : decode m_S_comes.2.1 6 = .ok (.iconst 3, 1) := by decide +kernel
theorem d_S_comes_7 : decode m_S_comes.2.1 7 = .ok (.invokestatic 54, 3) := by decide +kernel
theorem d_S_comes_10 : decode m_S_comes.2.1 10 = .ok (.ifCond .ne 5, 3) := by decide +kernel
theorem d_S_comes_13 : decode m_S_comes.2.1 13 = .ok (.iconst (-1), 1) := by decide +kernel
theorem d_S_comes_14 : decode m_S_comes.2.1 14 = .ok (.ireturn, 1) := by decide +kernel
theorem d_S_comes_15 : decode m_S_comes.2.1 15 = .ok (.iload_n 1, 1) := by decide +kernel
theorem d_S_comes_16 : decode m_S_comes.2.1 16 = .ok (.aload_n 0, 1) := by decide +kernel
theorem d_S_comes_17 : decode m_S_comes.2.1 17 = .ok (.getfield 28, 3) := by decide +kernel
theorem d_S_comes_20 : decode m_S_comes.2.1 20 = .ok (.getfield 238, 3) := by decide +kernel
theorem d_S_comes_23 : decode m_S_comes.2.1 23 = .ok (.invokevirtual 242, 3) := by decide +kernel
theorem d_S_comes_26 : decode m_S_comes.2.1 26 = .ok (.if_icmp .ge 18, 3) := by decide +kernel
theorem d_S_comes_29 : decode m_S_comes.2.1 29 = .ok (.aload_n 0, 1) := by decide +kernel
theorem d_S_comes_30 : decode m_S_comes.2.1 30 = .ok (.getfield 28, 3) := by decide +kernel
theorem d_S_comes_33 : decode m_S_comes.2.1 33 = .ok (.getfield 238, 3) := by decide +kernel
theorem d_S_comes_36 : decode m_S_comes.2.1 36 = .ok (.iload_n 1, 1) := by decide +kernel
theorem d_S_comes_37 : decode m_S_comes.2.1 37 = .ok (.iload_n 2, 1) := by decide +kernel
theorem d_S_comes_38 : decode m_S_comes.2.1 38 = .ok (.invokevirtual 246, 3) := by decide +kernel
theorem d_S_comes_41 : decode m_S_comes.2.1 41 = .ok (.goto 5, 3) := by decide +kernel
theorem d_S_comes_44 : decode m_S_comes.2.1 44 = .ok (.bipush (-2), 2) := by decide +kernel
theorem d_S_comes_46 : decode m_S_comes.2.1 46 = .ok (.ireturn, 1) := by decide +kernel
theorem d_S_cancel_0 : decode m_S_cancel.2.1 0 = .ok (.iload_n 1, 1) := by decide +kernel
theorem d_S_cancel_1 : decode m_S_cancel.2.1 1 = .ok (.ifCond .ge 5, 3) := by decide +kernel
theorem d_S_cancel_4 : decode m_S_cancel.2.1 4 = .ok (.iconst (-1), 1) := by decide +kernel
theorem d_S_cancel_5 : decode m_S_cancel.2.1 5 = .ok (.ireturn, 1) := by decide +kernel
theorem d_S_cancel_6 : decode m_S_cancel.2.1 6 = .ok (.iload_n 1, 1) := by decide +kernel
theorem d_S_cancel_7 : decode m_S_cancel.2.1 7 = .ok (.aload_n 0, 1) := by decide +kernel
theorem d_S_cancel_8 : decode m_S_cancel.2.1 8 = .ok (.getfield 28, 3) := by decide +kernel
theorem d_S_cancel_11 : decode m_S_cancel.2.1 11 = .ok (.getfield 238, 3) := by decide +kernel
theorem d_S_cancel_14 : decode m_S_cancel.2.1 14 = .ok (.invokevirtual 242, 3) := by decide +kernel
theorem d_S_cancel_17 : decode m_S_cancel.2.1 17 = .ok (.if_icmp .lt 6, 3) := by decide +kernel
theorem d_S_cancel_20 : decode m_S_cancel.2.1 20 = .ok (.bipush (-2), 2) := by decide +kernel
theorem d_S_cancel_22 : decode m_S_cancel.2.1 22 = .ok (.ireturn, 1) := by decide +kernel
theorem d_S_cancel_23 : decode m_S_cancel.2.1 23 = .ok (.aload_n 0, 1) := by decide +kernel
theorem d_S_cancel_24 : decode m_S_cancel.2.1 24 = .ok (.getfield 28, 3) := by decide +kernel
theorem d_S_cancel_27 : decode m_S_cancel.2.1 27 = .ok (.getfield 238, 3) := by decide +kernel
theorem d_S_cancel_30 : decode m_S_cancel.2.1 30 = .ok (.iload_n 1, 1) := by decide +kernel
theorem d_S_cancel_31 : decode m_S_cancel.2.1 31 = .ok (.invokevirtual 247, 3) := by decide +kernel
theorem d_S_cancel_34 : decode m_S_cancel.2.1 34 = .ok (.aload_n 0, 1) := by decide +kernel
theorem d_S_cancel_35 : decode m_S_cancel.2.1 35 = .ok (.getfield 28, 3) := by decide +kernel
theorem d_S_cancel_38 : decode m_S_cancel.2.1 38 = .ok (.getfield 238, 3) := by decide +kernel
theorem d_S_cancel_41 : decode m_S_cancel.2.1 41 = .ok (.invokevirtual 242, 3) := by decide +kernel
theorem d_S_cancel_44 : decode m_S_cancel.2.1 44 = .ok (.ireturn, 1) := by decide +kernel
theorem d_S_ifTicks_0 : decode m_S_ifTicks.2.1 0 = .ok (.aload_n 0, 1) := by decide +kernel
theorem d_S_ifTicks_1 : decode m_S_ifTicks.2.1 1 = .ok (.iload_n 1, 1) := by decide +kernel
theorem d_S_ifTicks_2 : decode m_S_ifTicks.2.1 2 = .ok (.invokevirtual 250, 3) := by decide +kernel
theorem d_S_ifTicks_5 : decode m_S_ifTicks.2.1 5 = .ok (.ifCond .eq 13, 3) := by decide +kernel
theorem d_S_ifTicks_8 : decode m_S_ifTicks.2.1 8 = .ok (.iload_n 2, 1) := by decide +kernel
theorem d_S_ifTicks_9 : decode m_S_ifTicks.2.1 9 = .ok (.iconst 0, 1) := by decide +kernel
theorem d_S_ifTicks_10 : decode m_S_ifTicks.2.1 10 = .ok (.bipush 7, 2) := by decide +kernel
theorem d_S_ifTicks_12 : decode m_S_ifTicks.2.1 12 = .ok (.invokestatic 54, 3) := by decide +kernel
theorem d_S_ifTicks_15 : decode m_S_ifTicks.2.1 15 = .ok (.ifCond .ne 5, 3) := by decide +kernel
theorem d_S_ifTicks_18 : decode m_S_ifTicks.2.1 18 = .ok (.iconst (-1), 1) := by decide +kernel
theorem d_S_ifTicks_19 : decode m_S_ifTicks.2.1 19 = .ok (.ireturn, 1) := by decide +kernel
theorem d_S_ifTicks_20 : decode m_S_ifTicks.2.1 20 = .ok (.aload_n 0, 1) := by decide +kernel
theorem d_S_ifTicks_21 : decode m_S_ifTicks.2.1 21 = .ok (.invokevirtual 253, 3) := by decide +kernel
theorem d_S_ifTicks_24 : decode m_S_ifTicks.2.1 24 = .ok (.aload_n 0, 1) := by decide +kernel
theorem d_S_ifTicks_25 : decode m_S_ifTicks.2.1 25 = .ok (.getfield 32, 3) := by decide +kernel
theorem d_S_ifTicks_28 : decode m_S_ifTicks.2.1 28 = .ok (.iload_n 1, 1) := by decide +kernel
theorem d_S_ifTicks_29 : decode m_S_ifTicks.2.1 29 = .ok (.invokevirtual 256, 3) := by decide +kernel
theorem d_S_ifTicks_32 : decode m_S_ifTicks.2.1 32 = .ok (.iload_n 2, 1) := by decide +kernel
theorem d_S_ifTicks_33 : decode m_S_ifTicks.2.1 33 = .ok (.tableswitch 116 0 6 #[43, 53, 63, 73, 83, 94, 105], 43) := by decide +kernel
theorem d_S_ifTicks_76 : decode m_S_ifTicks.2.1 76 = .ok (.aload_n 0, 1) := by decide +kernel
theorem d_S_ifTicks_77 : decode m_S_ifTicks.2.1 77 = .ok (.getfield 32, 3) := by decide +kernel
theorem d_S_ifTicks_80 : decode m_S_ifTicks.2.1 80 = .ok (.iconst 0, 1) := by decide +kernel
theorem d_S_ifTicks_81 : decode m_S_ifTicks.2.1 81 = .ok (.invokevirtual 217, 3) := by decide +kernel
theorem d_S_ifTicks_84 : decode m_S_ifTicks.2.1 84 = .ok (.l2i, 1) := by decide +kernel
theorem d_S_ifTicks_85 : decode m_S_ifTicks.2.1 85 = .ok (.ireturn, 1) := by decide +kernel
theorem d_S_ifTicks_86 : decode m_S_ifTicks.2.1 86 = .ok (.aload_n 0, 1) := by decide +kernel
theorem d_S_ifTicks_87 : decode m_S_ifTicks.2.1 87 = .ok (.getfield 32, 3) := by decide +kernel
theorem d_S_ifTicks_90 : decode m_S_ifTicks.2.1 90 = .ok (.iconst 2, 1) := by decide +kernel
theorem d_S_ifTicks_91 : decode m_S_ifTicks.2.1 91 = .ok (.invokevirtual 217, 3) := by decide +kernel
theorem d_S_ifTicks_94 : decode m_S_ifTicks.2.1 94 = .ok (.l2i, 1) := by decide +kernel
theorem d_S_ifTicks_95 : decode m_S_ifTicks.2.1 95 = .ok (.ireturn, 1) := by decide +kernel
theorem d_S_ifTicks_96 : decode m_S_ifTicks.2.1 96 = .ok (.aload_n 0, 1) := by decide +kernel
theorem d_S_ifTicks_97 : decode m_S_ifTicks.2.1 97 = .ok (.getfield 32, 3) := by decide +kernel
theorem d_S_ifTicks_100 : decode m_S_ifTicks.2.1 100 = .ok (.iconst 3, 1) := by decide +kernel
theorem d_S_ifTicks_101 : decode m_S_ifTicks.2.1 101 = .ok (.invokevirtual 217, 3) := by decide +kernel
theorem d_S_ifTicks_104 : decode m_S_ifTicks.2.1 104 = .ok (.l2i, 1) := by decide +kernel
theorem d_S_ifTicks_105 : decode m_S_ifTicks.2.1 105 = .ok (.ireturn, 1) := by decide +kernel
theorem d_S_ifTicks_106 : decode m_S_ifTicks.2.1 106 = .ok (.aload_n 0, 1) := by decide +kernel
theorem d_S_ifTicks_107 : decode m_S_ifTicks.2.1 107 = .ok (.getfield 32, 3) := by decide +kernel
theorem d_S_ifTicks_110 : decode m_S_ifTicks.2.1 110 = .ok (.iconst 4, 1) := by decide +kernel
theorem d_S_ifTicks_111 : decode m_S_ifTicks.2.1 111 = .ok (.invokevirtual 217, 3) := by decide +kernel
theorem d_S_ifTicks_114 : decode m_S_ifTicks.2.1 114 = .ok (.l2i, 1) := by decide +kernel
theorem d_S_ifTicks_115 : decode m_S_ifTicks.2.1 115 = .ok (.ireturn, 1) := by decide +kernel
theorem d_S_ifTicks_116 : decode m_S_ifTicks.2.1 116 = .ok (.aload_n 0, 1) := by decide +kernel
theorem d_S_ifTicks_117 : decode m_S_ifTicks.2.1 117 = .ok (.getfield 32, 3) := by decide +kernel
theorem d_S_ifTicks_120 : decode m_S_ifTicks.2.1 120 = .ok (.getfield 259, 3) := by decide +kernel
theorem d_S_ifTicks_123 : decode m_S_ifTicks.2.1 123 = .ok (.getfield 263, 3) := by decide +kernel
theorem d_S_ifTicks_126 : decode m_S_ifTicks.2.1 126 = .ok (.ireturn, 1) := by decide +kernel
theorem d_S_ifTicks_127 : decode m_S_ifTicks.2.1 127 = .ok (.aload_n 0, 1) := by decide +kernel
theorem d_S_ifTicks_128 : decode m_S_ifTicks.2.1 128 = .ok (.getfield 32, 3) := by decide +kernel
theorem d_S_ifTicks_131 : decode m_S_ifTicks.2.1 131 = .ok (.getfield 259, 3) := by decide +kernel
theorem d_S_ifTicks_134 : decode m_S_ifTicks.2.1 134 = .ok (.getfield 268, 3) := by decide +kernel
theorem d_S_ifTicks_137 : decode m_S_ifTicks.2.1 137 = .ok (.ireturn, 1) := by decide +kernel
theorem d_S_ifTicks_138 : decode m_S_ifTicks.2.1 138 = .ok (.aload_n 0, 1) := by decide +kernel
theorem d_S_ifTicks_139 : decode m_S_ifTicks.2.1 139 = .ok (.getfield 32, 3) := by decide +kernel
theorem d_S_ifTicks_142 : decode m_S_ifTicks.2.1 142 = .ok (.bipush 6, 2) := by decide +kernel
theorem d_S_ifTicks_144 : decode m_S_ifTicks.2.1 144 = .ok (.invokevirtual 217, 3) := by decide +kernel
theorem d_S_ifTicks_147 : decode m_S_ifTicks.2.1 147 = .ok (.l2i, 1) := by decide +kernel
theorem d_S_ifTicks_148 : decode m_S_ifTicks.2.1 148 = .ok (.ireturn, 1) := by decide +kernel
theorem d_S_ifTicks_149 : decode m_S_ifTicks.2.1 149 = .ok (.aload_n 0, 1) := by decide +kernel
theorem d_S_ifTicks_150 : decode m_S_ifTicks.2.1 150 = .ok (.getfield 32, 3) := by decide +kernel
theorem d_S_ifTicks_153 : decode m_S_ifTicks.2.1 153 = .ok (.getfield 88, 3) := by decide +kernel
theorem d_S_ifTicks_156 : decode m_S_ifTicks.2.1 156 = .ok (.getfield 271, 3) := by decide +kernel
theorem d_S_ifTicks_159 : decode m_S_ifTicks.2.1 159 = .ok (.ireturn, 1) := by decide +kernel
theorem d_S_firstSeen_0 : decode m_S_firstSeen.2.1 0 = .ok (.aload_n 0, 1) := by decide +kernel
theorem d_S_firstSeen_1 : decode m_S_firstSeen.2.1 1 = .ok (.iload_n 1, 1) := by decide +kernel
theorem d_S_firstSeen_2 : decode m_S_firstSeen.2.1 2 = .ok (.invokevirtual 250, 3) := by decide +kernel
theorem d_S_firstSeen_5 : decode m_S_firstSeen.2.1 5 = .ok (.ifCond .eq 12, 3) := by decide +kernel
theorem d_S_firstSeen_8 : decode m_S_firstSeen.2.1 8 = .ok (.aload_n 0, 1) := by decide +kernel
theorem d_S_firstSeen_9 : decode m_S_firstSeen.2.1 9 = .ok (.iload_n 1, 1) := by decide +kernel
theorem d_S_firstSeen_10 : decode m_S_firstSeen.2.1 10 = .ok (.iconst 0, 1) := by decide +kernel
theorem d_S_firstSeen_11 : decode m_S_firstSeen.2.1 11 = .ok (.invokevirtual 274, 3) := by decide +kernel
theorem d_S_firstSeen_14 : decode m_S_firstSeen.2.1 14 = .ok (.goto 4, 3) := by decide +kernel
theorem d_S_firstSeen_17 : decode m_S_firstSeen.2.1 17 = .ok (.iconst (-1), 1) := by decide +kernel
theorem d_S_firstSeen_18 : decode m_S_firstSeen.2.1 18 = .ok (.ireturn, 1) := by decide +kernel
theorem d_S_firstFloat_0 : decode m_S_firstFloat.2.1 0 = .ok (.aload_n 0, 1) := by decide +kernel
theorem d_S_firstFloat_1 : decode m_S_firstFloat.2.1 1 = .ok (.iload_n 1, 1) := by decide +kernel
theorem d_S_firstFloat_2 : decode m_S_firstFloat.2.1 2 = .ok (.invokevirtual 250, 3) := by decide +kernel
theorem d_S_firstFloat_5 : decode m_S_firstFloat.2.1 5 = .ok (.ifCond .eq 12, 3) := by decide +kernel
theorem d_S_firstFloat_8 : decode m_S_firstFloat.2.1 8 = .ok (.aload_n 0, 1) := by decide +kernel
theorem d_S_firstFloat_9 : decode m_S_firstFloat.2.1 9 = .ok (.iload_n 1, 1) := by decide +kernel
theorem d_S_firstFloat_10 : decode m_S_firstFloat.2.1 10 = .ok (.iconst 1, 1) := by decide +kernel
theorem d_S_firstFloat_11 : decode m_S_firstFloat.2.1 11 = .ok (.invokevirtual 274, 3) := by decide +kernel
theorem d_S_firstFloat_14 : decode m_S_firstFloat.2.1 14 = .ok (.goto 4, 3) := by decide +kernel
theorem d_S_firstFloat_17 : decode m_S_firstFloat.2.1 17 = .ok (.iconst (-1), 1) := by decide +kernel
theorem d_S_firstFloat_18 : decode m_S_firstFloat.2.1 18 = .ok (.ireturn, 1) := by decide +kernel
theorem d_S_leastPush_0 : decode m_S_leastPush.2.1 0 = .ok (.iload_n 1, 1) := by decide +kernel
theorem d_S_leastPush_1 : decode m_S_leastPush.2.1 1 = .ok (.iconst 1, 1) := by decide +kernel
theorem d_S_leastPush_2 : decode m_S_leastPush.2.1 2 = .ok (.sipush 200, 3) := by decide +kernel
theorem d_S_leastPush_5 : decode m_S_leastPush.2.1 5 = .ok (.invokestatic 54, 3) := by decide +kernel
theorem d_S_leastPush_8 : decode m_S_leastPush.2.1 8 = .ok (.ifCond .ne 5, 3) := by decide +kernel
theorem d_S_leastPush_11 : decode m_S_leastPush.2.1 11 = .ok (.iconst (-1), 1) := by decide +kernel
theorem d_S_leastPush_12 : decode m_S_leastPush.2.1 12 = .ok (.ireturn, 1) := by decide +kernel
theorem d_S_leastPush_13 : decode m_S_leastPush.2.1 13 = .ok (.bipush 9, 2) := by decide +kernel
theorem d_S_leastPush_15 : decode m_S_leastPush.2.1 15 = .ok (.invokestatic 277, 3) := by decide +kernel
theorem d_S_leastPush_18 : decode m_S_leastPush.2.1 18 = .ok (.istore_n 2, 1) := by decide +kernel
theorem d_S_leastPush_19 : decode m_S_leastPush.2.1 19 = .ok (.iload_n 2, 1) := by decide +kernel
theorem d_S_leastPush_20 : decode m_S_leastPush.2.1 20 = .ok (.bipush 9, 2) := by decide +kernel
theorem d_S_leastPush_22 : decode m_S_leastPush.2.1 22 = .ok (.invokestatic 280, 3) := by decide +kernel
theorem d_S_leastPush_25 : decode m_S_leastPush.2.1 25 = .ok (.if_icmp .gt 45, 3) := by decide +kernel
theorem d_S_leastPush_28 : decode m_S_leastPush.2.1 28 = .ok (.aload_n 0, 1) := by decide +kernel
theorem d_S_leastPush_29 : decode m_S_leastPush.2.1 29 = .ok (.getfield 28, 3) := by decide +kernel
theorem d_S_leastPush_32 : decode m_S_leastPush.2.1 32 = .ok (.getfield 117, 3) := by decide +kernel
theorem d_S_leastPush_35 : decode m_S_leastPush.2.1 35 = .ok (.aload_n 0, 1) := by decide +kernel
theorem d_S_leastPush_36 : decode m_S_leastPush.2.1 36 = .ok (.getfield 28, 3) := by decide +kernel
theorem d_S_leastPush_39 : decode m_S_leastPush.2.1 39 = .ok (.getfield 117, 3) := by decide +kernel
theorem d_S_leastPush_42 : decode m_S_leastPush.2.1 42 = .ok (.getfield 128, 3) := by decide +kernel
theorem d_S_leastPush_45 : decode m_S_leastPush.2.1 45 = .ok (.iload_n 2, 1) := by decide +kernel
theorem d_S_leastPush_46 : decode m_S_leastPush.2.1 46 = .ok (.iload_n 1, 1) := by decide +kernel
theorem d_S_leastPush_47 : decode m_S_leastPush.2.1 47 = .ok (.aload_n 0, 1) := by decide +kernel
theorem d_S_leastPush_48 : decode m_S_leastPush.2.1 48 = .ok (.getfield 28, 3) := by decide +kernel
theorem d_S_leastPush_51 : decode m_S_leastPush.2.1 51 = .ok (.getfield 143, 3) := by decide +kernel
theorem d_S_leastPush_54 : decode m_S_leastPush.2.1 54 = .ok (.invokevirtual 283, 3) := by decide +kernel
theorem d_S_leastPush_57 : decode m_S_leastPush.2.1 57 = .ok (.bipush (-2), 2) := by decide +kernel
theorem d_S_leastPush_59 : decode m_S_leastPush.2.1 59 = .ok (.if_icmp .eq 5, 3) := by decide +kernel
theorem d_S_leastPush_62 : decode m_S_leastPush.2.1 62 = .ok (.iload_n 2, 1) := by decide +kernel
theorem d_S_leastPush_63 : decode m_S_leastPush.2.1 63 = .ok (.ireturn, 1) := by decide +kernel
theorem d_S_leastPush_64 : decode m_S_leastPush.2.1 64 = .ok (.iinc 2 1, 3) := by decide +kernel
theorem d_S_leastPush_67 : decode m_S_leastPush.2.1 67 = .ok (.goto (-48), 3) := by decide +kernel
theorem d_S_leastPush_70 : decode m_S_leastPush.2.1 70 = .ok (.bipush (-2), 2) := by decide +kernel
theorem d_S_leastPush_72 : decode m_S_leastPush.2.1 72 = .ok (.ireturn, 1) := by decide +kernel
theorem d_S_bestStep_0 : decode m_S_bestStep.2.1 0 = .ok (.aload_n 0, 1) := by decide +kernel
theorem d_S_bestStep_1 : decode m_S_bestStep.2.1 1 = .ok (.iload_n 1, 1) := by decide +kernel
theorem d_S_bestStep_2 : decode m_S_bestStep.2.1 2 = .ok (.invokevirtual 250, 3) := by decide +kernel
theorem d_S_bestStep_5 : decode m_S_bestStep.2.1 5 = .ok (.ifCond .ne 5, 3) := by decide +kernel
theorem d_S_bestStep_8 : decode m_S_bestStep.2.1 8 = .ok (.iconst (-1), 1) := by decide +kernel
theorem d_S_bestStep_9 : decode m_S_bestStep.2.1 9 = .ok (.ireturn, 1) := by decide +kernel
theorem d_S_bestStep_10 : decode m_S_bestStep.2.1 10 = .ok (.iconst (-1), 1) := by decide +kernel
theorem d_S_bestStep_11 : decode m_S_bestStep.2.1 11 = .ok (.istore_n 2, 1) := by decide +kernel
theorem d_S_bestStep_12 : decode m_S_bestStep.2.1 12 = .ok (.ldc2_w 221, 3) := by decide +kernel
theorem d_S_bestStep_15 : decode m_S_bestStep.2.1 15 = .ok (.lstore_n 3, 1) := by decide +kernel
theorem d_S_bestStep_16 : decode m_S_bestStep.2.1 16 = .ok (.iconst 1, 1) := by decide +kernel
theorem d_S_bestStep_17 : decode m_S_bestStep.2.1 17 = .ok (.istore 5, 2) := by decide +kernel
theorem d_S_bestStep_19 : decode m_S_bestStep.2.1 19 = .ok (.iload 5, 2) := by decide +kernel
theorem d_S_bestStep_21 : decode m_S_bestStep.2.1 21 = .ok (.bipush 64, 2) := by decide +kernel
theorem d_S_bestStep_23 : decode m_S_bestStep.2.1 23 = .ok (.if_icmp .gt 75, 3) := by decide +kernel
theorem d_S_bestStep_26 : decode m_S_bestStep.2.1 26 = .ok (.aload_n 0, 1) := by decide +kernel
theorem d_S_bestStep_27 : decode m_S_bestStep.2.1 27 = .ok (.invokevirtual 253, 3) := by decide +kernel
theorem d_S_bestStep_30 : decode m_S_bestStep.2.1 30 = .ok (.aload_n 0, 1) := by decide +kernel
theorem d_S_bestStep_31 : decode m_S_bestStep.2.1 31 = .ok (.getfield 32, 3) := by decide +kernel
theorem d_S_bestStep_34 : decode m_S_bestStep.2.1 34 = .ok (.getfield 143, 3) := by decide +kernel
theorem d_S_bestStep_37 : decode m_S_bestStep.2.1 37 = .ok (.bipush 12, 2) := by decide +kernel
theorem d_S_bestStep_39 : decode m_S_bestStep.2.1 39 = .ok (.iload 5, 2) := by decide +kernel
theorem d_S_bestStep_41 : decode m_S_bestStep.2.1 41 = .ok (.invokevirtual 154, 3) := by decide +kernel
theorem d_S_bestStep_44 : decode m_S_bestStep.2.1 44 = .ok (.aload_n 0, 1) := by decide +kernel
theorem d_S_bestStep_45 : decode m_S_bestStep.2.1 45 = .ok (.getfield 32, 3) := by decide +kernel
theorem d_S_bestStep_48 : decode m_S_bestStep.2.1 48 = .ok (.getfield 88, 3) := by decide +kernel
theorem d_S_bestStep_51 : decode m_S_bestStep.2.1 51 = .ok (.iload 5, 2) := by decide +kernel
theorem d_S_bestStep_53 : decode m_S_bestStep.2.1 53 = .ok (.putfield 287, 3) := by decide +kernel
theorem d_S_bestStep_56 : decode m_S_bestStep.2.1 56 = .ok (.aload_n 0, 1) := by decide +kernel
theorem d_S_bestStep_57 : decode m_S_bestStep.2.1 57 = .ok (.getfield 32, 3) := by decide +kernel
theorem d_S_bestStep_60 : decode m_S_bestStep.2.1 60 = .ok (.iload_n 1, 1) := by decide +kernel
theorem d_S_bestStep_61 : decode m_S_bestStep.2.1 61 = .ok (.invokevirtual 256, 3) := by decide +kernel
theorem d_S_bestStep_64 : decode m_S_bestStep.2.1 64 = .ok (.aload_n 0, 1) := by decide +kernel
theorem d_S_bestStep_65 : decode m_S_bestStep.2.1 65 = .ok (.getfield 32, 3) := by decide +kernel
theorem d_S_bestStep_68 : decode m_S_bestStep.2.1 68 = .ok (.iconst 0, 1) := by decide +kernel
theorem d_S_bestStep_69 : decode m_S_bestStep.2.1 69 = .ok (.invokevirtual 217, 3) := by decide +kernel
theorem d_S_bestStep_72 : decode m_S_bestStep.2.1 72 = .ok (.lload_n 3, 1) := by decide +kernel
theorem d_S_bestStep_73 : decode m_S_bestStep.2.1 73 = .ok (.lcmp, 1) := by decide +kernel
theorem d_S_bestStep_74 : decode m_S_bestStep.2.1 74 = .ok (.ifCond .le 15, 3) := by decide +kernel
theorem d_S_bestStep_77 : decode m_S_bestStep.2.1 77 = .ok (.aload_n 0, 1) := by decide +kernel
theorem d_S_bestStep_78 : decode m_S_bestStep.2.1 78 = .ok (.getfield 32, 3) := by decide +kernel
theorem d_S_bestStep_81 : decode m_S_bestStep.2.1 81 = .ok (.iconst 0, 1) := by decide +kernel
theorem d_S_bestStep_82 : decode m_S_bestStep.2.1 82 = .ok (.invokevirtual 217, 3) := by decide +kernel
theorem d_S_bestStep_85 : decode m_S_bestStep.2.1 85 = .ok (.lstore_n 3, 1) := by decide +kernel
theorem d_S_bestStep_86 : decode m_S_bestStep.2.1 86 = .ok (.iload 5, 2) := by decide +kernel
theorem d_S_bestStep_88 : decode m_S_bestStep.2.1 88 = .ok (.istore_n 2, 1) := by decide +kernel
theorem d_S_bestStep_89 : decode m_S_bestStep.2.1 89 = .ok (.iload 5, 2) := by decide +kernel
theorem d_S_bestStep_91 : decode m_S_bestStep.2.1 91 = .ok (.iconst 2, 1) := by decide +kernel
theorem d_S_bestStep_92 : decode m_S_bestStep.2.1 92 = .ok (.imul, 1) := by decide +kernel
theorem d_S_bestStep_93 : decode m_S_bestStep.2.1 93 = .ok (.istore 5, 2) := by decide +kernel
theorem d_S_bestStep_95 : decode m_S_bestStep.2.1 95 = .ok (.goto (-76), 3) := by decide +kernel
theorem d_S_bestStep_98 : decode m_S_bestStep.2.1 98 = .ok (.iload_n 2, 1) := by decide +kernel
theorem d_S_bestStep_99 : decode m_S_bestStep.2.1 99 = .ok (.ireturn, 1) := by decide +kernel
theorem d_S_bestWay_0 : decode m_S_bestWay.2.1 0 = .ok (.aload_n 0, 1) := by decide +kernel
theorem d_S_bestWay_1 : decode m_S_bestWay.2.1 1 = .ok (.iload_n 1, 1) := by decide +kernel
theorem d_S_bestWay_2 : decode m_S_bestWay.2.1 2 = .ok (.invokevirtual 250, 3) := by decide +kernel
theorem d_S_bestWay_5 : decode m_S_bestWay.2.1 5 = .ok (.ifCond .ne 5, 3) := by decide +kernel
theorem d_S_bestWay_8 : decode m_S_bestWay.2.1 8 = .ok (.iconst (-1), 1) := by decide +kernel
theorem d_S_bestWay_9 : decode m_S_bestWay.2.1 9 = .ok (.ireturn, 1) := by decide +kernel
theorem d_S_bestWay_10 : decode m_S_bestWay.2.1 10 = .ok (.iconst (-1), 1) := by decide +kernel
theorem d_S_bestWay_11 : decode m_S_bestWay.2.1 11 = .ok (.istore_n 2, 1) := by decide +kernel
theorem d_S_bestWay_12 : decode m_S_bestWay.2.1 12 = .ok (.ldc2_w 221, 3) := by decide +kernel
theorem d_S_bestWay_15 : decode m_S_bestWay.2.1 15 = .ok (.lstore_n 3, 1) := by decide +kernel
theorem d_S_bestWay_16 : decode m_S_bestWay.2.1 16 = .ok (.bipush 17, 2) := by decide +kernel
theorem d_S_bestWay_18 : decode m_S_bestWay.2.1 18 = .ok (.invokestatic 277, 3) := by decide +kernel
theorem d_S_bestWay_21 : decode m_S_bestWay.2.1 21 = .ok (.istore 5, 2) := by decide +kernel
theorem d_S_bestWay_23 : decode m_S_bestWay.2.1 23 = .ok (.iload 5, 2) := by decide +kernel
theorem d_S_bestWay_25 : decode m_S_bestWay.2.1 25 = .ok (.bipush 17, 2) := by decide +kernel
theorem d_S_bestWay_27 : decode m_S_bestWay.2.1 27 = .ok (.invokestatic 280, 3) := by decide +kernel
theorem d_S_bestWay_30 : decode m_S_bestWay.2.1 30 = .ok (.if_icmp .gt 60, 3) := by decide +kernel
theorem d_S_bestWay_33 : decode m_S_bestWay.2.1 33 = .ok (.aload_n 0, 1) := by decide +kernel
theorem d_S_bestWay_34 : decode m_S_bestWay.2.1 34 = .ok (.invokevirtual 253, 3) := by decide +kernel
theorem d_S_bestWay_37 : decode m_S_bestWay.2.1 37 = .ok (.aload_n 0, 1) := by decide +kernel
theorem d_S_bestWay_38 : decode m_S_bestWay.2.1 38 = .ok (.getfield 32, 3) := by decide +kernel
theorem d_S_bestWay_41 : decode m_S_bestWay.2.1 41 = .ok (.getfield 143, 3) := by decide +kernel
theorem d_S_bestWay_44 : decode m_S_bestWay.2.1 44 = .ok (.bipush 17, 2) := by decide +kernel
theorem d_S_bestWay_46 : decode m_S_bestWay.2.1 46 = .ok (.iload 5, 2) := by decide +kernel
theorem d_S_bestWay_48 : decode m_S_bestWay.2.1 48 = .ok (.invokevirtual 154, 3) := by decide +kernel
theorem d_S_bestWay_51 : decode m_S_bestWay.2.1 51 = .ok (.aload_n 0, 1) := by decide +kernel
theorem d_S_bestWay_52 : decode m_S_bestWay.2.1 52 = .ok (.getfield 32, 3) := by decide +kernel
theorem d_S_bestWay_55 : decode m_S_bestWay.2.1 55 = .ok (.iload_n 1, 1) := by decide +kernel
theorem d_S_bestWay_56 : decode m_S_bestWay.2.1 56 = .ok (.invokevirtual 256, 3) := by decide +kernel
theorem d_S_bestWay_59 : decode m_S_bestWay.2.1 59 = .ok (.aload_n 0, 1) := by decide +kernel
theorem d_S_bestWay_60 : decode m_S_bestWay.2.1 60 = .ok (.getfield 32, 3) := by decide +kernel
theorem d_S_bestWay_63 : decode m_S_bestWay.2.1 63 = .ok (.iconst 0, 1) := by decide +kernel
theorem d_S_bestWay_64 : decode m_S_bestWay.2.1 64 = .ok (.invokevirtual 217, 3) := by decide +kernel
theorem d_S_bestWay_67 : decode m_S_bestWay.2.1 67 = .ok (.lload_n 3, 1) := by decide +kernel
theorem d_S_bestWay_68 : decode m_S_bestWay.2.1 68 = .ok (.lcmp, 1) := by decide +kernel
theorem d_S_bestWay_69 : decode m_S_bestWay.2.1 69 = .ok (.ifCond .le 15, 3) := by decide +kernel
theorem d_S_bestWay_72 : decode m_S_bestWay.2.1 72 = .ok (.aload_n 0, 1) := by decide +kernel
theorem d_S_bestWay_73 : decode m_S_bestWay.2.1 73 = .ok (.getfield 32, 3) := by decide +kernel
theorem d_S_bestWay_76 : decode m_S_bestWay.2.1 76 = .ok (.iconst 0, 1) := by decide +kernel
theorem d_S_bestWay_77 : decode m_S_bestWay.2.1 77 = .ok (.invokevirtual 217, 3) := by decide +kernel
theorem d_S_bestWay_80 : decode m_S_bestWay.2.1 80 = .ok (.lstore_n 3, 1) := by decide +kernel
theorem d_S_bestWay_81 : decode m_S_bestWay.2.1 81 = .ok (.iload 5, 2) := by decide +kernel
theorem d_S_bestWay_83 : decode m_S_bestWay.2.1 83 = .ok (.istore_n 2, 1) := by decide +kernel
theorem d_S_bestWay_84 : decode m_S_bestWay.2.1 84 = .ok (.iinc 5 1, 3) := by decide +kernel
theorem d_S_bestWay_87 : decode m_S_bestWay.2.1 87 = .ok (.goto (-64), 3) := by decide +kernel
theorem d_S_bestWay_90 : decode m_S_bestWay.2.1 90 = .ok (.iload_n 2, 1) := by decide +kernel
theorem d_S_bestWay_91 : decode m_S_bestWay.2.1 91 = .ok (.ireturn, 1) := by decide +kernel
theorem d_S_bestShare_0 : decode m_S_bestShare.2.1 0 = .ok (.aload_n 0, 1) := by decide +kernel
theorem d_S_bestShare_1 : decode m_S_bestShare.2.1 1 = .ok (.invokevirtual 78, 3) := by decide +kernel
theorem d_S_bestShare_4 : decode m_S_bestShare.2.1 4 = .ok (.ifCond .ne 6, 3) := by decide +kernel
theorem d_S_bestShare_7 : decode m_S_bestShare.2.1 7 = .ok (.bipush (-2), 2) := by decide +kernel
theorem d_S_bestShare_9 : decode m_S_bestShare.2.1 9 = .ok (.ireturn, 1) := by decide +kernel
theorem d_S_bestShare_10 : decode m_S_bestShare.2.1 10 = .ok (.iconst (-1), 1) := by decide +kernel
theorem d_S_bestShare_11 : decode m_S_bestShare.2.1 11 = .ok (.istore_n 1, 1) := by decide +kernel
theorem d_S_bestShare_12 : decode m_S_bestShare.2.1 12 = .ok (.iconst (-1), 1) := by decide +kernel
theorem d_S_bestShare_13 : decode m_S_bestShare.2.1 13 = .ok (.istore_n 2, 1) := by decide +kernel
theorem d_S_bestShare_14 : decode m_S_bestShare.2.1 14 = .ok (.bipush 18, 2) := by decide +kernel
theorem d_S_bestShare_16 : decode m_S_bestShare.2.1 16 = .ok (.invokestatic 277, 3) := by decide +kernel
theorem d_S_bestShare_19 : decode m_S_bestShare.2.1 19 = .ok (.istore_n 3, 1) := by decide +kernel
theorem d_S_bestShare_20 : decode m_S_bestShare.2.1 20 = .ok (.iload_n 3, 1) := by decide +kernel
theorem d_S_bestShare_21 : decode m_S_bestShare.2.1 21 = .ok (.bipush 18, 2) := by decide +kernel
theorem d_S_bestShare_23 : decode m_S_bestShare.2.1 23 = .ok (.invokestatic 280, 3) := by decide +kernel
theorem d_S_bestShare_26 : decode m_S_bestShare.2.1 26 = .ok (.if_icmp .gt 43, 3) := by decide +kernel
theorem d_S_bestShare_29 : decode m_S_bestShare.2.1 29 = .ok (.aload_n 0, 1) := by decide +kernel
theorem d_S_bestShare_30 : decode m_S_bestShare.2.1 30 = .ok (.getfield 28, 3) := by decide +kernel
theorem d_S_bestShare_33 : decode m_S_bestShare.2.1 33 = .ok (.getfield 100, 3) := by decide +kernel
theorem d_S_bestShare_36 : decode m_S_bestShare.2.1 36 = .ok (.aload_n 0, 1) := by decide +kernel
theorem d_S_bestShare_37 : decode m_S_bestShare.2.1 37 = .ok (.getfield 28, 3) := by decide +kernel
theorem d_S_bestShare_40 : decode m_S_bestShare.2.1 40 = .ok (.getfield 100, 3) := by decide +kernel
theorem d_S_bestShare_43 : decode m_S_bestShare.2.1 43 = .ok (.iload_n 3, 1) := by decide +kernel
theorem d_S_bestShare_44 : decode m_S_bestShare.2.1 44 = .ok (.invokevirtual 290, 3) := by decide +kernel
theorem d_S_bestShare_47 : decode m_S_bestShare.2.1 47 = .ok (.invokevirtual 184, 3) := by decide +kernel
theorem d_S_bestShare_50 : decode m_S_bestShare.2.1 50 = .ok (.istore 4, 2) := by decide +kernel
theorem d_S_bestShare_52 : decode m_S_bestShare.2.1 52 = .ok (.iload 4, 2) := by decide +kernel
theorem d_S_bestShare_54 : decode m_S_bestShare.2.1 54 = .ok (.iload_n 2, 1) := by decide +kernel
theorem d_S_bestShare_55 : decode m_S_bestShare.2.1 55 = .ok (.if_icmp .le 8, 3) := by decide +kernel
theorem d_S_bestShare_58 : decode m_S_bestShare.2.1 58 = .ok (.iload 4, 2) := by decide +kernel
theorem d_S_bestShare_60 : decode m_S_bestShare.2.1 60 = .ok (.istore_n 2, 1) := by decide +kernel
theorem d_S_bestShare_61 : decode m_S_bestShare.2.1 61 = .ok (.iload_n 3, 1) := by decide +kernel
theorem d_S_bestShare_62 : decode m_S_bestShare.2.1 62 = .ok (.istore_n 1, 1) := by decide +kernel
theorem d_S_bestShare_63 : decode m_S_bestShare.2.1 63 = .ok (.iinc 3 1, 3) := by decide +kernel
theorem d_S_bestShare_66 : decode m_S_bestShare.2.1 66 = .ok (.goto (-46), 3) := by decide +kernel
theorem d_S_bestShare_69 : decode m_S_bestShare.2.1 69 = .ok (.iload_n 1, 1) := by decide +kernel
theorem d_S_bestShare_70 : decode m_S_bestShare.2.1 70 = .ok (.ireturn, 1) := by decide +kernel
theorem d_S_slope_0 : decode m_S_slope.2.1 0 = .ok (.iload_n 1, 1) := by decide +kernel
theorem d_S_slope_1 : decode m_S_slope.2.1 1 = .ok (.invokestatic 178, 3) := by decide +kernel
theorem d_S_slope_4 : decode m_S_slope.2.1 4 = .ok (.ifCond .eq 12, 3) := by decide +kernel
theorem d_S_slope_7 : decode m_S_slope.2.1 7 = .ok (.iload_n 1, 1) := by decide +kernel
theorem d_S_slope_8 : decode m_S_slope.2.1 8 = .ok (.iconst 1, 1) := by decide +kernel
theorem d_S_slope_9 : decode m_S_slope.2.1 9 = .ok (.iadd, 1) := by decide +kernel
theorem d_S_slope_10 : decode m_S_slope.2.1 10 = .ok (.invokestatic 178, 3) := by decide +kernel
theorem d_S_slope_13 : decode m_S_slope.2.1 13 = .ok (.ifCond .ne 7, 3) := by decide +kernel
theorem d_S_slope_16 : decode m_S_slope.2.1 16 = .ok (.ldc_w 293, 3) := by decide +kernel
theorem d_S_slope_19 : decode m_S_slope.2.1 19 = .ok (.ireturn, 1) := by decide +kernel
theorem d_S_slope_20 : decode m_S_slope.2.1 20 = .ok (.aload_n 0, 1) := by decide +kernel
theorem d_S_slope_21 : decode m_S_slope.2.1 21 = .ok (.getfield 28, 3) := by decide +kernel
theorem d_S_slope_24 : decode m_S_slope.2.1 24 = .ok (.getfield 100, 3) := by decide +kernel
theorem d_S_slope_27 : decode m_S_slope.2.1 27 = .ok (.iload_n 1, 1) := by decide +kernel
theorem d_S_slope_28 : decode m_S_slope.2.1 28 = .ok (.iconst 1, 1) := by decide +kernel
theorem d_S_slope_29 : decode m_S_slope.2.1 29 = .ok (.iadd, 1) := by decide +kernel
theorem d_S_slope_30 : decode m_S_slope.2.1 30 = .ok (.invokevirtual 184, 3) := by decide +kernel
theorem d_S_slope_33 : decode m_S_slope.2.1 33 = .ok (.aload_n 0, 1) := by decide +kernel
theorem d_S_slope_34 : decode m_S_slope.2.1 34 = .ok (.getfield 28, 3) := by decide +kernel
theorem d_S_slope_37 : decode m_S_slope.2.1 37 = .ok (.getfield 100, 3) := by decide +kernel
theorem d_S_slope_40 : decode m_S_slope.2.1 40 = .ok (.iload_n 1, 1) := by decide +kernel
theorem d_S_slope_41 : decode m_S_slope.2.1 41 = .ok (.invokevirtual 184, 3) := by decide +kernel
theorem d_S_slope_44 : decode m_S_slope.2.1 44 = .ok (.isub, 1) := by decide +kernel
theorem d_S_slope_45 : decode m_S_slope.2.1 45 = .ok (.ireturn, 1) := by decide +kernel
theorem d_S_firstFull_0 : decode m_S_firstFull.2.1 0 = .ok (.aload_n 0, 1) := by decide +kernel
theorem d_S_firstFull_1 : decode m_S_firstFull.2.1 1 = .ok (.iload_n 1, 1) := by decide +kernel
theorem d_S_firstFull_2 : decode m_S_firstFull.2.1 2 = .ok (.invokevirtual 250, 3) := by decide +kernel
theorem d_S_firstFull_5 : decode m_S_firstFull.2.1 5 = .ok (.ifCond .eq 12, 3) := by decide +kernel
theorem d_S_firstFull_8 : decode m_S_firstFull.2.1 8 = .ok (.aload_n 0, 1) := by decide +kernel
theorem d_S_firstFull_9 : decode m_S_firstFull.2.1 9 = .ok (.iload_n 1, 1) := by decide +kernel
theorem d_S_firstFull_10 : decode m_S_firstFull.2.1 10 = .ok (.iconst 2, 1) := by decide +kernel
theorem d_S_firstFull_11 : decode m_S_firstFull.2.1 11 = .ok (.invokevirtual 274, 3) := by decide +kernel
theorem d_S_firstFull_14 : decode m_S_firstFull.2.1 14 = .ok (.goto 4, 3) := by decide +kernel
theorem d_S_firstFull_17 : decode m_S_firstFull.2.1 17 = .ok (.iconst (-1), 1) := by decide +kernel
theorem d_S_firstFull_18 : decode m_S_firstFull.2.1 18 = .ok (.ireturn, 1) := by decide +kernel
theorem d_S_seenBy_0 : decode m_S_seenBy.2.1 0 = .ok (.iload_n 1, 1) := by decide +kernel
theorem d_S_seenBy_1 : decode m_S_seenBy.2.1 1 = .ok (.ldc 126, 2) := by decide +kernel
theorem d_S_seenBy_3 : decode m_S_seenBy.2.1 3 = .ok (.ldc 127, 2) := by decide +kernel
theorem d_S_seenBy_5 : decode m_S_seenBy.2.1 5 = .ok (.invokestatic 54, 3) := by decide +kernel
theorem d_S_seenBy_8 : decode m_S_seenBy.2.1 8 = .ok (.ifCond .eq 14, 3) := by decide +kernel
theorem d_S_seenBy_11 : decode m_S_seenBy.2.1 11 = .ok (.iload_n 2, 1) := by decide +kernel
theorem d_S_seenBy_12 : decode m_S_seenBy.2.1 12 = .ok (.iconst 1, 1) := by decide +kernel
theorem d_S_seenBy_13 : decode m_S_seenBy.2.1 13 = .ok (.sipush 200, 3) := by decide +kernel
theorem d_S_seenBy_16 : decode m_S_seenBy.2.1 16 = .ok (.invokestatic 54, 3) := by decide +kernel
theorem d_S_seenBy_19 : decode m_S_seenBy.2.1 19 = .ok (.ifCond .ne 5, 3) := by decide +kernel
theorem d_S_seenBy_22 : decode m_S_seenBy.2.1 22 = .ok (.iconst (-1), 1) := by decide +kernel
theorem d_S_seenBy_23 : decode m_S_seenBy.2.1 23 = .ok (.ireturn, 1) := by decide +kernel
theorem d_S_seenBy_24 : decode m_S_seenBy.2.1 24 = .ok (.aload_n 0, 1) := by decide +kernel
theorem d_S_seenBy_25 : decode m_S_seenBy.2.1 25 = .ok (.getfield 28, 3) := by decide +kernel
theorem d_S_seenBy_28 : decode m_S_seenBy.2.1 28 = .ok (.getfield 117, 3) := by decide +kernel
theorem d_S_seenBy_31 : decode m_S_seenBy.2.1 31 = .ok (.iload_n 1, 1) := by decide +kernel
theorem d_S_seenBy_32 : decode m_S_seenBy.2.1 32 = .ok (.aload_n 0, 1) := by decide +kernel
theorem d_S_seenBy_33 : decode m_S_seenBy.2.1 33 = .ok (.getfield 28, 3) := by decide +kernel
theorem d_S_seenBy_36 : decode m_S_seenBy.2.1 36 = .ok (.getfield 143, 3) := by decide +kernel
theorem d_S_seenBy_39 : decode m_S_seenBy.2.1 39 = .ok (.bipush 9, 2) := by decide +kernel
theorem d_S_seenBy_41 : decode m_S_seenBy.2.1 41 = .ok (.invokevirtual 147, 3) := by decide +kernel
theorem d_S_seenBy_44 : decode m_S_seenBy.2.1 44 = .ok (.iload_n 2, 1) := by decide +kernel
theorem d_S_seenBy_45 : decode m_S_seenBy.2.1 45 = .ok (.aload_n 0, 1) := by decide +kernel
theorem d_S_seenBy_46 : decode m_S_seenBy.2.1 46 = .ok (.getfield 28, 3) := by decide +kernel
theorem d_S_seenBy_49 : decode m_S_seenBy.2.1 49 = .ok (.getfield 143, 3) := by decide +kernel
theorem d_S_seenBy_52 : decode m_S_seenBy.2.1 52 = .ok (.invokevirtual 283, 3) := by decide +kernel
theorem d_S_seenBy_55 : decode m_S_seenBy.2.1 55 = .ok (.ireturn, 1) := by decide +kernel
theorem d_S_blind_0 : decode m_S_blind.2.1 0 = .ok (.iload_n 1, 1) := by decide +kernel
theorem d_S_blind_1 : decode m_S_blind.2.1 1 = .ok (.iconst 1, 1) := by decide +kernel
theorem d_S_blind_2 : decode m_S_blind.2.1 2 = .ok (.sipush 200, 3) := by decide +kernel
theorem d_S_blind_5 : decode m_S_blind.2.1 5 = .ok (.invokestatic 54, 3) := by decide +kernel
theorem d_S_blind_8 : decode m_S_blind.2.1 8 = .ok (.ifCond .ne 5, 3) := by decide +kernel
theorem d_S_blind_11 : decode m_S_blind.2.1 11 = .ok (.iconst (-1), 1) := by decide +kernel
theorem d_S_blind_12 : decode m_S_blind.2.1 12 = .ok (.ireturn, 1) := by decide +kernel
theorem d_S_blind_13 : decode m_S_blind.2.1 13 = .ok (.iconst 0, 1) := by decide +kernel
theorem d_S_blind_14 : decode m_S_blind.2.1 14 = .ok (.istore_n 2, 1) := by decide +kernel
theorem d_S_blind_15 : decode m_S_blind.2.1 15 = .ok (.ldc 126, 2) := by decide +kernel
theorem d_S_blind_17 : decode m_S_blind.2.1 17 = .ok (.istore_n 3, 1) := by decide +kernel
theorem d_S_blind_18 : decode m_S_blind.2.1 18 = .ok (.iload_n 3, 1) := by decide +kernel
theorem d_S_blind_19 : decode m_S_blind.2.1 19 = .ok (.ldc 127, 2) := by decide +kernel
theorem d_S_blind_21 : decode m_S_blind.2.1 21 = .ok (.if_icmp .gt 48, 3) := by decide +kernel
theorem d_S_blind_24 : decode m_S_blind.2.1 24 = .ok (.aload_n 0, 1) := by decide +kernel
theorem d_S_blind_25 : decode m_S_blind.2.1 25 = .ok (.getfield 28, 3) := by decide +kernel
theorem d_S_blind_28 : decode m_S_blind.2.1 28 = .ok (.getfield 117, 3) := by decide +kernel
theorem d_S_blind_31 : decode m_S_blind.2.1 31 = .ok (.iload_n 3, 1) := by decide +kernel
theorem d_S_blind_32 : decode m_S_blind.2.1 32 = .ok (.aload_n 0, 1) := by decide +kernel
theorem d_S_blind_33 : decode m_S_blind.2.1 33 = .ok (.getfield 28, 3) := by decide +kernel
theorem d_S_blind_36 : decode m_S_blind.2.1 36 = .ok (.getfield 143, 3) := by decide +kernel
theorem d_S_blind_39 : decode m_S_blind.2.1 39 = .ok (.bipush 9, 2) := by decide +kernel
theorem d_S_blind_41 : decode m_S_blind.2.1 41 = .ok (.invokevirtual 147, 3) := by decide +kernel
theorem d_S_blind_44 : decode m_S_blind.2.1 44 = .ok (.iload_n 1, 1) := by decide +kernel
theorem d_S_blind_45 : decode m_S_blind.2.1 45 = .ok (.aload_n 0, 1) := by decide +kernel
theorem d_S_blind_46 : decode m_S_blind.2.1 46 = .ok (.getfield 28, 3) := by decide +kernel
theorem d_S_blind_49 : decode m_S_blind.2.1 49 = .ok (.getfield 143, 3) := by decide +kernel
theorem d_S_blind_52 : decode m_S_blind.2.1 52 = .ok (.invokevirtual 283, 3) := by decide +kernel
theorem d_S_blind_55 : decode m_S_blind.2.1 55 = .ok (.bipush (-2), 2) := by decide +kernel
theorem d_S_blind_57 : decode m_S_blind.2.1 57 = .ok (.if_icmp .ne 6, 3) := by decide +kernel
theorem d_S_blind_60 : decode m_S_blind.2.1 60 = .ok (.iinc 2 1, 3) := by decide +kernel
theorem d_S_blind_63 : decode m_S_blind.2.1 63 = .ok (.iinc 3 100, 3) := by decide +kernel
theorem d_S_blind_66 : decode m_S_blind.2.1 66 = .ok (.goto (-48), 3) := by decide +kernel
theorem d_S_blind_69 : decode m_S_blind.2.1 69 = .ok (.iload_n 2, 1) := by decide +kernel
theorem d_S_blind_70 : decode m_S_blind.2.1 70 = .ok (.ireturn, 1) := by decide +kernel
theorem d_S_bestGap_0 : decode m_S_bestGap.2.1 0 = .ok (.aload_n 0, 1) := by decide +kernel
theorem d_S_bestGap_1 : decode m_S_bestGap.2.1 1 = .ok (.iload_n 1, 1) := by decide +kernel
theorem d_S_bestGap_2 : decode m_S_bestGap.2.1 2 = .ok (.invokevirtual 250, 3) := by decide +kernel
theorem d_S_bestGap_5 : decode m_S_bestGap.2.1 5 = .ok (.ifCond .ne 5, 3) := by decide +kernel
theorem d_S_bestGap_8 : decode m_S_bestGap.2.1 8 = .ok (.iconst (-1), 1) := by decide +kernel
theorem d_S_bestGap_9 : decode m_S_bestGap.2.1 9 = .ok (.ireturn, 1) := by decide +kernel
theorem d_S_bestGap_10 : decode m_S_bestGap.2.1 10 = .ok (.iconst (-1), 1) := by decide +kernel
theorem d_S_bestGap_11 : decode m_S_bestGap.2.1 11 = .ok (.istore_n 2, 1) := by decide +kernel
theorem d_S_bestGap_12 : decode m_S_bestGap.2.1 12 = .ok (.ldc2_w 221, 3) := by decide +kernel
theorem d_S_bestGap_15 : decode m_S_bestGap.2.1 15 = .ok (.lstore_n 3, 1) := by decide +kernel
theorem d_S_bestGap_16 : decode m_S_bestGap.2.1 16 = .ok (.bipush 14, 2) := by decide +kernel
theorem d_S_bestGap_18 : decode m_S_bestGap.2.1 18 = .ok (.invokestatic 277, 3) := by decide +kernel
theorem d_S_bestGap_21 : decode m_S_bestGap.2.1 21 = .ok (.istore 5, 2) := by decide +kernel
theorem d_S_bestGap_23 : decode m_S_bestGap.2.1 23 = .ok (.iload 5, 2) := by decide +kernel
theorem d_S_bestGap_25 : decode m_S_bestGap.2.1 25 = .ok (.bipush 14, 2) := by decide +kernel
theorem d_S_bestGap_27 : decode m_S_bestGap.2.1 27 = .ok (.invokestatic 280, 3) := by decide +kernel
theorem d_S_bestGap_30 : decode m_S_bestGap.2.1 30 = .ok (.if_icmp .gt 70, 3) := by decide +kernel
theorem d_S_bestGap_33 : decode m_S_bestGap.2.1 33 = .ok (.aload_n 0, 1) := by decide +kernel
theorem d_S_bestGap_34 : decode m_S_bestGap.2.1 34 = .ok (.invokevirtual 253, 3) := by decide +kernel
theorem d_S_bestGap_37 : decode m_S_bestGap.2.1 37 = .ok (.aload_n 0, 1) := by decide +kernel
theorem d_S_bestGap_38 : decode m_S_bestGap.2.1 38 = .ok (.getfield 32, 3) := by decide +kernel
theorem d_S_bestGap_41 : decode m_S_bestGap.2.1 41 = .ok (.getfield 143, 3) := by decide +kernel
theorem d_S_bestGap_44 : decode m_S_bestGap.2.1 44 = .ok (.bipush 14, 2) := by decide +kernel
theorem d_S_bestGap_46 : decode m_S_bestGap.2.1 46 = .ok (.iload 5, 2) := by decide +kernel
theorem d_S_bestGap_48 : decode m_S_bestGap.2.1 48 = .ok (.invokevirtual 154, 3) := by decide +kernel
theorem d_S_bestGap_51 : decode m_S_bestGap.2.1 51 = .ok (.aload_n 0, 1) := by decide +kernel
theorem d_S_bestGap_52 : decode m_S_bestGap.2.1 52 = .ok (.getfield 32, 3) := by decide +kernel
theorem d_S_bestGap_55 : decode m_S_bestGap.2.1 55 = .ok (.getfield 88, 3) := by decide +kernel
theorem d_S_bestGap_58 : decode m_S_bestGap.2.1 58 = .ok (.invokevirtual 135, 3) := by decide +kernel
theorem d_S_bestGap_61 : decode m_S_bestGap.2.1 61 = .ok (.aload_n 0, 1) := by decide +kernel
theorem d_S_bestGap_62 : decode m_S_bestGap.2.1 62 = .ok (.getfield 32, 3) := by decide +kernel
theorem d_S_bestGap_65 : decode m_S_bestGap.2.1 65 = .ok (.iload_n 1, 1) := by decide +kernel
theorem d_S_bestGap_66 : decode m_S_bestGap.2.1 66 = .ok (.invokevirtual 256, 3) := by decide +kernel
theorem d_S_bestGap_69 : decode m_S_bestGap.2.1 69 = .ok (.aload_n 0, 1) := by decide +kernel
theorem d_S_bestGap_70 : decode m_S_bestGap.2.1 70 = .ok (.getfield 32, 3) := by decide +kernel
theorem d_S_bestGap_73 : decode m_S_bestGap.2.1 73 = .ok (.iconst 0, 1) := by decide +kernel
theorem d_S_bestGap_74 : decode m_S_bestGap.2.1 74 = .ok (.invokevirtual 217, 3) := by decide +kernel
theorem d_S_bestGap_77 : decode m_S_bestGap.2.1 77 = .ok (.lload_n 3, 1) := by decide +kernel
theorem d_S_bestGap_78 : decode m_S_bestGap.2.1 78 = .ok (.lcmp, 1) := by decide +kernel
theorem d_S_bestGap_79 : decode m_S_bestGap.2.1 79 = .ok (.ifCond .le 15, 3) := by decide +kernel
theorem d_S_bestGap_82 : decode m_S_bestGap.2.1 82 = .ok (.aload_n 0, 1) := by decide +kernel
theorem d_S_bestGap_83 : decode m_S_bestGap.2.1 83 = .ok (.getfield 32, 3) := by decide +kernel
theorem d_S_bestGap_86 : decode m_S_bestGap.2.1 86 = .ok (.iconst 0, 1) := by decide +kernel
theorem d_S_bestGap_87 : decode m_S_bestGap.2.1 87 = .ok (.invokevirtual 217, 3) := by decide +kernel
theorem d_S_bestGap_90 : decode m_S_bestGap.2.1 90 = .ok (.lstore_n 3, 1) := by decide +kernel
theorem d_S_bestGap_91 : decode m_S_bestGap.2.1 91 = .ok (.iload 5, 2) := by decide +kernel
theorem d_S_bestGap_93 : decode m_S_bestGap.2.1 93 = .ok (.istore_n 2, 1) := by decide +kernel
theorem d_S_bestGap_94 : decode m_S_bestGap.2.1 94 = .ok (.iinc 5 10, 3) := by decide +kernel
theorem d_S_bestGap_97 : decode m_S_bestGap.2.1 97 = .ok (.goto (-74), 3) := by decide +kernel
theorem d_S_bestGap_100 : decode m_S_bestGap.2.1 100 = .ok (.iload_n 2, 1) := by decide +kernel
theorem d_S_bestGap_101 : decode m_S_bestGap.2.1 101 = .ok (.ireturn, 1) := by decide +kernel
theorem d_S_ifNear_0 : decode m_S_ifNear.2.1 0 = .ok (.aload_n 0, 1) := by decide +kernel
theorem d_S_ifNear_1 : decode m_S_ifNear.2.1 1 = .ok (.iload_n 1, 1) := by decide +kernel
theorem d_S_ifNear_2 : decode m_S_ifNear.2.1 2 = .ok (.invokevirtual 250, 3) := by decide +kernel
theorem d_S_ifNear_5 : decode m_S_ifNear.2.1 5 = .ok (.ifCond .eq 13, 3) := by decide +kernel
theorem d_S_ifNear_8 : decode m_S_ifNear.2.1 8 = .ok (.iload_n 2, 1) := by decide +kernel
theorem d_S_ifNear_9 : decode m_S_ifNear.2.1 9 = .ok (.iconst 0, 1) := by decide +kernel
theorem d_S_ifNear_10 : decode m_S_ifNear.2.1 10 = .ok (.bipush 100, 2) := by decide +kernel
theorem d_S_ifNear_12 : decode m_S_ifNear.2.1 12 = .ok (.invokestatic 54, 3) := by decide +kernel
theorem d_S_ifNear_15 : decode m_S_ifNear.2.1 15 = .ok (.ifCond .ne 5, 3) := by decide +kernel
theorem d_S_ifNear_18 : decode m_S_ifNear.2.1 18 = .ok (.iconst (-1), 1) := by decide +kernel
theorem d_S_ifNear_19 : decode m_S_ifNear.2.1 19 = .ok (.ireturn, 1) := by decide +kernel
theorem d_S_ifNear_20 : decode m_S_ifNear.2.1 20 = .ok (.aload_n 0, 1) := by decide +kernel
theorem d_S_ifNear_21 : decode m_S_ifNear.2.1 21 = .ok (.invokevirtual 253, 3) := by decide +kernel
theorem d_S_ifNear_24 : decode m_S_ifNear.2.1 24 = .ok (.iconst 0, 1) := by decide +kernel
theorem d_S_ifNear_25 : decode m_S_ifNear.2.1 25 = .ok (.istore_n 3, 1) := by decide +kernel
theorem d_S_ifNear_26 : decode m_S_ifNear.2.1 26 = .ok (.iconst 0, 1) := by decide +kernel
theorem d_S_ifNear_27 : decode m_S_ifNear.2.1 27 = .ok (.istore 4, 2) := by decide +kernel
theorem d_S_ifNear_29 : decode m_S_ifNear.2.1 29 = .ok (.iload 4, 2) := by decide +kernel
theorem d_S_ifNear_31 : decode m_S_ifNear.2.1 31 = .ok (.iload_n 1, 1) := by decide +kernel
theorem d_S_ifNear_32 : decode m_S_ifNear.2.1 32 = .ok (.if_icmp .ge 46, 3) := by decide +kernel
theorem d_S_ifNear_35 : decode m_S_ifNear.2.1 35 = .ok (.aload_n 0, 1) := by decide +kernel
theorem d_S_ifNear_36 : decode m_S_ifNear.2.1 36 = .ok (.getfield 32, 3) := by decide +kernel
theorem d_S_ifNear_39 : decode m_S_ifNear.2.1 39 = .ok (.invokevirtual 82, 3) := by decide +kernel
theorem d_S_ifNear_42 : decode m_S_ifNear.2.1 42 = .ok (.aload_n 0, 1) := by decide +kernel
theorem d_S_ifNear_43 : decode m_S_ifNear.2.1 43 = .ok (.getfield 32, 3) := by decide +kernel
theorem d_S_ifNear_46 : decode m_S_ifNear.2.1 46 = .ok (.getfield 88, 3) := by decide +kernel
theorem d_S_ifNear_49 : decode m_S_ifNear.2.1 49 = .ok (.getfield 92, 3) := by decide +kernel
theorem d_S_ifNear_52 : decode m_S_ifNear.2.1 52 = .ok (.iload_n 2, 1) := by decide +kernel
theorem d_S_ifNear_53 : decode m_S_ifNear.2.1 53 = .ok (.aload_n 0, 1) := by decide +kernel
theorem d_S_ifNear_54 : decode m_S_ifNear.2.1 54 = .ok (.getfield 32, 3) := by decide +kernel
theorem d_S_ifNear_57 : decode m_S_ifNear.2.1 57 = .ok (.getfield 100, 3) := by decide +kernel
theorem d_S_ifNear_60 : decode m_S_ifNear.2.1 60 = .ok (.getfield 193, 3) := by decide +kernel
theorem d_S_ifNear_63 : decode m_S_ifNear.2.1 63 = .ok (.invokestatic 196, 3) := by decide +kernel
theorem d_S_ifNear_66 : decode m_S_ifNear.2.1 66 = .ok (.ifCond .eq 6, 3) := by decide +kernel
theorem d_S_ifNear_69 : decode m_S_ifNear.2.1 69 = .ok (.iinc 3 1, 3) := by decide +kernel
theorem d_S_ifNear_72 : decode m_S_ifNear.2.1 72 = .ok (.iinc 4 1, 3) := by decide +kernel
theorem d_S_ifNear_75 : decode m_S_ifNear.2.1 75 = .ok (.goto (-46), 3) := by decide +kernel
theorem d_S_ifNear_78 : decode m_S_ifNear.2.1 78 = .ok (.iload_n 3, 1) := by decide +kernel
theorem d_S_ifNear_79 : decode m_S_ifNear.2.1 79 = .ok (.ireturn, 1) := by decide +kernel
theorem d_S_count_0 : decode m_S_count.2.1 0 = .ok (.iload_n 1, 1) := by decide +kernel
theorem d_S_count_1 : decode m_S_count.2.1 1 = .ok (.tableswitch 69 0 3 #[31, 42, 53, 61], 31) := by decide +kernel
theorem d_S_count_32 : decode m_S_count.2.1 32 = .ok (.aload_n 0, 1) := by decide +kernel
theorem d_S_count_33 : decode m_S_count.2.1 33 = .ok (.getfield 28, 3) := by decide +kernel
theorem d_S_count_36 : decode m_S_count.2.1 36 = .ok (.getfield 100, 3) := by decide +kernel
theorem d_S_count_39 : decode m_S_count.2.1 39 = .ok (.getfield 207, 3) := by decide +kernel
theorem d_S_count_42 : decode m_S_count.2.1 42 = .ok (.ireturn, 1) := by decide +kernel
theorem d_S_count_43 : decode m_S_count.2.1 43 = .ok (.aload_n 0, 1) := by decide +kernel
theorem d_S_count_44 : decode m_S_count.2.1 44 = .ok (.getfield 28, 3) := by decide +kernel
theorem d_S_count_47 : decode m_S_count.2.1 47 = .ok (.getfield 238, 3) := by decide +kernel
theorem d_S_count_50 : decode m_S_count.2.1 50 = .ok (.invokevirtual 242, 3) := by decide +kernel
theorem d_S_count_53 : decode m_S_count.2.1 53 = .ok (.ireturn, 1) := by decide +kernel
theorem d_S_count_54 : decode m_S_count.2.1 54 = .ok (.aload_n 0, 1) := by decide +kernel
theorem d_S_count_55 : decode m_S_count.2.1 55 = .ok (.getfield 38, 3) := by decide +kernel
theorem d_S_count_58 : decode m_S_count.2.1 58 = .ok (.getfield 66, 3) := by decide +kernel
theorem d_S_count_61 : decode m_S_count.2.1 61 = .ok (.ireturn, 1) := by decide +kernel
theorem d_S_count_62 : decode m_S_count.2.1 62 = .ok (.aload_n 0, 1) := by decide +kernel
theorem d_S_count_63 : decode m_S_count.2.1 63 = .ok (.getfield 12, 3) := by decide +kernel
theorem d_S_count_66 : decode m_S_count.2.1 66 = .ok (.getfield 50, 3) := by decide +kernel
theorem d_S_count_69 : decode m_S_count.2.1 69 = .ok (.ireturn, 1) := by decide +kernel
theorem d_S_count_70 : decode m_S_count.2.1 70 = .ok (.iconst (-1), 1) := by decide +kernel
theorem d_S_count_71 : decode m_S_count.2.1 71 = .ok (.ireturn, 1) := by decide +kernel
theorem d_S_isWithin_0 : decode m_S_isWithin.2.1 0 = .ok (.iload_n 0, 1) := by decide +kernel
theorem d_S_isWithin_1 : decode m_S_isWithin.2.1 1 = .ok (.iload_n 1, 1) := by decide +kernel
theorem d_S_isWithin_2 : decode m_S_isWithin.2.1 2 = .ok (.if_icmp .lt 12, 3) := by decide +kernel
theorem d_S_isWithin_5 : decode m_S_isWithin.2.1 5 = .ok (.iload_n 0, 1) := by decide +kernel
theorem d_S_isWithin_6 : decode m_S_isWithin.2.1 6 = .ok (.iload_n 2, 1) := by decide +kernel
theorem d_S_isWithin_7 : decode m_S_isWithin.2.1 7 = .ok (.if_icmp .gt 7, 3) := by decide +kernel
theorem d_S_isWithin_10 : decode m_S_isWithin.2.1 10 = .ok (.iconst 1, 1) := by decide +kernel
theorem d_S_isWithin_11 : decode m_S_isWithin.2.1 11 = .ok (.goto 4, 3) := by decide +kernel
theorem d_S_isWithin_14 : decode m_S_isWithin.2.1 14 = .ok (.iconst 0, 1) := by decide +kernel
theorem d_S_isWithin_15 : decode m_S_isWithin.2.1 15 = .ok (.ireturn, 1) := by decide +kernel
theorem d_S_flag_0 : decode m_S_flag.2.1 0 = .ok (.iload_n 0, 1) := by decide +kernel
theorem d_S_flag_1 : decode m_S_flag.2.1 1 = .ok (.ifCond .eq 7, 3) := by decide +kernel
theorem d_S_flag_4 : decode m_S_flag.2.1 4 = .ok (.iconst 1, 1) := by decide +kernel
theorem d_S_flag_5 : decode m_S_flag.2.1 5 = .ok (.goto 4, 3) := by decide +kernel
theorem d_S_flag_8 : decode m_S_flag.2.1 8 = .ok (.iconst 0, 1) := by decide +kernel
theorem d_S_flag_9 : decode m_S_flag.2.1 9 = .ok (.ireturn, 1) := by decide +kernel
theorem d_S_isNear_0 : decode m_S_isNear.2.1 0 = .ok (.iload_n 0, 1) := by decide +kernel
theorem d_S_isNear_1 : decode m_S_isNear.2.1 1 = .ok (.bipush 100, 2) := by decide +kernel
theorem d_S_isNear_3 : decode m_S_isNear.2.1 3 = .ok (.imul, 1) := by decide +kernel
theorem d_S_isNear_4 : decode m_S_isNear.2.1 4 = .ok (.iload_n 1, 1) := by decide +kernel
theorem d_S_isNear_5 : decode m_S_isNear.2.1 5 = .ok (.iload_n 2, 1) := by decide +kernel
theorem d_S_isNear_6 : decode m_S_isNear.2.1 6 = .ok (.imul, 1) := by decide +kernel
theorem d_S_isNear_7 : decode m_S_isNear.2.1 7 = .ok (.if_icmp .lt 7, 3) := by decide +kernel
theorem d_S_isNear_10 : decode m_S_isNear.2.1 10 = .ok (.iconst 1, 1) := by decide +kernel
theorem d_S_isNear_11 : decode m_S_isNear.2.1 11 = .ok (.goto 4, 3) := by decide +kernel
theorem d_S_isNear_14 : decode m_S_isNear.2.1 14 = .ok (.iconst 0, 1) := by decide +kernel
theorem d_S_isNear_15 : decode m_S_isNear.2.1 15 = .ok (.ireturn, 1) := by decide +kernel
theorem d_S_hasModules_0 : decode m_S_hasModules.2.1 0 = .ok (.aload_n 0, 1) := by decide +kernel
theorem d_S_hasModules_1 : decode m_S_hasModules.2.1 1 = .ok (.getfield 28, 3) := by decide +kernel
theorem d_S_hasModules_4 : decode m_S_hasModules.2.1 4 = .ok (.getfield 100, 3) := by decide +kernel
theorem d_S_hasModules_7 : decode m_S_hasModules.2.1 7 = .ok (.getfield 207, 3) := by decide +kernel
theorem d_S_hasModules_10 : decode m_S_hasModules.2.1 10 = .ok (.ifCond .le 7, 3) := by decide +kernel
theorem d_S_hasModules_13 : decode m_S_hasModules.2.1 13 = .ok (.iconst 1, 1) := by decide +kernel
theorem d_S_hasModules_14 : decode m_S_hasModules.2.1 14 = .ok (.goto 4, 3) := by decide +kernel
theorem d_S_hasModules_17 : decode m_S_hasModules.2.1 17 = .ok (.iconst 0, 1) := by decide +kernel
theorem d_S_hasModules_18 : decode m_S_hasModules.2.1 18 = .ok (.ireturn, 1) := by decide +kernel
theorem d_S_isModule_0 : decode m_S_isModule.2.1 0 = .ok (.iload_n 1, 1) := by decide +kernel
theorem d_S_isModule_1 : decode m_S_isModule.2.1 1 = .ok (.iconst 0, 1) := by decide +kernel
theorem d_S_isModule_2 : decode m_S_isModule.2.1 2 = .ok (.aload_n 0, 1) := by decide +kernel
theorem d_S_isModule_3 : decode m_S_isModule.2.1 3 = .ok (.getfield 28, 3) := by decide +kernel
theorem d_S_isModule_6 : decode m_S_isModule.2.1 6 = .ok (.getfield 100, 3) := by decide +kernel
theorem d_S_isModule_9 : decode m_S_isModule.2.1 9 = .ok (.getfield 207, 3) := by decide +kernel
theorem d_S_isModule_12 : decode m_S_isModule.2.1 12 = .ok (.iconst 1, 1) := by decide +kernel
theorem d_S_isModule_13 : decode m_S_isModule.2.1 13 = .ok (.isub, 1) := by decide +kernel
theorem d_S_isModule_14 : decode m_S_isModule.2.1 14 = .ok (.invokestatic 54, 3) := by decide +kernel
theorem d_S_isModule_17 : decode m_S_isModule.2.1 17 = .ok (.ireturn, 1) := by decide +kernel
theorem d_S_mayTry_0 : decode m_S_mayTry.2.1 0 = .ok (.iload_n 1, 1) := by decide +kernel
theorem d_S_mayTry_1 : decode m_S_mayTry.2.1 1 = .ok (.iconst 1, 1) := by decide +kernel
theorem d_S_mayTry_2 : decode m_S_mayTry.2.1 2 = .ok (.sipush 300, 3) := by decide +kernel
theorem d_S_mayTry_5 : decode m_S_mayTry.2.1 5 = .ok (.invokestatic 54, 3) := by decide +kernel
theorem d_S_mayTry_8 : decode m_S_mayTry.2.1 8 = .ok (.ifCond .eq 14, 3) := by decide +kernel
theorem d_S_mayTry_11 : decode m_S_mayTry.2.1 11 = .ok (.aload_n 0, 1) := by decide +kernel
theorem d_S_mayTry_12 : decode m_S_mayTry.2.1 12 = .ok (.invokevirtual 78, 3) := by decide +kernel
theorem d_S_mayTry_15 : decode m_S_mayTry.2.1 15 = .ok (.ifCond .eq 7, 3) := by decide +kernel
theorem d_S_mayTry_18 : decode m_S_mayTry.2.1 18 = .ok (.iconst 1, 1) := by decide +kernel
theorem d_S_mayTry_19 : decode m_S_mayTry.2.1 19 = .ok (.goto 4, 3) := by decide +kernel
theorem d_S_mayTry_22 : decode m_S_mayTry.2.1 22 = .ok (.iconst 0, 1) := by decide +kernel
theorem d_S_mayTry_23 : decode m_S_mayTry.2.1 23 = .ok (.ireturn, 1) := by decide +kernel
theorem d_S_beginTrial_0 : decode m_S_beginTrial.2.1 0 = .ok (.aload_n 0, 1) := by decide +kernel
theorem d_S_beginTrial_1 : decode m_S_beginTrial.2.1 1 = .ok (.getfield 32, 3) := by decide +kernel
theorem d_S_beginTrial_4 : decode m_S_beginTrial.2.1 4 = .ok (.aload_n 0, 1) := by decide +kernel
theorem d_S_beginTrial_5 : decode m_S_beginTrial.2.1 5 = .ok (.getfield 28, 3) := by decide +kernel
theorem d_S_beginTrial_8 : decode m_S_beginTrial.2.1 8 = .ok (.invokevirtual 62, 3) := by decide +kernel
theorem d_S_beginTrial_11 : decode m_S_beginTrial.2.1 11 = .ok (.aload_n 0, 1) := by decide +kernel
theorem d_S_beginTrial_12 : decode m_S_beginTrial.2.1 12 = .ok (.getfield 32, 3) := by decide +kernel
theorem d_S_beginTrial_15 : decode m_S_beginTrial.2.1 15 = .ok (.invokevirtual 294, 3) := by decide +kernel
theorem d_S_beginTrial_18 : decode m_S_beginTrial.2.1 18 = .ok (.return_, 1) := by decide +kernel
theorem d_S_firstTick_0 : decode m_S_firstTick.2.1 0 = .ok (.aload_n 0, 1) := by decide +kernel
theorem d_S_firstTick_1 : decode m_S_firstTick.2.1 1 = .ok (.invokevirtual 253, 3) := by decide +kernel
theorem d_S_firstTick_4 : decode m_S_firstTick.2.1 4 = .ok (.iconst 1, 1) := by decide +kernel
theorem d_S_firstTick_5 : decode m_S_firstTick.2.1 5 = .ok (.istore_n 3, 1) := by decide +kernel
theorem d_S_firstTick_6 : decode m_S_firstTick.2.1 6 = .ok (.iload_n 3, 1) := by decide +kernel
theorem d_S_firstTick_7 : decode m_S_firstTick.2.1 7 = .ok (.iload_n 1, 1) := by decide +kernel
theorem d_S_firstTick_8 : decode m_S_firstTick.2.1 8 = .ok (.if_icmp .gt 29, 3) := by decide +kernel
theorem d_S_firstTick_11 : decode m_S_firstTick.2.1 11 = .ok (.aload_n 0, 1) := by decide +kernel
theorem d_S_firstTick_12 : decode m_S_firstTick.2.1 12 = .ok (.getfield 32, 3) := by decide +kernel
theorem d_S_firstTick_15 : decode m_S_firstTick.2.1 15 = .ok (.invokevirtual 82, 3) := by decide +kernel
theorem d_S_firstTick_18 : decode m_S_firstTick.2.1 18 = .ok (.aload_n 0, 1) := by decide +kernel
theorem d_S_firstTick_19 : decode m_S_firstTick.2.1 19 = .ok (.getfield 32, 3) := by decide +kernel
theorem d_S_firstTick_22 : decode m_S_firstTick.2.1 22 = .ok (.iload_n 2, 1) := by decide +kernel
theorem d_S_firstTick_23 : decode m_S_firstTick.2.1 23 = .ok (.invokevirtual 297, 3) := by decide +kernel
theorem d_S_firstTick_26 : decode m_S_firstTick.2.1 26 = .ok (.ifCond .eq 5, 3) := by decide +kernel
theorem d_S_firstTick_29 : decode m_S_firstTick.2.1 29 = .ok (.iload_n 3, 1) := by decide +kernel
theorem d_S_firstTick_30 : decode m_S_firstTick.2.1 30 = .ok (.ireturn, 1) := by decide +kernel
theorem d_S_firstTick_31 : decode m_S_firstTick.2.1 31 = .ok (.iinc 3 1, 3) := by decide +kernel
theorem d_S_firstTick_34 : decode m_S_firstTick.2.1 34 = .ok (.goto (-28), 3) := by decide +kernel
theorem d_S_firstTick_37 : decode m_S_firstTick.2.1 37 = .ok (.bipush (-2), 2) := by decide +kernel
theorem d_S_firstTick_39 : decode m_S_firstTick.2.1 39 = .ok (.ireturn, 1) := by decide +kernel
theorem d_S_bestIfLight_0 : decode m_S_bestIfLight.2.1 0 = .ok (.aload_n 0, 1) := by decide +kernel
theorem d_S_bestIfLight_1 : decode m_S_bestIfLight.2.1 1 = .ok (.getfield 32, 3) := by decide +kernel
theorem d_S_bestIfLight_4 : decode m_S_bestIfLight.2.1 4 = .ok (.getfield 100, 3) := by decide +kernel
theorem d_S_bestIfLight_7 : decode m_S_bestIfLight.2.1 7 = .ok (.aload_n 0, 1) := by decide +kernel
theorem d_S_bestIfLight_8 : decode m_S_bestIfLight.2.1 8 = .ok (.getfield 28, 3) := by decide +kernel
theorem d_S_bestIfLight_11 : decode m_S_bestIfLight.2.1 11 = .ok (.getfield 100, 3) := by decide +kernel
theorem d_S_bestIfLight_14 : decode m_S_bestIfLight.2.1 14 = .ok (.invokevirtual 300, 3) := by decide +kernel
theorem d_S_bestIfLight_17 : decode m_S_bestIfLight.2.1 17 = .ok (.aload_n 0, 1) := by decide +kernel
theorem d_S_bestIfLight_18 : decode m_S_bestIfLight.2.1 18 = .ok (.getfield 32, 3) := by decide +kernel
theorem d_S_bestIfLight_21 : decode m_S_bestIfLight.2.1 21 = .ok (.getfield 100, 3) := by decide +kernel
theorem d_S_bestIfLight_24 : decode m_S_bestIfLight.2.1 24 = .ok (.iload_n 1, 1) := by decide +kernel
theorem d_S_bestIfLight_25 : decode m_S_bestIfLight.2.1 25 = .ok (.iload_n 2, 1) := by decide +kernel
theorem d_S_bestIfLight_26 : decode m_S_bestIfLight.2.1 26 = .ok (.invokevirtual 110, 3) := by decide +kernel
theorem d_S_bestIfLight_29 : decode m_S_bestIfLight.2.1 29 = .ok (.aload_n 0, 1) := by decide +kernel
theorem d_S_bestIfLight_30 : decode m_S_bestIfLight.2.1 30 = .ok (.getfield 32, 3) := by decide +kernel
theorem d_S_bestIfLight_33 : decode m_S_bestIfLight.2.1 33 = .ok (.getfield 100, 3) := by decide +kernel
theorem d_S_bestIfLight_36 : decode m_S_bestIfLight.2.1 36 = .ok (.invokevirtual 114, 3) := by decide +kernel
theorem d_S_bestIfLight_39 : decode m_S_bestIfLight.2.1 39 = .ok (.aload_n 0, 1) := by decide +kernel
theorem d_S_bestIfLight_40 : decode m_S_bestIfLight.2.1 40 = .ok (.getfield 32, 3) := by decide +kernel
theorem d_S_bestIfLight_43 : decode m_S_bestIfLight.2.1 43 = .ok (.getfield 100, 3) := by decide +kernel
theorem d_S_bestIfLight_46 : decode m_S_bestIfLight.2.1 46 = .ok (.getfield 193, 3) := by decide +kernel
theorem d_S_bestIfLight_49 : decode m_S_bestIfLight.2.1 49 = .ok (.ireturn, 1) := by decide +kernel
theorem d_S_followerNow_0 : decode m_S_followerNow.2.1 0 = .ok (.aload_n 0, 1) := by decide +kernel
theorem d_S_followerNow_1 : decode m_S_followerNow.2.1 1 = .ok (.getfield 28, 3) := by decide +kernel
theorem d_S_followerNow_4 : decode m_S_followerNow.2.1 4 = .ok (.getfield 88, 3) := by decide +kernel
theorem d_S_followerNow_7 : decode m_S_followerNow.2.1 7 = .ok (.astore_n 2, 1) := by decide +kernel
theorem d_S_followerNow_8 : decode m_S_followerNow.2.1 8 = .ok (.iload_n 1, 1) := by decide +kernel
theorem d_S_followerNow_9 : decode m_S_followerNow.2.1 9 = .ok (.tableswitch 93 0 7 #[47, 55, 60, 65, 70, 75, 80, 88], 47) := by decide +kernel
theorem d_S_followerNow_56 : decode m_S_followerNow.2.1 56 = .ok (.aload_n 0, 1) := by decide +kernel
theorem d_S_followerNow_57 : decode m_S_followerNow.2.1 57 = .ok (.getfield 28, 3) := by decide +kernel
theorem d_S_followerNow_60 : decode m_S_followerNow.2.1 60 = .ok (.getfield 75, 3) := by decide +kernel
theorem d_S_followerNow_63 : decode m_S_followerNow.2.1 63 = .ok (.ireturn, 1) := by decide +kernel
theorem d_S_followerNow_64 : decode m_S_followerNow.2.1 64 = .ok (.aload_n 2, 1) := by decide +kernel
theorem d_S_followerNow_65 : decode m_S_followerNow.2.1 65 = .ok (.getfield 271, 3) := by decide +kernel
theorem d_S_followerNow_68 : decode m_S_followerNow.2.1 68 = .ok (.ireturn, 1) := by decide +kernel
theorem d_S_followerNow_69 : decode m_S_followerNow.2.1 69 = .ok (.aload_n 2, 1) := by decide +kernel
theorem d_S_followerNow_70 : decode m_S_followerNow.2.1 70 = .ok (.getfield 303, 3) := by decide +kernel
theorem d_S_followerNow_73 : decode m_S_followerNow.2.1 73 = .ok (.ireturn, 1) := by decide +kernel
theorem d_S_followerNow_74 : decode m_S_followerNow.2.1 74 = .ok (.aload_n 2, 1) := by decide +kernel
theorem d_S_followerNow_75 : decode m_S_followerNow.2.1 75 = .ok (.getfield 287, 3) := by decide +kernel
theorem d_S_followerNow_78 : decode m_S_followerNow.2.1 78 = .ok (.ireturn, 1) := by decide +kernel
theorem d_S_followerNow_79 : decode m_S_followerNow.2.1 79 = .ok (.aload_n 2, 1) := by decide +kernel
theorem d_S_followerNow_80 : decode m_S_followerNow.2.1 80 = .ok (.getfield 306, 3) := by decide +kernel
theorem d_S_followerNow_83 : decode m_S_followerNow.2.1 83 = .ok (.ireturn, 1) := by decide +kernel
theorem d_S_followerNow_84 : decode m_S_followerNow.2.1 84 = .ok (.aload_n 2, 1) := by decide +kernel
theorem d_S_followerNow_85 : decode m_S_followerNow.2.1 85 = .ok (.getfield 309, 3) := by decide +kernel
theorem d_S_followerNow_88 : decode m_S_followerNow.2.1 88 = .ok (.ireturn, 1) := by decide +kernel
theorem d_S_followerNow_89 : decode m_S_followerNow.2.1 89 = .ok (.aload_n 2, 1) := by decide +kernel
theorem d_S_followerNow_90 : decode m_S_followerNow.2.1 90 = .ok (.getfield 131, 3) := by decide +kernel
theorem d_S_followerNow_93 : decode m_S_followerNow.2.1 93 = .ok (.invokestatic 312, 3) := by decide +kernel
theorem d_S_followerNow_96 : decode m_S_followerNow.2.1 96 = .ok (.ireturn, 1) := by decide +kernel
theorem d_S_followerNow_97 : decode m_S_followerNow.2.1 97 = .ok (.aload_n 2, 1) := by decide +kernel
theorem d_S_followerNow_98 : decode m_S_followerNow.2.1 98 = .ok (.getfield 316, 3) := by decide +kernel
theorem d_S_followerNow_101 : decode m_S_followerNow.2.1 101 = .ok (.ireturn, 1) := by decide +kernel
theorem d_S_followerNow_102 : decode m_S_followerNow.2.1 102 = .ok (.bipush (-10), 2) := by decide +kernel
theorem d_S_followerNow_104 : decode m_S_followerNow.2.1 104 = .ok (.ireturn, 1) := by decide +kernel
theorem d_S_behindNow_0 : decode m_S_behindNow.2.1 0 = .ok (.aload_n 0, 1) := by decide +kernel
theorem d_S_behindNow_1 : decode m_S_behindNow.2.1 1 = .ok (.getfield 28, 3) := by decide +kernel
theorem d_S_behindNow_4 : decode m_S_behindNow.2.1 4 = .ok (.getfield 259, 3) := by decide +kernel
theorem d_S_behindNow_7 : decode m_S_behindNow.2.1 7 = .ok (.astore_n 2, 1) := by decide +kernel
theorem d_S_behindNow_8 : decode m_S_behindNow.2.1 8 = .ok (.aload_n 0, 1) := by decide +kernel
theorem d_S_behindNow_9 : decode m_S_behindNow.2.1 9 = .ok (.getfield 28, 3) := by decide +kernel
theorem d_S_behindNow_12 : decode m_S_behindNow.2.1 12 = .ok (.getfield 117, 3) := by decide +kernel
theorem d_S_behindNow_15 : decode m_S_behindNow.2.1 15 = .ok (.astore_n 3, 1) := by decide +kernel
theorem d_S_behindNow_16 : decode m_S_behindNow.2.1 16 = .ok (.iload_n 1, 1) := by decide +kernel
theorem d_S_behindNow_17 : decode m_S_behindNow.2.1 17 = .ok (.tableswitch 108 8 17 #[55, 60, 65, 70, 78, 83, 88, 93, 98, 103], 55) := by decide +kernel
theorem d_S_behindNow_72 : decode m_S_behindNow.2.1 72 = .ok (.aload_n 2, 1) := by decide +kernel
theorem d_S_behindNow_73 : decode m_S_behindNow.2.1 73 = .ok (.getfield 263, 3) := by decide +kernel
theorem d_S_behindNow_76 : decode m_S_behindNow.2.1 76 = .ok (.ireturn, 1) := by decide +kernel
theorem d_S_behindNow_77 : decode m_S_behindNow.2.1 77 = .ok (.aload_n 2, 1) := by decide +kernel
theorem d_S_behindNow_78 : decode m_S_behindNow.2.1 78 = .ok (.getfield 268, 3) := by decide +kernel
theorem d_S_behindNow_81 : decode m_S_behindNow.2.1 81 = .ok (.ireturn, 1) := by decide +kernel
theorem d_S_behindNow_82 : decode m_S_behindNow.2.1 82 = .ok (.aload_n 2, 1) := by decide +kernel
theorem d_S_behindNow_83 : decode m_S_behindNow.2.1 83 = .ok (.getfield 319, 3) := by decide +kernel
theorem d_S_behindNow_86 : decode m_S_behindNow.2.1 86 = .ok (.ireturn, 1) := by decide +kernel
theorem d_S_behindNow_87 : decode m_S_behindNow.2.1 87 = .ok (.aload_n 3, 1) := by decide +kernel
theorem d_S_behindNow_88 : decode m_S_behindNow.2.1 88 = .ok (.getfield 322, 3) := by decide +kernel
theorem d_S_behindNow_91 : decode m_S_behindNow.2.1 91 = .ok (.invokestatic 312, 3) := by decide +kernel
theorem d_S_behindNow_94 : decode m_S_behindNow.2.1 94 = .ok (.ireturn, 1) := by decide +kernel
theorem d_S_behindNow_95 : decode m_S_behindNow.2.1 95 = .ok (.aload_n 3, 1) := by decide +kernel
theorem d_S_behindNow_96 : decode m_S_behindNow.2.1 96 = .ok (.getfield 121, 3) := by decide +kernel
theorem d_S_behindNow_99 : decode m_S_behindNow.2.1 99 = .ok (.ireturn, 1) := by decide +kernel
theorem d_S_behindNow_100 : decode m_S_behindNow.2.1 100 = .ok (.aload_n 3, 1) := by decide +kernel
theorem d_S_behindNow_101 : decode m_S_behindNow.2.1 101 = .ok (.getfield 128, 3) := by decide +kernel
theorem d_S_behindNow_104 : decode m_S_behindNow.2.1 104 = .ok (.ireturn, 1) := by decide +kernel
theorem d_S_behindNow_105 : decode m_S_behindNow.2.1 105 = .ok (.aload_n 3, 1) := by decide +kernel
theorem d_S_behindNow_106 : decode m_S_behindNow.2.1 106 = .ok (.getfield 325, 3) := by decide +kernel
theorem d_S_behindNow_109 : decode m_S_behindNow.2.1 109 = .ok (.ireturn, 1) := by decide +kernel
theorem d_S_behindNow_110 : decode m_S_behindNow.2.1 110 = .ok (.aload_n 3, 1) := by decide +kernel
theorem d_S_behindNow_111 : decode m_S_behindNow.2.1 111 = .ok (.getfield 328, 3) := by decide +kernel
theorem d_S_behindNow_114 : decode m_S_behindNow.2.1 114 = .ok (.ireturn, 1) := by decide +kernel
theorem d_S_behindNow_115 : decode m_S_behindNow.2.1 115 = .ok (.aload_n 3, 1) := by decide +kernel
theorem d_S_behindNow_116 : decode m_S_behindNow.2.1 116 = .ok (.getfield 331, 3) := by decide +kernel
theorem d_S_behindNow_119 : decode m_S_behindNow.2.1 119 = .ok (.ireturn, 1) := by decide +kernel
theorem d_S_behindNow_120 : decode m_S_behindNow.2.1 120 = .ok (.aload_n 3, 1) := by decide +kernel
theorem d_S_behindNow_121 : decode m_S_behindNow.2.1 121 = .ok (.getfield 334, 3) := by decide +kernel
theorem d_S_behindNow_124 : decode m_S_behindNow.2.1 124 = .ok (.ireturn, 1) := by decide +kernel
theorem d_S_behindNow_125 : decode m_S_behindNow.2.1 125 = .ok (.bipush (-10), 2) := by decide +kernel
theorem d_S_behindNow_127 : decode m_S_behindNow.2.1 127 = .ok (.ireturn, 1) := by decide +kernel
theorem d_Battery_init_0 : decode m_Battery_init.2.1 0 = .ok (.aload_n 0, 1) := by decide +kernel
theorem d_Battery_init_1 : decode m_Battery_init.2.1 1 = .ok (.invokespecial 3, 3) := by decide +kernel
theorem d_Battery_init_4 : decode m_Battery_init.2.1 4 = .ok (.return_, 1) := by decide +kernel
theorem d_Battery_renew_0 : decode m_Battery_renew.2.1 0 = .ok (.aload_n 0, 1) := by decide +kernel
theorem d_Battery_renew_1 : decode m_Battery_renew.2.1 1 = .ok (.iconst 0, 1) := by decide +kernel
theorem d_Battery_renew_2 : decode m_Battery_renew.2.1 2 = .ok (.putfield 9, 3) := by decide +kernel
theorem d_Battery_renew_5 : decode m_Battery_renew.2.1 5 = .ok (.aload_n 0, 1) := by decide +kernel
theorem d_Battery_renew_6 : decode m_Battery_renew.2.1 6 = .ok (.iconst 0, 1) := by decide +kernel
theorem d_Battery_renew_7 : decode m_Battery_renew.2.1 7 = .ok (.putfield 15, 3) := by decide +kernel
theorem d_Battery_renew_10 : decode m_Battery_renew.2.1 10 = .ok (.aload_n 0, 1) := by decide +kernel
theorem d_Battery_renew_11 : decode m_Battery_renew.2.1 11 = .ok (.iconst 0, 1) := by decide +kernel
theorem d_Battery_renew_12 : decode m_Battery_renew.2.1 12 = .ok (.putfield 18, 3) := by decide +kernel
theorem d_Battery_renew_15 : decode m_Battery_renew.2.1 15 = .ok (.aload_n 0, 1) := by decide +kernel
theorem d_Battery_renew_16 : decode m_Battery_renew.2.1 16 = .ok (.iconst 0, 1) := by decide +kernel
theorem d_Battery_renew_17 : decode m_Battery_renew.2.1 17 = .ok (.putfield 21, 3) := by decide +kernel
theorem d_Battery_renew_20 : decode m_Battery_renew.2.1 20 = .ok (.aload_n 0, 1) := by decide +kernel
theorem d_Battery_renew_21 : decode m_Battery_renew.2.1 21 = .ok (.iconst 0, 1) := by decide +kernel
theorem d_Battery_renew_22 : decode m_Battery_renew.2.1 22 = .ok (.putfield 24, 3) := by decide +kernel
theorem d_Battery_renew_25 : decode m_Battery_renew.2.1 25 = .ok (.aload_n 0, 1) := by decide +kernel
theorem d_Battery_renew_26 : decode m_Battery_renew.2.1 26 = .ok (.iconst (-1), 1) := by decide +kernel
theorem d_Battery_renew_27 : decode m_Battery_renew.2.1 27 = .ok (.putfield 27, 3) := by decide +kernel
theorem d_Battery_renew_30 : decode m_Battery_renew.2.1 30 = .ok (.return_, 1) := by decide +kernel
theorem d_Battery_copyFrom_0 : decode m_Battery_copyFrom.2.1 0 = .ok (.aload_n 0, 1) := by decide +kernel
theorem d_Battery_copyFrom_1 : decode m_Battery_copyFrom.2.1 1 = .ok (.aload_n 1, 1) := by decide +kernel
theorem d_Battery_copyFrom_2 : decode m_Battery_copyFrom.2.1 2 = .ok (.getfield 9, 3) := by decide +kernel
theorem d_Battery_copyFrom_5 : decode m_Battery_copyFrom.2.1 5 = .ok (.putfield 9, 3) := by decide +kernel
theorem d_Battery_copyFrom_8 : decode m_Battery_copyFrom.2.1 8 = .ok (.aload_n 0, 1) := by decide +kernel
theorem d_Battery_copyFrom_9 : decode m_Battery_copyFrom.2.1 9 = .ok (.aload_n 1, 1) := by decide +kernel
theorem d_Battery_copyFrom_10 : decode m_Battery_copyFrom.2.1 10 = .ok (.getfield 15, 3) := by decide +kernel
theorem d_Battery_copyFrom_13 : decode m_Battery_copyFrom.2.1 13 = .ok (.putfield 15, 3) := by decide +kernel
theorem d_Battery_copyFrom_16 : decode m_Battery_copyFrom.2.1 16 = .ok (.aload_n 0, 1) := by decide +kernel
theorem d_Battery_copyFrom_17 : decode m_Battery_copyFrom.2.1 17 = .ok (.aload_n 1, 1) := by decide +kernel
theorem d_Battery_copyFrom_18 : decode m_Battery_copyFrom.2.1 18 = .ok (.getfield 18, 3) := by decide +kernel
theorem d_Battery_copyFrom_21 : decode m_Battery_copyFrom.2.1 21 = .ok (.putfield 18, 3) := by decide +kernel
theorem d_Battery_copyFrom_24 : decode m_Battery_copyFrom.2.1 24 = .ok (.aload_n 0, 1) := by decide +kernel
theorem d_Battery_copyFrom_25 : decode m_Battery_copyFrom.2.1 25 = .ok (.aload_n 1, 1) := by decide +kernel
theorem d_Battery_copyFrom_26 : decode m_Battery_copyFrom.2.1 26 = .ok (.getfield 21, 3) := by decide +kernel
theorem d_Battery_copyFrom_29 : decode m_Battery_copyFrom.2.1 29 = .ok (.putfield 21, 3) := by decide +kernel
theorem d_Battery_copyFrom_32 : decode m_Battery_copyFrom.2.1 32 = .ok (.aload_n 0, 1) := by decide +kernel
theorem d_Battery_copyFrom_33 : decode m_Battery_copyFrom.2.1 33 = .ok (.aload_n 1, 1) := by decide +kernel
theorem d_Battery_copyFrom_34 : decode m_Battery_copyFrom.2.1 34 = .ok (.getfield 24, 3) := by decide +kernel
theorem d_Battery_copyFrom_37 : decode m_Battery_copyFrom.2.1 37 = .ok (.putfield 24, 3) := by decide +kernel
theorem d_Battery_copyFrom_40 : decode m_Battery_copyFrom.2.1 40 = .ok (.aload_n 0, 1) := by decide +kernel
theorem d_Battery_copyFrom_41 : decode m_Battery_copyFrom.2.1 41 = .ok (.aload_n 1, 1) := by decide +kernel
theorem d_Battery_copyFrom_42 : decode m_Battery_copyFrom.2.1 42 = .ok (.getfield 27, 3) := by decide +kernel
theorem d_Battery_copyFrom_45 : decode m_Battery_copyFrom.2.1 45 = .ok (.putfield 27, 3) := by decide +kernel
theorem d_Battery_copyFrom_48 : decode m_Battery_copyFrom.2.1 48 = .ok (.return_, 1) := by decide +kernel
theorem d_Battery_take_0 : decode m_Battery_take.2.1 0 = .ok (.aload_n 2, 1) := by decide +kernel
theorem d_Battery_take_1 : decode m_Battery_take.2.1 1 = .ok (.iconst 0, 1) := by decide +kernel
theorem d_Battery_take_2 : decode m_Battery_take.2.1 2 = .ok (.invokevirtual 32, 3) := by decide +kernel
theorem d_Battery_take_5 : decode m_Battery_take.2.1 5 = .ok (.istore_n 3, 1) := by decide +kernel
theorem d_Battery_take_6 : decode m_Battery_take.2.1 6 = .ok (.aload_n 0, 1) := by decide +kernel
theorem d_Battery_take_7 : decode m_Battery_take.2.1 7 = .ok (.aload_n 0, 1) := by decide +kernel
theorem d_Battery_take_8 : decode m_Battery_take.2.1 8 = .ok (.getfield 9, 3) := by decide +kernel
theorem d_Battery_take_11 : decode m_Battery_take.2.1 11 = .ok (.aload_n 2, 1) := by decide +kernel
theorem d_Battery_take_12 : decode m_Battery_take.2.1 12 = .ok (.iconst 1, 1) := by decide +kernel
theorem d_Battery_take_13 : decode m_Battery_take.2.1 13 = .ok (.invokevirtual 32, 3) := by decide +kernel
theorem d_Battery_take_16 : decode m_Battery_take.2.1 16 = .ok (.invokestatic 36, 3) := by decide +kernel
theorem d_Battery_take_19 : decode m_Battery_take.2.1 19 = .ok (.putfield 21, 3) := by decide +kernel
theorem d_Battery_take_22 : decode m_Battery_take.2.1 22 = .ok (.aload_n 0, 1) := by decide +kernel
theorem d_Battery_take_23 : decode m_Battery_take.2.1 23 = .ok (.dup, 1) := by decide +kernel
theorem d_Battery_take_24 : decode m_Battery_take.2.1 24 = .ok (.getfield 9, 3) := by decide +kernel
theorem d_Battery_take_27 : decode m_Battery_take.2.1 27 = .ok (.aload_n 0, 1) := by decide +kernel
theorem d_Battery_take_28 : decode m_Battery_take.2.1 28 = .ok (.getfield 21, 3) := by decide +kernel
theorem d_Battery_take_31 : decode m_Battery_take.2.1 31 = .ok (.isub, 1) := by decide +kernel
theorem d_Battery_take_32 : decode m_Battery_take.2.1 32 = .ok (.putfield 9, 3) := by decide +kernel
theorem d_Battery_take_35 : decode m_Battery_take.2.1 35 = .ok (.sipush 1100, 3) := by decide +kernel
theorem d_Battery_take_38 : decode m_Battery_take.2.1 38 = .ok (.iload_n 3, 1) := by decide +kernel
theorem d_Battery_take_39 : decode m_Battery_take.2.1 39 = .ok (.ifCond .le 16, 3) := by decide +kernel
theorem d_Battery_take_42 : decode m_Battery_take.2.1 42 = .ok (.sipush 300, 3) := by decide +kernel
theorem d_Battery_take_45 : decode m_Battery_take.2.1 45 = .ok (.aload_n 0, 1) := by decide +kernel
theorem d_Battery_take_46 : decode m_Battery_take.2.1 46 = .ok (.getfield 9, 3) := by decide +kernel
theorem d_Battery_take_49 : decode m_Battery_take.2.1 49 = .ok (.imul, 1) := by decide +kernel
theorem d_Battery_take_50 : decode m_Battery_take.2.1 50 = .ok (.iload_n 3, 1) := by decide +kernel
theorem d_Battery_take_51 : decode m_Battery_take.2.1 51 = .ok (.idiv, 1) := by decide +kernel
theorem d_Battery_take_52 : decode m_Battery_take.2.1 52 = .ok (.goto 4, 3) := by decide +kernel
theorem d_Battery_take_55 : decode m_Battery_take.2.1 55 = .ok (.iconst 0, 1) := by decide +kernel
theorem d_Battery_take_56 : decode m_Battery_take.2.1 56 = .ok (.iadd, 1) := by decide +kernel
theorem d_Battery_take_57 : decode m_Battery_take.2.1 57 = .ok (.istore 4, 2) := by decide +kernel
theorem d_Battery_take_59 : decode m_Battery_take.2.1 59 = .ok (.aload_n 0, 1) := by decide +kernel
theorem d_Battery_take_60 : decode m_Battery_take.2.1 60 = .ok (.aload_n 0, 1) := by decide +kernel
theorem d_Battery_take_61 : decode m_Battery_take.2.1 61 = .ok (.iload_n 1, 1) := by decide +kernel
theorem d_Battery_take_62 : decode m_Battery_take.2.1 62 = .ok (.iload 4, 2) := by decide +kernel
theorem d_Battery_take_64 : decode m_Battery_take.2.1 64 = .ok (.aload_n 2, 1) := by decide +kernel
theorem d_Battery_take_65 : decode m_Battery_take.2.1 65 = .ok (.invokevirtual 42, 3) := by decide +kernel
theorem d_Battery_take_68 : decode m_Battery_take.2.1 68 = .ok (.iload_n 3, 1) := by decide +kernel
theorem d_Battery_take_69 : decode m_Battery_take.2.1 69 = .ok (.aload_n 0, 1) := by decide +kernel
theorem d_Battery_take_70 : decode m_Battery_take.2.1 70 = .ok (.getfield 9, 3) := by decide +kernel
theorem d_Battery_take_73 : decode m_Battery_take.2.1 73 = .ok (.isub, 1) := by decide +kernel
theorem d_Battery_take_74 : decode m_Battery_take.2.1 74 = .ok (.invokestatic 36, 3) := by decide +kernel
theorem d_Battery_take_77 : decode m_Battery_take.2.1 77 = .ok (.putfield 24, 3) := by decide +kernel
theorem d_Battery_take_80 : decode m_Battery_take.2.1 80 = .ok (.aload_n 0, 1) := by decide +kernel
theorem d_Battery_take_81 : decode m_Battery_take.2.1 81 = .ok (.dup, 1) := by decide +kernel
theorem d_Battery_take_82 : decode m_Battery_take.2.1 82 = .ok (.getfield 9, 3) := by decide +kernel
theorem d_Battery_take_85 : decode m_Battery_take.2.1 85 = .ok (.aload_n 0, 1) := by decide +kernel
theorem d_Battery_take_86 : decode m_Battery_take.2.1 86 = .ok (.getfield 24, 3) := by decide +kernel
theorem d_Battery_take_89 : decode m_Battery_take.2.1 89 = .ok (.iadd, 1) := by decide +kernel
theorem d_Battery_take_90 : decode m_Battery_take.2.1 90 = .ok (.putfield 9, 3) := by decide +kernel
theorem d_Battery_take_93 : decode m_Battery_take.2.1 93 = .ok (.aload_n 0, 1) := by decide +kernel
theorem d_Battery_take_94 : decode m_Battery_take.2.1 94 = .ok (.aload_n 0, 1) := by decide +kernel
theorem d_Battery_take_95 : decode m_Battery_take.2.1 95 = .ok (.iload_n 1, 1) := by decide +kernel
theorem d_Battery_take_96 : decode m_Battery_take.2.1 96 = .ok (.iload 4, 2) := by decide +kernel
theorem d_Battery_take_98 : decode m_Battery_take.2.1 98 = .ok (.aload_n 2, 1) := by decide +kernel
theorem d_Battery_take_99 : decode m_Battery_take.2.1 99 = .ok (.invokevirtual 46, 3) := by decide +kernel
theorem d_Battery_take_102 : decode m_Battery_take.2.1 102 = .ok (.putfield 27, 3) := by decide +kernel
theorem d_Battery_take_105 : decode m_Battery_take.2.1 105 = .ok (.aload_n 0, 1) := by decide +kernel
theorem d_Battery_take_106 : decode m_Battery_take.2.1 106 = .ok (.getfield 27, 3) := by decide +kernel
theorem d_Battery_take_109 : decode m_Battery_take.2.1 109 = .ok (.iconst 1, 1) := by decide +kernel
theorem d_Battery_take_110 : decode m_Battery_take.2.1 110 = .ok (.if_icmp .ne 8, 3) := by decide +kernel
theorem d_Battery_take_113 : decode m_Battery_take.2.1 113 = .ok (.aload_n 0, 1) := by decide +kernel
theorem d_Battery_take_114 : decode m_Battery_take.2.1 114 = .ok (.iconst 0, 1) := by decide +kernel
theorem d_Battery_take_115 : decode m_Battery_take.2.1 115 = .ok (.putfield 18, 3) := by decide +kernel
theorem d_Battery_take_118 : decode m_Battery_take.2.1 118 = .ok (.aload_n 0, 1) := by decide +kernel
theorem d_Battery_take_119 : decode m_Battery_take.2.1 119 = .ok (.getfield 27, 3) := by decide +kernel
theorem d_Battery_take_122 : decode m_Battery_take.2.1 122 = .ok (.iconst (-1), 1) := by decide +kernel
theorem d_Battery_take_123 : decode m_Battery_take.2.1 123 = .ok (.if_icmp .eq 11, 3) := by decide +kernel
theorem d_Battery_take_126 : decode m_Battery_take.2.1 126 = .ok (.aload_n 0, 1) := by decide +kernel
theorem d_Battery_take_127 : decode m_Battery_take.2.1 127 = .ok (.aload_n 0, 1) := by decide +kernel
theorem d_Battery_take_128 : decode m_Battery_take.2.1 128 = .ok (.getfield 27, 3) := by decide +kernel
theorem d_Battery_take_131 : decode m_Battery_take.2.1 131 = .ok (.putfield 15, 3) := by decide +kernel
theorem d_Battery_take_134 : decode m_Battery_take.2.1 134 = .ok (.return_, 1) := by decide +kernel
theorem d_Battery_wanted_0 : decode m_Battery_wanted.2.1 0 = .ok (.aload_n 0, 1) := by decide +kernel
theorem d_Battery_wanted_1 : decode m_Battery_wanted.2.1 1 = .ok (.getfield 15, 3) := by decide +kernel
theorem d_Battery_wanted_4 : decode m_Battery_wanted.2.1 4 = .ok (.ifCond .ne 5, 3) := by decide +kernel
theorem d_Battery_wanted_7 : decode m_Battery_wanted.2.1 7 = .ok (.iload_n 1, 1) := by decide +kernel
theorem d_Battery_wanted_8 : decode m_Battery_wanted.2.1 8 = .ok (.ireturn, 1) := by decide +kernel
theorem d_Battery_wanted_9 : decode m_Battery_wanted.2.1 9 = .ok (.aload_n 3, 1) := by decide +kernel
theorem d_Battery_wanted_10 : decode m_Battery_wanted.2.1 10 = .ok (.aload_n 0, 1) := by decide +kernel
theorem d_Battery_wanted_11 : decode m_Battery_wanted.2.1 11 = .ok (.getfield 15, 3) := by decide +kernel
theorem d_Battery_wanted_14 : decode m_Battery_wanted.2.1 14 = .ok (.iconst 1, 1) := by decide +kernel
theorem d_Battery_wanted_15 : decode m_Battery_wanted.2.1 15 = .ok (.if_icmp .ne 7, 3) := by decide +kernel
theorem d_Battery_wanted_18 : decode m_Battery_wanted.2.1 18 = .ok (.iconst 2, 1) := by decide +kernel
theorem d_Battery_wanted_19 : decode m_Battery_wanted.2.1 19 = .ok (.goto 4, 3) := by decide +kernel
theorem d_Battery_wanted_22 : decode m_Battery_wanted.2.1 22 = .ok (.iconst 3, 1) := by decide +kernel
theorem d_Battery_wanted_23 : decode m_Battery_wanted.2.1 23 = .ok (.invokevirtual 32, 3) := by decide +kernel
theorem d_Battery_wanted_26 : decode m_Battery_wanted.2.1 26 = .ok (.istore 4, 2) := by decide +kernel
theorem d_Battery_wanted_28 : decode m_Battery_wanted.2.1 28 = .ok (.iconst 0, 1) := by decide +kernel
theorem d_Battery_wanted_29 : decode m_Battery_wanted.2.1 29 = .ok (.iload_n 1, 1) := by decide +kernel
theorem d_Battery_wanted_30 : decode m_Battery_wanted.2.1 30 = .ok (.bipush 20, 2) := by decide +kernel
theorem d_Battery_wanted_32 : decode m_Battery_wanted.2.1 32 = .ok (.iload 4, 2) := by decide +kernel
theorem d_Battery_wanted_34 : decode m_Battery_wanted.2.1 34 = .ok (.iload_n 2, 1) := by decide +kernel
theorem d_Battery_wanted_35 : decode m_Battery_wanted.2.1 35 = .ok (.isub, 1) := by decide +kernel
theorem d_Battery_wanted_36 : decode m_Battery_wanted.2.1 36 = .ok (.imul, 1) := by decide +kernel
theorem d_Battery_wanted_37 : decode m_Battery_wanted.2.1 37 = .ok (.bipush 19, 2) := by decide +kernel
theorem d_Battery_wanted_39 : decode m_Battery_wanted.2.1 39 = .ok (.iadd, 1) := by decide +kernel
theorem d_Battery_wanted_40 : decode m_Battery_wanted.2.1 40 = .ok (.invokestatic 36, 3) := by decide +kernel
theorem d_Battery_wanted_43 : decode m_Battery_wanted.2.1 43 = .ok (.invokestatic 49, 3) := by decide +kernel
theorem d_Battery_wanted_46 : decode m_Battery_wanted.2.1 46 = .ok (.ireturn, 1) := by decide +kernel
theorem d_Battery_nextStage_0 : decode m_Battery_nextStage.2.1 0 = .ok (.aload_n 3, 1) := by decide +kernel
theorem d_Battery_nextStage_1 : decode m_Battery_nextStage.2.1 1 = .ok (.iconst 0, 1) := by decide +kernel
theorem d_Battery_nextStage_2 : decode m_Battery_nextStage.2.1 2 = .ok (.invokevirtual 32, 3) := by decide +kernel
theorem d_Battery_nextStage_5 : decode m_Battery_nextStage.2.1 5 = .ok (.istore 4, 2) := by decide +kernel
theorem d_Battery_nextStage_7 : decode m_Battery_nextStage.2.1 7 = .ok (.aload_n 0, 1) := by decide +kernel
theorem d_Battery_nextStage_8 : decode m_Battery_nextStage.2.1 8 = .ok (.getfield 15, 3) := by decide +kernel
theorem d_Battery_nextStage_11 : decode m_Battery_nextStage.2.1 11 = .ok (.ifCond .ne 47, 3) := by decide +kernel
theorem d_Battery_nextStage_14 : decode m_Battery_nextStage.2.1 14 = .ok (.iload_n 2, 1) := by decide +kernel
theorem d_Battery_nextStage_15 : decode m_Battery_nextStage.2.1 15 = .ok (.aload_n 0, 1) := by decide +kernel
theorem d_Battery_nextStage_16 : decode m_Battery_nextStage.2.1 16 = .ok (.getfield 24, 3) := by decide +kernel
theorem d_Battery_nextStage_19 : decode m_Battery_nextStage.2.1 19 = .ok (.bipush 20, 2) := by decide +kernel
theorem d_Battery_nextStage_21 : decode m_Battery_nextStage.2.1 21 = .ok (.idiv, 1) := by decide +kernel
theorem d_Battery_nextStage_22 : decode m_Battery_nextStage.2.1 22 = .ok (.iadd, 1) := by decide +kernel
theorem d_Battery_nextStage_23 : decode m_Battery_nextStage.2.1 23 = .ok (.aload_n 3, 1) := by decide +kernel
theorem d_Battery_nextStage_24 : decode m_Battery_nextStage.2.1 24 = .ok (.iconst 2, 1) := by decide +kernel
theorem d_Battery_nextStage_25 : decode m_Battery_nextStage.2.1 25 = .ok (.invokevirtual 32, 3) := by decide +kernel
theorem d_Battery_nextStage_28 : decode m_Battery_nextStage.2.1 28 = .ok (.if_icmp .lt 7, 3) := by decide +kernel
theorem d_Battery_nextStage_31 : decode m_Battery_nextStage.2.1 31 = .ok (.iconst 1, 1) := by decide +kernel
theorem d_Battery_nextStage_32 : decode m_Battery_nextStage.2.1 32 = .ok (.goto 4, 3) := by decide +kernel
theorem d_Battery_nextStage_35 : decode m_Battery_nextStage.2.1 35 = .ok (.iconst 0, 1) := by decide +kernel
theorem d_Battery_nextStage_36 : decode m_Battery_nextStage.2.1 36 = .ok (.istore 5, 2) := by decide +kernel
theorem d_Battery_nextStage_38 : decode m_Battery_nextStage.2.1 38 = .ok (.iload 5, 2) := by decide +kernel
theorem d_Battery_nextStage_40 : decode m_Battery_nextStage.2.1 40 = .ok (.ifCond .ne 12, 3) := by decide +kernel
theorem d_Battery_nextStage_43 : decode m_Battery_nextStage.2.1 43 = .ok (.aload_n 0, 1) := by decide +kernel
theorem d_Battery_nextStage_44 : decode m_Battery_nextStage.2.1 44 = .ok (.getfield 9, 3) := by decide +kernel
theorem d_Battery_nextStage_47 : decode m_Battery_nextStage.2.1 47 = .ok (.iload 4, 2) := by decide +kernel
theorem d_Battery_nextStage_49 : decode m_Battery_nextStage.2.1 49 = .ok (.if_icmp .ne 7, 3) := by decide +kernel
theorem d_Battery_nextStage_52 : decode m_Battery_nextStage.2.1 52 = .ok (.iconst 1, 1) := by decide +kernel
theorem d_Battery_nextStage_53 : decode m_Battery_nextStage.2.1 53 = .ok (.goto 4, 3) := by decide +kernel
theorem d_Battery_nextStage_56 : decode m_Battery_nextStage.2.1 56 = .ok (.iconst (-1), 1) := by decide +kernel
theorem d_Battery_nextStage_57 : decode m_Battery_nextStage.2.1 57 = .ok (.ireturn, 1) := by decide +kernel
theorem d_Battery_nextStage_58 : decode m_Battery_nextStage.2.1 58 = .ok (.aload_n 0, 1) := by decide +kernel
theorem d_Battery_nextStage_59 : decode m_Battery_nextStage.2.1 59 = .ok (.getfield 15, 3) := by decide +kernel
theorem d_Battery_nextStage_62 : decode m_Battery_nextStage.2.1 62 = .ok (.iconst 1, 1) := by decide +kernel
theorem d_Battery_nextStage_63 : decode m_Battery_nextStage.2.1 63 = .ok (.if_icmp .ne 66, 3) := by decide +kernel
theorem d_Battery_nextStage_66 : decode m_Battery_nextStage.2.1 66 = .ok (.aload_n 0, 1) := by decide +kernel
theorem d_Battery_nextStage_67 : decode m_Battery_nextStage.2.1 67 = .ok (.dup, 1) := by decide +kernel
theorem d_Battery_nextStage_68 : decode m_Battery_nextStage.2.1 68 = .ok (.getfield 18, 3) := by decide +kernel
theorem d_Battery_nextStage_71 : decode m_Battery_nextStage.2.1 71 = .ok (.iconst 1, 1) := by decide +kernel
theorem d_Battery_nextStage_72 : decode m_Battery_nextStage.2.1 72 = .ok (.iadd, 1) := by decide +kernel
theorem d_Battery_nextStage_73 : decode m_Battery_nextStage.2.1 73 = .ok (.putfield 18, 3) := by decide +kernel
theorem d_Battery_nextStage_76 : decode m_Battery_nextStage.2.1 76 = .ok (.aload_n 3, 1) := by decide +kernel
theorem d_Battery_nextStage_77 : decode m_Battery_nextStage.2.1 77 = .ok (.bipush 6, 2) := by decide +kernel
theorem d_Battery_nextStage_79 : decode m_Battery_nextStage.2.1 79 = .ok (.invokevirtual 32, 3) := by decide +kernel
theorem d_Battery_nextStage_82 : decode m_Battery_nextStage.2.1 82 = .ok (.istore 5, 2) := by decide +kernel
theorem d_Battery_nextStage_84 : decode m_Battery_nextStage.2.1 84 = .ok (.aload_n 0, 1) := by decide +kernel
theorem d_Battery_nextStage_85 : decode m_Battery_nextStage.2.1 85 = .ok (.getfield 24, 3) := by decide +kernel
theorem d_Battery_nextStage_88 : decode m_Battery_nextStage.2.1 88 = .ok (.iload 5, 2) := by decide +kernel
theorem d_Battery_nextStage_90 : decode m_Battery_nextStage.2.1 90 = .ok (.if_icmp .ge 13, 3) := by decide +kernel
theorem d_Battery_nextStage_93 : decode m_Battery_nextStage.2.1 93 = .ok (.iload_n 1, 1) := by decide +kernel
theorem d_Battery_nextStage_94 : decode m_Battery_nextStage.2.1 94 = .ok (.iload 5, 2) := by decide +kernel
theorem d_Battery_nextStage_96 : decode m_Battery_nextStage.2.1 96 = .ok (.if_icmp .lt 7, 3) := by decide +kernel
theorem d_Battery_nextStage_99 : decode m_Battery_nextStage.2.1 99 = .ok (.iconst 1, 1) := by decide +kernel
theorem d_Battery_nextStage_100 : decode m_Battery_nextStage.2.1 100 = .ok (.goto 4, 3) := by decide +kernel
theorem d_Battery_nextStage_103 : decode m_Battery_nextStage.2.1 103 = .ok (.iconst 0, 1) := by decide +kernel
theorem d_Battery_nextStage_104 : decode m_Battery_nextStage.2.1 104 = .ok (.istore 6, 2) := by decide +kernel
theorem d_Battery_nextStage_106 : decode m_Battery_nextStage.2.1 106 = .ok (.iload 6, 2) := by decide +kernel
theorem d_Battery_nextStage_108 : decode m_Battery_nextStage.2.1 108 = .ok (.ifCond .ne 15, 3) := by decide +kernel
theorem d_Battery_nextStage_111 : decode m_Battery_nextStage.2.1 111 = .ok (.aload_n 0, 1) := by decide +kernel
theorem d_Battery_nextStage_112 : decode m_Battery_nextStage.2.1 112 = .ok (.getfield 18, 3) := by decide +kernel
theorem d_Battery_nextStage_115 : decode m_Battery_nextStage.2.1 115 = .ok (.aload_n 3, 1) := by decide +kernel
theorem d_Battery_nextStage_116 : decode m_Battery_nextStage.2.1 116 = .ok (.iconst 5, 1) := by decide +kernel
theorem d_Battery_nextStage_117 : decode m_Battery_nextStage.2.1 117 = .ok (.invokevirtual 32, 3) := by decide +kernel
theorem d_Battery_nextStage_120 : decode m_Battery_nextStage.2.1 120 = .ok (.if_icmp .lt 7, 3) := by decide +kernel
theorem d_Battery_nextStage_123 : decode m_Battery_nextStage.2.1 123 = .ok (.iconst 2, 1) := by decide +kernel
theorem d_Battery_nextStage_124 : decode m_Battery_nextStage.2.1 124 = .ok (.goto 4, 3) := by decide +kernel
theorem d_Battery_nextStage_127 : decode m_Battery_nextStage.2.1 127 = .ok (.iconst (-1), 1) := by decide +kernel
theorem d_Battery_nextStage_128 : decode m_Battery_nextStage.2.1 128 = .ok (.ireturn, 1) := by decide +kernel
theorem d_Battery_nextStage_129 : decode m_Battery_nextStage.2.1 129 = .ok (.aload_n 0, 1) := by decide +kernel
theorem d_Battery_nextStage_130 : decode m_Battery_nextStage.2.1 130 = .ok (.getfield 9, 3) := by decide +kernel
theorem d_Battery_nextStage_133 : decode m_Battery_nextStage.2.1 133 = .ok (.bipush 100, 2) := by decide +kernel
theorem d_Battery_nextStage_135 : decode m_Battery_nextStage.2.1 135 = .ok (.imul, 1) := by decide +kernel
theorem d_Battery_nextStage_136 : decode m_Battery_nextStage.2.1 136 = .ok (.aload_n 3, 1) := by decide +kernel
theorem d_Battery_nextStage_137 : decode m_Battery_nextStage.2.1 137 = .ok (.iconst 4, 1) := by decide +kernel
theorem d_Battery_nextStage_138 : decode m_Battery_nextStage.2.1 138 = .ok (.invokevirtual 32, 3) := by decide +kernel
theorem d_Battery_nextStage_141 : decode m_Battery_nextStage.2.1 141 = .ok (.iload 4, 2) := by decide +kernel
theorem d_Battery_nextStage_143 : decode m_Battery_nextStage.2.1 143 = .ok (.imul, 1) := by decide +kernel
theorem d_Battery_nextStage_144 : decode m_Battery_nextStage.2.1 144 = .ok (.if_icmp .ge 7, 3) := by decide +kernel
theorem d_Battery_nextStage_147 : decode m_Battery_nextStage.2.1 147 = .ok (.iconst 0, 1) := by decide +kernel
theorem d_Battery_nextStage_148 : decode m_Battery_nextStage.2.1 148 = .ok (.goto 4, 3) := by decide +kernel
theorem d_Battery_nextStage_151 : decode m_Battery_nextStage.2.1 151 = .ok (.iconst (-1), 1) := by decide +kernel
theorem d_Battery_nextStage_152 : decode m_Battery_nextStage.2.1 152 = .ok (.ireturn, 1) := by decide +kernel
theorem d_Follower_init_0 : decode m_Follower_init.2.1 0 = .ok (.aload_n 0, 1) := by decide +kernel
theorem d_Follower_init_1 : decode m_Follower_init.2.1 1 = .ok (.invokespecial 3, 3) := by decide +kernel
theorem d_Follower_init_4 : decode m_Follower_init.2.1 4 = .ok (.return_, 1) := by decide +kernel
theorem d_Follower_renew_0 : decode m_Follower_renew.2.1 0 = .ok (.aload_n 0, 1) := by decide +kernel
theorem d_Follower_renew_1 : decode m_Follower_renew.2.1 1 = .ok (.iconst 0, 1) := by decide +kernel
theorem d_Follower_renew_2 : decode m_Follower_renew.2.1 2 = .ok (.putfield 9, 3) := by decide +kernel
theorem d_Follower_renew_5 : decode m_Follower_renew.2.1 5 = .ok (.aload_n 0, 1) := by decide +kernel
theorem d_Follower_renew_6 : decode m_Follower_renew.2.1 6 = .ok (.iconst 1, 1) := by decide +kernel
theorem d_Follower_renew_7 : decode m_Follower_renew.2.1 7 = .ok (.putfield 15, 3) := by decide +kernel
theorem d_Follower_renew_10 : decode m_Follower_renew.2.1 10 = .ok (.aload_n 0, 1) := by decide +kernel
theorem d_Follower_renew_11 : decode m_Follower_renew.2.1 11 = .ok (.iconst 0, 1) := by decide +kernel
theorem d_Follower_renew_12 : decode m_Follower_renew.2.1 12 = .ok (.putfield 18, 3) := by decide +kernel
theorem d_Follower_renew_15 : decode m_Follower_renew.2.1 15 = .ok (.aload_n 0, 1) := by decide +kernel
theorem d_Follower_renew_16 : decode m_Follower_renew.2.1 16 = .ok (.iconst 0, 1) := by decide +kernel
theorem d_Follower_renew_17 : decode m_Follower_renew.2.1 17 = .ok (.putfield 21, 3) := by decide +kernel
theorem d_Follower_renew_20 : decode m_Follower_renew.2.1 20 = .ok (.aload_n 0, 1) := by decide +kernel
theorem d_Follower_renew_21 : decode m_Follower_renew.2.1 21 = .ok (.iconst 0, 1) := by decide +kernel
theorem d_Follower_renew_22 : decode m_Follower_renew.2.1 22 = .ok (.putfield 24, 3) := by decide +kernel
theorem d_Follower_renew_25 : decode m_Follower_renew.2.1 25 = .ok (.aload_n 0, 1) := by decide +kernel
theorem d_Follower_renew_26 : decode m_Follower_renew.2.1 26 = .ok (.iconst 0, 1) := by decide +kernel
theorem d_Follower_renew_27 : decode m_Follower_renew.2.1 27 = .ok (.putfield 27, 3) := by decide +kernel
theorem d_Follower_renew_30 : decode m_Follower_renew.2.1 30 = .ok (.aload_n 0, 1) := by decide +kernel
theorem d_Follower_renew_31 : decode m_Follower_renew.2.1 31 = .ok (.iconst 0, 1) := by decide +kernel
theorem d_Follower_renew_32 : decode m_Follower_renew.2.1 32 = .ok (.putfield 30, 3) := by decide +kernel
theorem d_Follower_renew_35 : decode m_Follower_renew.2.1 35 = .ok (.aload_n 0, 1) := by decide +kernel
theorem d_Follower_renew_36 : decode m_Follower_renew.2.1 36 = .ok (.iconst 0, 1) := by decide +kernel
theorem d_Follower_renew_37 : decode m_Follower_renew.2.1 37 = .ok (.putfield 33, 3) := by decide +kernel
theorem d_Follower_renew_40 : decode m_Follower_renew.2.1 40 = .ok (.aload_n 0, 1) := by decide +kernel
theorem d_Follower_renew_41 : decode m_Follower_renew.2.1 41 = .ok (.iconst 0, 1) := by decide +kernel
theorem d_Follower_renew_42 : decode m_Follower_renew.2.1 42 = .ok (.putfield 37, 3) := by decide +kernel
theorem d_Follower_renew_45 : decode m_Follower_renew.2.1 45 = .ok (.aload_n 0, 1) := by decide +kernel
theorem d_Follower_renew_46 : decode m_Follower_renew.2.1 46 = .ok (.iconst 0, 1) := by decide +kernel
theorem d_Follower_renew_47 : decode m_Follower_renew.2.1 47 = .ok (.putfield 40, 3) := by decide +kernel
theorem d_Follower_renew_50 : decode m_Follower_renew.2.1 50 = .ok (.aload_n 0, 1) := by decide +kernel
theorem d_Follower_renew_51 : decode m_Follower_renew.2.1 51 = .ok (.iconst 0, 1) := by decide +kernel
theorem d_Follower_renew_52 : decode m_Follower_renew.2.1 52 = .ok (.putfield 43, 3) := by decide +kernel
theorem d_Follower_renew_55 : decode m_Follower_renew.2.1 55 = .ok (.aload_n 0, 1) := by decide +kernel
theorem d_Follower_renew_56 : decode m_Follower_renew.2.1 56 = .ok (.iconst 0, 1) := by decide +kernel
theorem d_Follower_renew_57 : decode m_Follower_renew.2.1 57 = .ok (.putfield 46, 3) := by decide +kernel
theorem d_Follower_renew_60 : decode m_Follower_renew.2.1 60 = .ok (.aload_n 0, 1) := by decide +kernel
theorem d_Follower_renew_61 : decode m_Follower_renew.2.1 61 = .ok (.iconst 0, 1) := by decide +kernel
theorem d_Follower_renew_62 : decode m_Follower_renew.2.1 62 = .ok (.putfield 49, 3) := by decide +kernel
theorem d_Follower_renew_65 : decode m_Follower_renew.2.1 65 = .ok (.return_, 1) := by decide +kernel
theorem d_Follower_copyFrom_0 : decode m_Follower_copyFrom.2.1 0 = .ok (.aload_n 0, 1) := by decide +kernel
theorem d_Follower_copyFrom_1 : decode m_Follower_copyFrom.2.1 1 = .ok (.aload_n 1, 1) := by decide +kernel
theorem d_Follower_copyFrom_2 : decode m_Follower_copyFrom.2.1 2 = .ok (.getfield 9, 3) := by decide +kernel
theorem d_Follower_copyFrom_5 : decode m_Follower_copyFrom.2.1 5 = .ok (.putfield 9, 3) := by decide +kernel
theorem d_Follower_copyFrom_8 : decode m_Follower_copyFrom.2.1 8 = .ok (.aload_n 0, 1) := by decide +kernel
theorem d_Follower_copyFrom_9 : decode m_Follower_copyFrom.2.1 9 = .ok (.aload_n 1, 1) := by decide +kernel
theorem d_Follower_copyFrom_10 : decode m_Follower_copyFrom.2.1 10 = .ok (.getfield 15, 3) := by decide +kernel
theorem d_Follower_copyFrom_13 : decode m_Follower_copyFrom.2.1 13 = .ok (.putfield 15, 3) := by decide +kernel
theorem d_Follower_copyFrom_16 : decode m_Follower_copyFrom.2.1 16 = .ok (.aload_n 0, 1) := by decide +kernel
theorem d_Follower_copyFrom_17 : decode m_Follower_copyFrom.2.1 17 = .ok (.aload_n 1, 1) := by decide +kernel
theorem d_Follower_copyFrom_18 : decode m_Follower_copyFrom.2.1 18 = .ok (.getfield 18, 3) := by decide +kernel
theorem d_Follower_copyFrom_21 : decode m_Follower_copyFrom.2.1 21 = .ok (.putfield 18, 3) := by decide +kernel
theorem d_Follower_copyFrom_24 : decode m_Follower_copyFrom.2.1 24 = .ok (.aload_n 0, 1) := by decide +kernel
theorem d_Follower_copyFrom_25 : decode m_Follower_copyFrom.2.1 25 = .ok (.aload_n 1, 1) := by decide +kernel
theorem d_Follower_copyFrom_26 : decode m_Follower_copyFrom.2.1 26 = .ok (.getfield 21, 3) := by decide +kernel
theorem d_Follower_copyFrom_29 : decode m_Follower_copyFrom.2.1 29 = .ok (.putfield 21, 3) := by decide +kernel
theorem d_Follower_copyFrom_32 : decode m_Follower_copyFrom.2.1 32 = .ok (.aload_n 0, 1) := by decide +kernel
theorem d_Follower_copyFrom_33 : decode m_Follower_copyFrom.2.1 33 = .ok (.aload_n 1, 1) := by decide +kernel
theorem d_Follower_copyFrom_34 : decode m_Follower_copyFrom.2.1 34 = .ok (.getfield 24, 3) := by decide +kernel
theorem d_Follower_copyFrom_37 : decode m_Follower_copyFrom.2.1 37 = .ok (.putfield 24, 3) := by decide +kernel
theorem d_Follower_copyFrom_40 : decode m_Follower_copyFrom.2.1 40 = .ok (.aload_n 0, 1) := by decide +kernel
theorem d_Follower_copyFrom_41 : decode m_Follower_copyFrom.2.1 41 = .ok (.aload_n 1, 1) := by decide +kernel
theorem d_Follower_copyFrom_42 : decode m_Follower_copyFrom.2.1 42 = .ok (.getfield 27, 3) := by decide +kernel
theorem d_Follower_copyFrom_45 : decode m_Follower_copyFrom.2.1 45 = .ok (.putfield 27, 3) := by decide +kernel
theorem d_Follower_copyFrom_48 : decode m_Follower_copyFrom.2.1 48 = .ok (.aload_n 0, 1) := by decide +kernel
theorem d_Follower_copyFrom_49 : decode m_Follower_copyFrom.2.1 49 = .ok (.aload_n 1, 1) := by decide +kernel
theorem d_Follower_copyFrom_50 : decode m_Follower_copyFrom.2.1 50 = .ok (.getfield 30, 3) := by decide +kernel
theorem d_Follower_copyFrom_53 : decode m_Follower_copyFrom.2.1 53 = .ok (.putfield 30, 3) := by decide +kernel
theorem d_Follower_copyFrom_56 : decode m_Follower_copyFrom.2.1 56 = .ok (.aload_n 0, 1) := by decide +kernel
theorem d_Follower_copyFrom_57 : decode m_Follower_copyFrom.2.1 57 = .ok (.aload_n 1, 1) := by decide +kernel
theorem d_Follower_copyFrom_58 : decode m_Follower_copyFrom.2.1 58 = .ok (.getfield 33, 3) := by decide +kernel
theorem d_Follower_copyFrom_61 : decode m_Follower_copyFrom.2.1 61 = .ok (.putfield 33, 3) := by decide +kernel
theorem d_Follower_copyFrom_64 : decode m_Follower_copyFrom.2.1 64 = .ok (.aload_n 0, 1) := by decide +kernel
theorem d_Follower_copyFrom_65 : decode m_Follower_copyFrom.2.1 65 = .ok (.aload_n 1, 1) := by decide +kernel
theorem d_Follower_copyFrom_66 : decode m_Follower_copyFrom.2.1 66 = .ok (.getfield 37, 3) := by decide +kernel
theorem d_Follower_copyFrom_69 : decode m_Follower_copyFrom.2.1 69 = .ok (.putfield 37, 3) := by decide +kernel
theorem d_Follower_copyFrom_72 : decode m_Follower_copyFrom.2.1 72 = .ok (.aload_n 0, 1) := by decide +kernel
theorem d_Follower_copyFrom_73 : decode m_Follower_copyFrom.2.1 73 = .ok (.aload_n 1, 1) := by decide +kernel
theorem d_Follower_copyFrom_74 : decode m_Follower_copyFrom.2.1 74 = .ok (.getfield 40, 3) := by decide +kernel
theorem d_Follower_copyFrom_77 : decode m_Follower_copyFrom.2.1 77 = .ok (.putfield 40, 3) := by decide +kernel
theorem d_Follower_copyFrom_80 : decode m_Follower_copyFrom.2.1 80 = .ok (.aload_n 0, 1) := by decide +kernel
theorem d_Follower_copyFrom_81 : decode m_Follower_copyFrom.2.1 81 = .ok (.aload_n 1, 1) := by decide +kernel
theorem d_Follower_copyFrom_82 : decode m_Follower_copyFrom.2.1 82 = .ok (.getfield 43, 3) := by decide +kernel
theorem d_Follower_copyFrom_85 : decode m_Follower_copyFrom.2.1 85 = .ok (.putfield 43, 3) := by decide +kernel
theorem d_Follower_copyFrom_88 : decode m_Follower_copyFrom.2.1 88 = .ok (.aload_n 0, 1) := by decide +kernel
theorem d_Follower_copyFrom_89 : decode m_Follower_copyFrom.2.1 89 = .ok (.aload_n 1, 1) := by decide +kernel
theorem d_Follower_copyFrom_90 : decode m_Follower_copyFrom.2.1 90 = .ok (.getfield 46, 3) := by decide +kernel
theorem d_Follower_copyFrom_93 : decode m_Follower_copyFrom.2.1 93 = .ok (.putfield 46, 3) := by decide +kernel
theorem d_Follower_copyFrom_96 : decode m_Follower_copyFrom.2.1 96 = .ok (.aload_n 0, 1) := by decide +kernel
theorem d_Follower_copyFrom_97 : decode m_Follower_copyFrom.2.1 97 = .ok (.aload_n 1, 1) := by decide +kernel
theorem d_Follower_copyFrom_98 : decode m_Follower_copyFrom.2.1 98 = .ok (.getfield 49, 3) := by decide +kernel
theorem d_Follower_copyFrom_101 : decode m_Follower_copyFrom.2.1 101 = .ok (.putfield 49, 3) := by decide +kernel
theorem d_Follower_copyFrom_104 : decode m_Follower_copyFrom.2.1 104 = .ok (.return_, 1) := by decide +kernel
theorem d_Follower_beginScan_0 : decode m_Follower_beginScan.2.1 0 = .ok (.aload_n 0, 1) := by decide +kernel
theorem d_Follower_beginScan_1 : decode m_Follower_beginScan.2.1 1 = .ok (.iconst 1, 1) := by decide +kernel
theorem d_Follower_beginScan_2 : decode m_Follower_beginScan.2.1 2 = .ok (.putfield 33, 3) := by decide +kernel
theorem d_Follower_beginScan_5 : decode m_Follower_beginScan.2.1 5 = .ok (.aload_n 0, 1) := by decide +kernel
theorem d_Follower_beginScan_6 : decode m_Follower_beginScan.2.1 6 = .ok (.iconst 0, 1) := by decide +kernel
theorem d_Follower_beginScan_7 : decode m_Follower_beginScan.2.1 7 = .ok (.putfield 43, 3) := by decide +kernel
theorem d_Follower_beginScan_10 : decode m_Follower_beginScan.2.1 10 = .ok (.return_, 1) := by decide +kernel
theorem d_Follower_moveTo_0 : decode m_Follower_moveTo.2.1 0 = .ok (.aload_n 0, 1) := by decide +kernel
theorem d_Follower_moveTo_1 : decode m_Follower_moveTo.2.1 1 = .ok (.iconst 0, 1) := by decide +kernel
theorem d_Follower_moveTo_2 : decode m_Follower_moveTo.2.1 2 = .ok (.sipush 999, 3) := by decide +kernel
theorem d_Follower_moveTo_5 : decode m_Follower_moveTo.2.1 5 = .ok (.iload_n 1, 1) := by decide +kernel
theorem d_Follower_moveTo_6 : decode m_Follower_moveTo.2.1 6 = .ok (.invokestatic 52, 3) := by decide +kernel
theorem d_Follower_moveTo_9 : decode m_Follower_moveTo.2.1 9 = .ok (.invokestatic 58, 3) := by decide +kernel
theorem d_Follower_moveTo_12 : decode m_Follower_moveTo.2.1 12 = .ok (.putfield 9, 3) := by decide +kernel
theorem d_Follower_moveTo_15 : decode m_Follower_moveTo.2.1 15 = .ok (.aload_n 0, 1) := by decide +kernel
theorem d_Follower_moveTo_16 : decode m_Follower_moveTo.2.1 16 = .ok (.aload_n 2, 1) := by decide +kernel
theorem d_Follower_moveTo_17 : decode m_Follower_moveTo.2.1 17 = .ok (.aload_n 0, 1) := by decide +kernel
theorem d_Follower_moveTo_18 : decode m_Follower_moveTo.2.1 18 = .ok (.getfield 9, 3) := by decide +kernel
theorem d_Follower_moveTo_21 : decode m_Follower_moveTo.2.1 21 = .ok (.invokevirtual 61, 3) := by decide +kernel
theorem d_Follower_moveTo_24 : decode m_Follower_moveTo.2.1 24 = .ok (.putfield 30, 3) := by decide +kernel
theorem d_Follower_moveTo_27 : decode m_Follower_moveTo.2.1 27 = .ok (.return_, 1) := by decide +kernel
theorem d_Follower_scanOn_0 : decode m_Follower_scanOn.2.1 0 = .ok (.aload_n 0, 1) := by decide +kernel
theorem d_Follower_scanOn_1 : decode m_Follower_scanOn.2.1 1 = .ok (.iconst 1, 1) := by decide +kernel
theorem d_Follower_scanOn_2 : decode m_Follower_scanOn.2.1 2 = .ok (.putfield 37, 3) := by decide +kernel
theorem d_Follower_scanOn_5 : decode m_Follower_scanOn.2.1 5 = .ok (.aload_n 0, 1) := by decide +kernel
theorem d_Follower_scanOn_6 : decode m_Follower_scanOn.2.1 6 = .ok (.iconst 0, 1) := by decide +kernel
theorem d_Follower_scanOn_7 : decode m_Follower_scanOn.2.1 7 = .ok (.putfield 40, 3) := by decide +kernel
theorem d_Follower_scanOn_10 : decode m_Follower_scanOn.2.1 10 = .ok (.aload_n 0, 1) := by decide +kernel
theorem d_Follower_scanOn_11 : decode m_Follower_scanOn.2.1 11 = .ok (.getfield 43, 3) := by decide +kernel
theorem d_Follower_scanOn_14 : decode m_Follower_scanOn.2.1 14 = .ok (.ifCond .eq 17, 3) := by decide +kernel
theorem d_Follower_scanOn_17 : decode m_Follower_scanOn.2.1 17 = .ok (.aload_n 0, 1) := by decide +kernel
theorem d_Follower_scanOn_18 : decode m_Follower_scanOn.2.1 18 = .ok (.getfield 9, 3) := by decide +kernel
theorem d_Follower_scanOn_21 : decode m_Follower_scanOn.2.1 21 = .ok (.aload_n 2, 1) := by decide +kernel
theorem d_Follower_scanOn_22 : decode m_Follower_scanOn.2.1 22 = .ok (.bipush 14, 2) := by decide +kernel
theorem d_Follower_scanOn_24 : decode m_Follower_scanOn.2.1 24 = .ok (.invokevirtual 67, 3) := by decide +kernel
theorem d_Follower_scanOn_27 : decode m_Follower_scanOn.2.1 27 = .ok (.iadd, 1) := by decide +kernel
theorem d_Follower_scanOn_28 : decode m_Follower_scanOn.2.1 28 = .ok (.goto 4, 3) := by decide +kernel
theorem d_Follower_scanOn_31 : decode m_Follower_scanOn.2.1 31 = .ok (.iconst 0, 1) := by decide +kernel
theorem d_Follower_scanOn_32 : decode m_Follower_scanOn.2.1 32 = .ok (.istore_n 3, 1) := by decide +kernel
theorem d_Follower_scanOn_33 : decode m_Follower_scanOn.2.1 33 = .ok (.iload_n 3, 1) := by decide +kernel
theorem d_Follower_scanOn_34 : decode m_Follower_scanOn.2.1 34 = .ok (.sipush 999, 3) := by decide +kernel
theorem d_Follower_scanOn_37 : decode m_Follower_scanOn.2.1 37 = .ok (.if_icmp .le 10, 3) := by decide +kernel
theorem d_Follower_scanOn_40 : decode m_Follower_scanOn.2.1 40 = .ok (.aload_n 0, 1) := by decide +kernel
theorem d_Follower_scanOn_41 : decode m_Follower_scanOn.2.1 41 = .ok (.aload_n 1, 1) := by decide +kernel
theorem d_Follower_scanOn_42 : decode m_Follower_scanOn.2.1 42 = .ok (.aload_n 2, 1) := by decide +kernel
theorem d_Follower_scanOn_43 : decode m_Follower_scanOn.2.1 43 = .ok (.invokevirtual 70, 3) := by decide +kernel
theorem d_Follower_scanOn_46 : decode m_Follower_scanOn.2.1 46 = .ok (.return_, 1) := by decide +kernel
theorem d_Follower_scanOn_47 : decode m_Follower_scanOn.2.1 47 = .ok (.aload_n 0, 1) := by decide +kernel
theorem d_Follower_scanOn_48 : decode m_Follower_scanOn.2.1 48 = .ok (.iload_n 3, 1) := by decide +kernel
theorem d_Follower_scanOn_49 : decode m_Follower_scanOn.2.1 49 = .ok (.aload_n 1, 1) := by decide +kernel
theorem d_Follower_scanOn_50 : decode m_Follower_scanOn.2.1 50 = .ok (.invokevirtual 74, 3) := by decide +kernel
theorem d_Follower_scanOn_53 : decode m_Follower_scanOn.2.1 53 = .ok (.aload_n 0, 1) := by decide +kernel
theorem d_Follower_scanOn_54 : decode m_Follower_scanOn.2.1 54 = .ok (.getfield 43, 3) := by decide +kernel
theorem d_Follower_scanOn_57 : decode m_Follower_scanOn.2.1 57 = .ok (.ifCond .eq 14, 3) := by decide +kernel
theorem d_Follower_scanOn_60 : decode m_Follower_scanOn.2.1 60 = .ok (.aload_n 0, 1) := by decide +kernel
theorem d_Follower_scanOn_61 : decode m_Follower_scanOn.2.1 61 = .ok (.getfield 30, 3) := by decide +kernel
theorem d_Follower_scanOn_64 : decode m_Follower_scanOn.2.1 64 = .ok (.aload_n 0, 1) := by decide +kernel
theorem d_Follower_scanOn_65 : decode m_Follower_scanOn.2.1 65 = .ok (.getfield 49, 3) := by decide +kernel
theorem d_Follower_scanOn_68 : decode m_Follower_scanOn.2.1 68 = .ok (.if_icmp .le 19, 3) := by decide +kernel
theorem d_Follower_scanOn_71 : decode m_Follower_scanOn.2.1 71 = .ok (.aload_n 0, 1) := by decide +kernel
theorem d_Follower_scanOn_72 : decode m_Follower_scanOn.2.1 72 = .ok (.aload_n 0, 1) := by decide +kernel
theorem d_Follower_scanOn_73 : decode m_Follower_scanOn.2.1 73 = .ok (.getfield 9, 3) := by decide +kernel
theorem d_Follower_scanOn_76 : decode m_Follower_scanOn.2.1 76 = .ok (.putfield 46, 3) := by decide +kernel
theorem d_Follower_scanOn_79 : decode m_Follower_scanOn.2.1 79 = .ok (.aload_n 0, 1) := by decide +kernel
theorem d_Follower_scanOn_80 : decode m_Follower_scanOn.2.1 80 = .ok (.aload_n 0, 1) := by decide +kernel
theorem d_Follower_scanOn_81 : decode m_Follower_scanOn.2.1 81 = .ok (.getfield 30, 3) := by decide +kernel
theorem d_Follower_scanOn_84 : decode m_Follower_scanOn.2.1 84 = .ok (.putfield 49, 3) := by decide +kernel
theorem d_Follower_scanOn_87 : decode m_Follower_scanOn.2.1 87 = .ok (.aload_n 0, 1) := by decide +kernel
theorem d_Follower_scanOn_88 : decode m_Follower_scanOn.2.1 88 = .ok (.iconst 1, 1) := by decide +kernel
theorem d_Follower_scanOn_89 : decode m_Follower_scanOn.2.1 89 = .ok (.putfield 43, 3) := by decide +kernel
theorem d_Follower_scanOn_92 : decode m_Follower_scanOn.2.1 92 = .ok (.return_, 1) := by decide +kernel
theorem d_Follower_endScan_0 : decode m_Follower_endScan.2.1 0 = .ok (.aload_n 0, 1) := by decide +kernel
theorem d_Follower_endScan_1 : decode m_Follower_endScan.2.1 1 = .ok (.aload_n 0, 1) := by decide +kernel
theorem d_Follower_endScan_2 : decode m_Follower_endScan.2.1 2 = .ok (.getfield 46, 3) := by decide +kernel
theorem d_Follower_endScan_5 : decode m_Follower_endScan.2.1 5 = .ok (.aload_n 1, 1) := by decide +kernel
theorem d_Follower_endScan_6 : decode m_Follower_endScan.2.1 6 = .ok (.invokevirtual 74, 3) := by decide +kernel
theorem d_Follower_endScan_9 : decode m_Follower_endScan.2.1 9 = .ok (.aload_n 0, 1) := by decide +kernel
theorem d_Follower_endScan_10 : decode m_Follower_endScan.2.1 10 = .ok (.aload_n 2, 1) := by decide +kernel
theorem d_Follower_endScan_11 : decode m_Follower_endScan.2.1 11 = .ok (.bipush 12, 2) := by decide +kernel
theorem d_Follower_endScan_13 : decode m_Follower_endScan.2.1 13 = .ok (.invokevirtual 67, 3) := by decide +kernel
theorem d_Follower_endScan_16 : decode m_Follower_endScan.2.1 16 = .ok (.putfield 18, 3) := by decide +kernel
theorem d_Follower_endScan_19 : decode m_Follower_endScan.2.1 19 = .ok (.aload_n 0, 1) := by decide +kernel
theorem d_Follower_endScan_20 : decode m_Follower_endScan.2.1 20 = .ok (.iconst 0, 1) := by decide +kernel
theorem d_Follower_endScan_21 : decode m_Follower_endScan.2.1 21 = .ok (.putfield 21, 3) := by decide +kernel
theorem d_Follower_endScan_24 : decode m_Follower_endScan.2.1 24 = .ok (.aload_n 0, 1) := by decide +kernel
theorem d_Follower_endScan_25 : decode m_Follower_endScan.2.1 25 = .ok (.iconst 1, 1) := by decide +kernel
theorem d_Follower_endScan_26 : decode m_Follower_endScan.2.1 26 = .ok (.putfield 15, 3) := by decide +kernel
theorem d_Follower_endScan_29 : decode m_Follower_endScan.2.1 29 = .ok (.aload_n 0, 1) := by decide +kernel
theorem d_Follower_endScan_30 : decode m_Follower_endScan.2.1 30 = .ok (.iconst 0, 1) := by decide +kernel
theorem d_Follower_endScan_31 : decode m_Follower_endScan.2.1 31 = .ok (.putfield 27, 3) := by decide +kernel
theorem d_Follower_endScan_34 : decode m_Follower_endScan.2.1 34 = .ok (.aload_n 0, 1) := by decide +kernel
theorem d_Follower_endScan_35 : decode m_Follower_endScan.2.1 35 = .ok (.aload_n 0, 1) := by decide +kernel
theorem d_Follower_endScan_36 : decode m_Follower_endScan.2.1 36 = .ok (.getfield 30, 3) := by decide +kernel
theorem d_Follower_endScan_39 : decode m_Follower_endScan.2.1 39 = .ok (.putfield 24, 3) := by decide +kernel
theorem d_Follower_endScan_42 : decode m_Follower_endScan.2.1 42 = .ok (.aload_n 0, 1) := by decide +kernel
theorem d_Follower_endScan_43 : decode m_Follower_endScan.2.1 43 = .ok (.iconst 0, 1) := by decide +kernel
theorem d_Follower_endScan_44 : decode m_Follower_endScan.2.1 44 = .ok (.putfield 33, 3) := by decide +kernel
theorem d_Follower_endScan_47 : decode m_Follower_endScan.2.1 47 = .ok (.aload_n 0, 1) := by decide +kernel
theorem d_Follower_endScan_48 : decode m_Follower_endScan.2.1 48 = .ok (.iconst 1, 1) := by decide +kernel
theorem d_Follower_endScan_49 : decode m_Follower_endScan.2.1 49 = .ok (.putfield 40, 3) := by decide +kernel
theorem d_Follower_endScan_52 : decode m_Follower_endScan.2.1 52 = .ok (.return_, 1) := by decide +kernel
theorem d_Follower_seek_0 : decode m_Follower_seek.2.1 0 = .ok (.aload_n 0, 1) := by decide +kernel
theorem d_Follower_seek_1 : decode m_Follower_seek.2.1 1 = .ok (.iconst 0, 1) := by decide +kernel
theorem d_Follower_seek_2 : decode m_Follower_seek.2.1 2 = .ok (.putfield 37, 3) := by decide +kernel
theorem d_Follower_seek_5 : decode m_Follower_seek.2.1 5 = .ok (.aload_n 0, 1) := by decide +kernel
theorem d_Follower_seek_6 : decode m_Follower_seek.2.1 6 = .ok (.iconst 0, 1) := by decide +kernel
theorem d_Follower_seek_7 : decode m_Follower_seek.2.1 7 = .ok (.putfield 40, 3) := by decide +kernel
theorem d_Follower_seek_10 : decode m_Follower_seek.2.1 10 = .ok (.aload_n 0, 1) := by decide +kernel
theorem d_Follower_seek_11 : decode m_Follower_seek.2.1 11 = .ok (.dup, 1) := by decide +kernel
theorem d_Follower_seek_12 : decode m_Follower_seek.2.1 12 = .ok (.getfield 27, 3) := by decide +kernel
theorem d_Follower_seek_15 : decode m_Follower_seek.2.1 15 = .ok (.iconst 1, 1) := by decide +kernel
theorem d_Follower_seek_16 : decode m_Follower_seek.2.1 16 = .ok (.iadd, 1) := by decide +kernel
theorem d_Follower_seek_17 : decode m_Follower_seek.2.1 17 = .ok (.putfield 27, 3) := by decide +kernel
theorem d_Follower_seek_20 : decode m_Follower_seek.2.1 20 = .ok (.aload_n 2, 1) := by decide +kernel
theorem d_Follower_seek_21 : decode m_Follower_seek.2.1 21 = .ok (.bipush 17, 2) := by decide +kernel
theorem d_Follower_seek_23 : decode m_Follower_seek.2.1 23 = .ok (.invokevirtual 67, 3) := by decide +kernel
theorem d_Follower_seek_26 : decode m_Follower_seek.2.1 26 = .ok (.lookupswitch 53 #[(1, 44), (2, 26)], 26) := by decide +kernel
theorem d_Follower_seek_52 : decode m_Follower_seek.2.1 52 = .ok (.aload_n 0, 1) := by decide +kernel
theorem d_Follower_seek_53 : decode m_Follower_seek.2.1 53 = .ok (.aload_n 1, 1) := by decide +kernel
theorem d_Follower_seek_54 : decode m_Follower_seek.2.1 54 = .ok (.aload_n 2, 1) := by decide +kernel
theorem d_Follower_seek_55 : decode m_Follower_seek.2.1 55 = .ok (.bipush 18, 2) := by decide +kernel
theorem d_Follower_seek_57 : decode m_Follower_seek.2.1 57 = .ok (.invokevirtual 67, 3) := by decide +kernel
theorem d_Follower_seek_60 : decode m_Follower_seek.2.1 60 = .ok (.invokevirtual 78, 3) := by decide +kernel
theorem d_Follower_seek_63 : decode m_Follower_seek.2.1 63 = .ok (.aload_n 1, 1) := by decide +kernel
theorem d_Follower_seek_64 : decode m_Follower_seek.2.1 64 = .ok (.invokevirtual 74, 3) := by decide +kernel
theorem d_Follower_seek_67 : decode m_Follower_seek.2.1 67 = .ok (.goto 18, 3) := by decide +kernel
theorem d_Follower_seek_70 : decode m_Follower_seek.2.1 70 = .ok (.aload_n 0, 1) := by decide +kernel
theorem d_Follower_seek_71 : decode m_Follower_seek.2.1 71 = .ok (.aload_n 1, 1) := by decide +kernel
theorem d_Follower_seek_72 : decode m_Follower_seek.2.1 72 = .ok (.aload_n 2, 1) := by decide +kernel
theorem d_Follower_seek_73 : decode m_Follower_seek.2.1 73 = .ok (.invokevirtual 81, 3) := by decide +kernel
theorem d_Follower_seek_76 : decode m_Follower_seek.2.1 76 = .ok (.goto 9, 3) := by decide +kernel
theorem d_Follower_seek_79 : decode m_Follower_seek.2.1 79 = .ok (.aload_n 0, 1) := by decide +kernel
theorem d_Follower_seek_80 : decode m_Follower_seek.2.1 80 = .ok (.aload_n 1, 1) := by decide +kernel
theorem d_Follower_seek_81 : decode m_Follower_seek.2.1 81 = .ok (.aload_n 2, 1) := by decide +kernel
theorem d_Follower_seek_82 : decode m_Follower_seek.2.1 82 = .ok (.invokevirtual 84, 3) := by decide +kernel
theorem d_Follower_seek_85 : decode m_Follower_seek.2.1 85 = .ok (.aload_n 0, 1) := by decide +kernel
theorem d_Follower_seek_86 : decode m_Follower_seek.2.1 86 = .ok (.aload_n 2, 1) := by decide +kernel
theorem d_Follower_seek_87 : decode m_Follower_seek.2.1 87 = .ok (.invokevirtual 87, 3) := by decide +kernel
theorem d_Follower_seek_90 : decode m_Follower_seek.2.1 90 = .ok (.ifCond .eq 7, 3) := by decide +kernel
theorem d_Follower_seek_93 : decode m_Follower_seek.2.1 93 = .ok (.aload_n 0, 1) := by decide +kernel
theorem d_Follower_seek_94 : decode m_Follower_seek.2.1 94 = .ok (.invokevirtual 91, 3) := by decide +kernel
theorem d_Follower_seek_97 : decode m_Follower_seek.2.1 97 = .ok (.aload_n 0, 1) := by decide +kernel
theorem d_Follower_seek_98 : decode m_Follower_seek.2.1 98 = .ok (.aload_n 0, 1) := by decide +kernel
theorem d_Follower_seek_99 : decode m_Follower_seek.2.1 99 = .ok (.getfield 30, 3) := by decide +kernel
theorem d_Follower_seek_102 : decode m_Follower_seek.2.1 102 = .ok (.putfield 24, 3) := by decide +kernel
theorem d_Follower_seek_105 : decode m_Follower_seek.2.1 105 = .ok (.return_, 1) := by decide +kernel
theorem d_Follower_goUphill_0 : decode m_Follower_goUphill.2.1 0 = .ok (.aload_n 1, 1) := by decide +kernel
theorem d_Follower_goUphill_1 : decode m_Follower_goUphill.2.1 1 = .ok (.aload_n 0, 1) := by decide +kernel
theorem d_Follower_goUphill_2 : decode m_Follower_goUphill.2.1 2 = .ok (.getfield 9, 3) := by decide +kernel
theorem d_Follower_goUphill_5 : decode m_Follower_goUphill.2.1 5 = .ok (.invokevirtual 94, 3) := by decide +kernel
theorem d_Follower_goUphill_8 : decode m_Follower_goUphill.2.1 8 = .ok (.istore_n 3, 1) := by decide +kernel
theorem d_Follower_goUphill_9 : decode m_Follower_goUphill.2.1 9 = .ok (.aload_n 0, 1) := by decide +kernel
theorem d_Follower_goUphill_10 : decode m_Follower_goUphill.2.1 10 = .ok (.aload_n 0, 1) := by decide +kernel
theorem d_Follower_goUphill_11 : decode m_Follower_goUphill.2.1 11 = .ok (.getfield 9, 3) := by decide +kernel
theorem d_Follower_goUphill_14 : decode m_Follower_goUphill.2.1 14 = .ok (.iload_n 3, 1) := by decide +kernel
theorem d_Follower_goUphill_15 : decode m_Follower_goUphill.2.1 15 = .ok (.aload_n 0, 1) := by decide +kernel
theorem d_Follower_goUphill_16 : decode m_Follower_goUphill.2.1 16 = .ok (.getfield 18, 3) := by decide +kernel
theorem d_Follower_goUphill_19 : decode m_Follower_goUphill.2.1 19 = .ok (.imul, 1) := by decide +kernel
theorem d_Follower_goUphill_20 : decode m_Follower_goUphill.2.1 20 = .ok (.iadd, 1) := by decide +kernel
theorem d_Follower_goUphill_21 : decode m_Follower_goUphill.2.1 21 = .ok (.aload_n 1, 1) := by decide +kernel
theorem d_Follower_goUphill_22 : decode m_Follower_goUphill.2.1 22 = .ok (.invokevirtual 74, 3) := by decide +kernel
theorem d_Follower_goUphill_25 : decode m_Follower_goUphill.2.1 25 = .ok (.iload_n 3, 1) := by decide +kernel
theorem d_Follower_goUphill_26 : decode m_Follower_goUphill.2.1 26 = .ok (.aload_n 0, 1) := by decide +kernel
theorem d_Follower_goUphill_27 : decode m_Follower_goUphill.2.1 27 = .ok (.getfield 15, 3) := by decide +kernel
theorem d_Follower_goUphill_30 : decode m_Follower_goUphill.2.1 30 = .ok (.if_icmp .ne 11, 3) := by decide +kernel
theorem d_Follower_goUphill_33 : decode m_Follower_goUphill.2.1 33 = .ok (.aload_n 0, 1) := by decide +kernel
theorem d_Follower_goUphill_34 : decode m_Follower_goUphill.2.1 34 = .ok (.aload_n 2, 1) := by decide +kernel
theorem d_Follower_goUphill_35 : decode m_Follower_goUphill.2.1 35 = .ok (.invokevirtual 97, 3) := by decide +kernel
theorem d_Follower_goUphill_38 : decode m_Follower_goUphill.2.1 38 = .ok (.goto 23, 3) := by decide +kernel
theorem d_Follower_goUphill_41 : decode m_Follower_goUphill.2.1 41 = .ok (.aload_n 0, 1) := by decide +kernel
theorem d_Follower_goUphill_42 : decode m_Follower_goUphill.2.1 42 = .ok (.iload_n 3, 1) := by decide +kernel
theorem d_Follower_goUphill_43 : decode m_Follower_goUphill.2.1 43 = .ok (.ifCond .ne 10, 3) := by decide +kernel
theorem d_Follower_goUphill_46 : decode m_Follower_goUphill.2.1 46 = .ok (.aload_n 0, 1) := by decide +kernel
theorem d_Follower_goUphill_47 : decode m_Follower_goUphill.2.1 47 = .ok (.getfield 15, 3) := by decide +kernel
theorem d_Follower_goUphill_50 : decode m_Follower_goUphill.2.1 50 = .ok (.goto 4, 3) := by decide +kernel
theorem d_Follower_goUphill_53 : decode m_Follower_goUphill.2.1 53 = .ok (.iload_n 3, 1) := by decide +kernel
theorem d_Follower_goUphill_54 : decode m_Follower_goUphill.2.1 54 = .ok (.putfield 15, 3) := by decide +kernel
theorem d_Follower_goUphill_57 : decode m_Follower_goUphill.2.1 57 = .ok (.aload_n 0, 1) := by decide +kernel
theorem d_Follower_goUphill_58 : decode m_Follower_goUphill.2.1 58 = .ok (.invokevirtual 101, 3) := by decide +kernel
theorem d_Follower_goUphill_61 : decode m_Follower_goUphill.2.1 61 = .ok (.return_, 1) := by decide +kernel
theorem d_Follower_climb_0 : decode m_Follower_climb.2.1 0 = .ok (.aload_n 0, 1) := by decide +kernel
theorem d_Follower_climb_1 : decode m_Follower_climb.2.1 1 = .ok (.aload_n 0, 1) := by decide +kernel
theorem d_Follower_climb_2 : decode m_Follower_climb.2.1 2 = .ok (.getfield 9, 3) := by decide +kernel
theorem d_Follower_climb_5 : decode m_Follower_climb.2.1 5 = .ok (.aload_n 0, 1) := by decide +kernel
theorem d_Follower_climb_6 : decode m_Follower_climb.2.1 6 = .ok (.getfield 15, 3) := by decide +kernel
theorem d_Follower_climb_9 : decode m_Follower_climb.2.1 9 = .ok (.aload_n 0, 1) := by decide +kernel
theorem d_Follower_climb_10 : decode m_Follower_climb.2.1 10 = .ok (.getfield 18, 3) := by decide +kernel
theorem d_Follower_climb_13 : decode m_Follower_climb.2.1 13 = .ok (.imul, 1) := by decide +kernel
theorem d_Follower_climb_14 : decode m_Follower_climb.2.1 14 = .ok (.iadd, 1) := by decide +kernel
theorem d_Follower_climb_15 : decode m_Follower_climb.2.1 15 = .ok (.aload_n 1, 1) := by decide +kernel
theorem d_Follower_climb_16 : decode m_Follower_climb.2.1 16 = .ok (.invokevirtual 74, 3) := by decide +kernel
theorem d_Follower_climb_19 : decode m_Follower_climb.2.1 19 = .ok (.aload_n 0, 1) := by decide +kernel
theorem d_Follower_climb_20 : decode m_Follower_climb.2.1 20 = .ok (.getfield 30, 3) := by decide +kernel
theorem d_Follower_climb_23 : decode m_Follower_climb.2.1 23 = .ok (.aload_n 0, 1) := by decide +kernel
theorem d_Follower_climb_24 : decode m_Follower_climb.2.1 24 = .ok (.getfield 24, 3) := by decide +kernel
theorem d_Follower_climb_27 : decode m_Follower_climb.2.1 27 = .ok (.if_icmp .le 11, 3) := by decide +kernel
theorem d_Follower_climb_30 : decode m_Follower_climb.2.1 30 = .ok (.aload_n 0, 1) := by decide +kernel
theorem d_Follower_climb_31 : decode m_Follower_climb.2.1 31 = .ok (.aload_n 2, 1) := by decide +kernel
theorem d_Follower_climb_32 : decode m_Follower_climb.2.1 32 = .ok (.invokevirtual 97, 3) := by decide +kernel
theorem d_Follower_climb_35 : decode m_Follower_climb.2.1 35 = .ok (.goto 16, 3) := by decide +kernel
theorem d_Follower_climb_38 : decode m_Follower_climb.2.1 38 = .ok (.aload_n 0, 1) := by decide +kernel
theorem d_Follower_climb_39 : decode m_Follower_climb.2.1 39 = .ok (.aload_n 0, 1) := by decide +kernel
theorem d_Follower_climb_40 : decode m_Follower_climb.2.1 40 = .ok (.getfield 15, 3) := by decide +kernel
theorem d_Follower_climb_43 : decode m_Follower_climb.2.1 43 = .ok (.ineg, 1) := by decide +kernel
theorem d_Follower_climb_44 : decode m_Follower_climb.2.1 44 = .ok (.putfield 15, 3) := by decide +kernel
theorem d_Follower_climb_47 : decode m_Follower_climb.2.1 47 = .ok (.aload_n 0, 1) := by decide +kernel
theorem d_Follower_climb_48 : decode m_Follower_climb.2.1 48 = .ok (.invokevirtual 101, 3) := by decide +kernel
theorem d_Follower_climb_51 : decode m_Follower_climb.2.1 51 = .ok (.return_, 1) := by decide +kernel
theorem d_Follower_lengthen_0 : decode m_Follower_lengthen.2.1 0 = .ok (.aload_n 0, 1) := by decide +kernel
theorem d_Follower_lengthen_1 : decode m_Follower_lengthen.2.1 1 = .ok (.dup, 1) := by decide +kernel
theorem d_Follower_lengthen_2 : decode m_Follower_lengthen.2.1 2 = .ok (.getfield 21, 3) := by decide +kernel
theorem d_Follower_lengthen_5 : decode m_Follower_lengthen.2.1 5 = .ok (.iconst 1, 1) := by decide +kernel
theorem d_Follower_lengthen_6 : decode m_Follower_lengthen.2.1 6 = .ok (.iadd, 1) := by decide +kernel
theorem d_Follower_lengthen_7 : decode m_Follower_lengthen.2.1 7 = .ok (.putfield 21, 3) := by decide +kernel
theorem d_Follower_lengthen_10 : decode m_Follower_lengthen.2.1 10 = .ok (.aload_n 0, 1) := by decide +kernel
theorem d_Follower_lengthen_11 : decode m_Follower_lengthen.2.1 11 = .ok (.getfield 21, 3) := by decide +kernel
theorem d_Follower_lengthen_14 : decode m_Follower_lengthen.2.1 14 = .ok (.aload_n 1, 1) := by decide +kernel
theorem d_Follower_lengthen_15 : decode m_Follower_lengthen.2.1 15 = .ok (.bipush 13, 2) := by decide +kernel
theorem d_Follower_lengthen_17 : decode m_Follower_lengthen.2.1 17 = .ok (.invokevirtual 67, 3) := by decide +kernel
theorem d_Follower_lengthen_20 : decode m_Follower_lengthen.2.1 20 = .ok (.if_icmp .lt 23, 3) := by decide +kernel
theorem d_Follower_lengthen_23 : decode m_Follower_lengthen.2.1 23 = .ok (.aload_n 0, 1) := by decide +kernel
theorem d_Follower_lengthen_24 : decode m_Follower_lengthen.2.1 24 = .ok (.iconst 0, 1) := by decide +kernel
theorem d_Follower_lengthen_25 : decode m_Follower_lengthen.2.1 25 = .ok (.putfield 21, 3) := by decide +kernel
theorem d_Follower_lengthen_28 : decode m_Follower_lengthen.2.1 28 = .ok (.aload_n 0, 1) := by decide +kernel
theorem d_Follower_lengthen_29 : decode m_Follower_lengthen.2.1 29 = .ok (.bipush 64, 2) := by decide +kernel
theorem d_Follower_lengthen_31 : decode m_Follower_lengthen.2.1 31 = .ok (.iconst 2, 1) := by decide +kernel
theorem d_Follower_lengthen_32 : decode m_Follower_lengthen.2.1 32 = .ok (.aload_n 0, 1) := by decide +kernel
theorem d_Follower_lengthen_33 : decode m_Follower_lengthen.2.1 33 = .ok (.getfield 18, 3) := by decide +kernel
theorem d_Follower_lengthen_36 : decode m_Follower_lengthen.2.1 36 = .ok (.imul, 1) := by decide +kernel
theorem d_Follower_lengthen_37 : decode m_Follower_lengthen.2.1 37 = .ok (.invokestatic 52, 3) := by decide +kernel
theorem d_Follower_lengthen_40 : decode m_Follower_lengthen.2.1 40 = .ok (.putfield 18, 3) := by decide +kernel
theorem d_Follower_lengthen_43 : decode m_Follower_lengthen.2.1 43 = .ok (.return_, 1) := by decide +kernel
theorem d_Follower_shorten_0 : decode m_Follower_shorten.2.1 0 = .ok (.aload_n 0, 1) := by decide +kernel
theorem d_Follower_shorten_1 : decode m_Follower_shorten.2.1 1 = .ok (.iconst 1, 1) := by decide +kernel
theorem d_Follower_shorten_2 : decode m_Follower_shorten.2.1 2 = .ok (.aload_n 0, 1) := by decide +kernel
theorem d_Follower_shorten_3 : decode m_Follower_shorten.2.1 3 = .ok (.getfield 18, 3) := by decide +kernel
theorem d_Follower_shorten_6 : decode m_Follower_shorten.2.1 6 = .ok (.iconst 2, 1) := by decide +kernel
theorem d_Follower_shorten_7 : decode m_Follower_shorten.2.1 7 = .ok (.idiv, 1) := by decide +kernel
theorem d_Follower_shorten_8 : decode m_Follower_shorten.2.1 8 = .ok (.invokestatic 58, 3) := by decide +kernel
theorem d_Follower_shorten_11 : decode m_Follower_shorten.2.1 11 = .ok (.putfield 18, 3) := by decide +kernel
theorem d_Follower_shorten_14 : decode m_Follower_shorten.2.1 14 = .ok (.aload_n 0, 1) := by decide +kernel
theorem d_Follower_shorten_15 : decode m_Follower_shorten.2.1 15 = .ok (.iconst 0, 1) := by decide +kernel
theorem d_Follower_shorten_16 : decode m_Follower_shorten.2.1 16 = .ok (.putfield 21, 3) := by decide +kernel
theorem d_Follower_shorten_19 : decode m_Follower_shorten.2.1 19 = .ok (.return_, 1) := by decide +kernel
theorem d_Follower_wantsScan_0 : decode m_Follower_wantsScan.2.1 0 = .ok (.aload_n 1, 1) := by decide +kernel
theorem d_Follower_wantsScan_1 : decode m_Follower_wantsScan.2.1 1 = .ok (.bipush 15, 2) := by decide +kernel
theorem d_Follower_wantsScan_3 : decode m_Follower_wantsScan.2.1 3 = .ok (.invokevirtual 67, 3) := by decide +kernel
theorem d_Follower_wantsScan_6 : decode m_Follower_wantsScan.2.1 6 = .ok (.istore_n 2, 1) := by decide +kernel
theorem d_Follower_wantsScan_7 : decode m_Follower_wantsScan.2.1 7 = .ok (.aload_n 1, 1) := by decide +kernel
theorem d_Follower_wantsScan_8 : decode m_Follower_wantsScan.2.1 8 = .ok (.bipush 16, 2) := by decide +kernel
theorem d_Follower_wantsScan_10 : decode m_Follower_wantsScan.2.1 10 = .ok (.invokevirtual 67, 3) := by decide +kernel
theorem d_Follower_wantsScan_13 : decode m_Follower_wantsScan.2.1 13 = .ok (.istore_n 3, 1) := by decide +kernel
theorem d_Follower_wantsScan_14 : decode m_Follower_wantsScan.2.1 14 = .ok (.iload_n 2, 1) := by decide +kernel
theorem d_Follower_wantsScan_15 : decode m_Follower_wantsScan.2.1 15 = .ok (.ifCond .le 11, 3) := by decide +kernel
theorem d_Follower_wantsScan_18 : decode m_Follower_wantsScan.2.1 18 = .ok (.aload_n 0, 1) := by decide +kernel
theorem d_Follower_wantsScan_19 : decode m_Follower_wantsScan.2.1 19 = .ok (.getfield 27, 3) := by decide +kernel
theorem d_Follower_wantsScan_22 : decode m_Follower_wantsScan.2.1 22 = .ok (.iload_n 2, 1) := by decide +kernel
theorem d_Follower_wantsScan_23 : decode m_Follower_wantsScan.2.1 23 = .ok (.if_icmp .ge 26, 3) := by decide +kernel
theorem d_Follower_wantsScan_26 : decode m_Follower_wantsScan.2.1 26 = .ok (.iload_n 3, 1) := by decide +kernel
theorem d_Follower_wantsScan_27 : decode m_Follower_wantsScan.2.1 27 = .ok (.ifCond .le 26, 3) := by decide +kernel
theorem d_Follower_wantsScan_30 : decode m_Follower_wantsScan.2.1 30 = .ok (.aload_n 0, 1) := by decide +kernel
theorem d_Follower_wantsScan_31 : decode m_Follower_wantsScan.2.1 31 = .ok (.getfield 30, 3) := by decide +kernel
theorem d_Follower_wantsScan_34 : decode m_Follower_wantsScan.2.1 34 = .ok (.bipush 100, 2) := by decide +kernel
theorem d_Follower_wantsScan_36 : decode m_Follower_wantsScan.2.1 36 = .ok (.imul, 1) := by decide +kernel
theorem d_Follower_wantsScan_37 : decode m_Follower_wantsScan.2.1 37 = .ok (.aload_n 0, 1) := by decide +kernel
theorem d_Follower_wantsScan_38 : decode m_Follower_wantsScan.2.1 38 = .ok (.getfield 24, 3) := by decide +kernel
theorem d_Follower_wantsScan_41 : decode m_Follower_wantsScan.2.1 41 = .ok (.bipush 100, 2) := by decide +kernel
theorem d_Follower_wantsScan_43 : decode m_Follower_wantsScan.2.1 43 = .ok (.iload_n 3, 1) := by decide +kernel
theorem d_Follower_wantsScan_44 : decode m_Follower_wantsScan.2.1 44 = .ok (.isub, 1) := by decide +kernel
theorem d_Follower_wantsScan_45 : decode m_Follower_wantsScan.2.1 45 = .ok (.imul, 1) := by decide +kernel
theorem d_Follower_wantsScan_46 : decode m_Follower_wantsScan.2.1 46 = .ok (.if_icmp .ge 7, 3) := by decide +kernel
theorem d_Follower_wantsScan_49 : decode m_Follower_wantsScan.2.1 49 = .ok (.iconst 1, 1) := by decide +kernel
theorem d_Follower_wantsScan_50 : decode m_Follower_wantsScan.2.1 50 = .ok (.goto 4, 3) := by decide +kernel
theorem d_Follower_wantsScan_53 : decode m_Follower_wantsScan.2.1 53 = .ok (.iconst 0, 1) := by decide +kernel
theorem d_Follower_wantsScan_54 : decode m_Follower_wantsScan.2.1 54 = .ok (.ireturn, 1) := by decide +kernel
theorem d_Inverter_init_0 : decode m_Inverter_init.2.1 0 = .ok (.aload_n 0, 1) := by decide +kernel
theorem d_Inverter_init_1 : decode m_Inverter_init.2.1 1 = .ok (.invokespecial 3, 3) := by decide +kernel
theorem d_Inverter_init_4 : decode m_Inverter_init.2.1 4 = .ok (.return_, 1) := by decide +kernel
theorem d_Inverter_renew_0 : decode m_Inverter_renew.2.1 0 = .ok (.aload_n 0, 1) := by decide +kernel
theorem d_Inverter_renew_1 : decode m_Inverter_renew.2.1 1 = .ok (.iconst 1, 1) := by decide +kernel
theorem d_Inverter_renew_2 : decode m_Inverter_renew.2.1 2 = .ok (.putfield 9, 3) := by decide +kernel
theorem d_Inverter_renew_5 : decode m_Inverter_renew.2.1 5 = .ok (.aload_n 0, 1) := by decide +kernel
theorem d_Inverter_renew_6 : decode m_Inverter_renew.2.1 6 = .ok (.iconst 1, 1) := by decide +kernel
theorem d_Inverter_renew_7 : decode m_Inverter_renew.2.1 7 = .ok (.putfield 15, 3) := by decide +kernel
theorem d_Inverter_renew_10 : decode m_Inverter_renew.2.1 10 = .ok (.aload_n 0, 1) := by decide +kernel
theorem d_Inverter_renew_11 : decode m_Inverter_renew.2.1 11 = .ok (.ldc 19, 2) := by decide +kernel
theorem d_Inverter_renew_13 : decode m_Inverter_renew.2.1 13 = .ok (.putfield 20, 3) := by decide +kernel
theorem d_Inverter_renew_16 : decode m_Inverter_renew.2.1 16 = .ok (.aload_n 0, 1) := by decide +kernel
theorem d_Inverter_renew_17 : decode m_Inverter_renew.2.1 17 = .ok (.ldc 19, 2) := by decide +kernel
theorem d_Inverter_renew_19 : decode m_Inverter_renew.2.1 19 = .ok (.putfield 23, 3) := by decide +kernel
theorem d_Inverter_renew_22 : decode m_Inverter_renew.2.1 22 = .ok (.aload_n 0, 1) := by decide +kernel
theorem d_Inverter_renew_23 : decode m_Inverter_renew.2.1 23 = .ok (.iconst 0, 1) := by decide +kernel
theorem d_Inverter_renew_24 : decode m_Inverter_renew.2.1 24 = .ok (.putfield 26, 3) := by decide +kernel
theorem d_Inverter_renew_27 : decode m_Inverter_renew.2.1 27 = .ok (.aload_n 0, 1) := by decide +kernel
theorem d_Inverter_renew_28 : decode m_Inverter_renew.2.1 28 = .ok (.iconst 0, 1) := by decide +kernel
theorem d_Inverter_renew_29 : decode m_Inverter_renew.2.1 29 = .ok (.putfield 29, 3) := by decide +kernel
theorem d_Inverter_renew_32 : decode m_Inverter_renew.2.1 32 = .ok (.aload_n 0, 1) := by decide +kernel
theorem d_Inverter_renew_33 : decode m_Inverter_renew.2.1 33 = .ok (.iconst 0, 1) := by decide +kernel
theorem d_Inverter_renew_34 : decode m_Inverter_renew.2.1 34 = .ok (.putfield 32, 3) := by decide +kernel
theorem d_Inverter_renew_37 : decode m_Inverter_renew.2.1 37 = .ok (.aload_n 0, 1) := by decide +kernel
theorem d_Inverter_renew_38 : decode m_Inverter_renew.2.1 38 = .ok (.iconst 0, 1) := by decide +kernel
theorem d_Inverter_renew_39 : decode m_Inverter_renew.2.1 39 = .ok (.putfield 35, 3) := by decide +kernel
theorem d_Inverter_renew_42 : decode m_Inverter_renew.2.1 42 = .ok (.return_, 1) := by decide +kernel
theorem d_Inverter_copyFrom_0 : decode m_Inverter_copyFrom.2.1 0 = .ok (.aload_n 0, 1) := by decide +kernel
theorem d_Inverter_copyFrom_1 : decode m_Inverter_copyFrom.2.1 1 = .ok (.aload_n 1, 1) := by decide +kernel
theorem d_Inverter_copyFrom_2 : decode m_Inverter_copyFrom.2.1 2 = .ok (.getfield 9, 3) := by decide +kernel
theorem d_Inverter_copyFrom_5 : decode m_Inverter_copyFrom.2.1 5 = .ok (.putfield 9, 3) := by decide +kernel
theorem d_Inverter_copyFrom_8 : decode m_Inverter_copyFrom.2.1 8 = .ok (.aload_n 0, 1) := by decide +kernel
theorem d_Inverter_copyFrom_9 : decode m_Inverter_copyFrom.2.1 9 = .ok (.aload_n 1, 1) := by decide +kernel
theorem d_Inverter_copyFrom_10 : decode m_Inverter_copyFrom.2.1 10 = .ok (.getfield 15, 3) := by decide +kernel
theorem d_Inverter_copyFrom_13 : decode m_Inverter_copyFrom.2.1 13 = .ok (.putfield 15, 3) := by decide +kernel
theorem d_Inverter_copyFrom_16 : decode m_Inverter_copyFrom.2.1 16 = .ok (.aload_n 0, 1) := by decide +kernel
theorem d_Inverter_copyFrom_17 : decode m_Inverter_copyFrom.2.1 17 = .ok (.aload_n 1, 1) := by decide +kernel
theorem d_Inverter_copyFrom_18 : decode m_Inverter_copyFrom.2.1 18 = .ok (.getfield 20, 3) := by decide +kernel
theorem d_Inverter_copyFrom_21 : decode m_Inverter_copyFrom.2.1 21 = .ok (.putfield 20, 3) := by decide +kernel
theorem d_Inverter_copyFrom_24 : decode m_Inverter_copyFrom.2.1 24 = .ok (.aload_n 0, 1) := by decide +kernel
theorem d_Inverter_copyFrom_25 : decode m_Inverter_copyFrom.2.1 25 = .ok (.aload_n 1, 1) := by decide +kernel
theorem d_Inverter_copyFrom_26 : decode m_Inverter_copyFrom.2.1 26 = .ok (.getfield 23, 3) := by decide +kernel
theorem d_Inverter_copyFrom_29 : decode m_Inverter_copyFrom.2.1 29 = .ok (.putfield 23, 3) := by decide +kernel
theorem d_Inverter_copyFrom_32 : decode m_Inverter_copyFrom.2.1 32 = .ok (.aload_n 0, 1) := by decide +kernel
theorem d_Inverter_copyFrom_33 : decode m_Inverter_copyFrom.2.1 33 = .ok (.aload_n 1, 1) := by decide +kernel
theorem d_Inverter_copyFrom_34 : decode m_Inverter_copyFrom.2.1 34 = .ok (.getfield 26, 3) := by decide +kernel
theorem d_Inverter_copyFrom_37 : decode m_Inverter_copyFrom.2.1 37 = .ok (.putfield 26, 3) := by decide +kernel
theorem d_Inverter_copyFrom_40 : decode m_Inverter_copyFrom.2.1 40 = .ok (.aload_n 0, 1) := by decide +kernel
theorem d_Inverter_copyFrom_41 : decode m_Inverter_copyFrom.2.1 41 = .ok (.aload_n 1, 1) := by decide +kernel
theorem d_Inverter_copyFrom_42 : decode m_Inverter_copyFrom.2.1 42 = .ok (.getfield 29, 3) := by decide +kernel
theorem d_Inverter_copyFrom_45 : decode m_Inverter_copyFrom.2.1 45 = .ok (.putfield 29, 3) := by decide +kernel
theorem d_Inverter_copyFrom_48 : decode m_Inverter_copyFrom.2.1 48 = .ok (.aload_n 0, 1) := by decide +kernel
theorem d_Inverter_copyFrom_49 : decode m_Inverter_copyFrom.2.1 49 = .ok (.aload_n 1, 1) := by decide +kernel
theorem d_Inverter_copyFrom_50 : decode m_Inverter_copyFrom.2.1 50 = .ok (.getfield 32, 3) := by decide +kernel
theorem d_Inverter_copyFrom_53 : decode m_Inverter_copyFrom.2.1 53 = .ok (.putfield 32, 3) := by decide +kernel
theorem d_Inverter_copyFrom_56 : decode m_Inverter_copyFrom.2.1 56 = .ok (.aload_n 0, 1) := by decide +kernel
theorem d_Inverter_copyFrom_57 : decode m_Inverter_copyFrom.2.1 57 = .ok (.aload_n 1, 1) := by decide +kernel
theorem d_Inverter_copyFrom_58 : decode m_Inverter_copyFrom.2.1 58 = .ok (.getfield 35, 3) := by decide +kernel
theorem d_Inverter_copyFrom_61 : decode m_Inverter_copyFrom.2.1 61 = .ok (.putfield 35, 3) := by decide +kernel
theorem d_Inverter_copyFrom_64 : decode m_Inverter_copyFrom.2.1 64 = .ok (.return_, 1) := by decide +kernel
theorem d_Inverter_run_0 : decode m_Inverter_run.2.1 0 = .ok (.aload_n 0, 1) := by decide +kernel
theorem d_Inverter_run_1 : decode m_Inverter_run.2.1 1 = .ok (.iconst 0, 1) := by decide +kernel
theorem d_Inverter_run_2 : decode m_Inverter_run.2.1 2 = .ok (.putfield 35, 3) := by decide +kernel
theorem d_Inverter_run_5 : decode m_Inverter_run.2.1 5 = .ok (.aload_n 0, 1) := by decide +kernel
theorem d_Inverter_run_6 : decode m_Inverter_run.2.1 6 = .ok (.getfield 9, 3) := by decide +kernel
theorem d_Inverter_run_9 : decode m_Inverter_run.2.1 9 = .ok (.ifCond .eq 41, 3) := by decide +kernel
theorem d_Inverter_run_12 : decode m_Inverter_run.2.1 12 = .ok (.aload_n 0, 1) := by decide +kernel
theorem d_Inverter_run_13 : decode m_Inverter_run.2.1 13 = .ok (.aload_n 2, 1) := by decide +kernel
theorem d_Inverter_run_14 : decode m_Inverter_run.2.1 14 = .ok (.invokevirtual 38, 3) := by decide +kernel
theorem d_Inverter_run_17 : decode m_Inverter_run.2.1 17 = .ok (.aload_n 0, 1) := by decide +kernel
theorem d_Inverter_run_18 : decode m_Inverter_run.2.1 18 = .ok (.aload_n 0, 1) := by decide +kernel
theorem d_Inverter_run_19 : decode m_Inverter_run.2.1 19 = .ok (.getfield 35, 3) := by decide +kernel
theorem d_Inverter_run_22 : decode m_Inverter_run.2.1 22 = .ok (.ifCond .eq 7, 3) := by decide +kernel
theorem d_Inverter_run_25 : decode m_Inverter_run.2.1 25 = .ok (.iconst 0, 1) := by decide +kernel
theorem d_Inverter_run_26 : decode m_Inverter_run.2.1 26 = .ok (.goto 18, 3) := by decide +kernel
theorem d_Inverter_run_29 : decode m_Inverter_run.2.1 29 = .ok (.iload_n 1, 1) := by decide +kernel
theorem d_Inverter_run_30 : decode m_Inverter_run.2.1 30 = .ok (.aload_n 0, 1) := by decide +kernel
theorem d_Inverter_run_31 : decode m_Inverter_run.2.1 31 = .ok (.getfield 26, 3) := by decide +kernel
theorem d_Inverter_run_34 : decode m_Inverter_run.2.1 34 = .ok (.aload_n 2, 1) := by decide +kernel
theorem d_Inverter_run_35 : decode m_Inverter_run.2.1 35 = .ok (.bipush 11, 2) := by decide +kernel
theorem d_Inverter_run_37 : decode m_Inverter_run.2.1 37 = .ok (.invokevirtual 44, 3) := by decide +kernel
theorem d_Inverter_run_40 : decode m_Inverter_run.2.1 40 = .ok (.iadd, 1) := by decide +kernel
theorem d_Inverter_run_41 : decode m_Inverter_run.2.1 41 = .ok (.invokestatic 48, 3) := by decide +kernel
theorem d_Inverter_run_44 : decode m_Inverter_run.2.1 44 = .ok (.putfield 26, 3) := by decide +kernel
theorem d_Inverter_run_47 : decode m_Inverter_run.2.1 47 = .ok (.goto 13, 3) := by decide +kernel
theorem d_Inverter_run_50 : decode m_Inverter_run.2.1 50 = .ok (.aload_n 0, 1) := by decide +kernel
theorem d_Inverter_run_51 : decode m_Inverter_run.2.1 51 = .ok (.aload_n 2, 1) := by decide +kernel
theorem d_Inverter_run_52 : decode m_Inverter_run.2.1 52 = .ok (.invokevirtual 54, 3) := by decide +kernel
theorem d_Inverter_run_55 : decode m_Inverter_run.2.1 55 = .ok (.aload_n 0, 1) := by decide +kernel
theorem d_Inverter_run_56 : decode m_Inverter_run.2.1 56 = .ok (.iconst 0, 1) := by decide +kernel
theorem d_Inverter_run_57 : decode m_Inverter_run.2.1 57 = .ok (.putfield 26, 3) := by decide +kernel
theorem d_Inverter_run_60 : decode m_Inverter_run.2.1 60 = .ok (.return_, 1) := by decide +kernel
theorem d_Inverter_drive_0 : decode m_Inverter_drive.2.1 0 = .ok (.aload_n 0, 1) := by decide +kernel
theorem d_Inverter_drive_1 : decode m_Inverter_drive.2.1 1 = .ok (.aload_n 0, 1) := by decide +kernel
theorem d_Inverter_drive_2 : decode m_Inverter_drive.2.1 2 = .ok (.getfield 15, 3) := by decide +kernel
theorem d_Inverter_drive_5 : decode m_Inverter_drive.2.1 5 = .ok (.iconst 1, 1) := by decide +kernel
theorem d_Inverter_drive_6 : decode m_Inverter_drive.2.1 6 = .ok (.if_icmp .ne 8, 3) := by decide +kernel
theorem d_Inverter_drive_9 : decode m_Inverter_drive.2.1 9 = .ok (.ldc 19, 2) := by decide +kernel
theorem d_Inverter_drive_11 : decode m_Inverter_drive.2.1 11 = .ok (.goto 20, 3) := by decide +kernel
theorem d_Inverter_drive_14 : decode m_Inverter_drive.2.1 14 = .ok (.aload_n 0, 1) := by decide +kernel
theorem d_Inverter_drive_15 : decode m_Inverter_drive.2.1 15 = .ok (.getfield 23, 3) := by decide +kernel
theorem d_Inverter_drive_18 : decode m_Inverter_drive.2.1 18 = .ok (.aload_n 0, 1) := by decide +kernel
theorem d_Inverter_drive_19 : decode m_Inverter_drive.2.1 19 = .ok (.getfield 20, 3) := by decide +kernel
theorem d_Inverter_drive_22 : decode m_Inverter_drive.2.1 22 = .ok (.aload_n 1, 1) := by decide +kernel
theorem d_Inverter_drive_23 : decode m_Inverter_drive.2.1 23 = .ok (.bipush 9, 2) := by decide +kernel
theorem d_Inverter_drive_25 : decode m_Inverter_drive.2.1 25 = .ok (.invokevirtual 44, 3) := by decide +kernel
theorem d_Inverter_drive_28 : decode m_Inverter_drive.2.1 28 = .ok (.invokestatic 57, 3) := by decide +kernel
theorem d_Inverter_drive_31 : decode m_Inverter_drive.2.1 31 = .ok (.putfield 23, 3) := by decide +kernel
theorem d_Inverter_drive_34 : decode m_Inverter_drive.2.1 34 = .ok (.aload_n 0, 1) := by decide +kernel
theorem d_Inverter_drive_35 : decode m_Inverter_drive.2.1 35 = .ok (.aload_n 0, 1) := by decide +kernel
theorem d_Inverter_drive_36 : decode m_Inverter_drive.2.1 36 = .ok (.getfield 23, 3) := by decide +kernel
theorem d_Inverter_drive_39 : decode m_Inverter_drive.2.1 39 = .ok (.aload_n 1, 1) := by decide +kernel
theorem d_Inverter_drive_40 : decode m_Inverter_drive.2.1 40 = .ok (.invokestatic 61, 3) := by decide +kernel
theorem d_Inverter_drive_43 : decode m_Inverter_drive.2.1 43 = .ok (.ifCond .eq 12, 3) := by decide +kernel
theorem d_Inverter_drive_46 : decode m_Inverter_drive.2.1 46 = .ok (.aload_n 0, 1) := by decide +kernel
theorem d_Inverter_drive_47 : decode m_Inverter_drive.2.1 47 = .ok (.getfield 29, 3) := by decide +kernel
theorem d_Inverter_drive_50 : decode m_Inverter_drive.2.1 50 = .ok (.iconst 1, 1) := by decide +kernel
theorem d_Inverter_drive_51 : decode m_Inverter_drive.2.1 51 = .ok (.iadd, 1) := by decide +kernel
theorem d_Inverter_drive_52 : decode m_Inverter_drive.2.1 52 = .ok (.goto 4, 3) := by decide +kernel
theorem d_Inverter_drive_55 : decode m_Inverter_drive.2.1 55 = .ok (.iconst 0, 1) := by decide +kernel
theorem d_Inverter_drive_56 : decode m_Inverter_drive.2.1 56 = .ok (.putfield 29, 3) := by decide +kernel
theorem d_Inverter_drive_59 : decode m_Inverter_drive.2.1 59 = .ok (.aload_n 0, 1) := by decide +kernel
theorem d_Inverter_drive_60 : decode m_Inverter_drive.2.1 60 = .ok (.getfield 29, 3) := by decide +kernel
theorem d_Inverter_drive_63 : decode m_Inverter_drive.2.1 63 = .ok (.aload_n 1, 1) := by decide +kernel
theorem d_Inverter_drive_64 : decode m_Inverter_drive.2.1 64 = .ok (.bipush 8, 2) := by decide +kernel
theorem d_Inverter_drive_66 : decode m_Inverter_drive.2.1 66 = .ok (.invokevirtual 44, 3) := by decide +kernel
theorem d_Inverter_drive_69 : decode m_Inverter_drive.2.1 69 = .ok (.if_icmp .lt 23, 3) := by decide +kernel
theorem d_Inverter_drive_72 : decode m_Inverter_drive.2.1 72 = .ok (.aload_n 0, 1) := by decide +kernel
theorem d_Inverter_drive_73 : decode m_Inverter_drive.2.1 73 = .ok (.iconst 1, 1) := by decide +kernel
theorem d_Inverter_drive_74 : decode m_Inverter_drive.2.1 74 = .ok (.putfield 35, 3) := by decide +kernel
theorem d_Inverter_drive_77 : decode m_Inverter_drive.2.1 77 = .ok (.aload_n 0, 1) := by decide +kernel
theorem d_Inverter_drive_78 : decode m_Inverter_drive.2.1 78 = .ok (.iconst 0, 1) := by decide +kernel
theorem d_Inverter_drive_79 : decode m_Inverter_drive.2.1 79 = .ok (.putfield 9, 3) := by decide +kernel
theorem d_Inverter_drive_82 : decode m_Inverter_drive.2.1 82 = .ok (.aload_n 0, 1) := by decide +kernel
theorem d_Inverter_drive_83 : decode m_Inverter_drive.2.1 83 = .ok (.iconst 0, 1) := by decide +kernel
theorem d_Inverter_drive_84 : decode m_Inverter_drive.2.1 84 = .ok (.putfield 32, 3) := by decide +kernel
theorem d_Inverter_drive_87 : decode m_Inverter_drive.2.1 87 = .ok (.aload_n 0, 1) := by decide +kernel
theorem d_Inverter_drive_88 : decode m_Inverter_drive.2.1 88 = .ok (.iconst 0, 1) := by decide +kernel
theorem d_Inverter_drive_89 : decode m_Inverter_drive.2.1 89 = .ok (.putfield 29, 3) := by decide +kernel
theorem d_Inverter_drive_92 : decode m_Inverter_drive.2.1 92 = .ok (.return_, 1) := by decide +kernel
theorem d_Inverter_rest_0 : decode m_Inverter_rest.2.1 0 = .ok (.aload_n 0, 1) := by decide +kernel
theorem d_Inverter_rest_1 : decode m_Inverter_rest.2.1 1 = .ok (.aload_n 0, 1) := by decide +kernel
theorem d_Inverter_rest_2 : decode m_Inverter_rest.2.1 2 = .ok (.getfield 15, 3) := by decide +kernel
theorem d_Inverter_rest_5 : decode m_Inverter_rest.2.1 5 = .ok (.iconst 1, 1) := by decide +kernel
theorem d_Inverter_rest_6 : decode m_Inverter_rest.2.1 6 = .ok (.if_icmp .ne 12, 3) := by decide +kernel
theorem d_Inverter_rest_9 : decode m_Inverter_rest.2.1 9 = .ok (.aload_n 0, 1) := by decide +kernel
theorem d_Inverter_rest_10 : decode m_Inverter_rest.2.1 10 = .ok (.getfield 32, 3) := by decide +kernel
theorem d_Inverter_rest_13 : decode m_Inverter_rest.2.1 13 = .ok (.iconst 1, 1) := by decide +kernel
theorem d_Inverter_rest_14 : decode m_Inverter_rest.2.1 14 = .ok (.iadd, 1) := by decide +kernel
theorem d_Inverter_rest_15 : decode m_Inverter_rest.2.1 15 = .ok (.goto 4, 3) := by decide +kernel
theorem d_Inverter_rest_18 : decode m_Inverter_rest.2.1 18 = .ok (.iconst 0, 1) := by decide +kernel
theorem d_Inverter_rest_19 : decode m_Inverter_rest.2.1 19 = .ok (.putfield 32, 3) := by decide +kernel
theorem d_Inverter_rest_22 : decode m_Inverter_rest.2.1 22 = .ok (.aload_n 0, 1) := by decide +kernel
theorem d_Inverter_rest_23 : decode m_Inverter_rest.2.1 23 = .ok (.getfield 32, 3) := by decide +kernel
theorem d_Inverter_rest_26 : decode m_Inverter_rest.2.1 26 = .ok (.aload_n 1, 1) := by decide +kernel
theorem d_Inverter_rest_27 : decode m_Inverter_rest.2.1 27 = .ok (.bipush 10, 2) := by decide +kernel
theorem d_Inverter_rest_29 : decode m_Inverter_rest.2.1 29 = .ok (.invokevirtual 44, 3) := by decide +kernel
theorem d_Inverter_rest_32 : decode m_Inverter_rest.2.1 32 = .ok (.if_icmp .lt 19, 3) := by decide +kernel
theorem d_Inverter_rest_35 : decode m_Inverter_rest.2.1 35 = .ok (.aload_n 0, 1) := by decide +kernel
theorem d_Inverter_rest_36 : decode m_Inverter_rest.2.1 36 = .ok (.iconst 1, 1) := by decide +kernel
theorem d_Inverter_rest_37 : decode m_Inverter_rest.2.1 37 = .ok (.putfield 9, 3) := by decide +kernel
theorem d_Inverter_rest_40 : decode m_Inverter_rest.2.1 40 = .ok (.aload_n 0, 1) := by decide +kernel
theorem d_Inverter_rest_41 : decode m_Inverter_rest.2.1 41 = .ok (.ldc 19, 2) := by decide +kernel
theorem d_Inverter_rest_43 : decode m_Inverter_rest.2.1 43 = .ok (.putfield 23, 3) := by decide +kernel
theorem d_Inverter_rest_46 : decode m_Inverter_rest.2.1 46 = .ok (.aload_n 0, 1) := by decide +kernel
theorem d_Inverter_rest_47 : decode m_Inverter_rest.2.1 47 = .ok (.iconst 0, 1) := by decide +kernel
theorem d_Inverter_rest_48 : decode m_Inverter_rest.2.1 48 = .ok (.putfield 29, 3) := by decide +kernel
theorem d_Inverter_rest_51 : decode m_Inverter_rest.2.1 51 = .ok (.return_, 1) := by decide +kernel
theorem d_Inverter_pushed_0 : decode m_Inverter_pushed.2.1 0 = .ok (.iload_n 0, 1) := by decide +kernel
theorem d_Inverter_pushed_1 : decode m_Inverter_pushed.2.1 1 = .ok (.iload_n 1, 1) := by decide +kernel
theorem d_Inverter_pushed_2 : decode m_Inverter_pushed.2.1 2 = .ok (.iload_n 0, 1) := by decide +kernel
theorem d_Inverter_pushed_3 : decode m_Inverter_pushed.2.1 3 = .ok (.isub, 1) := by decide +kernel
theorem d_Inverter_pushed_4 : decode m_Inverter_pushed.2.1 4 = .ok (.bipush 8, 2) := by decide +kernel
theorem d_Inverter_pushed_6 : decode m_Inverter_pushed.2.1 6 = .ok (.idiv, 1) := by decide +kernel
theorem d_Inverter_pushed_7 : decode m_Inverter_pushed.2.1 7 = .ok (.iadd, 1) := by decide +kernel
theorem d_Inverter_pushed_8 : decode m_Inverter_pushed.2.1 8 = .ok (.istore_n 3, 1) := by decide +kernel
theorem d_Inverter_pushed_9 : decode m_Inverter_pushed.2.1 9 = .ok (.iload_n 3, 1) := by decide +kernel
theorem d_Inverter_pushed_10 : decode m_Inverter_pushed.2.1 10 = .ok (.ldc 19, 2) := by decide +kernel
theorem d_Inverter_pushed_12 : decode m_Inverter_pushed.2.1 12 = .ok (.if_icmp .lt 9, 3) := by decide +kernel
theorem d_Inverter_pushed_15 : decode m_Inverter_pushed.2.1 15 = .ok (.iload_n 3, 1) := by decide +kernel
theorem d_Inverter_pushed_16 : decode m_Inverter_pushed.2.1 16 = .ok (.iload_n 2, 1) := by decide +kernel
theorem d_Inverter_pushed_17 : decode m_Inverter_pushed.2.1 17 = .ok (.iadd, 1) := by decide +kernel
theorem d_Inverter_pushed_18 : decode m_Inverter_pushed.2.1 18 = .ok (.goto 6, 3) := by decide +kernel
theorem d_Inverter_pushed_21 : decode m_Inverter_pushed.2.1 21 = .ok (.iload_n 3, 1) := by decide +kernel
theorem d_Inverter_pushed_22 : decode m_Inverter_pushed.2.1 22 = .ok (.iload_n 2, 1) := by decide +kernel
theorem d_Inverter_pushed_23 : decode m_Inverter_pushed.2.1 23 = .ok (.isub, 1) := by decide +kernel
theorem d_Inverter_pushed_24 : decode m_Inverter_pushed.2.1 24 = .ok (.ireturn, 1) := by decide +kernel
theorem d_Inverter_isFar_0 : decode m_Inverter_isFar.2.1 0 = .ok (.iload_n 0, 1) := by decide +kernel
theorem d_Inverter_isFar_1 : decode m_Inverter_isFar.2.1 1 = .ok (.ldc 19, 2) := by decide +kernel
theorem d_Inverter_isFar_3 : decode m_Inverter_isFar.2.1 3 = .ok (.isub, 1) := by decide +kernel
theorem d_Inverter_isFar_4 : decode m_Inverter_isFar.2.1 4 = .ok (.invokestatic 65, 3) := by decide +kernel
theorem d_Inverter_isFar_7 : decode m_Inverter_isFar.2.1 7 = .ok (.aload_n 1, 1) := by decide +kernel
theorem d_Inverter_isFar_8 : decode m_Inverter_isFar.2.1 8 = .ok (.bipush 7, 2) := by decide +kernel
theorem d_Inverter_isFar_10 : decode m_Inverter_isFar.2.1 10 = .ok (.invokevirtual 44, 3) := by decide +kernel
theorem d_Inverter_isFar_13 : decode m_Inverter_isFar.2.1 13 = .ok (.if_icmp .le 7, 3) := by decide +kernel
theorem d_Inverter_isFar_16 : decode m_Inverter_isFar.2.1 16 = .ok (.iconst 1, 1) := by decide +kernel
theorem d_Inverter_isFar_17 : decode m_Inverter_isFar.2.1 17 = .ok (.goto 4, 3) := by decide +kernel
theorem d_Inverter_isFar_20 : decode m_Inverter_isFar.2.1 20 = .ok (.iconst 0, 1) := by decide +kernel
theorem d_Inverter_isFar_21 : decode m_Inverter_isFar.2.1 21 = .ok (.ireturn, 1) := by decide +kernel
theorem d_Inverter_firstAlone_0 : decode m_Inverter_firstAlone.2.1 0 = .ok (.aload_n 0, 1) := by decide +kernel
theorem d_Inverter_firstAlone_1 : decode m_Inverter_firstAlone.2.1 1 = .ok (.getfield 23, 3) := by decide +kernel
theorem d_Inverter_firstAlone_4 : decode m_Inverter_firstAlone.2.1 4 = .ok (.istore 5, 2) := by decide +kernel
theorem d_Inverter_firstAlone_6 : decode m_Inverter_firstAlone.2.1 6 = .ok (.aload_n 0, 1) := by decide +kernel
theorem d_Inverter_firstAlone_7 : decode m_Inverter_firstAlone.2.1 7 = .ok (.getfield 29, 3) := by decide +kernel
theorem d_Inverter_firstAlone_10 : decode m_Inverter_firstAlone.2.1 10 = .ok (.istore 6, 2) := by decide +kernel
theorem d_Inverter_firstAlone_12 : decode m_Inverter_firstAlone.2.1 12 = .ok (.iconst 1, 1) := by decide +kernel
theorem d_Inverter_firstAlone_13 : decode m_Inverter_firstAlone.2.1 13 = .ok (.istore 7, 2) := by decide +kernel
theorem d_Inverter_firstAlone_15 : decode m_Inverter_firstAlone.2.1 15 = .ok (.iload 7, 2) := by decide +kernel
theorem d_Inverter_firstAlone_17 : decode m_Inverter_firstAlone.2.1 17 = .ok (.iload_n 3, 1) := by decide +kernel
theorem d_Inverter_firstAlone_18 : decode m_Inverter_firstAlone.2.1 18 = .ok (.if_icmp .gt 53, 3) := by decide +kernel
theorem d_Inverter_firstAlone_21 : decode m_Inverter_firstAlone.2.1 21 = .ok (.iload 5, 2) := by decide +kernel
theorem d_Inverter_firstAlone_23 : decode m_Inverter_firstAlone.2.1 23 = .ok (.iload_n 1, 1) := by decide +kernel
theorem d_Inverter_firstAlone_24 : decode m_Inverter_firstAlone.2.1 24 = .ok (.iload_n 2, 1) := by decide +kernel
theorem d_Inverter_firstAlone_25 : decode m_Inverter_firstAlone.2.1 25 = .ok (.invokestatic 57, 3) := by decide +kernel
theorem d_Inverter_firstAlone_28 : decode m_Inverter_firstAlone.2.1 28 = .ok (.istore 5, 2) := by decide +kernel
theorem d_Inverter_firstAlone_30 : decode m_Inverter_firstAlone.2.1 30 = .ok (.iload 5, 2) := by decide +kernel
theorem d_Inverter_firstAlone_32 : decode m_Inverter_firstAlone.2.1 32 = .ok (.aload 4, 2) := by decide +kernel
theorem d_Inverter_firstAlone_34 : decode m_Inverter_firstAlone.2.1 34 = .ok (.invokestatic 61, 3) := by decide +kernel
theorem d_Inverter_firstAlone_37 : decode m_Inverter_firstAlone.2.1 37 = .ok (.ifCond .eq 10, 3) := by decide +kernel
theorem d_Inverter_firstAlone_40 : decode m_Inverter_firstAlone.2.1 40 = .ok (.iload 6, 2) := by decide +kernel
theorem d_Inverter_firstAlone_42 : decode m_Inverter_firstAlone.2.1 42 = .ok (.iconst 1, 1) := by decide +kernel
theorem d_Inverter_firstAlone_43 : decode m_Inverter_firstAlone.2.1 43 = .ok (.iadd, 1) := by decide +kernel
theorem d_Inverter_firstAlone_44 : decode m_Inverter_firstAlone.2.1 44 = .ok (.goto 4, 3) := by decide +kernel
theorem d_Inverter_firstAlone_47 : decode m_Inverter_firstAlone.2.1 47 = .ok (.iconst 0, 1) := by decide +kernel
theorem d_Inverter_firstAlone_48 : decode m_Inverter_firstAlone.2.1 48 = .ok (.istore 6, 2) := by decide +kernel
theorem d_Inverter_firstAlone_50 : decode m_Inverter_firstAlone.2.1 50 = .ok (.iload 6, 2) := by decide +kernel
theorem d_Inverter_firstAlone_52 : decode m_Inverter_firstAlone.2.1 52 = .ok (.aload 4, 2) := by decide +kernel
theorem d_Inverter_firstAlone_54 : decode m_Inverter_firstAlone.2.1 54 = .ok (.bipush 8, 2) := by decide +kernel
theorem d_Inverter_firstAlone_56 : decode m_Inverter_firstAlone.2.1 56 = .ok (.invokevirtual 44, 3) := by decide +kernel
theorem d_Inverter_firstAlone_59 : decode m_Inverter_firstAlone.2.1 59 = .ok (.if_icmp .lt 6, 3) := by decide +kernel
theorem d_Inverter_firstAlone_62 : decode m_Inverter_firstAlone.2.1 62 = .ok (.iload 7, 2) := by decide +kernel
theorem d_Inverter_firstAlone_64 : decode m_Inverter_firstAlone.2.1 64 = .ok (.ireturn, 1) := by decide +kernel
theorem d_Inverter_firstAlone_65 : decode m_Inverter_firstAlone.2.1 65 = .ok (.iinc 7 1, 3) := by decide +kernel
theorem d_Inverter_firstAlone_68 : decode m_Inverter_firstAlone.2.1 68 = .ok (.goto (-53), 3) := by decide +kernel
theorem d_Inverter_firstAlone_71 : decode m_Inverter_firstAlone.2.1 71 = .ok (.bipush (-2), 2) := by decide +kernel
theorem d_Inverter_firstAlone_73 : decode m_Inverter_firstAlone.2.1 73 = .ok (.ireturn, 1) := by decide +kernel
theorem d_Log_init_0 : decode m_Log_init.2.1 0 = .ok (.aload_n 0, 1) := by decide +kernel
theorem d_Log_init_1 : decode m_Log_init.2.1 1 = .ok (.invokespecial 3, 3) := by decide +kernel
theorem d_Log_init_4 : decode m_Log_init.2.1 4 = .ok (.aload_n 0, 1) := by decide +kernel
theorem d_Log_init_5 : decode m_Log_init.2.1 5 = .ok (.sipush 1000, 3) := by decide +kernel
theorem d_Log_init_8 : decode m_Log_init.2.1 8 = .ok (.newarray .int, 2) := by decide +kernel
theorem d_Log_init_10 : decode m_Log_init.2.1 10 = .ok (.putfield 11, 3) := by decide +kernel
theorem d_Log_init_13 : decode m_Log_init.2.1 13 = .ok (.return_, 1) := by decide +kernel
theorem d_Log_add_0 : decode m_Log_add.2.1 0 = .ok (.aload_n 0, 1) := by decide +kernel
theorem d_Log_add_1 : decode m_Log_add.2.1 1 = .ok (.aload_n 0, 1) := by decide +kernel
theorem d_Log_add_2 : decode m_Log_add.2.1 2 = .ok (.getfield 15, 3) := by decide +kernel
theorem d_Log_add_5 : decode m_Log_add.2.1 5 = .ok (.iconst 1, 1) := by decide +kernel
theorem d_Log_add_6 : decode m_Log_add.2.1 6 = .ok (.iadd, 1) := by decide +kernel
theorem d_Log_add_7 : decode m_Log_add.2.1 7 = .ok (.bipush 100, 2) := by decide +kernel
theorem d_Log_add_9 : decode m_Log_add.2.1 9 = .ok (.irem, 1) := by decide +kernel
theorem d_Log_add_10 : decode m_Log_add.2.1 10 = .ok (.putfield 15, 3) := by decide +kernel
theorem d_Log_add_13 : decode m_Log_add.2.1 13 = .ok (.aload_n 0, 1) := by decide +kernel
theorem d_Log_add_14 : decode m_Log_add.2.1 14 = .ok (.bipush 100, 2) := by decide +kernel
theorem d_Log_add_16 : decode m_Log_add.2.1 16 = .ok (.aload_n 0, 1) := by decide +kernel
theorem d_Log_add_17 : decode m_Log_add.2.1 17 = .ok (.getfield 19, 3) := by decide +kernel
theorem d_Log_add_20 : decode m_Log_add.2.1 20 = .ok (.iconst 1, 1) := by decide +kernel
theorem d_Log_add_21 : decode m_Log_add.2.1 21 = .ok (.iadd, 1) := by decide +kernel
theorem d_Log_add_22 : decode m_Log_add.2.1 22 = .ok (.invokestatic 22, 3) := by decide +kernel
theorem d_Log_add_25 : decode m_Log_add.2.1 25 = .ok (.putfield 19, 3) := by decide +kernel
theorem d_Log_add_28 : decode m_Log_add.2.1 28 = .ok (.aload_n 0, 1) := by decide +kernel
theorem d_Log_add_29 : decode m_Log_add.2.1 29 = .ok (.getfield 15, 3) := by decide +kernel
theorem d_Log_add_32 : decode m_Log_add.2.1 32 = .ok (.bipush 10, 2) := by decide +kernel
theorem d_Log_add_34 : decode m_Log_add.2.1 34 = .ok (.imul, 1) := by decide +kernel
theorem d_Log_add_35 : decode m_Log_add.2.1 35 = .ok (.istore_n 2, 1) := by decide +kernel
theorem d_Log_add_36 : decode m_Log_add.2.1 36 = .ok (.aload_n 0, 1) := by decide +kernel
theorem d_Log_add_37 : decode m_Log_add.2.1 37 = .ok (.getfield 11, 3) := by decide +kernel
theorem d_Log_add_40 : decode m_Log_add.2.1 40 = .ok (.iload_n 2, 1) := by decide +kernel
theorem d_Log_add_41 : decode m_Log_add.2.1 41 = .ok (.iconst 0, 1) := by decide +kernel
theorem d_Log_add_42 : decode m_Log_add.2.1 42 = .ok (.iadd, 1) := by decide +kernel
theorem d_Log_add_43 : decode m_Log_add.2.1 43 = .ok (.aload_n 1, 1) := by decide +kernel
theorem d_Log_add_44 : decode m_Log_add.2.1 44 = .ok (.getfield 28, 3) := by decide +kernel
theorem d_Log_add_47 : decode m_Log_add.2.1 47 = .ok (.getfield 34, 3) := by decide +kernel
theorem d_Log_add_50 : decode m_Log_add.2.1 50 = .ok (.iastore, 1) := by decide +kernel
theorem d_Log_add_51 : decode m_Log_add.2.1 51 = .ok (.aload_n 0, 1) := by decide +kernel
theorem d_Log_add_52 : decode m_Log_add.2.1 52 = .ok (.getfield 11, 3) := by decide +kernel
theorem d_Log_add_55 : decode m_Log_add.2.1 55 = .ok (.iload_n 2, 1) := by decide +kernel
theorem d_Log_add_56 : decode m_Log_add.2.1 56 = .ok (.iconst 1, 1) := by decide +kernel
theorem d_Log_add_57 : decode m_Log_add.2.1 57 = .ok (.iadd, 1) := by decide +kernel
theorem d_Log_add_58 : decode m_Log_add.2.1 58 = .ok (.aload_n 1, 1) := by decide +kernel
theorem d_Log_add_59 : decode m_Log_add.2.1 59 = .ok (.getfield 28, 3) := by decide +kernel
theorem d_Log_add_62 : decode m_Log_add.2.1 62 = .ok (.getfield 39, 3) := by decide +kernel
theorem d_Log_add_65 : decode m_Log_add.2.1 65 = .ok (.iastore, 1) := by decide +kernel
theorem d_Log_add_66 : decode m_Log_add.2.1 66 = .ok (.aload_n 0, 1) := by decide +kernel
theorem d_Log_add_67 : decode m_Log_add.2.1 67 = .ok (.getfield 11, 3) := by decide +kernel
theorem d_Log_add_70 : decode m_Log_add.2.1 70 = .ok (.iload_n 2, 1) := by decide +kernel
theorem d_Log_add_71 : decode m_Log_add.2.1 71 = .ok (.iconst 2, 1) := by decide +kernel
theorem d_Log_add_72 : decode m_Log_add.2.1 72 = .ok (.iadd, 1) := by decide +kernel
theorem d_Log_add_73 : decode m_Log_add.2.1 73 = .ok (.aload_n 1, 1) := by decide +kernel
theorem d_Log_add_74 : decode m_Log_add.2.1 74 = .ok (.getfield 42, 3) := by decide +kernel
theorem d_Log_add_77 : decode m_Log_add.2.1 77 = .ok (.getfield 46, 3) := by decide +kernel
theorem d_Log_add_80 : decode m_Log_add.2.1 80 = .ok (.iastore, 1) := by decide +kernel
theorem d_Log_add_81 : decode m_Log_add.2.1 81 = .ok (.aload_n 0, 1) := by decide +kernel
theorem d_Log_add_82 : decode m_Log_add.2.1 82 = .ok (.getfield 11, 3) := by decide +kernel
theorem d_Log_add_85 : decode m_Log_add.2.1 85 = .ok (.iload_n 2, 1) := by decide +kernel
theorem d_Log_add_86 : decode m_Log_add.2.1 86 = .ok (.iconst 3, 1) := by decide +kernel
theorem d_Log_add_87 : decode m_Log_add.2.1 87 = .ok (.iadd, 1) := by decide +kernel
theorem d_Log_add_88 : decode m_Log_add.2.1 88 = .ok (.aload_n 1, 1) := by decide +kernel
theorem d_Log_add_89 : decode m_Log_add.2.1 89 = .ok (.getfield 51, 3) := by decide +kernel
theorem d_Log_add_92 : decode m_Log_add.2.1 92 = .ok (.getfield 55, 3) := by decide +kernel
theorem d_Log_add_95 : decode m_Log_add.2.1 95 = .ok (.iastore, 1) := by decide +kernel
theorem d_Log_add_96 : decode m_Log_add.2.1 96 = .ok (.aload_n 0, 1) := by decide +kernel
theorem d_Log_add_97 : decode m_Log_add.2.1 97 = .ok (.getfield 11, 3) := by decide +kernel
theorem d_Log_add_100 : decode m_Log_add.2.1 100 = .ok (.iload_n 2, 1) := by decide +kernel
theorem d_Log_add_101 : decode m_Log_add.2.1 101 = .ok (.iconst 4, 1) := by decide +kernel
theorem d_Log_add_102 : decode m_Log_add.2.1 102 = .ok (.iadd, 1) := by decide +kernel
theorem d_Log_add_103 : decode m_Log_add.2.1 103 = .ok (.aload_n 1, 1) := by decide +kernel
theorem d_Log_add_104 : decode m_Log_add.2.1 104 = .ok (.getfield 60, 3) := by decide +kernel
theorem d_Log_add_107 : decode m_Log_add.2.1 107 = .ok (.getfield 64, 3) := by decide +kernel
theorem d_Log_add_110 : decode m_Log_add.2.1 110 = .ok (.iastore, 1) := by decide +kernel
theorem d_Log_add_111 : decode m_Log_add.2.1 111 = .ok (.aload_n 0, 1) := by decide +kernel
theorem d_Log_add_112 : decode m_Log_add.2.1 112 = .ok (.getfield 11, 3) := by decide +kernel
theorem d_Log_add_115 : decode m_Log_add.2.1 115 = .ok (.iload_n 2, 1) := by decide +kernel
theorem d_Log_add_116 : decode m_Log_add.2.1 116 = .ok (.iconst 5, 1) := by decide +kernel
theorem d_Log_add_117 : decode m_Log_add.2.1 117 = .ok (.iadd, 1) := by decide +kernel
theorem d_Log_add_118 : decode m_Log_add.2.1 118 = .ok (.aload_n 1, 1) := by decide +kernel
theorem d_Log_add_119 : decode m_Log_add.2.1 119 = .ok (.getfield 69, 3) := by decide +kernel
theorem d_Log_add_122 : decode m_Log_add.2.1 122 = .ok (.iastore, 1) := by decide +kernel
theorem d_Log_add_123 : decode m_Log_add.2.1 123 = .ok (.aload_n 0, 1) := by decide +kernel
theorem d_Log_add_124 : decode m_Log_add.2.1 124 = .ok (.getfield 11, 3) := by decide +kernel
theorem d_Log_add_127 : decode m_Log_add.2.1 127 = .ok (.iload_n 2, 1) := by decide +kernel
theorem d_Log_add_128 : decode m_Log_add.2.1 128 = .ok (.bipush 6, 2) := by decide +kernel
theorem d_Log_add_130 : decode m_Log_add.2.1 130 = .ok (.iadd, 1) := by decide +kernel
theorem d_Log_add_131 : decode m_Log_add.2.1 131 = .ok (.aload_n 1, 1) := by decide +kernel
theorem d_Log_add_132 : decode m_Log_add.2.1 132 = .ok (.getfield 60, 3) := by decide +kernel
theorem d_Log_add_135 : decode m_Log_add.2.1 135 = .ok (.getfield 72, 3) := by decide +kernel
theorem d_Log_add_138 : decode m_Log_add.2.1 138 = .ok (.iastore, 1) := by decide +kernel
theorem d_Log_add_139 : decode m_Log_add.2.1 139 = .ok (.aload_n 0, 1) := by decide +kernel
theorem d_Log_add_140 : decode m_Log_add.2.1 140 = .ok (.getfield 11, 3) := by decide +kernel
theorem d_Log_add_143 : decode m_Log_add.2.1 143 = .ok (.iload_n 2, 1) := by decide +kernel
theorem d_Log_add_144 : decode m_Log_add.2.1 144 = .ok (.bipush 7, 2) := by decide +kernel
theorem d_Log_add_146 : decode m_Log_add.2.1 146 = .ok (.iadd, 1) := by decide +kernel
theorem d_Log_add_147 : decode m_Log_add.2.1 147 = .ok (.aload_n 1, 1) := by decide +kernel
theorem d_Log_add_148 : decode m_Log_add.2.1 148 = .ok (.getfield 51, 3) := by decide +kernel
theorem d_Log_add_151 : decode m_Log_add.2.1 151 = .ok (.getfield 75, 3) := by decide +kernel
theorem d_Log_add_154 : decode m_Log_add.2.1 154 = .ok (.iastore, 1) := by decide +kernel
theorem d_Log_add_155 : decode m_Log_add.2.1 155 = .ok (.aload_n 0, 1) := by decide +kernel
theorem d_Log_add_156 : decode m_Log_add.2.1 156 = .ok (.getfield 11, 3) := by decide +kernel
theorem d_Log_add_159 : decode m_Log_add.2.1 159 = .ok (.iload_n 2, 1) := by decide +kernel
theorem d_Log_add_160 : decode m_Log_add.2.1 160 = .ok (.bipush 8, 2) := by decide +kernel
theorem d_Log_add_162 : decode m_Log_add.2.1 162 = .ok (.iadd, 1) := by decide +kernel
theorem d_Log_add_163 : decode m_Log_add.2.1 163 = .ok (.aload_n 1, 1) := by decide +kernel
theorem d_Log_add_164 : decode m_Log_add.2.1 164 = .ok (.getfield 60, 3) := by decide +kernel
theorem d_Log_add_167 : decode m_Log_add.2.1 167 = .ok (.getfield 78, 3) := by decide +kernel
theorem d_Log_add_170 : decode m_Log_add.2.1 170 = .ok (.invokestatic 82, 3) := by decide +kernel
theorem d_Log_add_173 : decode m_Log_add.2.1 173 = .ok (.iastore, 1) := by decide +kernel
theorem d_Log_add_174 : decode m_Log_add.2.1 174 = .ok (.aload_n 0, 1) := by decide +kernel
theorem d_Log_add_175 : decode m_Log_add.2.1 175 = .ok (.getfield 11, 3) := by decide +kernel
theorem d_Log_add_178 : decode m_Log_add.2.1 178 = .ok (.iload_n 2, 1) := by decide +kernel
theorem d_Log_add_179 : decode m_Log_add.2.1 179 = .ok (.bipush 9, 2) := by decide +kernel
theorem d_Log_add_181 : decode m_Log_add.2.1 181 = .ok (.iadd, 1) := by decide +kernel
theorem d_Log_add_182 : decode m_Log_add.2.1 182 = .ok (.aload_n 1, 1) := by decide +kernel
theorem d_Log_add_183 : decode m_Log_add.2.1 183 = .ok (.getfield 28, 3) := by decide +kernel
theorem d_Log_add_186 : decode m_Log_add.2.1 186 = .ok (.getfield 86, 3) := by decide +kernel
theorem d_Log_add_189 : decode m_Log_add.2.1 189 = .ok (.invokestatic 82, 3) := by decide +kernel
theorem d_Log_add_192 : decode m_Log_add.2.1 192 = .ok (.iastore, 1) := by decide +kernel
theorem d_Log_add_193 : decode m_Log_add.2.1 193 = .ok (.return_, 1) := by decide +kernel
theorem d_Log_get_0 : decode m_Log_get.2.1 0 = .ok (.iload_n 1, 1) := by decide +kernel
theorem d_Log_get_1 : decode m_Log_get.2.1 1 = .ok (.ifCond .lt 21, 3) := by decide +kernel
theorem d_Log_get_4 : decode m_Log_get.2.1 4 = .ok (.iload_n 1, 1) := by decide +kernel
theorem d_Log_get_5 : decode m_Log_get.2.1 5 = .ok (.aload_n 0, 1) := by decide +kernel
theorem d_Log_get_6 : decode m_Log_get.2.1 6 = .ok (.getfield 19, 3) := by decide +kernel
theorem d_Log_get_9 : decode m_Log_get.2.1 9 = .ok (.if_icmp .ge 13, 3) := by decide +kernel
theorem d_Log_get_12 : decode m_Log_get.2.1 12 = .ok (.iload_n 2, 1) := by decide +kernel
theorem d_Log_get_13 : decode m_Log_get.2.1 13 = .ok (.ifCond .lt 9, 3) := by decide +kernel
theorem d_Log_get_16 : decode m_Log_get.2.1 16 = .ok (.iload_n 2, 1) := by decide +kernel
theorem d_Log_get_17 : decode m_Log_get.2.1 17 = .ok (.bipush 10, 2) := by decide +kernel
theorem d_Log_get_19 : decode m_Log_get.2.1 19 = .ok (.if_icmp .lt 6, 3) := by decide +kernel
theorem d_Log_get_22 : decode m_Log_get.2.1 22 = .ok (.bipush (-2), 2) := by decide +kernel
theorem d_Log_get_24 : decode m_Log_get.2.1 24 = .ok (.ireturn, 1) := by decide +kernel
theorem d_Log_get_25 : decode m_Log_get.2.1 25 = .ok (.aload_n 0, 1) := by decide +kernel
theorem d_Log_get_26 : decode m_Log_get.2.1 26 = .ok (.getfield 11, 3) := by decide +kernel
theorem d_Log_get_29 : decode m_Log_get.2.1 29 = .ok (.aload_n 0, 1) := by decide +kernel
theorem d_Log_get_30 : decode m_Log_get.2.1 30 = .ok (.getfield 15, 3) := by decide +kernel
theorem d_Log_get_33 : decode m_Log_get.2.1 33 = .ok (.bipush 100, 2) := by decide +kernel
theorem d_Log_get_35 : decode m_Log_get.2.1 35 = .ok (.iadd, 1) := by decide +kernel
theorem d_Log_get_36 : decode m_Log_get.2.1 36 = .ok (.iload_n 1, 1) := by decide +kernel
theorem d_Log_get_37 : decode m_Log_get.2.1 37 = .ok (.isub, 1) := by decide +kernel
theorem d_Log_get_38 : decode m_Log_get.2.1 38 = .ok (.bipush 100, 2) := by decide +kernel
theorem d_Log_get_40 : decode m_Log_get.2.1 40 = .ok (.irem, 1) := by decide +kernel
theorem d_Log_get_41 : decode m_Log_get.2.1 41 = .ok (.bipush 10, 2) := by decide +kernel
theorem d_Log_get_43 : decode m_Log_get.2.1 43 = .ok (.imul, 1) := by decide +kernel
theorem d_Log_get_44 : decode m_Log_get.2.1 44 = .ok (.iload_n 2, 1) := by decide +kernel
theorem d_Log_get_45 : decode m_Log_get.2.1 45 = .ok (.iadd, 1) := by decide +kernel
theorem d_Log_get_46 : decode m_Log_get.2.1 46 = .ok (.iaload, 1) := by decide +kernel
theorem d_Log_get_47 : decode m_Log_get.2.1 47 = .ok (.ireturn, 1) := by decide +kernel
theorem d_Log_wasNear_0 : decode m_Log_wasNear.2.1 0 = .ok (.aload_n 0, 1) := by decide +kernel
theorem d_Log_wasNear_1 : decode m_Log_wasNear.2.1 1 = .ok (.iload_n 1, 1) := by decide +kernel
theorem d_Log_wasNear_2 : decode m_Log_wasNear.2.1 2 = .ok (.iconst 1, 1) := by decide +kernel
theorem d_Log_wasNear_3 : decode m_Log_wasNear.2.1 3 = .ok (.invokevirtual 89, 3) := by decide +kernel
theorem d_Log_wasNear_6 : decode m_Log_wasNear.2.1 6 = .ok (.iload_n 2, 1) := by decide +kernel
theorem d_Log_wasNear_7 : decode m_Log_wasNear.2.1 7 = .ok (.aload_n 0, 1) := by decide +kernel
theorem d_Log_wasNear_8 : decode m_Log_wasNear.2.1 8 = .ok (.iload_n 1, 1) := by decide +kernel
theorem d_Log_wasNear_9 : decode m_Log_wasNear.2.1 9 = .ok (.iconst 2, 1) := by decide +kernel
theorem d_Log_wasNear_10 : decode m_Log_wasNear.2.1 10 = .ok (.invokevirtual 89, 3) := by decide +kernel
theorem d_Log_wasNear_13 : decode m_Log_wasNear.2.1 13 = .ok (.invokestatic 92, 3) := by decide +kernel
theorem d_Log_wasNear_16 : decode m_Log_wasNear.2.1 16 = .ok (.ireturn, 1) := by decide +kernel
theorem d_Panel_init_0 : decode m_Panel_init.2.1 0 = .ok (.aload_n 0, 1) := by decide +kernel
theorem d_Panel_init_1 : decode m_Panel_init.2.1 1 = .ok (.invokespecial 3, 3) := by decide +kernel
theorem d_Panel_init_4 : decode m_Panel_init.2.1 4 = .ok (.aload_n 0, 1) := by decide +kernel
theorem d_Panel_init_5 : decode m_Panel_init.2.1 5 = .ok (.bipush 6, 2) := by decide +kernel
theorem d_Panel_init_7 : decode m_Panel_init.2.1 7 = .ok (.newarray .int, 2) := by decide +kernel
theorem d_Panel_init_9 : decode m_Panel_init.2.1 9 = .ok (.putfield 11, 3) := by decide +kernel
theorem d_Panel_init_12 : decode m_Panel_init.2.1 12 = .ok (.aload_n 0, 1) := by decide +kernel
theorem d_Panel_init_13 : decode m_Panel_init.2.1 13 = .ok (.bipush 6, 2) := by decide +kernel
theorem d_Panel_init_15 : decode m_Panel_init.2.1 15 = .ok (.newarray .int, 2) := by decide +kernel
theorem d_Panel_init_17 : decode m_Panel_init.2.1 17 = .ok (.putfield 15, 3) := by decide +kernel
theorem d_Panel_init_20 : decode m_Panel_init.2.1 20 = .ok (.aload_n 0, 1) := by decide +kernel
theorem d_Panel_init_21 : decode m_Panel_init.2.1 21 = .ok (.bipush 6, 2) := by decide +kernel
theorem d_Panel_init_23 : decode m_Panel_init.2.1 23 = .ok (.newarray .int, 2) := by decide +kernel
theorem d_Panel_init_25 : decode m_Panel_init.2.1 25 = .ok (.putfield 18, 3) := by decide +kernel
theorem d_Panel_init_28 : decode m_Panel_init.2.1 28 = .ok (.aload_n 0, 1) := by decide +kernel
theorem d_Panel_init_29 : decode m_Panel_init.2.1 29 = .ok (.bipush 6, 2) := by decide +kernel
theorem d_Panel_init_31 : decode m_Panel_init.2.1 31 = .ok (.newarray .int, 2) := by decide +kernel
theorem d_Panel_init_33 : decode m_Panel_init.2.1 33 = .ok (.putfield 21, 3) := by decide +kernel
theorem d_Panel_init_36 : decode m_Panel_init.2.1 36 = .ok (.aload_n 0, 1) := by decide +kernel
theorem d_Panel_init_37 : decode m_Panel_init.2.1 37 = .ok (.sipush 1000, 3) := by decide +kernel
theorem d_Panel_init_40 : decode m_Panel_init.2.1 40 = .ok (.newarray .int, 2) := by decide +kernel
theorem d_Panel_init_42 : decode m_Panel_init.2.1 42 = .ok (.putfield 24, 3) := by decide +kernel
theorem d_Panel_init_45 : decode m_Panel_init.2.1 45 = .ok (.return_, 1) := by decide +kernel
theorem d_Panel_isPoint_0 : decode m_Panel_isPoint.2.1 0 = .ok (.iload_n 0, 1) := by decide +kernel
theorem d_Panel_isPoint_1 : decode m_Panel_isPoint.2.1 1 = .ok (.ifCond .lt 14, 3) := by decide +kernel
theorem d_Panel_isPoint_4 : decode m_Panel_isPoint.2.1 4 = .ok (.iload_n 0, 1) := by decide +kernel
theorem d_Panel_isPoint_5 : decode m_Panel_isPoint.2.1 5 = .ok (.sipush 1000, 3) := by decide +kernel
theorem d_Panel_isPoint_8 : decode m_Panel_isPoint.2.1 8 = .ok (.if_icmp .ge 7, 3) := by decide +kernel
theorem d_Panel_isPoint_11 : decode m_Panel_isPoint.2.1 11 = .ok (.iconst 1, 1) := by decide +kernel
theorem d_Panel_isPoint_12 : decode m_Panel_isPoint.2.1 12 = .ok (.goto 4, 3) := by decide +kernel
theorem d_Panel_isPoint_15 : decode m_Panel_isPoint.2.1 15 = .ok (.iconst 0, 1) := by decide +kernel
theorem d_Panel_isPoint_16 : decode m_Panel_isPoint.2.1 16 = .ok (.ireturn, 1) := by decide +kernel
theorem d_Panel_renew_0 : decode m_Panel_renew.2.1 0 = .ok (.aload_n 0, 1) := by decide +kernel
theorem d_Panel_renew_1 : decode m_Panel_renew.2.1 1 = .ok (.iconst 0, 1) := by decide +kernel
theorem d_Panel_renew_2 : decode m_Panel_renew.2.1 2 = .ok (.putfield 27, 3) := by decide +kernel
theorem d_Panel_renew_5 : decode m_Panel_renew.2.1 5 = .ok (.return_, 1) := by decide +kernel
theorem d_Panel_copyFrom_0 : decode m_Panel_copyFrom.2.1 0 = .ok (.aload_n 0, 1) := by decide +kernel
theorem d_Panel_copyFrom_1 : decode m_Panel_copyFrom.2.1 1 = .ok (.aload_n 1, 1) := by decide +kernel
theorem d_Panel_copyFrom_2 : decode m_Panel_copyFrom.2.1 2 = .ok (.getfield 27, 3) := by decide +kernel
theorem d_Panel_copyFrom_5 : decode m_Panel_copyFrom.2.1 5 = .ok (.putfield 27, 3) := by decide +kernel
theorem d_Panel_copyFrom_8 : decode m_Panel_copyFrom.2.1 8 = .ok (.aload_n 0, 1) := by decide +kernel
theorem d_Panel_copyFrom_9 : decode m_Panel_copyFrom.2.1 9 = .ok (.aload_n 1, 1) := by decide +kernel
theorem d_Panel_copyFrom_10 : decode m_Panel_copyFrom.2.1 10 = .ok (.getfield 31, 3) := by decide +kernel
theorem d_Panel_copyFrom_13 : decode m_Panel_copyFrom.2.1 13 = .ok (.putfield 31, 3) := by decide +kernel
theorem d_Panel_copyFrom_16 : decode m_Panel_copyFrom.2.1 16 = .ok (.aload_n 0, 1) := by decide +kernel
theorem d_Panel_copyFrom_17 : decode m_Panel_copyFrom.2.1 17 = .ok (.aload_n 1, 1) := by decide +kernel
theorem d_Panel_copyFrom_18 : decode m_Panel_copyFrom.2.1 18 = .ok (.getfield 34, 3) := by decide +kernel
theorem d_Panel_copyFrom_21 : decode m_Panel_copyFrom.2.1 21 = .ok (.putfield 34, 3) := by decide +kernel
theorem d_Panel_copyFrom_24 : decode m_Panel_copyFrom.2.1 24 = .ok (.aload_n 1, 1) := by decide +kernel
theorem d_Panel_copyFrom_25 : decode m_Panel_copyFrom.2.1 25 = .ok (.getfield 11, 3) := by decide +kernel
theorem d_Panel_copyFrom_28 : decode m_Panel_copyFrom.2.1 28 = .ok (.iconst 0, 1) := by decide +kernel
theorem d_Panel_copyFrom_29 : decode m_Panel_copyFrom.2.1 29 = .ok (.aload_n 0, 1) := by decide +kernel
theorem d_Panel_copyFrom_30 : decode m_Panel_copyFrom.2.1 30 = .ok (.getfield 11, 3) := by decide +kernel
theorem d_Panel_copyFrom_33 : decode m_Panel_copyFrom.2.1 33 = .ok (.iconst 0, 1) := by decide +kernel
theorem d_Panel_copyFrom_34 : decode m_Panel_copyFrom.2.1 34 = .ok (.bipush 6, 2) := by decide +kernel
theorem d_Panel_copyFrom_36 : decode m_Panel_copyFrom.2.1 36 = .ok (.invokestatic 37, 3) := by decide +kernel
theorem d_Panel_copyFrom_39 : decode m_Panel_copyFrom.2.1 39 = .ok (.aload_n 1, 1) := by decide +kernel
theorem d_Panel_copyFrom_40 : decode m_Panel_copyFrom.2.1 40 = .ok (.getfield 15, 3) := by decide +kernel
theorem d_Panel_copyFrom_43 : decode m_Panel_copyFrom.2.1 43 = .ok (.iconst 0, 1) := by decide +kernel
theorem d_Panel_copyFrom_44 : decode m_Panel_copyFrom.2.1 44 = .ok (.aload_n 0, 1) := by decide +kernel
theorem d_Panel_copyFrom_45 : decode m_Panel_copyFrom.2.1 45 = .ok (.getfield 15, 3) := by decide +kernel
theorem d_Panel_copyFrom_48 : decode m_Panel_copyFrom.2.1 48 = .ok (.iconst 0, 1) := by decide +kernel
theorem d_Panel_copyFrom_49 : decode m_Panel_copyFrom.2.1 49 = .ok (.bipush 6, 2) := by decide +kernel
theorem d_Panel_copyFrom_51 : decode m_Panel_copyFrom.2.1 51 = .ok (.invokestatic 37, 3) := by decide +kernel
theorem d_Panel_copyFrom_54 : decode m_Panel_copyFrom.2.1 54 = .ok (.aload_n 1, 1) := by decide +kernel
theorem d_Panel_copyFrom_55 : decode m_Panel_copyFrom.2.1 55 = .ok (.getfield 18, 3) := by decide +kernel
theorem d_Panel_copyFrom_58 : decode m_Panel_copyFrom.2.1 58 = .ok (.iconst 0, 1) := by decide +kernel
theorem d_Panel_copyFrom_59 : decode m_Panel_copyFrom.2.1 59 = .ok (.aload_n 0, 1) := by decide +kernel
theorem d_Panel_copyFrom_60 : decode m_Panel_copyFrom.2.1 60 = .ok (.getfield 18, 3) := by decide +kernel
theorem d_Panel_copyFrom_63 : decode m_Panel_copyFrom.2.1 63 = .ok (.iconst 0, 1) := by decide +kernel
theorem d_Panel_copyFrom_64 : decode m_Panel_copyFrom.2.1 64 = .ok (.bipush 6, 2) := by decide +kernel
theorem d_Panel_copyFrom_66 : decode m_Panel_copyFrom.2.1 66 = .ok (.invokestatic 37, 3) := by decide +kernel
theorem d_Panel_copyFrom_69 : decode m_Panel_copyFrom.2.1 69 = .ok (.aload_n 1, 1) := by decide +kernel
theorem d_Panel_copyFrom_70 : decode m_Panel_copyFrom.2.1 70 = .ok (.getfield 21, 3) := by decide +kernel
theorem d_Panel_copyFrom_73 : decode m_Panel_copyFrom.2.1 73 = .ok (.iconst 0, 1) := by decide +kernel
theorem d_Panel_copyFrom_74 : decode m_Panel_copyFrom.2.1 74 = .ok (.aload_n 0, 1) := by decide +kernel
theorem d_Panel_copyFrom_75 : decode m_Panel_copyFrom.2.1 75 = .ok (.getfield 21, 3) := by decide +kernel
theorem d_Panel_copyFrom_78 : decode m_Panel_copyFrom.2.1 78 = .ok (.iconst 0, 1) := by decide +kernel
theorem d_Panel_copyFrom_79 : decode m_Panel_copyFrom.2.1 79 = .ok (.bipush 6, 2) := by decide +kernel
theorem d_Panel_copyFrom_81 : decode m_Panel_copyFrom.2.1 81 = .ok (.invokestatic 37, 3) := by decide +kernel
theorem d_Panel_copyFrom_84 : decode m_Panel_copyFrom.2.1 84 = .ok (.aload_n 1, 1) := by decide +kernel
theorem d_Panel_copyFrom_85 : decode m_Panel_copyFrom.2.1 85 = .ok (.getfield 24, 3) := by decide +kernel
theorem d_Panel_copyFrom_88 : decode m_Panel_copyFrom.2.1 88 = .ok (.iconst 0, 1) := by decide +kernel
theorem d_Panel_copyFrom_89 : decode m_Panel_copyFrom.2.1 89 = .ok (.aload_n 0, 1) := by decide +kernel
theorem d_Panel_copyFrom_90 : decode m_Panel_copyFrom.2.1 90 = .ok (.getfield 24, 3) := by decide +kernel
theorem d_Panel_copyFrom_93 : decode m_Panel_copyFrom.2.1 93 = .ok (.iconst 0, 1) := by decide +kernel
theorem d_Panel_copyFrom_94 : decode m_Panel_copyFrom.2.1 94 = .ok (.sipush 1000, 3) := by decide +kernel
theorem d_Panel_copyFrom_97 : decode m_Panel_copyFrom.2.1 97 = .ok (.invokestatic 37, 3) := by decide +kernel
theorem d_Panel_copyFrom_100 : decode m_Panel_copyFrom.2.1 100 = .ok (.return_, 1) := by decide +kernel
theorem d_Panel_addModule_0 : decode m_Panel_addModule.2.1 0 = .ok (.aload_n 0, 1) := by decide +kernel
theorem d_Panel_addModule_1 : decode m_Panel_addModule.2.1 1 = .ok (.getfield 27, 3) := by decide +kernel
theorem d_Panel_addModule_4 : decode m_Panel_addModule.2.1 4 = .ok (.bipush 6, 2) := by decide +kernel
theorem d_Panel_addModule_6 : decode m_Panel_addModule.2.1 6 = .ok (.if_icmp .ge 54, 3) := by decide +kernel
theorem d_Panel_addModule_9 : decode m_Panel_addModule.2.1 9 = .ok (.aload_n 0, 1) := by decide +kernel
theorem d_Panel_addModule_10 : decode m_Panel_addModule.2.1 10 = .ok (.getfield 11, 3) := by decide +kernel
theorem d_Panel_addModule_13 : decode m_Panel_addModule.2.1 13 = .ok (.aload_n 0, 1) := by decide +kernel
theorem d_Panel_addModule_14 : decode m_Panel_addModule.2.1 14 = .ok (.getfield 27, 3) := by decide +kernel
theorem d_Panel_addModule_17 : decode m_Panel_addModule.2.1 17 = .ok (.iload_n 1, 1) := by decide +kernel
theorem d_Panel_addModule_18 : decode m_Panel_addModule.2.1 18 = .ok (.iastore, 1) := by decide +kernel
theorem d_Panel_addModule_19 : decode m_Panel_addModule.2.1 19 = .ok (.aload_n 0, 1) := by decide +kernel
theorem d_Panel_addModule_20 : decode m_Panel_addModule.2.1 20 = .ok (.getfield 15, 3) := by decide +kernel
theorem d_Panel_addModule_23 : decode m_Panel_addModule.2.1 23 = .ok (.aload_n 0, 1) := by decide +kernel
theorem d_Panel_addModule_24 : decode m_Panel_addModule.2.1 24 = .ok (.getfield 27, 3) := by decide +kernel
theorem d_Panel_addModule_27 : decode m_Panel_addModule.2.1 27 = .ok (.iload_n 2, 1) := by decide +kernel
theorem d_Panel_addModule_28 : decode m_Panel_addModule.2.1 28 = .ok (.iastore, 1) := by decide +kernel
theorem d_Panel_addModule_29 : decode m_Panel_addModule.2.1 29 = .ok (.aload_n 0, 1) := by decide +kernel
theorem d_Panel_addModule_30 : decode m_Panel_addModule.2.1 30 = .ok (.getfield 18, 3) := by decide +kernel
theorem d_Panel_addModule_33 : decode m_Panel_addModule.2.1 33 = .ok (.aload_n 0, 1) := by decide +kernel
theorem d_Panel_addModule_34 : decode m_Panel_addModule.2.1 34 = .ok (.getfield 27, 3) := by decide +kernel
theorem d_Panel_addModule_37 : decode m_Panel_addModule.2.1 37 = .ok (.bipush 100, 2) := by decide +kernel
theorem d_Panel_addModule_39 : decode m_Panel_addModule.2.1 39 = .ok (.iastore, 1) := by decide +kernel
theorem d_Panel_addModule_40 : decode m_Panel_addModule.2.1 40 = .ok (.aload_n 0, 1) := by decide +kernel
theorem d_Panel_addModule_41 : decode m_Panel_addModule.2.1 41 = .ok (.getfield 21, 3) := by decide +kernel
theorem d_Panel_addModule_44 : decode m_Panel_addModule.2.1 44 = .ok (.aload_n 0, 1) := by decide +kernel
theorem d_Panel_addModule_45 : decode m_Panel_addModule.2.1 45 = .ok (.getfield 27, 3) := by decide +kernel
theorem d_Panel_addModule_48 : decode m_Panel_addModule.2.1 48 = .ok (.iload_n 1, 1) := by decide +kernel
theorem d_Panel_addModule_49 : decode m_Panel_addModule.2.1 49 = .ok (.iastore, 1) := by decide +kernel
theorem d_Panel_addModule_50 : decode m_Panel_addModule.2.1 50 = .ok (.aload_n 0, 1) := by decide +kernel
theorem d_Panel_addModule_51 : decode m_Panel_addModule.2.1 51 = .ok (.dup, 1) := by decide +kernel
theorem d_Panel_addModule_52 : decode m_Panel_addModule.2.1 52 = .ok (.getfield 27, 3) := by decide +kernel
theorem d_Panel_addModule_55 : decode m_Panel_addModule.2.1 55 = .ok (.iconst 1, 1) := by decide +kernel
theorem d_Panel_addModule_56 : decode m_Panel_addModule.2.1 56 = .ok (.iadd, 1) := by decide +kernel
theorem d_Panel_addModule_57 : decode m_Panel_addModule.2.1 57 = .ok (.putfield 27, 3) := by decide +kernel
theorem d_Panel_addModule_60 : decode m_Panel_addModule.2.1 60 = .ok (.return_, 1) := by decide +kernel
theorem d_Panel_ampsOf_0 : decode m_Panel_ampsOf.2.1 0 = .ok (.aload_n 0, 1) := by decide +kernel
theorem d_Panel_ampsOf_1 : decode m_Panel_ampsOf.2.1 1 = .ok (.iload_n 1, 1) := by decide +kernel
theorem d_Panel_ampsOf_2 : decode m_Panel_ampsOf.2.1 2 = .ok (.invokevirtual 43, 3) := by decide +kernel
theorem d_Panel_ampsOf_5 : decode m_Panel_ampsOf.2.1 5 = .ok (.ifCond .eq 12, 3) := by decide +kernel
theorem d_Panel_ampsOf_8 : decode m_Panel_ampsOf.2.1 8 = .ok (.aload_n 0, 1) := by decide +kernel
theorem d_Panel_ampsOf_9 : decode m_Panel_ampsOf.2.1 9 = .ok (.getfield 11, 3) := by decide +kernel
theorem d_Panel_ampsOf_12 : decode m_Panel_ampsOf.2.1 12 = .ok (.iload_n 1, 1) := by decide +kernel
theorem d_Panel_ampsOf_13 : decode m_Panel_ampsOf.2.1 13 = .ok (.iaload, 1) := by decide +kernel
theorem d_Panel_ampsOf_14 : decode m_Panel_ampsOf.2.1 14 = .ok (.goto 4, 3) := by decide +kernel
theorem d_Panel_ampsOf_17 : decode m_Panel_ampsOf.2.1 17 = .ok (.iconst 0, 1) := by decide +kernel
theorem d_Panel_ampsOf_18 : decode m_Panel_ampsOf.2.1 18 = .ok (.ireturn, 1) := by decide +kernel
theorem d_Panel_voltsOf_0 : decode m_Panel_voltsOf.2.1 0 = .ok (.aload_n 0, 1) := by decide +kernel
theorem d_Panel_voltsOf_1 : decode m_Panel_voltsOf.2.1 1 = .ok (.iload_n 1, 1) := by decide +kernel
theorem d_Panel_voltsOf_2 : decode m_Panel_voltsOf.2.1 2 = .ok (.invokevirtual 43, 3) := by decide +kernel
theorem d_Panel_voltsOf_5 : decode m_Panel_voltsOf.2.1 5 = .ok (.ifCond .eq 12, 3) := by decide +kernel
theorem d_Panel_voltsOf_8 : decode m_Panel_voltsOf.2.1 8 = .ok (.aload_n 0, 1) := by decide +kernel
theorem d_Panel_voltsOf_9 : decode m_Panel_voltsOf.2.1 9 = .ok (.getfield 15, 3) := by decide +kernel
theorem d_Panel_voltsOf_12 : decode m_Panel_voltsOf.2.1 12 = .ok (.iload_n 1, 1) := by decide +kernel
theorem d_Panel_voltsOf_13 : decode m_Panel_voltsOf.2.1 13 = .ok (.iaload, 1) := by decide +kernel
theorem d_Panel_voltsOf_14 : decode m_Panel_voltsOf.2.1 14 = .ok (.goto 4, 3) := by decide +kernel
theorem d_Panel_voltsOf_17 : decode m_Panel_voltsOf.2.1 17 = .ok (.iconst 0, 1) := by decide +kernel
theorem d_Panel_voltsOf_18 : decode m_Panel_voltsOf.2.1 18 = .ok (.ireturn, 1) := by decide +kernel
theorem d_Panel_lightOf_0 : decode m_Panel_lightOf.2.1 0 = .ok (.aload_n 0, 1) := by decide +kernel
theorem d_Panel_lightOf_1 : decode m_Panel_lightOf.2.1 1 = .ok (.iload_n 1, 1) := by decide +kernel
theorem d_Panel_lightOf_2 : decode m_Panel_lightOf.2.1 2 = .ok (.invokevirtual 43, 3) := by decide +kernel
theorem d_Panel_lightOf_5 : decode m_Panel_lightOf.2.1 5 = .ok (.ifCond .eq 12, 3) := by decide +kernel
theorem d_Panel_lightOf_8 : decode m_Panel_lightOf.2.1 8 = .ok (.aload_n 0, 1) := by decide +kernel
theorem d_Panel_lightOf_9 : decode m_Panel_lightOf.2.1 9 = .ok (.getfield 18, 3) := by decide +kernel
theorem d_Panel_lightOf_12 : decode m_Panel_lightOf.2.1 12 = .ok (.iload_n 1, 1) := by decide +kernel
theorem d_Panel_lightOf_13 : decode m_Panel_lightOf.2.1 13 = .ok (.iaload, 1) := by decide +kernel
theorem d_Panel_lightOf_14 : decode m_Panel_lightOf.2.1 14 = .ok (.goto 4, 3) := by decide +kernel
theorem d_Panel_lightOf_17 : decode m_Panel_lightOf.2.1 17 = .ok (.iconst 0, 1) := by decide +kernel
theorem d_Panel_lightOf_18 : decode m_Panel_lightOf.2.1 18 = .ok (.ireturn, 1) := by decide +kernel
theorem d_Panel_litOf_0 : decode m_Panel_litOf.2.1 0 = .ok (.aload_n 0, 1) := by decide +kernel
theorem d_Panel_litOf_1 : decode m_Panel_litOf.2.1 1 = .ok (.iload_n 1, 1) := by decide +kernel
theorem d_Panel_litOf_2 : decode m_Panel_litOf.2.1 2 = .ok (.invokevirtual 43, 3) := by decide +kernel
theorem d_Panel_litOf_5 : decode m_Panel_litOf.2.1 5 = .ok (.ifCond .eq 12, 3) := by decide +kernel
theorem d_Panel_litOf_8 : decode m_Panel_litOf.2.1 8 = .ok (.aload_n 0, 1) := by decide +kernel
theorem d_Panel_litOf_9 : decode m_Panel_litOf.2.1 9 = .ok (.getfield 21, 3) := by decide +kernel
theorem d_Panel_litOf_12 : decode m_Panel_litOf.2.1 12 = .ok (.iload_n 1, 1) := by decide +kernel
theorem d_Panel_litOf_13 : decode m_Panel_litOf.2.1 13 = .ok (.iaload, 1) := by decide +kernel
theorem d_Panel_litOf_14 : decode m_Panel_litOf.2.1 14 = .ok (.goto 4, 3) := by decide +kernel
theorem d_Panel_litOf_17 : decode m_Panel_litOf.2.1 17 = .ok (.iconst 0, 1) := by decide +kernel
theorem d_Panel_litOf_18 : decode m_Panel_litOf.2.1 18 = .ok (.ireturn, 1) := by decide +kernel
theorem d_Panel_has_0 : decode m_Panel_has.2.1 0 = .ok (.iload_n 1, 1) := by decide +kernel
theorem d_Panel_has_1 : decode m_Panel_has.2.1 1 = .ok (.ifCond .lt 21, 3) := by decide +kernel
theorem d_Panel_has_4 : decode m_Panel_has.2.1 4 = .ok (.iload_n 1, 1) := by decide +kernel
theorem d_Panel_has_5 : decode m_Panel_has.2.1 5 = .ok (.aload_n 0, 1) := by decide +kernel
theorem d_Panel_has_6 : decode m_Panel_has.2.1 6 = .ok (.getfield 27, 3) := by decide +kernel
theorem d_Panel_has_9 : decode m_Panel_has.2.1 9 = .ok (.if_icmp .ge 13, 3) := by decide +kernel
theorem d_Panel_has_12 : decode m_Panel_has.2.1 12 = .ok (.iload_n 1, 1) := by decide +kernel
theorem d_Panel_has_13 : decode m_Panel_has.2.1 13 = .ok (.bipush 6, 2) := by decide +kernel
theorem d_Panel_has_15 : decode m_Panel_has.2.1 15 = .ok (.if_icmp .ge 7, 3) := by decide +kernel
theorem d_Panel_has_18 : decode m_Panel_has.2.1 18 = .ok (.iconst 1, 1) := by decide +kernel
theorem d_Panel_has_19 : decode m_Panel_has.2.1 19 = .ok (.goto 4, 3) := by decide +kernel
theorem d_Panel_has_22 : decode m_Panel_has.2.1 22 = .ok (.iconst 0, 1) := by decide +kernel
theorem d_Panel_has_23 : decode m_Panel_has.2.1 23 = .ok (.ireturn, 1) := by decide +kernel
theorem d_Panel_setLight_0 : decode m_Panel_setLight.2.1 0 = .ok (.aload_n 0, 1) := by decide +kernel
theorem d_Panel_setLight_1 : decode m_Panel_setLight.2.1 1 = .ok (.iload_n 1, 1) := by decide +kernel
theorem d_Panel_setLight_2 : decode m_Panel_setLight.2.1 2 = .ok (.invokevirtual 43, 3) := by decide +kernel
theorem d_Panel_setLight_5 : decode m_Panel_setLight.2.1 5 = .ok (.ifCond .eq 27, 3) := by decide +kernel
theorem d_Panel_setLight_8 : decode m_Panel_setLight.2.1 8 = .ok (.aload_n 0, 1) := by decide +kernel
theorem d_Panel_setLight_9 : decode m_Panel_setLight.2.1 9 = .ok (.getfield 18, 3) := by decide +kernel
theorem d_Panel_setLight_12 : decode m_Panel_setLight.2.1 12 = .ok (.iload_n 1, 1) := by decide +kernel
theorem d_Panel_setLight_13 : decode m_Panel_setLight.2.1 13 = .ok (.iload_n 2, 1) := by decide +kernel
theorem d_Panel_setLight_14 : decode m_Panel_setLight.2.1 14 = .ok (.iastore, 1) := by decide +kernel
theorem d_Panel_setLight_15 : decode m_Panel_setLight.2.1 15 = .ok (.aload_n 0, 1) := by decide +kernel
theorem d_Panel_setLight_16 : decode m_Panel_setLight.2.1 16 = .ok (.getfield 21, 3) := by decide +kernel
theorem d_Panel_setLight_19 : decode m_Panel_setLight.2.1 19 = .ok (.iload_n 1, 1) := by decide +kernel
theorem d_Panel_setLight_20 : decode m_Panel_setLight.2.1 20 = .ok (.aload_n 0, 1) := by decide +kernel
theorem d_Panel_setLight_21 : decode m_Panel_setLight.2.1 21 = .ok (.getfield 11, 3) := by decide +kernel
theorem d_Panel_setLight_24 : decode m_Panel_setLight.2.1 24 = .ok (.iload_n 1, 1) := by decide +kernel
theorem d_Panel_setLight_25 : decode m_Panel_setLight.2.1 25 = .ok (.iaload, 1) := by decide +kernel
theorem d_Panel_setLight_26 : decode m_Panel_setLight.2.1 26 = .ok (.iload_n 2, 1) := by decide +kernel
theorem d_Panel_setLight_27 : decode m_Panel_setLight.2.1 27 = .ok (.imul, 1) := by decide +kernel
theorem d_Panel_setLight_28 : decode m_Panel_setLight.2.1 28 = .ok (.bipush 100, 2) := by decide +kernel
theorem d_Panel_setLight_30 : decode m_Panel_setLight.2.1 30 = .ok (.idiv, 1) := by decide +kernel
theorem d_Panel_setLight_31 : decode m_Panel_setLight.2.1 31 = .ok (.iastore, 1) := by decide +kernel
theorem d_Panel_setLight_32 : decode m_Panel_setLight.2.1 32 = .ok (.return_, 1) := by decide +kernel
theorem d_Panel_greatestLit_0 : decode m_Panel_greatestLit.2.1 0 = .ok (.iconst 0, 1) := by decide +kernel
theorem d_Panel_greatestLit_1 : decode m_Panel_greatestLit.2.1 1 = .ok (.istore_n 1, 1) := by decide +kernel
theorem d_Panel_greatestLit_2 : decode m_Panel_greatestLit.2.1 2 = .ok (.iconst 0, 1) := by decide +kernel
theorem d_Panel_greatestLit_3 : decode m_Panel_greatestLit.2.1 3 = .ok (.istore_n 2, 1) := by decide +kernel
theorem d_Panel_greatestLit_4 : decode m_Panel_greatestLit.2.1 4 = .ok (.iload_n 2, 1) := by decide +kernel
theorem d_Panel_greatestLit_5 : decode m_Panel_greatestLit.2.1 5 = .ok (.aload_n 0, 1) := by decide +kernel
theorem d_Panel_greatestLit_6 : decode m_Panel_greatestLit.2.1 6 = .ok (.getfield 27, 3) := by decide +kernel
theorem d_Panel_greatestLit_9 : decode m_Panel_greatestLit.2.1 9 = .ok (.if_icmp .ge 26, 3) := by decide +kernel
theorem d_Panel_greatestLit_12 : decode m_Panel_greatestLit.2.1 12 = .ok (.iload_n 2, 1) := by decide +kernel
theorem d_Panel_greatestLit_13 : decode m_Panel_greatestLit.2.1 13 = .ok (.bipush 6, 2) := by decide +kernel
theorem d_Panel_greatestLit_15 : decode m_Panel_greatestLit.2.1 15 = .ok (.if_icmp .ge 20, 3) := by decide +kernel
theorem d_Panel_greatestLit_18 : decode m_Panel_greatestLit.2.1 18 = .ok (.iload_n 1, 1) := by decide +kernel
theorem d_Panel_greatestLit_19 : decode m_Panel_greatestLit.2.1 19 = .ok (.aload_n 0, 1) := by decide +kernel
theorem d_Panel_greatestLit_20 : decode m_Panel_greatestLit.2.1 20 = .ok (.getfield 21, 3) := by decide +kernel
theorem d_Panel_greatestLit_23 : decode m_Panel_greatestLit.2.1 23 = .ok (.iload_n 2, 1) := by decide +kernel
theorem d_Panel_greatestLit_24 : decode m_Panel_greatestLit.2.1 24 = .ok (.iaload, 1) := by decide +kernel
theorem d_Panel_greatestLit_25 : decode m_Panel_greatestLit.2.1 25 = .ok (.invokestatic 47, 3) := by decide +kernel
theorem d_Panel_greatestLit_28 : decode m_Panel_greatestLit.2.1 28 = .ok (.istore_n 1, 1) := by decide +kernel
theorem d_Panel_greatestLit_29 : decode m_Panel_greatestLit.2.1 29 = .ok (.iinc 2 1, 3) := by decide +kernel
theorem d_Panel_greatestLit_32 : decode m_Panel_greatestLit.2.1 32 = .ok (.goto (-28), 3) := by decide +kernel
theorem d_Panel_greatestLit_35 : decode m_Panel_greatestLit.2.1 35 = .ok (.iload_n 1, 1) := by decide +kernel
theorem d_Panel_greatestLit_36 : decode m_Panel_greatestLit.2.1 36 = .ok (.ireturn, 1) := by decide +kernel
theorem d_Panel_pointOfShare_0 : decode m_Panel_pointOfShare.2.1 0 = .ok (.iload_n 1, 1) := by decide +kernel
theorem d_Panel_pointOfShare_1 : decode m_Panel_pointOfShare.2.1 1 = .ok (.aload_n 0, 1) := by decide +kernel
theorem d_Panel_pointOfShare_2 : decode m_Panel_pointOfShare.2.1 2 = .ok (.invokevirtual 53, 3) := by decide +kernel
theorem d_Panel_pointOfShare_5 : decode m_Panel_pointOfShare.2.1 5 = .ok (.imul, 1) := by decide +kernel
theorem d_Panel_pointOfShare_6 : decode m_Panel_pointOfShare.2.1 6 = .ok (.bipush 100, 2) := by decide +kernel
theorem d_Panel_pointOfShare_8 : decode m_Panel_pointOfShare.2.1 8 = .ok (.idiv, 1) := by decide +kernel
theorem d_Panel_pointOfShare_9 : decode m_Panel_pointOfShare.2.1 9 = .ok (.ireturn, 1) := by decide +kernel
theorem d_Panel_voltsAt_0 : decode m_Panel_voltsAt.2.1 0 = .ok (.iconst 0, 1) := by decide +kernel
theorem d_Panel_voltsAt_1 : decode m_Panel_voltsAt.2.1 1 = .ok (.istore_n 2, 1) := by decide +kernel
theorem d_Panel_voltsAt_2 : decode m_Panel_voltsAt.2.1 2 = .ok (.iconst 0, 1) := by decide +kernel
theorem d_Panel_voltsAt_3 : decode m_Panel_voltsAt.2.1 3 = .ok (.istore_n 3, 1) := by decide +kernel
theorem d_Panel_voltsAt_4 : decode m_Panel_voltsAt.2.1 4 = .ok (.iload_n 3, 1) := by decide +kernel
theorem d_Panel_voltsAt_5 : decode m_Panel_voltsAt.2.1 5 = .ok (.aload_n 0, 1) := by decide +kernel
theorem d_Panel_voltsAt_6 : decode m_Panel_voltsAt.2.1 6 = .ok (.getfield 27, 3) := by decide +kernel
theorem d_Panel_voltsAt_9 : decode m_Panel_voltsAt.2.1 9 = .ok (.if_icmp .ge 64, 3) := by decide +kernel
theorem d_Panel_voltsAt_12 : decode m_Panel_voltsAt.2.1 12 = .ok (.iload_n 3, 1) := by decide +kernel
theorem d_Panel_voltsAt_13 : decode m_Panel_voltsAt.2.1 13 = .ok (.bipush 6, 2) := by decide +kernel
theorem d_Panel_voltsAt_15 : decode m_Panel_voltsAt.2.1 15 = .ok (.if_icmp .ge 58, 3) := by decide +kernel
theorem d_Panel_voltsAt_18 : decode m_Panel_voltsAt.2.1 18 = .ok (.aload_n 0, 1) := by decide +kernel
theorem d_Panel_voltsAt_19 : decode m_Panel_voltsAt.2.1 19 = .ok (.getfield 21, 3) := by decide +kernel
theorem d_Panel_voltsAt_22 : decode m_Panel_voltsAt.2.1 22 = .ok (.iload_n 3, 1) := by decide +kernel
theorem d_Panel_voltsAt_23 : decode m_Panel_voltsAt.2.1 23 = .ok (.iaload, 1) := by decide +kernel
theorem d_Panel_voltsAt_24 : decode m_Panel_voltsAt.2.1 24 = .ok (.aload_n 0, 1) := by decide +kernel
theorem d_Panel_voltsAt_25 : decode m_Panel_voltsAt.2.1 25 = .ok (.getfield 21, 3) := by decide +kernel
theorem d_Panel_voltsAt_28 : decode m_Panel_voltsAt.2.1 28 = .ok (.iload_n 3, 1) := by decide +kernel
theorem d_Panel_voltsAt_29 : decode m_Panel_voltsAt.2.1 29 = .ok (.iaload, 1) := by decide +kernel
theorem d_Panel_voltsAt_30 : decode m_Panel_voltsAt.2.1 30 = .ok (.imul, 1) := by decide +kernel
theorem d_Panel_voltsAt_31 : decode m_Panel_voltsAt.2.1 31 = .ok (.istore 4, 2) := by decide +kernel
theorem d_Panel_voltsAt_33 : decode m_Panel_voltsAt.2.1 33 = .ok (.iload_n 1, 1) := by decide +kernel
theorem d_Panel_voltsAt_34 : decode m_Panel_voltsAt.2.1 34 = .ok (.aload_n 0, 1) := by decide +kernel
theorem d_Panel_voltsAt_35 : decode m_Panel_voltsAt.2.1 35 = .ok (.getfield 21, 3) := by decide +kernel
theorem d_Panel_voltsAt_38 : decode m_Panel_voltsAt.2.1 38 = .ok (.iload_n 3, 1) := by decide +kernel
theorem d_Panel_voltsAt_39 : decode m_Panel_voltsAt.2.1 39 = .ok (.iaload, 1) := by decide +kernel
theorem d_Panel_voltsAt_40 : decode m_Panel_voltsAt.2.1 40 = .ok (.if_icmp .ge 27, 3) := by decide +kernel
theorem d_Panel_voltsAt_43 : decode m_Panel_voltsAt.2.1 43 = .ok (.iload 4, 2) := by decide +kernel
theorem d_Panel_voltsAt_45 : decode m_Panel_voltsAt.2.1 45 = .ok (.ifCond .le 22, 3) := by decide +kernel
theorem d_Panel_voltsAt_48 : decode m_Panel_voltsAt.2.1 48 = .ok (.iload_n 2, 1) := by decide +kernel
theorem d_Panel_voltsAt_49 : decode m_Panel_voltsAt.2.1 49 = .ok (.aload_n 0, 1) := by decide +kernel
theorem d_Panel_voltsAt_50 : decode m_Panel_voltsAt.2.1 50 = .ok (.getfield 15, 3) := by decide +kernel
theorem d_Panel_voltsAt_53 : decode m_Panel_voltsAt.2.1 53 = .ok (.iload_n 3, 1) := by decide +kernel
theorem d_Panel_voltsAt_54 : decode m_Panel_voltsAt.2.1 54 = .ok (.iaload, 1) := by decide +kernel
theorem d_Panel_voltsAt_55 : decode m_Panel_voltsAt.2.1 55 = .ok (.iload 4, 2) := by decide +kernel
theorem d_Panel_voltsAt_57 : decode m_Panel_voltsAt.2.1 57 = .ok (.iload_n 1, 1) := by decide +kernel
theorem d_Panel_voltsAt_58 : decode m_Panel_voltsAt.2.1 58 = .ok (.iload_n 1, 1) := by decide +kernel
theorem d_Panel_voltsAt_59 : decode m_Panel_voltsAt.2.1 59 = .ok (.imul, 1) := by decide +kernel
theorem d_Panel_voltsAt_60 : decode m_Panel_voltsAt.2.1 60 = .ok (.isub, 1) := by decide +kernel
theorem d_Panel_voltsAt_61 : decode m_Panel_voltsAt.2.1 61 = .ok (.imul, 1) := by decide +kernel
theorem d_Panel_voltsAt_62 : decode m_Panel_voltsAt.2.1 62 = .ok (.iload 4, 2) := by decide +kernel
theorem d_Panel_voltsAt_64 : decode m_Panel_voltsAt.2.1 64 = .ok (.idiv, 1) := by decide +kernel
theorem d_Panel_voltsAt_65 : decode m_Panel_voltsAt.2.1 65 = .ok (.iadd, 1) := by decide +kernel
theorem d_Panel_voltsAt_66 : decode m_Panel_voltsAt.2.1 66 = .ok (.istore_n 2, 1) := by decide +kernel
theorem d_Panel_voltsAt_67 : decode m_Panel_voltsAt.2.1 67 = .ok (.iinc 3 1, 3) := by decide +kernel
theorem d_Panel_voltsAt_70 : decode m_Panel_voltsAt.2.1 70 = .ok (.goto (-66), 3) := by decide +kernel
theorem d_Panel_voltsAt_73 : decode m_Panel_voltsAt.2.1 73 = .ok (.iload_n 2, 1) := by decide +kernel
theorem d_Panel_voltsAt_74 : decode m_Panel_voltsAt.2.1 74 = .ok (.ireturn, 1) := by decide +kernel
theorem d_Panel_powerAt_0 : decode m_Panel_powerAt.2.1 0 = .ok (.iload_n 1, 1) := by decide +kernel
theorem d_Panel_powerAt_1 : decode m_Panel_powerAt.2.1 1 = .ok (.ifCond .lt 19, 3) := by decide +kernel
theorem d_Panel_powerAt_4 : decode m_Panel_powerAt.2.1 4 = .ok (.iload_n 1, 1) := by decide +kernel
theorem d_Panel_powerAt_5 : decode m_Panel_powerAt.2.1 5 = .ok (.sipush 1000, 3) := by decide +kernel
theorem d_Panel_powerAt_8 : decode m_Panel_powerAt.2.1 8 = .ok (.if_icmp .ge 12, 3) := by decide +kernel
theorem d_Panel_powerAt_11 : decode m_Panel_powerAt.2.1 11 = .ok (.aload_n 0, 1) := by decide +kernel
theorem d_Panel_powerAt_12 : decode m_Panel_powerAt.2.1 12 = .ok (.getfield 24, 3) := by decide +kernel
theorem d_Panel_powerAt_15 : decode m_Panel_powerAt.2.1 15 = .ok (.iload_n 1, 1) := by decide +kernel
theorem d_Panel_powerAt_16 : decode m_Panel_powerAt.2.1 16 = .ok (.iaload, 1) := by decide +kernel
theorem d_Panel_powerAt_17 : decode m_Panel_powerAt.2.1 17 = .ok (.goto 4, 3) := by decide +kernel
theorem d_Panel_powerAt_20 : decode m_Panel_powerAt.2.1 20 = .ok (.iconst 0, 1) := by decide +kernel
theorem d_Panel_powerAt_21 : decode m_Panel_powerAt.2.1 21 = .ok (.ireturn, 1) := by decide +kernel
theorem d_Panel_reckon_0 : decode m_Panel_reckon.2.1 0 = .ok (.aload_n 0, 1) := by decide +kernel
theorem d_Panel_reckon_1 : decode m_Panel_reckon.2.1 1 = .ok (.invokevirtual 53, 3) := by decide +kernel
theorem d_Panel_reckon_4 : decode m_Panel_reckon.2.1 4 = .ok (.istore_n 1, 1) := by decide +kernel
theorem d_Panel_reckon_5 : decode m_Panel_reckon.2.1 5 = .ok (.aload_n 0, 1) := by decide +kernel
theorem d_Panel_reckon_6 : decode m_Panel_reckon.2.1 6 = .ok (.iconst 0, 1) := by decide +kernel
theorem d_Panel_reckon_7 : decode m_Panel_reckon.2.1 7 = .ok (.putfield 31, 3) := by decide +kernel
theorem d_Panel_reckon_10 : decode m_Panel_reckon.2.1 10 = .ok (.aload_n 0, 1) := by decide +kernel
theorem d_Panel_reckon_11 : decode m_Panel_reckon.2.1 11 = .ok (.iconst 0, 1) := by decide +kernel
theorem d_Panel_reckon_12 : decode m_Panel_reckon.2.1 12 = .ok (.putfield 34, 3) := by decide +kernel
theorem d_Panel_reckon_15 : decode m_Panel_reckon.2.1 15 = .ok (.aload_n 0, 1) := by decide +kernel
theorem d_Panel_reckon_16 : decode m_Panel_reckon.2.1 16 = .ok (.getfield 24, 3) := by decide +kernel
theorem d_Panel_reckon_19 : decode m_Panel_reckon.2.1 19 = .ok (.iconst 0, 1) := by decide +kernel
theorem d_Panel_reckon_20 : decode m_Panel_reckon.2.1 20 = .ok (.invokestatic 57, 3) := by decide +kernel
theorem d_Panel_reckon_23 : decode m_Panel_reckon.2.1 23 = .ok (.iconst 0, 1) := by decide +kernel
theorem d_Panel_reckon_24 : decode m_Panel_reckon.2.1 24 = .ok (.istore_n 2, 1) := by decide +kernel
theorem d_Panel_reckon_25 : decode m_Panel_reckon.2.1 25 = .ok (.iload_n 2, 1) := by decide +kernel
theorem d_Panel_reckon_26 : decode m_Panel_reckon.2.1 26 = .ok (.sipush 1000, 3) := by decide +kernel
theorem d_Panel_reckon_29 : decode m_Panel_reckon.2.1 29 = .ok (.if_icmp .ge 58, 3) := by decide +kernel
theorem d_Panel_reckon_32 : decode m_Panel_reckon.2.1 32 = .ok (.iload_n 2, 1) := by decide +kernel
theorem d_Panel_reckon_33 : decode m_Panel_reckon.2.1 33 = .ok (.iload_n 1, 1) := by decide +kernel
theorem d_Panel_reckon_34 : decode m_Panel_reckon.2.1 34 = .ok (.if_icmp .ge 53, 3) := by decide +kernel
theorem d_Panel_reckon_37 : decode m_Panel_reckon.2.1 37 = .ok (.aload_n 0, 1) := by decide +kernel
theorem d_Panel_reckon_38 : decode m_Panel_reckon.2.1 38 = .ok (.getfield 24, 3) := by decide +kernel
theorem d_Panel_reckon_41 : decode m_Panel_reckon.2.1 41 = .ok (.iload_n 2, 1) := by decide +kernel
theorem d_Panel_reckon_42 : decode m_Panel_reckon.2.1 42 = .ok (.iload_n 2, 1) := by decide +kernel
theorem d_Panel_reckon_43 : decode m_Panel_reckon.2.1 43 = .ok (.aload_n 0, 1) := by decide +kernel
theorem d_Panel_reckon_44 : decode m_Panel_reckon.2.1 44 = .ok (.iload_n 2, 1) := by decide +kernel
theorem d_Panel_reckon_45 : decode m_Panel_reckon.2.1 45 = .ok (.invokevirtual 63, 3) := by decide +kernel
theorem d_Panel_reckon_48 : decode m_Panel_reckon.2.1 48 = .ok (.imul, 1) := by decide +kernel
theorem d_Panel_reckon_49 : decode m_Panel_reckon.2.1 49 = .ok (.bipush 10, 2) := by decide +kernel
theorem d_Panel_reckon_51 : decode m_Panel_reckon.2.1 51 = .ok (.idiv, 1) := by decide +kernel
theorem d_Panel_reckon_52 : decode m_Panel_reckon.2.1 52 = .ok (.iastore, 1) := by decide +kernel
theorem d_Panel_reckon_53 : decode m_Panel_reckon.2.1 53 = .ok (.aload_n 0, 1) := by decide +kernel
theorem d_Panel_reckon_54 : decode m_Panel_reckon.2.1 54 = .ok (.getfield 24, 3) := by decide +kernel
theorem d_Panel_reckon_57 : decode m_Panel_reckon.2.1 57 = .ok (.iload_n 2, 1) := by decide +kernel
theorem d_Panel_reckon_58 : decode m_Panel_reckon.2.1 58 = .ok (.iaload, 1) := by decide +kernel
theorem d_Panel_reckon_59 : decode m_Panel_reckon.2.1 59 = .ok (.aload_n 0, 1) := by decide +kernel
theorem d_Panel_reckon_60 : decode m_Panel_reckon.2.1 60 = .ok (.getfield 34, 3) := by decide +kernel
theorem d_Panel_reckon_63 : decode m_Panel_reckon.2.1 63 = .ok (.if_icmp .le 18, 3) := by decide +kernel
theorem d_Panel_reckon_66 : decode m_Panel_reckon.2.1 66 = .ok (.aload_n 0, 1) := by decide +kernel
theorem d_Panel_reckon_67 : decode m_Panel_reckon.2.1 67 = .ok (.aload_n 0, 1) := by decide +kernel
theorem d_Panel_reckon_68 : decode m_Panel_reckon.2.1 68 = .ok (.getfield 24, 3) := by decide +kernel
theorem d_Panel_reckon_71 : decode m_Panel_reckon.2.1 71 = .ok (.iload_n 2, 1) := by decide +kernel
theorem d_Panel_reckon_72 : decode m_Panel_reckon.2.1 72 = .ok (.iaload, 1) := by decide +kernel
theorem d_Panel_reckon_73 : decode m_Panel_reckon.2.1 73 = .ok (.putfield 34, 3) := by decide +kernel
theorem d_Panel_reckon_76 : decode m_Panel_reckon.2.1 76 = .ok (.aload_n 0, 1) := by decide +kernel
theorem d_Panel_reckon_77 : decode m_Panel_reckon.2.1 77 = .ok (.iload_n 2, 1) := by decide +kernel
theorem d_Panel_reckon_78 : decode m_Panel_reckon.2.1 78 = .ok (.putfield 31, 3) := by decide +kernel
theorem d_Panel_reckon_81 : decode m_Panel_reckon.2.1 81 = .ok (.iinc 2 1, 3) := by decide +kernel
theorem d_Panel_reckon_84 : decode m_Panel_reckon.2.1 84 = .ok (.goto (-59), 3) := by decide +kernel
theorem d_Panel_reckon_87 : decode m_Panel_reckon.2.1 87 = .ok (.return_, 1) := by decide +kernel
theorem d_Panel_topEnd_0 : decode m_Panel_topEnd.2.1 0 = .ok (.aload_n 0, 1) := by decide +kernel
theorem d_Panel_topEnd_1 : decode m_Panel_topEnd.2.1 1 = .ok (.iload_n 1, 1) := by decide +kernel
theorem d_Panel_topEnd_2 : decode m_Panel_topEnd.2.1 2 = .ok (.invokevirtual 67, 3) := by decide +kernel
theorem d_Panel_topEnd_5 : decode m_Panel_topEnd.2.1 5 = .ok (.istore_n 2, 1) := by decide +kernel
theorem d_Panel_topEnd_6 : decode m_Panel_topEnd.2.1 6 = .ok (.iload_n 2, 1) := by decide +kernel
theorem d_Panel_topEnd_7 : decode m_Panel_topEnd.2.1 7 = .ok (.aload_n 0, 1) := by decide +kernel
theorem d_Panel_topEnd_8 : decode m_Panel_topEnd.2.1 8 = .ok (.iload_n 1, 1) := by decide +kernel
theorem d_Panel_topEnd_9 : decode m_Panel_topEnd.2.1 9 = .ok (.iconst 1, 1) := by decide +kernel
theorem d_Panel_topEnd_10 : decode m_Panel_topEnd.2.1 10 = .ok (.isub, 1) := by decide +kernel
theorem d_Panel_topEnd_11 : decode m_Panel_topEnd.2.1 11 = .ok (.invokevirtual 67, 3) := by decide +kernel
theorem d_Panel_topEnd_14 : decode m_Panel_topEnd.2.1 14 = .ok (.if_icmp .gt 5, 3) := by decide +kernel
theorem d_Panel_topEnd_17 : decode m_Panel_topEnd.2.1 17 = .ok (.iconst (-1), 1) := by decide +kernel
theorem d_Panel_topEnd_18 : decode m_Panel_topEnd.2.1 18 = .ok (.ireturn, 1) := by decide +kernel
theorem d_Panel_topEnd_19 : decode m_Panel_topEnd.2.1 19 = .ok (.iload_n 1, 1) := by decide +kernel
theorem d_Panel_topEnd_20 : decode m_Panel_topEnd.2.1 20 = .ok (.istore_n 3, 1) := by decide +kernel
theorem d_Panel_topEnd_21 : decode m_Panel_topEnd.2.1 21 = .ok (.iload_n 1, 1) := by decide +kernel
theorem d_Panel_topEnd_22 : decode m_Panel_topEnd.2.1 22 = .ok (.iconst 1, 1) := by decide +kernel
theorem d_Panel_topEnd_23 : decode m_Panel_topEnd.2.1 23 = .ok (.iadd, 1) := by decide +kernel
theorem d_Panel_topEnd_24 : decode m_Panel_topEnd.2.1 24 = .ok (.istore 4, 2) := by decide +kernel
theorem d_Panel_topEnd_26 : decode m_Panel_topEnd.2.1 26 = .ok (.iload 4, 2) := by decide +kernel
theorem d_Panel_topEnd_28 : decode m_Panel_topEnd.2.1 28 = .ok (.sipush 1000, 3) := by decide +kernel
theorem d_Panel_topEnd_31 : decode m_Panel_topEnd.2.1 31 = .ok (.if_icmp .ge 22, 3) := by decide +kernel
theorem d_Panel_topEnd_34 : decode m_Panel_topEnd.2.1 34 = .ok (.aload_n 0, 1) := by decide +kernel
theorem d_Panel_topEnd_35 : decode m_Panel_topEnd.2.1 35 = .ok (.iload 4, 2) := by decide +kernel
theorem d_Panel_topEnd_37 : decode m_Panel_topEnd.2.1 37 = .ok (.invokevirtual 67, 3) := by decide +kernel
theorem d_Panel_topEnd_40 : decode m_Panel_topEnd.2.1 40 = .ok (.iload_n 2, 1) := by decide +kernel
theorem d_Panel_topEnd_41 : decode m_Panel_topEnd.2.1 41 = .ok (.if_icmp .ne 12, 3) := by decide +kernel
theorem d_Panel_topEnd_44 : decode m_Panel_topEnd.2.1 44 = .ok (.iload 4, 2) := by decide +kernel
theorem d_Panel_topEnd_46 : decode m_Panel_topEnd.2.1 46 = .ok (.istore_n 3, 1) := by decide +kernel
theorem d_Panel_topEnd_47 : decode m_Panel_topEnd.2.1 47 = .ok (.iinc 4 1, 3) := by decide +kernel
theorem d_Panel_topEnd_50 : decode m_Panel_topEnd.2.1 50 = .ok (.goto (-24), 3) := by decide +kernel
theorem d_Panel_topEnd_53 : decode m_Panel_topEnd.2.1 53 = .ok (.aload_n 0, 1) := by decide +kernel
theorem d_Panel_topEnd_54 : decode m_Panel_topEnd.2.1 54 = .ok (.iload_n 3, 1) := by decide +kernel
theorem d_Panel_topEnd_55 : decode m_Panel_topEnd.2.1 55 = .ok (.iconst 1, 1) := by decide +kernel
theorem d_Panel_topEnd_56 : decode m_Panel_topEnd.2.1 56 = .ok (.iadd, 1) := by decide +kernel
theorem d_Panel_topEnd_57 : decode m_Panel_topEnd.2.1 57 = .ok (.invokevirtual 67, 3) := by decide +kernel
theorem d_Panel_topEnd_60 : decode m_Panel_topEnd.2.1 60 = .ok (.iload_n 2, 1) := by decide +kernel
theorem d_Panel_topEnd_61 : decode m_Panel_topEnd.2.1 61 = .ok (.if_icmp .ge 7, 3) := by decide +kernel
theorem d_Panel_topEnd_64 : decode m_Panel_topEnd.2.1 64 = .ok (.iload_n 3, 1) := by decide +kernel
theorem d_Panel_topEnd_65 : decode m_Panel_topEnd.2.1 65 = .ok (.goto 4, 3) := by decide +kernel
theorem d_Panel_topEnd_68 : decode m_Panel_topEnd.2.1 68 = .ok (.iconst (-1), 1) := by decide +kernel
theorem d_Panel_topEnd_69 : decode m_Panel_topEnd.2.1 69 = .ok (.ireturn, 1) := by decide +kernel
theorem d_Panel_steeperWay_0 : decode m_Panel_steeperWay.2.1 0 = .ok (.aload_n 0, 1) := by decide +kernel
theorem d_Panel_steeperWay_1 : decode m_Panel_steeperWay.2.1 1 = .ok (.iload_n 1, 1) := by decide +kernel
theorem d_Panel_steeperWay_2 : decode m_Panel_steeperWay.2.1 2 = .ok (.invokevirtual 67, 3) := by decide +kernel
theorem d_Panel_steeperWay_5 : decode m_Panel_steeperWay.2.1 5 = .ok (.istore_n 2, 1) := by decide +kernel
theorem d_Panel_steeperWay_6 : decode m_Panel_steeperWay.2.1 6 = .ok (.aload_n 0, 1) := by decide +kernel
theorem d_Panel_steeperWay_7 : decode m_Panel_steeperWay.2.1 7 = .ok (.iload_n 1, 1) := by decide +kernel
theorem d_Panel_steeperWay_8 : decode m_Panel_steeperWay.2.1 8 = .ok (.iconst 1, 1) := by decide +kernel
theorem d_Panel_steeperWay_9 : decode m_Panel_steeperWay.2.1 9 = .ok (.iadd, 1) := by decide +kernel
theorem d_Panel_steeperWay_10 : decode m_Panel_steeperWay.2.1 10 = .ok (.invokevirtual 67, 3) := by decide +kernel
theorem d_Panel_steeperWay_13 : decode m_Panel_steeperWay.2.1 13 = .ok (.istore_n 3, 1) := by decide +kernel
theorem d_Panel_steeperWay_14 : decode m_Panel_steeperWay.2.1 14 = .ok (.aload_n 0, 1) := by decide +kernel
theorem d_Panel_steeperWay_15 : decode m_Panel_steeperWay.2.1 15 = .ok (.iload_n 1, 1) := by decide +kernel
theorem d_Panel_steeperWay_16 : decode m_Panel_steeperWay.2.1 16 = .ok (.iconst 1, 1) := by decide +kernel
theorem d_Panel_steeperWay_17 : decode m_Panel_steeperWay.2.1 17 = .ok (.isub, 1) := by decide +kernel
theorem d_Panel_steeperWay_18 : decode m_Panel_steeperWay.2.1 18 = .ok (.invokevirtual 67, 3) := by decide +kernel
theorem d_Panel_steeperWay_21 : decode m_Panel_steeperWay.2.1 21 = .ok (.istore 4, 2) := by decide +kernel
theorem d_Panel_steeperWay_23 : decode m_Panel_steeperWay.2.1 23 = .ok (.iload_n 3, 1) := by decide +kernel
theorem d_Panel_steeperWay_24 : decode m_Panel_steeperWay.2.1 24 = .ok (.iload_n 2, 1) := by decide +kernel
theorem d_Panel_steeperWay_25 : decode m_Panel_steeperWay.2.1 25 = .ok (.if_icmp .gt 11, 3) := by decide +kernel
theorem d_Panel_steeperWay_28 : decode m_Panel_steeperWay.2.1 28 = .ok (.iload 4, 2) := by decide +kernel
theorem d_Panel_steeperWay_30 : decode m_Panel_steeperWay.2.1 30 = .ok (.iload_n 2, 1) := by decide +kernel
theorem d_Panel_steeperWay_31 : decode m_Panel_steeperWay.2.1 31 = .ok (.if_icmp .gt 5, 3) := by decide +kernel
theorem d_Panel_steeperWay_34 : decode m_Panel_steeperWay.2.1 34 = .ok (.iconst 0, 1) := by decide +kernel
theorem d_Panel_steeperWay_35 : decode m_Panel_steeperWay.2.1 35 = .ok (.ireturn, 1) := by decide +kernel
theorem d_Panel_steeperWay_36 : decode m_Panel_steeperWay.2.1 36 = .ok (.iload_n 3, 1) := by decide +kernel
theorem d_Panel_steeperWay_37 : decode m_Panel_steeperWay.2.1 37 = .ok (.iload 4, 2) := by decide +kernel
theorem d_Panel_steeperWay_39 : decode m_Panel_steeperWay.2.1 39 = .ok (.if_icmp .le 7, 3) := by decide +kernel
theorem d_Panel_steeperWay_42 : decode m_Panel_steeperWay.2.1 42 = .ok (.iconst 1, 1) := by decide +kernel
theorem d_Panel_steeperWay_43 : decode m_Panel_steeperWay.2.1 43 = .ok (.goto 4, 3) := by decide +kernel
theorem d_Panel_steeperWay_46 : decode m_Panel_steeperWay.2.1 46 = .ok (.iconst (-1), 1) := by decide +kernel
theorem d_Panel_steeperWay_47 : decode m_Panel_steeperWay.2.1 47 = .ok (.ireturn, 1) := by decide +kernel
theorem d_Reader_init_0 : decode m_Reader_init.2.1 0 = .ok (.aload_n 0, 1) := by decide +kernel
theorem d_Reader_init_1 : decode m_Reader_init.2.1 1 = .ok (.invokespecial 3, 3) := by decide +kernel
theorem d_Reader_init_4 : decode m_Reader_init.2.1 4 = .ok (.aload_n 0, 1) := by decide +kernel
theorem d_Reader_init_5 : decode m_Reader_init.2.1 5 = .ok (.aload_n 1, 1) := by decide +kernel
theorem d_Reader_init_6 : decode m_Reader_init.2.1 6 = .ok (.putfield 9, 3) := by decide +kernel
theorem d_Reader_init_9 : decode m_Reader_init.2.1 9 = .ok (.aload_n 0, 1) := by decide +kernel
theorem d_Reader_init_10 : decode m_Reader_init.2.1 10 = .ok (.iconst (-1), 1) := by decide +kernel
theorem d_Reader_init_11 : decode m_Reader_init.2.1 11 = .ok (.putfield 15, 3) := by decide +kernel
theorem d_Reader_init_14 : decode m_Reader_init.2.1 14 = .ok (.return_, 1) := by decide +kernel
theorem d_Reader_readInto_0 : decode m_Reader_readInto.2.1 0 = .ok (.aload_n 0, 1) := by decide +kernel
theorem d_Reader_readInto_1 : decode m_Reader_readInto.2.1 1 = .ok (.iconst 0, 1) := by decide +kernel
theorem d_Reader_readInto_2 : decode m_Reader_readInto.2.1 2 = .ok (.putfield 19, 3) := by decide +kernel
theorem d_Reader_readInto_5 : decode m_Reader_readInto.2.1 5 = .ok (.aload_n 0, 1) := by decide +kernel
theorem d_Reader_readInto_6 : decode m_Reader_readInto.2.1 6 = .ok (.iconst (-1), 1) := by decide +kernel
theorem d_Reader_readInto_7 : decode m_Reader_readInto.2.1 7 = .ok (.putfield 15, 3) := by decide +kernel
theorem d_Reader_readInto_10 : decode m_Reader_readInto.2.1 10 = .ok (.aload_n 0, 1) := by decide +kernel
theorem d_Reader_readInto_11 : decode m_Reader_readInto.2.1 11 = .ok (.iload_n 2, 1) := by decide +kernel
theorem d_Reader_readInto_12 : decode m_Reader_readInto.2.1 12 = .ok (.putfield 22, 3) := by decide +kernel
theorem d_Reader_readInto_15 : decode m_Reader_readInto.2.1 15 = .ok (.aload_n 0, 1) := by decide +kernel
theorem d_Reader_readInto_16 : decode m_Reader_readInto.2.1 16 = .ok (.iconst 0, 1) := by decide +kernel
theorem d_Reader_readInto_17 : decode m_Reader_readInto.2.1 17 = .ok (.putfield 25, 3) := by decide +kernel
theorem d_Reader_readInto_20 : decode m_Reader_readInto.2.1 20 = .ok (.aload_n 0, 1) := by decide +kernel
theorem d_Reader_readInto_21 : decode m_Reader_readInto.2.1 21 = .ok (.iconst 0, 1) := by decide +kernel
theorem d_Reader_readInto_22 : decode m_Reader_readInto.2.1 22 = .ok (.putfield 28, 3) := by decide +kernel
theorem d_Reader_readInto_25 : decode m_Reader_readInto.2.1 25 = .ok (.aload_n 1, 1) := by decide +kernel
theorem d_Reader_readInto_26 : decode m_Reader_readInto.2.1 26 = .ok (.invokevirtual 31, 3) := by decide +kernel
theorem d_Reader_readInto_29 : decode m_Reader_readInto.2.1 29 = .ok (.aload_n 0, 1) := by decide +kernel
theorem d_Reader_readInto_30 : decode m_Reader_readInto.2.1 30 = .ok (.invokevirtual 36, 3) := by decide +kernel
theorem d_Reader_readInto_33 : decode m_Reader_readInto.2.1 33 = .ok (.iconst 0, 1) := by decide +kernel
theorem d_Reader_readInto_34 : decode m_Reader_readInto.2.1 34 = .ok (.istore_n 3, 1) := by decide +kernel
theorem d_Reader_readInto_35 : decode m_Reader_readInto.2.1 35 = .ok (.iconst 0, 1) := by decide +kernel
theorem d_Reader_readInto_36 : decode m_Reader_readInto.2.1 36 = .ok (.istore 4, 2) := by decide +kernel
theorem d_Reader_readInto_38 : decode m_Reader_readInto.2.1 38 = .ok (.iload 4, 2) := by decide +kernel
theorem d_Reader_readInto_40 : decode m_Reader_readInto.2.1 40 = .ok (.iload_n 2, 1) := by decide +kernel
theorem d_Reader_readInto_41 : decode m_Reader_readInto.2.1 41 = .ok (.if_icmp .gt 31, 3) := by decide +kernel
theorem d_Reader_readInto_44 : decode m_Reader_readInto.2.1 44 = .ok (.aload_n 0, 1) := by decide +kernel
theorem d_Reader_readInto_45 : decode m_Reader_readInto.2.1 45 = .ok (.getfield 39, 3) := by decide +kernel
theorem d_Reader_readInto_48 : decode m_Reader_readInto.2.1 48 = .ok (.ifCond .eq 24, 3) := by decide +kernel
theorem d_Reader_readInto_51 : decode m_Reader_readInto.2.1 51 = .ok (.aload_n 0, 1) := by decide +kernel
theorem d_Reader_readInto_52 : decode m_Reader_readInto.2.1 52 = .ok (.getfield 19, 3) := by decide +kernel
theorem d_Reader_readInto_55 : decode m_Reader_readInto.2.1 55 = .ok (.ifCond .ne 17, 3) := by decide +kernel
theorem d_Reader_readInto_58 : decode m_Reader_readInto.2.1 58 = .ok (.aload_n 0, 1) := by decide +kernel
theorem d_Reader_readInto_59 : decode m_Reader_readInto.2.1 59 = .ok (.aload_n 1, 1) := by decide +kernel
theorem d_Reader_readInto_60 : decode m_Reader_readInto.2.1 60 = .ok (.invokevirtual 42, 3) := by decide +kernel
theorem d_Reader_readInto_63 : decode m_Reader_readInto.2.1 63 = .ok (.iinc 3 1, 3) := by decide +kernel
theorem d_Reader_readInto_66 : decode m_Reader_readInto.2.1 66 = .ok (.iinc 4 1, 3) := by decide +kernel
theorem d_Reader_readInto_69 : decode m_Reader_readInto.2.1 69 = .ok (.goto (-31), 3) := by decide +kernel
theorem d_Reader_readInto_72 : decode m_Reader_readInto.2.1 72 = .ok (.aload_n 1, 1) := by decide +kernel
theorem d_Reader_readInto_73 : decode m_Reader_readInto.2.1 73 = .ok (.invokevirtual 46, 3) := by decide +kernel
theorem d_Reader_readInto_76 : decode m_Reader_readInto.2.1 76 = .ok (.aload_n 0, 1) := by decide +kernel
theorem d_Reader_readInto_77 : decode m_Reader_readInto.2.1 77 = .ok (.getfield 19, 3) := by decide +kernel
theorem d_Reader_readInto_80 : decode m_Reader_readInto.2.1 80 = .ok (.ifCond .ne 7, 3) := by decide +kernel
theorem d_Reader_readInto_83 : decode m_Reader_readInto.2.1 83 = .ok (.iload_n 3, 1) := by decide +kernel
theorem d_Reader_readInto_84 : decode m_Reader_readInto.2.1 84 = .ok (.goto 4, 3) := by decide +kernel
theorem d_Reader_readInto_87 : decode m_Reader_readInto.2.1 87 = .ok (.iconst (-1), 1) := by decide +kernel
theorem d_Reader_readInto_88 : decode m_Reader_readInto.2.1 88 = .ok (.ireturn, 1) := by decide +kernel
theorem d_Reader_readLine_0 : decode m_Reader_readLine.2.1 0 = .ok (.aload_n 0, 1) := by decide +kernel
theorem d_Reader_readLine_1 : decode m_Reader_readLine.2.1 1 = .ok (.invokevirtual 49, 3) := by decide +kernel
theorem d_Reader_readLine_4 : decode m_Reader_readLine.2.1 4 = .ok (.astore_n 2, 1) := by decide +kernel
theorem d_Reader_readLine_5 : decode m_Reader_readLine.2.1 5 = .ok (.getstatic 53, 3) := by decide +kernel
theorem d_Reader_readLine_8 : decode m_Reader_readLine.2.1 8 = .ok (.aload_n 2, 1) := by decide +kernel
theorem d_Reader_readLine_9 : decode m_Reader_readLine.2.1 9 = .ok (.invokevirtual 59, 3) := by decide +kernel
theorem d_Reader_readLine_12 : decode m_Reader_readLine.2.1 12 = .ok (.iaload, 1) := by decide +kernel
theorem d_Reader_readLine_13 : decode m_Reader_readLine.2.1 13 = .ok (.tableswitch 68 1 7 #[43, 51, 51, 51, 51, 51, 60], 43) := by decide +kernel
theorem d_Reader_readLine_56 : decode m_Reader_readLine.2.1 56 = .ok (.aload_n 0, 1) := by decide +kernel
theorem d_Reader_readLine_57 : decode m_Reader_readLine.2.1 57 = .ok (.aload_n 1, 1) := by decide +kernel
theorem d_Reader_readLine_58 : decode m_Reader_readLine.2.1 58 = .ok (.invokevirtual 65, 3) := by decide +kernel
theorem d_Reader_readLine_61 : decode m_Reader_readLine.2.1 61 = .ok (.goto 25, 3) := by decide +kernel
theorem d_Reader_readLine_64 : decode m_Reader_readLine.2.1 64 = .ok (.aload_n 0, 1) := by decide +kernel
theorem d_Reader_readLine_65 : decode m_Reader_readLine.2.1 65 = .ok (.aload_n 1, 1) := by decide +kernel
theorem d_Reader_readLine_66 : decode m_Reader_readLine.2.1 66 = .ok (.aload_n 2, 1) := by decide +kernel
theorem d_Reader_readLine_67 : decode m_Reader_readLine.2.1 67 = .ok (.invokevirtual 68, 3) := by decide +kernel
theorem d_Reader_readLine_70 : decode m_Reader_readLine.2.1 70 = .ok (.goto 16, 3) := by decide +kernel
theorem d_Reader_readLine_73 : decode m_Reader_readLine.2.1 73 = .ok (.aload_n 0, 1) := by decide +kernel
theorem d_Reader_readLine_74 : decode m_Reader_readLine.2.1 74 = .ok (.aload_n 1, 1) := by decide +kernel
theorem d_Reader_readLine_75 : decode m_Reader_readLine.2.1 75 = .ok (.invokevirtual 72, 3) := by decide +kernel
theorem d_Reader_readLine_78 : decode m_Reader_readLine.2.1 78 = .ok (.goto 8, 3) := by decide +kernel
theorem d_Reader_readLine_81 : decode m_Reader_readLine.2.1 81 = .ok (.aload_n 0, 1) := by decide +kernel
theorem d_Reader_readLine_82 : decode m_Reader_readLine.2.1 82 = .ok (.iconst 1, 1) := by decide +kernel
theorem d_Reader_readLine_83 : decode m_Reader_readLine.2.1 83 = .ok (.invokevirtual 75, 3) := by decide +kernel
theorem d_Reader_readLine_86 : decode m_Reader_readLine.2.1 86 = .ok (.aload_n 0, 1) := by decide +kernel
theorem d_Reader_readLine_87 : decode m_Reader_readLine.2.1 87 = .ok (.getfield 39, 3) := by decide +kernel
theorem d_Reader_readLine_90 : decode m_Reader_readLine.2.1 90 = .ok (.iconst 4, 1) := by decide +kernel
theorem d_Reader_readLine_91 : decode m_Reader_readLine.2.1 91 = .ok (.if_icmp .eq 8, 3) := by decide +kernel
theorem d_Reader_readLine_94 : decode m_Reader_readLine.2.1 94 = .ok (.aload_n 0, 1) := by decide +kernel
theorem d_Reader_readLine_95 : decode m_Reader_readLine.2.1 95 = .ok (.iconst 1, 1) := by decide +kernel
theorem d_Reader_readLine_96 : decode m_Reader_readLine.2.1 96 = .ok (.invokevirtual 75, 3) := by decide +kernel
theorem d_Reader_readLine_99 : decode m_Reader_readLine.2.1 99 = .ok (.aload_n 0, 1) := by decide +kernel
theorem d_Reader_readLine_100 : decode m_Reader_readLine.2.1 100 = .ok (.invokevirtual 36, 3) := by decide +kernel
theorem d_Reader_readLine_103 : decode m_Reader_readLine.2.1 103 = .ok (.return_, 1) := by decide +kernel
theorem d_Reader_readModule_0 : decode m_Reader_readModule.2.1 0 = .ok (.aload_n 0, 1) := by decide +kernel
theorem d_Reader_readModule_1 : decode m_Reader_readModule.2.1 1 = .ok (.getfield 28, 3) := by decide +kernel
theorem d_Reader_readModule_4 : decode m_Reader_readModule.2.1 4 = .ok (.ifCond .ne 13, 3) := by decide +kernel
theorem d_Reader_readModule_7 : decode m_Reader_readModule.2.1 7 = .ok (.aload_n 1, 1) := by decide +kernel
theorem d_Reader_readModule_8 : decode m_Reader_readModule.2.1 8 = .ok (.getfield 79, 3) := by decide +kernel
theorem d_Reader_readModule_11 : decode m_Reader_readModule.2.1 11 = .ok (.getfield 83, 3) := by decide +kernel
theorem d_Reader_readModule_14 : decode m_Reader_readModule.2.1 14 = .ok (.ifCond .le 8, 3) := by decide +kernel
theorem d_Reader_readModule_17 : decode m_Reader_readModule.2.1 17 = .ok (.aload_n 0, 1) := by decide +kernel
theorem d_Reader_readModule_18 : decode m_Reader_readModule.2.1 18 = .ok (.iconst 1, 1) := by decide +kernel
theorem d_Reader_readModule_19 : decode m_Reader_readModule.2.1 19 = .ok (.invokevirtual 75, 3) := by decide +kernel
theorem d_Reader_readModule_22 : decode m_Reader_readModule.2.1 22 = .ok (.aload_n 1, 1) := by decide +kernel
theorem d_Reader_readModule_23 : decode m_Reader_readModule.2.1 23 = .ok (.getfield 88, 3) := by decide +kernel
theorem d_Reader_readModule_26 : decode m_Reader_readModule.2.1 26 = .ok (.getfield 92, 3) := by decide +kernel
theorem d_Reader_readModule_29 : decode m_Reader_readModule.2.1 29 = .ok (.bipush 6, 2) := by decide +kernel
theorem d_Reader_readModule_31 : decode m_Reader_readModule.2.1 31 = .ok (.if_icmp .lt 8, 3) := by decide +kernel
theorem d_Reader_readModule_34 : decode m_Reader_readModule.2.1 34 = .ok (.aload_n 0, 1) := by decide +kernel
theorem d_Reader_readModule_35 : decode m_Reader_readModule.2.1 35 = .ok (.iconst 2, 1) := by decide +kernel
theorem d_Reader_readModule_36 : decode m_Reader_readModule.2.1 36 = .ok (.invokevirtual 75, 3) := by decide +kernel
theorem d_Reader_readModule_39 : decode m_Reader_readModule.2.1 39 = .ok (.aload_n 0, 1) := by decide +kernel
theorem d_Reader_readModule_40 : decode m_Reader_readModule.2.1 40 = .ok (.invokevirtual 36, 3) := by decide +kernel
theorem d_Reader_readModule_43 : decode m_Reader_readModule.2.1 43 = .ok (.aload_n 0, 1) := by decide +kernel
theorem d_Reader_readModule_44 : decode m_Reader_readModule.2.1 44 = .ok (.iconst 1, 1) := by decide +kernel
theorem d_Reader_readModule_45 : decode m_Reader_readModule.2.1 45 = .ok (.sipush 999, 3) := by decide +kernel
theorem d_Reader_readModule_48 : decode m_Reader_readModule.2.1 48 = .ok (.invokevirtual 95, 3) := by decide +kernel
theorem d_Reader_readModule_51 : decode m_Reader_readModule.2.1 51 = .ok (.istore_n 2, 1) := by decide +kernel
theorem d_Reader_readModule_52 : decode m_Reader_readModule.2.1 52 = .ok (.aload_n 0, 1) := by decide +kernel
theorem d_Reader_readModule_53 : decode m_Reader_readModule.2.1 53 = .ok (.iconst 1, 1) := by decide +kernel
theorem d_Reader_readModule_54 : decode m_Reader_readModule.2.1 54 = .ok (.sipush 999, 3) := by decide +kernel
theorem d_Reader_readModule_57 : decode m_Reader_readModule.2.1 57 = .ok (.invokevirtual 95, 3) := by decide +kernel
theorem d_Reader_readModule_60 : decode m_Reader_readModule.2.1 60 = .ok (.istore_n 3, 1) := by decide +kernel
theorem d_Reader_readModule_61 : decode m_Reader_readModule.2.1 61 = .ok (.aload_n 0, 1) := by decide +kernel
theorem d_Reader_readModule_62 : decode m_Reader_readModule.2.1 62 = .ok (.getfield 19, 3) := by decide +kernel
theorem d_Reader_readModule_65 : decode m_Reader_readModule.2.1 65 = .ok (.ifCond .ne 12, 3) := by decide +kernel
theorem d_Reader_readModule_68 : decode m_Reader_readModule.2.1 68 = .ok (.aload_n 1, 1) := by decide +kernel
theorem d_Reader_readModule_69 : decode m_Reader_readModule.2.1 69 = .ok (.getfield 88, 3) := by decide +kernel
theorem d_Reader_readModule_72 : decode m_Reader_readModule.2.1 72 = .ok (.iload_n 2, 1) := by decide +kernel
theorem d_Reader_readModule_73 : decode m_Reader_readModule.2.1 73 = .ok (.iload_n 3, 1) := by decide +kernel
theorem d_Reader_readModule_74 : decode m_Reader_readModule.2.1 74 = .ok (.invokevirtual 99, 3) := by decide +kernel
theorem d_Reader_readModule_77 : decode m_Reader_readModule.2.1 77 = .ok (.return_, 1) := by decide +kernel
theorem d_Reader_readSettings_0 : decode m_Reader_readSettings.2.1 0 = .ok (.iconst 1, 1) := by decide +kernel
theorem d_Reader_readSettings_1 : decode m_Reader_readSettings.2.1 1 = .ok (.aload_n 2, 1) := by decide +kernel
theorem d_Reader_readSettings_2 : decode m_Reader_readSettings.2.1 2 = .ok (.getfield 103, 3) := by decide +kernel
theorem d_Reader_readSettings_5 : decode m_Reader_readSettings.2.1 5 = .ok (.ishl, 1) := by decide +kernel
theorem d_Reader_readSettings_6 : decode m_Reader_readSettings.2.1 6 = .ok (.istore_n 3, 1) := by decide +kernel
theorem d_Reader_readSettings_7 : decode m_Reader_readSettings.2.1 7 = .ok (.aload_n 1, 1) := by decide +kernel
theorem d_Reader_readSettings_8 : decode m_Reader_readSettings.2.1 8 = .ok (.getfield 88, 3) := by decide +kernel
theorem d_Reader_readSettings_11 : decode m_Reader_readSettings.2.1 11 = .ok (.getfield 92, 3) := by decide +kernel
theorem d_Reader_readSettings_14 : decode m_Reader_readSettings.2.1 14 = .ok (.ifCond .eq 13, 3) := by decide +kernel
theorem d_Reader_readSettings_17 : decode m_Reader_readSettings.2.1 17 = .ok (.aload_n 1, 1) := by decide +kernel
theorem d_Reader_readSettings_18 : decode m_Reader_readSettings.2.1 18 = .ok (.getfield 79, 3) := by decide +kernel
theorem d_Reader_readSettings_21 : decode m_Reader_readSettings.2.1 21 = .ok (.getfield 83, 3) := by decide +kernel
theorem d_Reader_readSettings_24 : decode m_Reader_readSettings.2.1 24 = .ok (.ifCond .le 8, 3) := by decide +kernel
theorem d_Reader_readSettings_27 : decode m_Reader_readSettings.2.1 27 = .ok (.aload_n 0, 1) := by decide +kernel
theorem d_Reader_readSettings_28 : decode m_Reader_readSettings.2.1 28 = .ok (.iconst 1, 1) := by decide +kernel
theorem d_Reader_readSettings_29 : decode m_Reader_readSettings.2.1 29 = .ok (.invokevirtual 75, 3) := by decide +kernel
theorem d_Reader_readSettings_32 : decode m_Reader_readSettings.2.1 32 = .ok (.aload_n 0, 1) := by decide +kernel
theorem d_Reader_readSettings_33 : decode m_Reader_readSettings.2.1 33 = .ok (.getfield 28, 3) := by decide +kernel
theorem d_Reader_readSettings_36 : decode m_Reader_readSettings.2.1 36 = .ok (.iload_n 3, 1) := by decide +kernel
theorem d_Reader_readSettings_37 : decode m_Reader_readSettings.2.1 37 = .ok (.iand, 1) := by decide +kernel
theorem d_Reader_readSettings_38 : decode m_Reader_readSettings.2.1 38 = .ok (.ifCond .eq 8, 3) := by decide +kernel
theorem d_Reader_readSettings_41 : decode m_Reader_readSettings.2.1 41 = .ok (.aload_n 0, 1) := by decide +kernel
theorem d_Reader_readSettings_42 : decode m_Reader_readSettings.2.1 42 = .ok (.iconst 3, 1) := by decide +kernel
theorem d_Reader_readSettings_43 : decode m_Reader_readSettings.2.1 43 = .ok (.invokevirtual 75, 3) := by decide +kernel
theorem d_Reader_readSettings_46 : decode m_Reader_readSettings.2.1 46 = .ok (.aload_n 0, 1) := by decide +kernel
theorem d_Reader_readSettings_47 : decode m_Reader_readSettings.2.1 47 = .ok (.dup, 1) := by decide +kernel
theorem d_Reader_readSettings_48 : decode m_Reader_readSettings.2.1 48 = .ok (.getfield 28, 3) := by decide +kernel
theorem d_Reader_readSettings_51 : decode m_Reader_readSettings.2.1 51 = .ok (.iload_n 3, 1) := by decide +kernel
theorem d_Reader_readSettings_52 : decode m_Reader_readSettings.2.1 52 = .ok (.ior, 1) := by decide +kernel
theorem d_Reader_readSettings_53 : decode m_Reader_readSettings.2.1 53 = .ok (.putfield 28, 3) := by decide +kernel
theorem d_Reader_readSettings_56 : decode m_Reader_readSettings.2.1 56 = .ok (.aload_n 0, 1) := by decide +kernel
theorem d_Reader_readSettings_57 : decode m_Reader_readSettings.2.1 57 = .ok (.invokevirtual 36, 3) := by decide +kernel
theorem d_Reader_readSettings_60 : decode m_Reader_readSettings.2.1 60 = .ok (.aload_n 2, 1) := by decide +kernel
theorem d_Reader_readSettings_61 : decode m_Reader_readSettings.2.1 61 = .ok (.getfield 103, 3) := by decide +kernel
theorem d_Reader_readSettings_64 : decode m_Reader_readSettings.2.1 64 = .ok (.istore 4, 2) := by decide +kernel
theorem d_Reader_readSettings_66 : decode m_Reader_readSettings.2.1 66 = .ok (.iload 4, 2) := by decide +kernel
theorem d_Reader_readSettings_68 : decode m_Reader_readSettings.2.1 68 = .ok (.aload_n 2, 1) := by decide +kernel
theorem d_Reader_readSettings_69 : decode m_Reader_readSettings.2.1 69 = .ok (.getfield 106, 3) := by decide +kernel
theorem d_Reader_readSettings_72 : decode m_Reader_readSettings.2.1 72 = .ok (.if_icmp .gt 86, 3) := by decide +kernel
theorem d_Reader_readSettings_75 : decode m_Reader_readSettings.2.1 75 = .ok (.aload_n 0, 1) := by decide +kernel
theorem d_Reader_readSettings_76 : decode m_Reader_readSettings.2.1 76 = .ok (.getfield 19, 3) := by decide +kernel
theorem d_Reader_readSettings_79 : decode m_Reader_readSettings.2.1 79 = .ok (.ifCond .ne 79, 3) := by decide +kernel
theorem d_Reader_readSettings_82 : decode m_Reader_readSettings.2.1 82 = .ok (.iload 4, 2) := by decide +kernel
theorem d_Reader_readSettings_84 : decode m_Reader_readSettings.2.1 84 = .ok (.iconst 1, 1) := by decide +kernel
theorem d_Reader_readSettings_85 : decode m_Reader_readSettings.2.1 85 = .ok (.if_icmp .ne 23, 3) := by decide +kernel
theorem d_Reader_readSettings_88 : decode m_Reader_readSettings.2.1 88 = .ok (.aload_n 1, 1) := by decide +kernel
theorem d_Reader_readSettings_89 : decode m_Reader_readSettings.2.1 89 = .ok (.getfield 111, 3) := by decide +kernel
theorem d_Reader_readSettings_92 : decode m_Reader_readSettings.2.1 92 = .ok (.aload_n 0, 1) := by decide +kernel
theorem d_Reader_readSettings_93 : decode m_Reader_readSettings.2.1 93 = .ok (.iconst 0, 1) := by decide +kernel
theorem d_Reader_readSettings_94 : decode m_Reader_readSettings.2.1 94 = .ok (.aload_n 1, 1) := by decide +kernel
theorem d_Reader_readSettings_95 : decode m_Reader_readSettings.2.1 95 = .ok (.getfield 115, 3) := by decide +kernel
theorem d_Reader_readSettings_98 : decode m_Reader_readSettings.2.1 98 = .ok (.iconst 0, 1) := by decide +kernel
theorem d_Reader_readSettings_99 : decode m_Reader_readSettings.2.1 99 = .ok (.invokevirtual 119, 3) := by decide +kernel
theorem d_Reader_readSettings_102 : decode m_Reader_readSettings.2.1 102 = .ok (.invokevirtual 95, 3) := by decide +kernel
theorem d_Reader_readSettings_105 : decode m_Reader_readSettings.2.1 105 = .ok (.putfield 123, 3) := by decide +kernel
theorem d_Reader_readSettings_108 : decode m_Reader_readSettings.2.1 108 = .ok (.iload 4, 2) := by decide +kernel
theorem d_Reader_readSettings_110 : decode m_Reader_readSettings.2.1 110 = .ok (.iconst 3, 1) := by decide +kernel
theorem d_Reader_readSettings_111 : decode m_Reader_readSettings.2.1 111 = .ok (.if_icmp .ne 14, 3) := by decide +kernel
theorem d_Reader_readSettings_114 : decode m_Reader_readSettings.2.1 114 = .ok (.aload_n 1, 1) := by decide +kernel
theorem d_Reader_readSettings_115 : decode m_Reader_readSettings.2.1 115 = .ok (.getfield 115, 3) := by decide +kernel
theorem d_Reader_readSettings_118 : decode m_Reader_readSettings.2.1 118 = .ok (.iconst 2, 1) := by decide +kernel
theorem d_Reader_readSettings_119 : decode m_Reader_readSettings.2.1 119 = .ok (.invokevirtual 119, 3) := by decide +kernel
theorem d_Reader_readSettings_122 : decode m_Reader_readSettings.2.1 122 = .ok (.goto 8, 3) := by decide +kernel
theorem d_Reader_readSettings_125 : decode m_Reader_readSettings.2.1 125 = .ok (.iload 4, 2) := by decide +kernel
theorem d_Reader_readSettings_127 : decode m_Reader_readSettings.2.1 127 = .ok (.invokestatic 128, 3) := by decide +kernel
theorem d_Reader_readSettings_130 : decode m_Reader_readSettings.2.1 130 = .ok (.istore 5, 2) := by decide +kernel
theorem d_Reader_readSettings_132 : decode m_Reader_readSettings.2.1 132 = .ok (.aload_n 1, 1) := by decide +kernel
theorem d_Reader_readSettings_133 : decode m_Reader_readSettings.2.1 133 = .ok (.getfield 115, 3) := by decide +kernel
theorem d_Reader_readSettings_136 : decode m_Reader_readSettings.2.1 136 = .ok (.iload 4, 2) := by decide +kernel
theorem d_Reader_readSettings_138 : decode m_Reader_readSettings.2.1 138 = .ok (.aload_n 0, 1) := by decide +kernel
theorem d_Reader_readSettings_139 : decode m_Reader_readSettings.2.1 139 = .ok (.iload 4, 2) := by decide +kernel
theorem d_Reader_readSettings_141 : decode m_Reader_readSettings.2.1 141 = .ok (.invokestatic 131, 3) := by decide +kernel
theorem d_Reader_readSettings_144 : decode m_Reader_readSettings.2.1 144 = .ok (.iload 5, 2) := by decide +kernel
theorem d_Reader_readSettings_146 : decode m_Reader_readSettings.2.1 146 = .ok (.invokevirtual 95, 3) := by decide +kernel
theorem d_Reader_readSettings_149 : decode m_Reader_readSettings.2.1 149 = .ok (.invokevirtual 134, 3) := by decide +kernel
theorem d_Reader_readSettings_152 : decode m_Reader_readSettings.2.1 152 = .ok (.iinc 4 1, 3) := by decide +kernel
theorem d_Reader_readSettings_155 : decode m_Reader_readSettings.2.1 155 = .ok (.goto (-89), 3) := by decide +kernel
theorem d_Reader_readSettings_158 : decode m_Reader_readSettings.2.1 158 = .ok (.return_, 1) := by decide +kernel
theorem d_Reader_readAt_0 : decode m_Reader_readAt.2.1 0 = .ok (.aload_n 1, 1) := by decide +kernel
theorem d_Reader_readAt_1 : decode m_Reader_readAt.2.1 1 = .ok (.getfield 88, 3) := by decide +kernel
theorem d_Reader_readAt_4 : decode m_Reader_readAt.2.1 4 = .ok (.getfield 92, 3) := by decide +kernel
theorem d_Reader_readAt_7 : decode m_Reader_readAt.2.1 7 = .ok (.ifCond .ne 8, 3) := by decide +kernel
theorem d_Reader_readAt_10 : decode m_Reader_readAt.2.1 10 = .ok (.aload_n 0, 1) := by decide +kernel
theorem d_Reader_readAt_11 : decode m_Reader_readAt.2.1 11 = .ok (.iconst 1, 1) := by decide +kernel
theorem d_Reader_readAt_12 : decode m_Reader_readAt.2.1 12 = .ok (.invokevirtual 75, 3) := by decide +kernel
theorem d_Reader_readAt_15 : decode m_Reader_readAt.2.1 15 = .ok (.aload_n 1, 1) := by decide +kernel
theorem d_Reader_readAt_16 : decode m_Reader_readAt.2.1 16 = .ok (.getfield 79, 3) := by decide +kernel
theorem d_Reader_readAt_19 : decode m_Reader_readAt.2.1 19 = .ok (.getfield 83, 3) := by decide +kernel
theorem d_Reader_readAt_22 : decode m_Reader_readAt.2.1 22 = .ok (.bipush 24, 2) := by decide +kernel
theorem d_Reader_readAt_24 : decode m_Reader_readAt.2.1 24 = .ok (.if_icmp .lt 8, 3) := by decide +kernel
theorem d_Reader_readAt_27 : decode m_Reader_readAt.2.1 27 = .ok (.aload_n 0, 1) := by decide +kernel
theorem d_Reader_readAt_28 : decode m_Reader_readAt.2.1 28 = .ok (.iconst 2, 1) := by decide +kernel
theorem d_Reader_readAt_29 : decode m_Reader_readAt.2.1 29 = .ok (.invokevirtual 75, 3) := by decide +kernel
theorem d_Reader_readAt_32 : decode m_Reader_readAt.2.1 32 = .ok (.aload_n 0, 1) := by decide +kernel
theorem d_Reader_readAt_33 : decode m_Reader_readAt.2.1 33 = .ok (.invokevirtual 36, 3) := by decide +kernel
theorem d_Reader_readAt_36 : decode m_Reader_readAt.2.1 36 = .ok (.aload_n 0, 1) := by decide +kernel
theorem d_Reader_readAt_37 : decode m_Reader_readAt.2.1 37 = .ok (.iconst 1, 1) := by decide +kernel
theorem d_Reader_readAt_38 : decode m_Reader_readAt.2.1 38 = .ok (.sipush 9999, 3) := by decide +kernel
theorem d_Reader_readAt_41 : decode m_Reader_readAt.2.1 41 = .ok (.invokevirtual 95, 3) := by decide +kernel
theorem d_Reader_readAt_44 : decode m_Reader_readAt.2.1 44 = .ok (.istore_n 2, 1) := by decide +kernel
theorem d_Reader_readAt_45 : decode m_Reader_readAt.2.1 45 = .ok (.getstatic 53, 3) := by decide +kernel
theorem d_Reader_readAt_48 : decode m_Reader_readAt.2.1 48 = .ok (.aload_n 0, 1) := by decide +kernel
theorem d_Reader_readAt_49 : decode m_Reader_readAt.2.1 49 = .ok (.invokevirtual 49, 3) := by decide +kernel
theorem d_Reader_readAt_52 : decode m_Reader_readAt.2.1 52 = .ok (.invokevirtual 59, 3) := by decide +kernel
theorem d_Reader_readAt_55 : decode m_Reader_readAt.2.1 55 = .ok (.iaload, 1) := by decide +kernel
theorem d_Reader_readAt_56 : decode m_Reader_readAt.2.1 56 = .ok (.tableswitch 115 8 10 #[28, 65, 87], 28) := by decide +kernel
theorem d_Reader_readAt_84 : decode m_Reader_readAt.2.1 84 = .ok (.aload_n 0, 1) := by decide +kernel
theorem d_Reader_readAt_85 : decode m_Reader_readAt.2.1 85 = .ok (.invokevirtual 36, 3) := by decide +kernel
theorem d_Reader_readAt_88 : decode m_Reader_readAt.2.1 88 = .ok (.aload_n 0, 1) := by decide +kernel
theorem d_Reader_readAt_89 : decode m_Reader_readAt.2.1 89 = .ok (.iconst 0, 1) := by decide +kernel
theorem d_Reader_readAt_90 : decode m_Reader_readAt.2.1 90 = .ok (.aload_n 1, 1) := by decide +kernel
theorem d_Reader_readAt_91 : decode m_Reader_readAt.2.1 91 = .ok (.getfield 88, 3) := by decide +kernel
theorem d_Reader_readAt_94 : decode m_Reader_readAt.2.1 94 = .ok (.getfield 92, 3) := by decide +kernel
theorem d_Reader_readAt_97 : decode m_Reader_readAt.2.1 97 = .ok (.iconst 1, 1) := by decide +kernel
theorem d_Reader_readAt_98 : decode m_Reader_readAt.2.1 98 = .ok (.isub, 1) := by decide +kernel
theorem d_Reader_readAt_99 : decode m_Reader_readAt.2.1 99 = .ok (.invokevirtual 95, 3) := by decide +kernel
theorem d_Reader_readAt_102 : decode m_Reader_readAt.2.1 102 = .ok (.istore_n 3, 1) := by decide +kernel
theorem d_Reader_readAt_103 : decode m_Reader_readAt.2.1 103 = .ok (.aload_n 0, 1) := by decide +kernel
theorem d_Reader_readAt_104 : decode m_Reader_readAt.2.1 104 = .ok (.aload_n 1, 1) := by decide +kernel
theorem d_Reader_readAt_105 : decode m_Reader_readAt.2.1 105 = .ok (.iload_n 2, 1) := by decide +kernel
theorem d_Reader_readAt_106 : decode m_Reader_readAt.2.1 106 = .ok (.iconst 0, 1) := by decide +kernel
theorem d_Reader_readAt_107 : decode m_Reader_readAt.2.1 107 = .ok (.iload_n 3, 1) := by decide +kernel
theorem d_Reader_readAt_108 : decode m_Reader_readAt.2.1 108 = .ok (.aload_n 0, 1) := by decide +kernel
theorem d_Reader_readAt_109 : decode m_Reader_readAt.2.1 109 = .ok (.iconst 0, 1) := by decide +kernel
theorem d_Reader_readAt_110 : decode m_Reader_readAt.2.1 110 = .ok (.bipush 100, 2) := by decide +kernel
theorem d_Reader_readAt_112 : decode m_Reader_readAt.2.1 112 = .ok (.invokevirtual 95, 3) := by decide +kernel
theorem d_Reader_readAt_115 : decode m_Reader_readAt.2.1 115 = .ok (.invokevirtual 137, 3) := by decide +kernel
theorem d_Reader_readAt_118 : decode m_Reader_readAt.2.1 118 = .ok (.goto 58, 3) := by decide +kernel
theorem d_Reader_readAt_121 : decode m_Reader_readAt.2.1 121 = .ok (.aload_n 0, 1) := by decide +kernel
theorem d_Reader_readAt_122 : decode m_Reader_readAt.2.1 122 = .ok (.invokevirtual 36, 3) := by decide +kernel
theorem d_Reader_readAt_125 : decode m_Reader_readAt.2.1 125 = .ok (.aload_n 0, 1) := by decide +kernel
theorem d_Reader_readAt_126 : decode m_Reader_readAt.2.1 126 = .ok (.aload_n 1, 1) := by decide +kernel
theorem d_Reader_readAt_127 : decode m_Reader_readAt.2.1 127 = .ok (.iload_n 2, 1) := by decide +kernel
theorem d_Reader_readAt_128 : decode m_Reader_readAt.2.1 128 = .ok (.iconst 1, 1) := by decide +kernel
theorem d_Reader_readAt_129 : decode m_Reader_readAt.2.1 129 = .ok (.bipush (-2), 2) := by decide +kernel
theorem d_Reader_readAt_131 : decode m_Reader_readAt.2.1 131 = .ok (.aload_n 0, 1) := by decide +kernel
theorem d_Reader_readAt_132 : decode m_Reader_readAt.2.1 132 = .ok (.iconst 0, 1) := by decide +kernel
theorem d_Reader_readAt_133 : decode m_Reader_readAt.2.1 133 = .ok (.iconst 1, 1) := by decide +kernel
theorem d_Reader_readAt_134 : decode m_Reader_readAt.2.1 134 = .ok (.invokevirtual 95, 3) := by decide +kernel
theorem d_Reader_readAt_137 : decode m_Reader_readAt.2.1 137 = .ok (.invokevirtual 137, 3) := by decide +kernel
theorem d_Reader_readAt_140 : decode m_Reader_readAt.2.1 140 = .ok (.goto 36, 3) := by decide +kernel
theorem d_Reader_readAt_143 : decode m_Reader_readAt.2.1 143 = .ok (.aload_n 0, 1) := by decide +kernel
theorem d_Reader_readAt_144 : decode m_Reader_readAt.2.1 144 = .ok (.invokevirtual 36, 3) := by decide +kernel
theorem d_Reader_readAt_147 : decode m_Reader_readAt.2.1 147 = .ok (.aload_n 0, 1) := by decide +kernel
theorem d_Reader_readAt_148 : decode m_Reader_readAt.2.1 148 = .ok (.ldc 143, 2) := by decide +kernel
theorem d_Reader_readAt_150 : decode m_Reader_readAt.2.1 150 = .ok (.ldc 144, 2) := by decide +kernel
theorem d_Reader_readAt_152 : decode m_Reader_readAt.2.1 152 = .ok (.invokevirtual 95, 3) := by decide +kernel
theorem d_Reader_readAt_155 : decode m_Reader_readAt.2.1 155 = .ok (.istore 4, 2) := by decide +kernel
theorem d_Reader_readAt_157 : decode m_Reader_readAt.2.1 157 = .ok (.aload_n 0, 1) := by decide +kernel
theorem d_Reader_readAt_158 : decode m_Reader_readAt.2.1 158 = .ok (.aload_n 1, 1) := by decide +kernel
theorem d_Reader_readAt_159 : decode m_Reader_readAt.2.1 159 = .ok (.iload_n 2, 1) := by decide +kernel
theorem d_Reader_readAt_160 : decode m_Reader_readAt.2.1 160 = .ok (.iconst 2, 1) := by decide +kernel
theorem d_Reader_readAt_161 : decode m_Reader_readAt.2.1 161 = .ok (.bipush (-2), 2) := by decide +kernel
theorem d_Reader_readAt_163 : decode m_Reader_readAt.2.1 163 = .ok (.iload 4, 2) := by decide +kernel
theorem d_Reader_readAt_165 : decode m_Reader_readAt.2.1 165 = .ok (.invokevirtual 137, 3) := by decide +kernel
theorem d_Reader_readAt_168 : decode m_Reader_readAt.2.1 168 = .ok (.goto 8, 3) := by decide +kernel
theorem d_Reader_readAt_171 : decode m_Reader_readAt.2.1 171 = .ok (.aload_n 0, 1) := by decide +kernel
theorem d_Reader_readAt_172 : decode m_Reader_readAt.2.1 172 = .ok (.iconst 1, 1) := by decide +kernel
theorem d_Reader_readAt_173 : decode m_Reader_readAt.2.1 173 = .ok (.invokevirtual 75, 3) := by decide +kernel
theorem d_Reader_readAt_176 : decode m_Reader_readAt.2.1 176 = .ok (.return_, 1) := by decide +kernel
theorem d_Reader_addComing_0 : decode m_Reader_addComing.2.1 0 = .ok (.aload_n 0, 1) := by decide +kernel
theorem d_Reader_addComing_1 : decode m_Reader_addComing.2.1 1 = .ok (.getfield 19, 3) := by decide +kernel
theorem d_Reader_addComing_4 : decode m_Reader_addComing.2.1 4 = .ok (.ifCond .ne 16, 3) := by decide +kernel
theorem d_Reader_addComing_7 : decode m_Reader_addComing.2.1 7 = .ok (.aload_n 1, 1) := by decide +kernel
theorem d_Reader_addComing_8 : decode m_Reader_addComing.2.1 8 = .ok (.getfield 79, 3) := by decide +kernel
theorem d_Reader_addComing_11 : decode m_Reader_addComing.2.1 11 = .ok (.iload_n 2, 1) := by decide +kernel
theorem d_Reader_addComing_12 : decode m_Reader_addComing.2.1 12 = .ok (.iload_n 3, 1) := by decide +kernel
theorem d_Reader_addComing_13 : decode m_Reader_addComing.2.1 13 = .ok (.iload 4, 2) := by decide +kernel
theorem d_Reader_addComing_15 : decode m_Reader_addComing.2.1 15 = .ok (.iload 5, 2) := by decide +kernel
theorem d_Reader_addComing_17 : decode m_Reader_addComing.2.1 17 = .ok (.invokevirtual 145, 3) := by decide +kernel
theorem d_Reader_addComing_20 : decode m_Reader_addComing.2.1 20 = .ok (.return_, 1) := by decide +kernel
theorem d_Reader_refuse_0 : decode m_Reader_refuse.2.1 0 = .ok (.aload_n 0, 1) := by decide +kernel
theorem d_Reader_refuse_1 : decode m_Reader_refuse.2.1 1 = .ok (.getfield 19, 3) := by decide +kernel
theorem d_Reader_refuse_4 : decode m_Reader_refuse.2.1 4 = .ok (.ifCond .ne 16, 3) := by decide +kernel
theorem d_Reader_refuse_7 : decode m_Reader_refuse.2.1 7 = .ok (.aload_n 0, 1) := by decide +kernel
theorem d_Reader_refuse_8 : decode m_Reader_refuse.2.1 8 = .ok (.iload_n 1, 1) := by decide +kernel
theorem d_Reader_refuse_9 : decode m_Reader_refuse.2.1 9 = .ok (.putfield 19, 3) := by decide +kernel
theorem d_Reader_refuse_12 : decode m_Reader_refuse.2.1 12 = .ok (.aload_n 0, 1) := by decide +kernel
theorem d_Reader_refuse_13 : decode m_Reader_refuse.2.1 13 = .ok (.aload_n 0, 1) := by decide +kernel
theorem d_Reader_refuse_14 : decode m_Reader_refuse.2.1 14 = .ok (.getfield 149, 3) := by decide +kernel
theorem d_Reader_refuse_17 : decode m_Reader_refuse.2.1 17 = .ok (.putfield 15, 3) := by decide +kernel
theorem d_Reader_refuse_20 : decode m_Reader_refuse.2.1 20 = .ok (.return_, 1) := by decide +kernel
theorem d_Reader_readNumber_0 : decode m_Reader_readNumber.2.1 0 = .ok (.iconst 0, 1) := by decide +kernel
theorem d_Reader_readNumber_1 : decode m_Reader_readNumber.2.1 1 = .ok (.istore_n 3, 1) := by decide +kernel
theorem d_Reader_readNumber_2 : decode m_Reader_readNumber.2.1 2 = .ok (.aload_n 0, 1) := by decide +kernel
theorem d_Reader_readNumber_3 : decode m_Reader_readNumber.2.1 3 = .ok (.getfield 149, 3) := by decide +kernel
theorem d_Reader_readNumber_6 : decode m_Reader_readNumber.2.1 6 = .ok (.istore 4, 2) := by decide +kernel
theorem d_Reader_readNumber_8 : decode m_Reader_readNumber.2.1 8 = .ok (.iload 4, 2) := by decide +kernel
theorem d_Reader_readNumber_10 : decode m_Reader_readNumber.2.1 10 = .ok (.aload_n 0, 1) := by decide +kernel
theorem d_Reader_readNumber_11 : decode m_Reader_readNumber.2.1 11 = .ok (.getfield 25, 3) := by decide +kernel
theorem d_Reader_readNumber_14 : decode m_Reader_readNumber.2.1 14 = .ok (.if_icmp .ge 30, 3) := by decide +kernel
theorem d_Reader_readNumber_17 : decode m_Reader_readNumber.2.1 17 = .ok (.iload_n 3, 1) := by decide +kernel
theorem d_Reader_readNumber_18 : decode m_Reader_readNumber.2.1 18 = .ok (.ldc 152, 2) := by decide +kernel
theorem d_Reader_readNumber_20 : decode m_Reader_readNumber.2.1 20 = .ok (.if_icmp .ge 24, 3) := by decide +kernel
theorem d_Reader_readNumber_23 : decode m_Reader_readNumber.2.1 23 = .ok (.iload_n 3, 1) := by decide +kernel
theorem d_Reader_readNumber_24 : decode m_Reader_readNumber.2.1 24 = .ok (.bipush 10, 2) := by decide +kernel
theorem d_Reader_readNumber_26 : decode m_Reader_readNumber.2.1 26 = .ok (.imul, 1) := by decide +kernel
theorem d_Reader_readNumber_27 : decode m_Reader_readNumber.2.1 27 = .ok (.aload_n 0, 1) := by decide +kernel
theorem d_Reader_readNumber_28 : decode m_Reader_readNumber.2.1 28 = .ok (.iload 4, 2) := by decide +kernel
theorem d_Reader_readNumber_30 : decode m_Reader_readNumber.2.1 30 = .ok (.invokevirtual 153, 3) := by decide +kernel
theorem d_Reader_readNumber_33 : decode m_Reader_readNumber.2.1 33 = .ok (.iadd, 1) := by decide +kernel
theorem d_Reader_readNumber_34 : decode m_Reader_readNumber.2.1 34 = .ok (.bipush 48, 2) := by decide +kernel
theorem d_Reader_readNumber_36 : decode m_Reader_readNumber.2.1 36 = .ok (.isub, 1) := by decide +kernel
theorem d_Reader_readNumber_37 : decode m_Reader_readNumber.2.1 37 = .ok (.istore_n 3, 1) := by decide +kernel
theorem d_Reader_readNumber_38 : decode m_Reader_readNumber.2.1 38 = .ok (.iinc 4 1, 3) := by decide +kernel
theorem d_Reader_readNumber_41 : decode m_Reader_readNumber.2.1 41 = .ok (.goto (-33), 3) := by decide +kernel
theorem d_Reader_readNumber_44 : decode m_Reader_readNumber.2.1 44 = .ok (.aload_n 0, 1) := by decide +kernel
theorem d_Reader_readNumber_45 : decode m_Reader_readNumber.2.1 45 = .ok (.getfield 39, 3) := by decide +kernel
theorem d_Reader_readNumber_48 : decode m_Reader_readNumber.2.1 48 = .ok (.iconst 3, 1) := by decide +kernel
theorem d_Reader_readNumber_49 : decode m_Reader_readNumber.2.1 49 = .ok (.if_icmp .eq 11, 3) := by decide +kernel
theorem d_Reader_readNumber_52 : decode m_Reader_readNumber.2.1 52 = .ok (.aload_n 0, 1) := by decide +kernel
theorem d_Reader_readNumber_53 : decode m_Reader_readNumber.2.1 53 = .ok (.iconst 1, 1) := by decide +kernel
theorem d_Reader_readNumber_54 : decode m_Reader_readNumber.2.1 54 = .ok (.invokevirtual 75, 3) := by decide +kernel
theorem d_Reader_readNumber_57 : decode m_Reader_readNumber.2.1 57 = .ok (.goto 18, 3) := by decide +kernel
theorem d_Reader_readNumber_60 : decode m_Reader_readNumber.2.1 60 = .ok (.iload_n 3, 1) := by decide +kernel
theorem d_Reader_readNumber_61 : decode m_Reader_readNumber.2.1 61 = .ok (.iload_n 1, 1) := by decide +kernel
theorem d_Reader_readNumber_62 : decode m_Reader_readNumber.2.1 62 = .ok (.if_icmp .lt 8, 3) := by decide +kernel
theorem d_Reader_readNumber_65 : decode m_Reader_readNumber.2.1 65 = .ok (.iload_n 3, 1) := by decide +kernel
theorem d_Reader_readNumber_66 : decode m_Reader_readNumber.2.1 66 = .ok (.iload_n 2, 1) := by decide +kernel
theorem d_Reader_readNumber_67 : decode m_Reader_readNumber.2.1 67 = .ok (.if_icmp .le 8, 3) := by decide +kernel
theorem d_Reader_readNumber_70 : decode m_Reader_readNumber.2.1 70 = .ok (.aload_n 0, 1) := by decide +kernel
theorem d_Reader_readNumber_71 : decode m_Reader_readNumber.2.1 71 = .ok (.iconst 2, 1) := by decide +kernel
theorem d_Reader_readNumber_72 : decode m_Reader_readNumber.2.1 72 = .ok (.invokevirtual 75, 3) := by decide +kernel
theorem d_Reader_readNumber_75 : decode m_Reader_readNumber.2.1 75 = .ok (.aload_n 0, 1) := by decide +kernel
theorem d_Reader_readNumber_76 : decode m_Reader_readNumber.2.1 76 = .ok (.invokevirtual 36, 3) := by decide +kernel
theorem d_Reader_readNumber_79 : decode m_Reader_readNumber.2.1 79 = .ok (.iload_n 3, 1) := by decide +kernel
theorem d_Reader_readNumber_80 : decode m_Reader_readNumber.2.1 80 = .ok (.ireturn, 1) := by decide +kernel
theorem d_Reader_wordHere_0 : decode m_Reader_wordHere.2.1 0 = .ok (.iconst 0, 1) := by decide +kernel
theorem d_Reader_wordHere_1 : decode m_Reader_wordHere.2.1 1 = .ok (.istore_n 1, 1) := by decide +kernel
theorem d_Reader_wordHere_2 : decode m_Reader_wordHere.2.1 2 = .ok (.iload_n 1, 1) := by decide +kernel
theorem d_Reader_wordHere_3 : decode m_Reader_wordHere.2.1 3 = .ok (.getstatic 156, 3) := by decide +kernel
theorem d_Reader_wordHere_6 : decode m_Reader_wordHere.2.1 6 = .ok (.arraylength, 1) := by decide +kernel
theorem d_Reader_wordHere_7 : decode m_Reader_wordHere.2.1 7 = .ok (.if_icmp .ge 38, 3) := by decide +kernel
theorem d_Reader_wordHere_10 : decode m_Reader_wordHere.2.1 10 = .ok (.aload_n 0, 1) := by decide +kernel
theorem d_Reader_wordHere_11 : decode m_Reader_wordHere.2.1 11 = .ok (.getfield 39, 3) := by decide +kernel
theorem d_Reader_wordHere_14 : decode m_Reader_wordHere.2.1 14 = .ok (.iconst 2, 1) := by decide +kernel
theorem d_Reader_wordHere_15 : decode m_Reader_wordHere.2.1 15 = .ok (.if_icmp .ne 24, 3) := by decide +kernel
theorem d_Reader_wordHere_18 : decode m_Reader_wordHere.2.1 18 = .ok (.aload_n 0, 1) := by decide +kernel
theorem d_Reader_wordHere_19 : decode m_Reader_wordHere.2.1 19 = .ok (.getstatic 156, 3) := by decide +kernel
theorem d_Reader_wordHere_22 : decode m_Reader_wordHere.2.1 22 = .ok (.iload_n 1, 1) := by decide +kernel
theorem d_Reader_wordHere_23 : decode m_Reader_wordHere.2.1 23 = .ok (.aaload, 1) := by decide +kernel
theorem d_Reader_wordHere_24 : decode m_Reader_wordHere.2.1 24 = .ok (.getfield 160, 3) := by decide +kernel
theorem d_Reader_wordHere_27 : decode m_Reader_wordHere.2.1 27 = .ok (.invokevirtual 164, 3) := by decide +kernel
theorem d_Reader_wordHere_30 : decode m_Reader_wordHere.2.1 30 = .ok (.ifCond .eq 9, 3) := by decide +kernel
theorem d_Reader_wordHere_33 : decode m_Reader_wordHere.2.1 33 = .ok (.getstatic 156, 3) := by decide +kernel
theorem d_Reader_wordHere_36 : decode m_Reader_wordHere.2.1 36 = .ok (.iload_n 1, 1) := by decide +kernel
theorem d_Reader_wordHere_37 : decode m_Reader_wordHere.2.1 37 = .ok (.aaload, 1) := by decide +kernel
theorem d_Reader_wordHere_38 : decode m_Reader_wordHere.2.1 38 = .ok (.areturn, 1) := by decide +kernel
theorem d_Reader_wordHere_39 : decode m_Reader_wordHere.2.1 39 = .ok (.iinc 1 1, 3) := by decide +kernel
theorem d_Reader_wordHere_42 : decode m_Reader_wordHere.2.1 42 = .ok (.goto (-40), 3) := by decide +kernel
theorem d_Reader_wordHere_45 : decode m_Reader_wordHere.2.1 45 = .ok (.getstatic 168, 3) := by decide +kernel
theorem d_Reader_wordHere_48 : decode m_Reader_wordHere.2.1 48 = .ok (.areturn, 1) := by decide +kernel
theorem d_Reader_isSpelt_0 : decode m_Reader_isSpelt.2.1 0 = .ok (.aload_n 1, 1) := by decide +kernel
theorem d_Reader_isSpelt_1 : decode m_Reader_isSpelt.2.1 1 = .ok (.invokevirtual 172, 3) := by decide +kernel
theorem d_Reader_isSpelt_4 : decode m_Reader_isSpelt.2.1 4 = .ok (.aload_n 0, 1) := by decide +kernel
theorem d_Reader_isSpelt_5 : decode m_Reader_isSpelt.2.1 5 = .ok (.getfield 25, 3) := by decide +kernel
theorem d_Reader_isSpelt_8 : decode m_Reader_isSpelt.2.1 8 = .ok (.aload_n 0, 1) := by decide +kernel
theorem d_Reader_isSpelt_9 : decode m_Reader_isSpelt.2.1 9 = .ok (.getfield 149, 3) := by decide +kernel
theorem d_Reader_isSpelt_12 : decode m_Reader_isSpelt.2.1 12 = .ok (.isub, 1) := by decide +kernel
theorem d_Reader_isSpelt_13 : decode m_Reader_isSpelt.2.1 13 = .ok (.if_icmp .eq 5, 3) := by decide +kernel
theorem d_Reader_isSpelt_16 : decode m_Reader_isSpelt.2.1 16 = .ok (.iconst 0, 1) := by decide +kernel
theorem d_Reader_isSpelt_17 : decode m_Reader_isSpelt.2.1 17 = .ok (.ireturn, 1) := by decide +kernel
theorem d_Reader_isSpelt_18 : decode m_Reader_isSpelt.2.1 18 = .ok (.iconst 0, 1) := by decide +kernel
theorem d_Reader_isSpelt_19 : decode m_Reader_isSpelt.2.1 19 = .ok (.istore_n 2, 1) := by decide +kernel
theorem d_Reader_isSpelt_20 : decode m_Reader_isSpelt.2.1 20 = .ok (.iload_n 2, 1) := by decide +kernel
theorem d_Reader_isSpelt_21 : decode m_Reader_isSpelt.2.1 21 = .ok (.aload_n 1, 1) := by decide +kernel
theorem d_Reader_isSpelt_22 : decode m_Reader_isSpelt.2.1 22 = .ok (.invokevirtual 172, 3) := by decide +kernel
theorem d_Reader_isSpelt_25 : decode m_Reader_isSpelt.2.1 25 = .ok (.if_icmp .ge 29, 3) := by decide +kernel
theorem d_Reader_isSpelt_28 : decode m_Reader_isSpelt.2.1 28 = .ok (.aload_n 1, 1) := by decide +kernel
theorem d_Reader_isSpelt_29 : decode m_Reader_isSpelt.2.1 29 = .ok (.iload_n 2, 1) := by decide +kernel
theorem d_Reader_isSpelt_30 : decode m_Reader_isSpelt.2.1 30 = .ok (.invokevirtual 176, 3) := by decide +kernel
theorem d_Reader_isSpelt_33 : decode m_Reader_isSpelt.2.1 33 = .ok (.aload_n 0, 1) := by decide +kernel
theorem d_Reader_isSpelt_34 : decode m_Reader_isSpelt.2.1 34 = .ok (.aload_n 0, 1) := by decide +kernel
theorem d_Reader_isSpelt_35 : decode m_Reader_isSpelt.2.1 35 = .ok (.getfield 149, 3) := by decide +kernel
theorem d_Reader_isSpelt_38 : decode m_Reader_isSpelt.2.1 38 = .ok (.iload_n 2, 1) := by decide +kernel
theorem d_Reader_isSpelt_39 : decode m_Reader_isSpelt.2.1 39 = .ok (.iadd, 1) := by decide +kernel
theorem d_Reader_isSpelt_40 : decode m_Reader_isSpelt.2.1 40 = .ok (.invokevirtual 153, 3) := by decide +kernel
theorem d_Reader_isSpelt_43 : decode m_Reader_isSpelt.2.1 43 = .ok (.if_icmp .eq 5, 3) := by decide +kernel
theorem d_Reader_isSpelt_46 : decode m_Reader_isSpelt.2.1 46 = .ok (.iconst 0, 1) := by decide +kernel
theorem d_Reader_isSpelt_47 : decode m_Reader_isSpelt.2.1 47 = .ok (.ireturn, 1) := by decide +kernel
theorem d_Reader_isSpelt_48 : decode m_Reader_isSpelt.2.1 48 = .ok (.iinc 2 1, 3) := by decide +kernel
theorem d_Reader_isSpelt_51 : decode m_Reader_isSpelt.2.1 51 = .ok (.goto (-31), 3) := by decide +kernel
theorem d_Reader_isSpelt_54 : decode m_Reader_isSpelt.2.1 54 = .ok (.iconst 1, 1) := by decide +kernel
theorem d_Reader_isSpelt_55 : decode m_Reader_isSpelt.2.1 55 = .ok (.ireturn, 1) := by decide +kernel
theorem d_Reader_nextToken_0 : decode m_Reader_nextToken.2.1 0 = .ok (.aload_n 0, 1) := by decide +kernel
theorem d_Reader_nextToken_1 : decode m_Reader_nextToken.2.1 1 = .ok (.aload_n 0, 1) := by decide +kernel
theorem d_Reader_nextToken_2 : decode m_Reader_nextToken.2.1 2 = .ok (.getfield 25, 3) := by decide +kernel
theorem d_Reader_nextToken_5 : decode m_Reader_nextToken.2.1 5 = .ok (.putfield 149, 3) := by decide +kernel
theorem d_Reader_nextToken_8 : decode m_Reader_nextToken.2.1 8 = .ok (.aload_n 0, 1) := by decide +kernel
theorem d_Reader_nextToken_9 : decode m_Reader_nextToken.2.1 9 = .ok (.getfield 149, 3) := by decide +kernel
theorem d_Reader_nextToken_12 : decode m_Reader_nextToken.2.1 12 = .ok (.aload_n 0, 1) := by decide +kernel
theorem d_Reader_nextToken_13 : decode m_Reader_nextToken.2.1 13 = .ok (.getfield 22, 3) := by decide +kernel
theorem d_Reader_nextToken_16 : decode m_Reader_nextToken.2.1 16 = .ok (.if_icmp .ge 31, 3) := by decide +kernel
theorem d_Reader_nextToken_19 : decode m_Reader_nextToken.2.1 19 = .ok (.aload_n 0, 1) := by decide +kernel
theorem d_Reader_nextToken_20 : decode m_Reader_nextToken.2.1 20 = .ok (.aload_n 0, 1) := by decide +kernel
theorem d_Reader_nextToken_21 : decode m_Reader_nextToken.2.1 21 = .ok (.getfield 149, 3) := by decide +kernel
theorem d_Reader_nextToken_24 : decode m_Reader_nextToken.2.1 24 = .ok (.invokevirtual 153, 3) := by decide +kernel
theorem d_Reader_nextToken_27 : decode m_Reader_nextToken.2.1 27 = .ok (.invokestatic 180, 3) := by decide +kernel
theorem d_Reader_nextToken_30 : decode m_Reader_nextToken.2.1 30 = .ok (.iconst 1, 1) := by decide +kernel
theorem d_Reader_nextToken_31 : decode m_Reader_nextToken.2.1 31 = .ok (.if_icmp .ne 16, 3) := by decide +kernel
theorem d_Reader_nextToken_34 : decode m_Reader_nextToken.2.1 34 = .ok (.aload_n 0, 1) := by decide +kernel
theorem d_Reader_nextToken_35 : decode m_Reader_nextToken.2.1 35 = .ok (.dup, 1) := by decide +kernel
theorem d_Reader_nextToken_36 : decode m_Reader_nextToken.2.1 36 = .ok (.getfield 149, 3) := by decide +kernel
theorem d_Reader_nextToken_39 : decode m_Reader_nextToken.2.1 39 = .ok (.iconst 1, 1) := by decide +kernel
theorem d_Reader_nextToken_40 : decode m_Reader_nextToken.2.1 40 = .ok (.iadd, 1) := by decide +kernel
theorem d_Reader_nextToken_41 : decode m_Reader_nextToken.2.1 41 = .ok (.putfield 149, 3) := by decide +kernel
theorem d_Reader_nextToken_44 : decode m_Reader_nextToken.2.1 44 = .ok (.goto (-36), 3) := by decide +kernel
theorem d_Reader_nextToken_47 : decode m_Reader_nextToken.2.1 47 = .ok (.aload_n 0, 1) := by decide +kernel
theorem d_Reader_nextToken_48 : decode m_Reader_nextToken.2.1 48 = .ok (.aload_n 0, 1) := by decide +kernel
theorem d_Reader_nextToken_49 : decode m_Reader_nextToken.2.1 49 = .ok (.getfield 149, 3) := by decide +kernel
theorem d_Reader_nextToken_52 : decode m_Reader_nextToken.2.1 52 = .ok (.aload_n 0, 1) := by decide +kernel
theorem d_Reader_nextToken_53 : decode m_Reader_nextToken.2.1 53 = .ok (.getfield 22, 3) := by decide +kernel
theorem d_Reader_nextToken_56 : decode m_Reader_nextToken.2.1 56 = .ok (.if_icmp .ge 17, 3) := by decide +kernel
theorem d_Reader_nextToken_59 : decode m_Reader_nextToken.2.1 59 = .ok (.aload_n 0, 1) := by decide +kernel
theorem d_Reader_nextToken_60 : decode m_Reader_nextToken.2.1 60 = .ok (.aload_n 0, 1) := by decide +kernel
theorem d_Reader_nextToken_61 : decode m_Reader_nextToken.2.1 61 = .ok (.getfield 149, 3) := by decide +kernel
theorem d_Reader_nextToken_64 : decode m_Reader_nextToken.2.1 64 = .ok (.invokevirtual 153, 3) := by decide +kernel
theorem d_Reader_nextToken_67 : decode m_Reader_nextToken.2.1 67 = .ok (.invokestatic 180, 3) := by decide +kernel
theorem d_Reader_nextToken_70 : decode m_Reader_nextToken.2.1 70 = .ok (.goto 4, 3) := by decide +kernel
theorem d_Reader_nextToken_73 : decode m_Reader_nextToken.2.1 73 = .ok (.iconst 0, 1) := by decide +kernel
theorem d_Reader_nextToken_74 : decode m_Reader_nextToken.2.1 74 = .ok (.putfield 39, 3) := by decide +kernel
theorem d_Reader_nextToken_77 : decode m_Reader_nextToken.2.1 77 = .ok (.aload_n 0, 1) := by decide +kernel
theorem d_Reader_nextToken_78 : decode m_Reader_nextToken.2.1 78 = .ok (.aload_n 0, 1) := by decide +kernel
theorem d_Reader_nextToken_79 : decode m_Reader_nextToken.2.1 79 = .ok (.getfield 149, 3) := by decide +kernel
theorem d_Reader_nextToken_82 : decode m_Reader_nextToken.2.1 82 = .ok (.iconst 1, 1) := by decide +kernel
theorem d_Reader_nextToken_83 : decode m_Reader_nextToken.2.1 83 = .ok (.iadd, 1) := by decide +kernel
theorem d_Reader_nextToken_84 : decode m_Reader_nextToken.2.1 84 = .ok (.aload_n 0, 1) := by decide +kernel
theorem d_Reader_nextToken_85 : decode m_Reader_nextToken.2.1 85 = .ok (.getfield 22, 3) := by decide +kernel
theorem d_Reader_nextToken_88 : decode m_Reader_nextToken.2.1 88 = .ok (.invokestatic 183, 3) := by decide +kernel
theorem d_Reader_nextToken_91 : decode m_Reader_nextToken.2.1 91 = .ok (.putfield 25, 3) := by decide +kernel
theorem d_Reader_nextToken_94 : decode m_Reader_nextToken.2.1 94 = .ok (.aload_n 0, 1) := by decide +kernel
theorem d_Reader_nextToken_95 : decode m_Reader_nextToken.2.1 95 = .ok (.getfield 39, 3) := by decide +kernel
theorem d_Reader_nextToken_98 : decode m_Reader_nextToken.2.1 98 = .ok (.iconst 2, 1) := by decide +kernel
theorem d_Reader_nextToken_99 : decode m_Reader_nextToken.2.1 99 = .ok (.if_icmp .eq 11, 3) := by decide +kernel
theorem d_Reader_nextToken_102 : decode m_Reader_nextToken.2.1 102 = .ok (.aload_n 0, 1) := by decide +kernel
theorem d_Reader_nextToken_103 : decode m_Reader_nextToken.2.1 103 = .ok (.getfield 39, 3) := by decide +kernel
theorem d_Reader_nextToken_106 : decode m_Reader_nextToken.2.1 106 = .ok (.iconst 3, 1) := by decide +kernel
theorem d_Reader_nextToken_107 : decode m_Reader_nextToken.2.1 107 = .ok (.if_icmp .ne 45, 3) := by decide +kernel
theorem d_Reader_nextToken_110 : decode m_Reader_nextToken.2.1 110 = .ok (.aload_n 0, 1) := by decide +kernel
theorem d_Reader_nextToken_111 : decode m_Reader_nextToken.2.1 111 = .ok (.getfield 25, 3) := by decide +kernel
theorem d_Reader_nextToken_114 : decode m_Reader_nextToken.2.1 114 = .ok (.aload_n 0, 1) := by decide +kernel
theorem d_Reader_nextToken_115 : decode m_Reader_nextToken.2.1 115 = .ok (.getfield 22, 3) := by decide +kernel
theorem d_Reader_nextToken_118 : decode m_Reader_nextToken.2.1 118 = .ok (.if_icmp .ge 34, 3) := by decide +kernel
theorem d_Reader_nextToken_121 : decode m_Reader_nextToken.2.1 121 = .ok (.aload_n 0, 1) := by decide +kernel
theorem d_Reader_nextToken_122 : decode m_Reader_nextToken.2.1 122 = .ok (.aload_n 0, 1) := by decide +kernel
theorem d_Reader_nextToken_123 : decode m_Reader_nextToken.2.1 123 = .ok (.getfield 25, 3) := by decide +kernel
theorem d_Reader_nextToken_126 : decode m_Reader_nextToken.2.1 126 = .ok (.invokevirtual 153, 3) := by decide +kernel
theorem d_Reader_nextToken_129 : decode m_Reader_nextToken.2.1 129 = .ok (.invokestatic 180, 3) := by decide +kernel
theorem d_Reader_nextToken_132 : decode m_Reader_nextToken.2.1 132 = .ok (.aload_n 0, 1) := by decide +kernel
theorem d_Reader_nextToken_133 : decode m_Reader_nextToken.2.1 133 = .ok (.getfield 39, 3) := by decide +kernel
theorem d_Reader_nextToken_136 : decode m_Reader_nextToken.2.1 136 = .ok (.if_icmp .ne 16, 3) := by decide +kernel
theorem d_Reader_nextToken_139 : decode m_Reader_nextToken.2.1 139 = .ok (.aload_n 0, 1) := by decide +kernel
theorem d_Reader_nextToken_140 : decode m_Reader_nextToken.2.1 140 = .ok (.dup, 1) := by decide +kernel
theorem d_Reader_nextToken_141 : decode m_Reader_nextToken.2.1 141 = .ok (.getfield 25, 3) := by decide +kernel
theorem d_Reader_nextToken_144 : decode m_Reader_nextToken.2.1 144 = .ok (.iconst 1, 1) := by decide +kernel
theorem d_Reader_nextToken_145 : decode m_Reader_nextToken.2.1 145 = .ok (.iadd, 1) := by decide +kernel
theorem d_Reader_nextToken_146 : decode m_Reader_nextToken.2.1 146 = .ok (.putfield 25, 3) := by decide +kernel
theorem d_Reader_nextToken_149 : decode m_Reader_nextToken.2.1 149 = .ok (.goto (-39), 3) := by decide +kernel
theorem d_Reader_nextToken_152 : decode m_Reader_nextToken.2.1 152 = .ok (.return_, 1) := by decide +kernel
theorem d_Reader_signAt_0 : decode m_Reader_signAt.2.1 0 = .ok (.iload_n 1, 1) := by decide +kernel
theorem d_Reader_signAt_1 : decode m_Reader_signAt.2.1 1 = .ok (.ifCond .lt 37, 3) := by decide +kernel
theorem d_Reader_signAt_4 : decode m_Reader_signAt.2.1 4 = .ok (.iload_n 1, 1) := by decide +kernel
theorem d_Reader_signAt_5 : decode m_Reader_signAt.2.1 5 = .ok (.aload_n 0, 1) := by decide +kernel
theorem d_Reader_signAt_6 : decode m_Reader_signAt.2.1 6 = .ok (.getfield 9, 3) := by decide +kernel
theorem d_Reader_signAt_9 : decode m_Reader_signAt.2.1 9 = .ok (.getfield 188, 3) := by decide +kernel
theorem d_Reader_signAt_12 : decode m_Reader_signAt.2.1 12 = .ok (.if_icmp .ge 26, 3) := by decide +kernel
theorem d_Reader_signAt_15 : decode m_Reader_signAt.2.1 15 = .ok (.iload_n 1, 1) := by decide +kernel
theorem d_Reader_signAt_16 : decode m_Reader_signAt.2.1 16 = .ok (.sipush 900, 3) := by decide +kernel
theorem d_Reader_signAt_19 : decode m_Reader_signAt.2.1 19 = .ok (.if_icmp .ge 19, 3) := by decide +kernel
theorem d_Reader_signAt_22 : decode m_Reader_signAt.2.1 22 = .ok (.aload_n 0, 1) := by decide +kernel
theorem d_Reader_signAt_23 : decode m_Reader_signAt.2.1 23 = .ok (.getfield 9, 3) := by decide +kernel
theorem d_Reader_signAt_26 : decode m_Reader_signAt.2.1 26 = .ok (.getfield 193, 3) := by decide +kernel
theorem d_Reader_signAt_29 : decode m_Reader_signAt.2.1 29 = .ok (.iload_n 1, 1) := by decide +kernel
theorem d_Reader_signAt_30 : decode m_Reader_signAt.2.1 30 = .ok (.baload, 1) := by decide +kernel
theorem d_Reader_signAt_31 : decode m_Reader_signAt.2.1 31 = .ok (.sipush 255, 3) := by decide +kernel
theorem d_Reader_signAt_34 : decode m_Reader_signAt.2.1 34 = .ok (.iand, 1) := by decide +kernel
theorem d_Reader_signAt_35 : decode m_Reader_signAt.2.1 35 = .ok (.goto 4, 3) := by decide +kernel
theorem d_Reader_signAt_38 : decode m_Reader_signAt.2.1 38 = .ok (.iconst 0, 1) := by decide +kernel
theorem d_Reader_signAt_39 : decode m_Reader_signAt.2.1 39 = .ok (.ireturn, 1) := by decide +kernel
theorem d_Reader_kindOf_0 : decode m_Reader_kindOf.2.1 0 = .ok (.iload_n 0, 1) := by decide +kernel
theorem d_Reader_kindOf_1 : decode m_Reader_kindOf.2.1 1 = .ok (.bipush 10, 2) := by decide +kernel
theorem d_Reader_kindOf_3 : decode m_Reader_kindOf.2.1 3 = .ok (.if_icmp .eq 9, 3) := by decide +kernel
theorem d_Reader_kindOf_6 : decode m_Reader_kindOf.2.1 6 = .ok (.iload_n 0, 1) := by decide +kernel
theorem d_Reader_kindOf_7 : decode m_Reader_kindOf.2.1 7 = .ok (.bipush 32, 2) := by decide +kernel
theorem d_Reader_kindOf_9 : decode m_Reader_kindOf.2.1 9 = .ok (.if_icmp .ne 5, 3) := by decide +kernel
theorem d_Reader_kindOf_12 : decode m_Reader_kindOf.2.1 12 = .ok (.iconst 1, 1) := by decide +kernel
theorem d_Reader_kindOf_13 : decode m_Reader_kindOf.2.1 13 = .ok (.ireturn, 1) := by decide +kernel
theorem d_Reader_kindOf_14 : decode m_Reader_kindOf.2.1 14 = .ok (.iload_n 0, 1) := by decide +kernel
theorem d_Reader_kindOf_15 : decode m_Reader_kindOf.2.1 15 = .ok (.bipush 97, 2) := by decide +kernel
theorem d_Reader_kindOf_17 : decode m_Reader_kindOf.2.1 17 = .ok (.if_icmp .lt 11, 3) := by decide +kernel
theorem d_Reader_kindOf_20 : decode m_Reader_kindOf.2.1 20 = .ok (.iload_n 0, 1) := by decide +kernel
theorem d_Reader_kindOf_21 : decode m_Reader_kindOf.2.1 21 = .ok (.bipush 122, 2) := by decide +kernel
theorem d_Reader_kindOf_23 : decode m_Reader_kindOf.2.1 23 = .ok (.if_icmp .gt 5, 3) := by decide +kernel
theorem d_Reader_kindOf_26 : decode m_Reader_kindOf.2.1 26 = .ok (.iconst 2, 1) := by decide +kernel
theorem d_Reader_kindOf_27 : decode m_Reader_kindOf.2.1 27 = .ok (.ireturn, 1) := by decide +kernel
theorem d_Reader_kindOf_28 : decode m_Reader_kindOf.2.1 28 = .ok (.iload_n 0, 1) := by decide +kernel
theorem d_Reader_kindOf_29 : decode m_Reader_kindOf.2.1 29 = .ok (.bipush 48, 2) := by decide +kernel
theorem d_Reader_kindOf_31 : decode m_Reader_kindOf.2.1 31 = .ok (.if_icmp .lt 11, 3) := by decide +kernel
theorem d_Reader_kindOf_34 : decode m_Reader_kindOf.2.1 34 = .ok (.iload_n 0, 1) := by decide +kernel
theorem d_Reader_kindOf_35 : decode m_Reader_kindOf.2.1 35 = .ok (.bipush 57, 2) := by decide +kernel
theorem d_Reader_kindOf_37 : decode m_Reader_kindOf.2.1 37 = .ok (.if_icmp .gt 5, 3) := by decide +kernel
theorem d_Reader_kindOf_40 : decode m_Reader_kindOf.2.1 40 = .ok (.iconst 3, 1) := by decide +kernel
theorem d_Reader_kindOf_41 : decode m_Reader_kindOf.2.1 41 = .ok (.ireturn, 1) := by decide +kernel
theorem d_Reader_kindOf_42 : decode m_Reader_kindOf.2.1 42 = .ok (.iload_n 0, 1) := by decide +kernel
theorem d_Reader_kindOf_43 : decode m_Reader_kindOf.2.1 43 = .ok (.bipush 59, 2) := by decide +kernel
theorem d_Reader_kindOf_45 : decode m_Reader_kindOf.2.1 45 = .ok (.if_icmp .ne 7, 3) := by decide +kernel
theorem d_Reader_kindOf_48 : decode m_Reader_kindOf.2.1 48 = .ok (.iconst 4, 1) := by decide +kernel
theorem d_Reader_kindOf_49 : decode m_Reader_kindOf.2.1 49 = .ok (.goto 4, 3) := by decide +kernel
theorem d_Reader_kindOf_52 : decode m_Reader_kindOf.2.1 52 = .ok (.iconst 5, 1) := by decide +kernel
theorem d_Reader_kindOf_53 : decode m_Reader_kindOf.2.1 53 = .ok (.ireturn, 1) := by decide +kernel
theorem d_Schedule_init_0 : decode m_Schedule_init.2.1 0 = .ok (.aload_n 0, 1) := by decide +kernel
theorem d_Schedule_init_1 : decode m_Schedule_init.2.1 1 = .ok (.invokespecial 3, 3) := by decide +kernel
theorem d_Schedule_init_4 : decode m_Schedule_init.2.1 4 = .ok (.aload_n 0, 1) := by decide +kernel
theorem d_Schedule_init_5 : decode m_Schedule_init.2.1 5 = .ok (.bipush 96, 2) := by decide +kernel
theorem d_Schedule_init_7 : decode m_Schedule_init.2.1 7 = .ok (.newarray .int, 2) := by decide +kernel
theorem d_Schedule_init_9 : decode m_Schedule_init.2.1 9 = .ok (.putfield 11, 3) := by decide +kernel
theorem d_Schedule_init_12 : decode m_Schedule_init.2.1 12 = .ok (.return_, 1) := by decide +kernel
theorem d_Schedule_renew_0 : decode m_Schedule_renew.2.1 0 = .ok (.aload_n 0, 1) := by decide +kernel
theorem d_Schedule_renew_1 : decode m_Schedule_renew.2.1 1 = .ok (.iconst 0, 1) := by decide +kernel
theorem d_Schedule_renew_2 : decode m_Schedule_renew.2.1 2 = .ok (.putfield 15, 3) := by decide +kernel
theorem d_Schedule_renew_5 : decode m_Schedule_renew.2.1 5 = .ok (.aload_n 0, 1) := by decide +kernel
theorem d_Schedule_renew_6 : decode m_Schedule_renew.2.1 6 = .ok (.iconst 0, 1) := by decide +kernel
theorem d_Schedule_renew_7 : decode m_Schedule_renew.2.1 7 = .ok (.putfield 19, 3) := by decide +kernel
theorem d_Schedule_renew_10 : decode m_Schedule_renew.2.1 10 = .ok (.return_, 1) := by decide +kernel
theorem d_Schedule_copyFrom_0 : decode m_Schedule_copyFrom.2.1 0 = .ok (.aload_n 0, 1) := by decide +kernel
theorem d_Schedule_copyFrom_1 : decode m_Schedule_copyFrom.2.1 1 = .ok (.aload_n 1, 1) := by decide +kernel
theorem d_Schedule_copyFrom_2 : decode m_Schedule_copyFrom.2.1 2 = .ok (.getfield 15, 3) := by decide +kernel
theorem d_Schedule_copyFrom_5 : decode m_Schedule_copyFrom.2.1 5 = .ok (.putfield 15, 3) := by decide +kernel
theorem d_Schedule_copyFrom_8 : decode m_Schedule_copyFrom.2.1 8 = .ok (.aload_n 0, 1) := by decide +kernel
theorem d_Schedule_copyFrom_9 : decode m_Schedule_copyFrom.2.1 9 = .ok (.aload_n 1, 1) := by decide +kernel
theorem d_Schedule_copyFrom_10 : decode m_Schedule_copyFrom.2.1 10 = .ok (.getfield 19, 3) := by decide +kernel
theorem d_Schedule_copyFrom_13 : decode m_Schedule_copyFrom.2.1 13 = .ok (.putfield 19, 3) := by decide +kernel
theorem d_Schedule_copyFrom_16 : decode m_Schedule_copyFrom.2.1 16 = .ok (.aload_n 1, 1) := by decide +kernel
theorem d_Schedule_copyFrom_17 : decode m_Schedule_copyFrom.2.1 17 = .ok (.getfield 11, 3) := by decide +kernel
theorem d_Schedule_copyFrom_20 : decode m_Schedule_copyFrom.2.1 20 = .ok (.iconst 0, 1) := by decide +kernel
theorem d_Schedule_copyFrom_21 : decode m_Schedule_copyFrom.2.1 21 = .ok (.aload_n 0, 1) := by decide +kernel
theorem d_Schedule_copyFrom_22 : decode m_Schedule_copyFrom.2.1 22 = .ok (.getfield 11, 3) := by decide +kernel
theorem d_Schedule_copyFrom_25 : decode m_Schedule_copyFrom.2.1 25 = .ok (.iconst 0, 1) := by decide +kernel
theorem d_Schedule_copyFrom_26 : decode m_Schedule_copyFrom.2.1 26 = .ok (.bipush 96, 2) := by decide +kernel
theorem d_Schedule_copyFrom_28 : decode m_Schedule_copyFrom.2.1 28 = .ok (.invokestatic 22, 3) := by decide +kernel
theorem d_Schedule_copyFrom_31 : decode m_Schedule_copyFrom.2.1 31 = .ok (.return_, 1) := by decide +kernel
theorem d_Schedule_left_0 : decode m_Schedule_left.2.1 0 = .ok (.aload_n 0, 1) := by decide +kernel
theorem d_Schedule_left_1 : decode m_Schedule_left.2.1 1 = .ok (.getfield 15, 3) := by decide +kernel
theorem d_Schedule_left_4 : decode m_Schedule_left.2.1 4 = .ok (.aload_n 0, 1) := by decide +kernel
theorem d_Schedule_left_5 : decode m_Schedule_left.2.1 5 = .ok (.getfield 19, 3) := by decide +kernel
theorem d_Schedule_left_8 : decode m_Schedule_left.2.1 8 = .ok (.isub, 1) := by decide +kernel
theorem d_Schedule_left_9 : decode m_Schedule_left.2.1 9 = .ok (.ireturn, 1) := by decide +kernel
theorem d_Schedule_get_0 : decode m_Schedule_get.2.1 0 = .ok (.iload_n 1, 1) := by decide +kernel
theorem d_Schedule_get_1 : decode m_Schedule_get.2.1 1 = .ok (.ifCond .lt 24, 3) := by decide +kernel
theorem d_Schedule_get_4 : decode m_Schedule_get.2.1 4 = .ok (.iload_n 1, 1) := by decide +kernel
theorem d_Schedule_get_5 : decode m_Schedule_get.2.1 5 = .ok (.aload_n 0, 1) := by decide +kernel
theorem d_Schedule_get_6 : decode m_Schedule_get.2.1 6 = .ok (.invokevirtual 28, 3) := by decide +kernel
theorem d_Schedule_get_9 : decode m_Schedule_get.2.1 9 = .ok (.if_icmp .ge 16, 3) := by decide +kernel
theorem d_Schedule_get_12 : decode m_Schedule_get.2.1 12 = .ok (.iload_n 2, 1) := by decide +kernel
theorem d_Schedule_get_13 : decode m_Schedule_get.2.1 13 = .ok (.ifCond .lt 12, 3) := by decide +kernel
theorem d_Schedule_get_16 : decode m_Schedule_get.2.1 16 = .ok (.iload_n 2, 1) := by decide +kernel
theorem d_Schedule_get_17 : decode m_Schedule_get.2.1 17 = .ok (.iconst 4, 1) := by decide +kernel
theorem d_Schedule_get_18 : decode m_Schedule_get.2.1 18 = .ok (.if_icmp .ge 7, 3) := by decide +kernel
theorem d_Schedule_get_21 : decode m_Schedule_get.2.1 21 = .ok (.iconst 1, 1) := by decide +kernel
theorem d_Schedule_get_22 : decode m_Schedule_get.2.1 22 = .ok (.goto 4, 3) := by decide +kernel
theorem d_Schedule_get_25 : decode m_Schedule_get.2.1 25 = .ok (.iconst 0, 1) := by decide +kernel
theorem d_Schedule_get_26 : decode m_Schedule_get.2.1 26 = .ok (.istore_n 3, 1) := by decide +kernel
theorem d_Schedule_get_27 : decode m_Schedule_get.2.1 27 = .ok (.iload_n 3, 1) := by decide +kernel
theorem d_Schedule_get_28 : decode m_Schedule_get.2.1 28 = .ok (.ifCond .eq 21, 3) := by decide +kernel
theorem d_Schedule_get_31 : decode m_Schedule_get.2.1 31 = .ok (.aload_n 0, 1) := by decide +kernel
theorem d_Schedule_get_32 : decode m_Schedule_get.2.1 32 = .ok (.getfield 11, 3) := by decide +kernel
theorem d_Schedule_get_35 : decode m_Schedule_get.2.1 35 = .ok (.aload_n 0, 1) := by decide +kernel
theorem d_Schedule_get_36 : decode m_Schedule_get.2.1 36 = .ok (.getfield 19, 3) := by decide +kernel
theorem d_Schedule_get_39 : decode m_Schedule_get.2.1 39 = .ok (.iload_n 1, 1) := by decide +kernel
theorem d_Schedule_get_40 : decode m_Schedule_get.2.1 40 = .ok (.iadd, 1) := by decide +kernel
theorem d_Schedule_get_41 : decode m_Schedule_get.2.1 41 = .ok (.iconst 4, 1) := by decide +kernel
theorem d_Schedule_get_42 : decode m_Schedule_get.2.1 42 = .ok (.imul, 1) := by decide +kernel
theorem d_Schedule_get_43 : decode m_Schedule_get.2.1 43 = .ok (.iload_n 2, 1) := by decide +kernel
theorem d_Schedule_get_44 : decode m_Schedule_get.2.1 44 = .ok (.iadd, 1) := by decide +kernel
theorem d_Schedule_get_45 : decode m_Schedule_get.2.1 45 = .ok (.iaload, 1) := by decide +kernel
theorem d_Schedule_get_46 : decode m_Schedule_get.2.1 46 = .ok (.goto 5, 3) := by decide +kernel
theorem d_Schedule_get_49 : decode m_Schedule_get.2.1 49 = .ok (.bipush (-2), 2) := by decide +kernel
theorem d_Schedule_get_51 : decode m_Schedule_get.2.1 51 = .ok (.ireturn, 1) := by decide +kernel
theorem d_Schedule_add_0 : decode m_Schedule_add.2.1 0 = .ok (.aload_n 0, 1) := by decide +kernel
theorem d_Schedule_add_1 : decode m_Schedule_add.2.1 1 = .ok (.getfield 15, 3) := by decide +kernel
theorem d_Schedule_add_4 : decode m_Schedule_add.2.1 4 = .ok (.bipush 24, 2) := by decide +kernel
theorem d_Schedule_add_6 : decode m_Schedule_add.2.1 6 = .ok (.if_icmp .lt 4, 3) := by decide +kernel
theorem d_Schedule_add_9 : decode m_Schedule_add.2.1 9 = .ok (.return_, 1) := by decide +kernel
theorem d_Schedule_add_10 : decode m_Schedule_add.2.1 10 = .ok (.aload_n 0, 1) := by decide +kernel
theorem d_Schedule_add_11 : decode m_Schedule_add.2.1 11 = .ok (.getfield 15, 3) := by decide +kernel
theorem d_Schedule_add_14 : decode m_Schedule_add.2.1 14 = .ok (.istore 5, 2) := by decide +kernel
theorem d_Schedule_add_16 : decode m_Schedule_add.2.1 16 = .ok (.aload_n 0, 1) := by decide +kernel
theorem d_Schedule_add_17 : decode m_Schedule_add.2.1 17 = .ok (.getfield 15, 3) := by decide +kernel
theorem d_Schedule_add_20 : decode m_Schedule_add.2.1 20 = .ok (.istore 6, 2) := by decide +kernel
theorem d_Schedule_add_22 : decode m_Schedule_add.2.1 22 = .ok (.iload 6, 2) := by decide +kernel
theorem d_Schedule_add_24 : decode m_Schedule_add.2.1 24 = .ok (.ifCond .le 54, 3) := by decide +kernel
theorem d_Schedule_add_27 : decode m_Schedule_add.2.1 27 = .ok (.aload_n 0, 1) := by decide +kernel
theorem d_Schedule_add_28 : decode m_Schedule_add.2.1 28 = .ok (.getfield 11, 3) := by decide +kernel
theorem d_Schedule_add_31 : decode m_Schedule_add.2.1 31 = .ok (.iload 6, 2) := by decide +kernel
theorem d_Schedule_add_33 : decode m_Schedule_add.2.1 33 = .ok (.iconst 1, 1) := by decide +kernel
theorem d_Schedule_add_34 : decode m_Schedule_add.2.1 34 = .ok (.isub, 1) := by decide +kernel
theorem d_Schedule_add_35 : decode m_Schedule_add.2.1 35 = .ok (.iconst 4, 1) := by decide +kernel
theorem d_Schedule_add_36 : decode m_Schedule_add.2.1 36 = .ok (.imul, 1) := by decide +kernel
theorem d_Schedule_add_37 : decode m_Schedule_add.2.1 37 = .ok (.iconst 0, 1) := by decide +kernel
theorem d_Schedule_add_38 : decode m_Schedule_add.2.1 38 = .ok (.iadd, 1) := by decide +kernel
theorem d_Schedule_add_39 : decode m_Schedule_add.2.1 39 = .ok (.iaload, 1) := by decide +kernel
theorem d_Schedule_add_40 : decode m_Schedule_add.2.1 40 = .ok (.iload_n 1, 1) := by decide +kernel
theorem d_Schedule_add_41 : decode m_Schedule_add.2.1 41 = .ok (.if_icmp .le 37, 3) := by decide +kernel
theorem d_Schedule_add_44 : decode m_Schedule_add.2.1 44 = .ok (.aload_n 0, 1) := by decide +kernel
theorem d_Schedule_add_45 : decode m_Schedule_add.2.1 45 = .ok (.getfield 11, 3) := by decide +kernel
theorem d_Schedule_add_48 : decode m_Schedule_add.2.1 48 = .ok (.iload 6, 2) := by decide +kernel
theorem d_Schedule_add_50 : decode m_Schedule_add.2.1 50 = .ok (.iconst 1, 1) := by decide +kernel
theorem d_Schedule_add_51 : decode m_Schedule_add.2.1 51 = .ok (.isub, 1) := by decide +kernel
theorem d_Schedule_add_52 : decode m_Schedule_add.2.1 52 = .ok (.iconst 4, 1) := by decide +kernel
theorem d_Schedule_add_53 : decode m_Schedule_add.2.1 53 = .ok (.imul, 1) := by decide +kernel
theorem d_Schedule_add_54 : decode m_Schedule_add.2.1 54 = .ok (.aload_n 0, 1) := by decide +kernel
theorem d_Schedule_add_55 : decode m_Schedule_add.2.1 55 = .ok (.getfield 11, 3) := by decide +kernel
theorem d_Schedule_add_58 : decode m_Schedule_add.2.1 58 = .ok (.iload 6, 2) := by decide +kernel
theorem d_Schedule_add_60 : decode m_Schedule_add.2.1 60 = .ok (.iconst 4, 1) := by decide +kernel
theorem d_Schedule_add_61 : decode m_Schedule_add.2.1 61 = .ok (.imul, 1) := by decide +kernel
theorem d_Schedule_add_62 : decode m_Schedule_add.2.1 62 = .ok (.iconst 4, 1) := by decide +kernel
theorem d_Schedule_add_63 : decode m_Schedule_add.2.1 63 = .ok (.invokestatic 22, 3) := by decide +kernel
theorem d_Schedule_add_66 : decode m_Schedule_add.2.1 66 = .ok (.iload 6, 2) := by decide +kernel
theorem d_Schedule_add_68 : decode m_Schedule_add.2.1 68 = .ok (.iconst 1, 1) := by decide +kernel
theorem d_Schedule_add_69 : decode m_Schedule_add.2.1 69 = .ok (.isub, 1) := by decide +kernel
theorem d_Schedule_add_70 : decode m_Schedule_add.2.1 70 = .ok (.istore 5, 2) := by decide +kernel
theorem d_Schedule_add_72 : decode m_Schedule_add.2.1 72 = .ok (.iinc 6 (-1), 3) := by decide +kernel
theorem d_Schedule_add_75 : decode m_Schedule_add.2.1 75 = .ok (.goto (-53), 3) := by decide +kernel
theorem d_Schedule_add_78 : decode m_Schedule_add.2.1 78 = .ok (.aload_n 0, 1) := by decide +kernel
theorem d_Schedule_add_79 : decode m_Schedule_add.2.1 79 = .ok (.getfield 11, 3) := by decide +kernel
theorem d_Schedule_add_82 : decode m_Schedule_add.2.1 82 = .ok (.iload 5, 2) := by decide +kernel
theorem d_Schedule_add_84 : decode m_Schedule_add.2.1 84 = .ok (.iconst 4, 1) := by decide +kernel
theorem d_Schedule_add_85 : decode m_Schedule_add.2.1 85 = .ok (.imul, 1) := by decide +kernel
theorem d_Schedule_add_86 : decode m_Schedule_add.2.1 86 = .ok (.iconst 0, 1) := by decide +kernel
theorem d_Schedule_add_87 : decode m_Schedule_add.2.1 87 = .ok (.iadd, 1) := by decide +kernel
theorem d_Schedule_add_88 : decode m_Schedule_add.2.1 88 = .ok (.iload_n 1, 1) := by decide +kernel
theorem d_Schedule_add_89 : decode m_Schedule_add.2.1 89 = .ok (.iastore, 1) := by decide +kernel
theorem d_Schedule_add_90 : decode m_Schedule_add.2.1 90 = .ok (.aload_n 0, 1) := by decide +kernel
theorem d_Schedule_add_91 : decode m_Schedule_add.2.1 91 = .ok (.getfield 11, 3) := by decide +kernel
theorem d_Schedule_add_94 : decode m_Schedule_add.2.1 94 = .ok (.iload 5, 2) := by decide +kernel
theorem d_Schedule_add_96 : decode m_Schedule_add.2.1 96 = .ok (.iconst 4, 1) := by decide +kernel
theorem d_Schedule_add_97 : decode m_Schedule_add.2.1 97 = .ok (.imul, 1) := by decide +kernel
theorem d_Schedule_add_98 : decode m_Schedule_add.2.1 98 = .ok (.iconst 1, 1) := by decide +kernel
theorem d_Schedule_add_99 : decode m_Schedule_add.2.1 99 = .ok (.iadd, 1) := by decide +kernel
theorem d_Schedule_add_100 : decode m_Schedule_add.2.1 100 = .ok (.iload_n 2, 1) := by decide +kernel
theorem d_Schedule_add_101 : decode m_Schedule_add.2.1 101 = .ok (.iastore, 1) := by decide +kernel
theorem d_Schedule_add_102 : decode m_Schedule_add.2.1 102 = .ok (.aload_n 0, 1) := by decide +kernel
theorem d_Schedule_add_103 : decode m_Schedule_add.2.1 103 = .ok (.getfield 11, 3) := by decide +kernel
theorem d_Schedule_add_106 : decode m_Schedule_add.2.1 106 = .ok (.iload 5, 2) := by decide +kernel
theorem d_Schedule_add_108 : decode m_Schedule_add.2.1 108 = .ok (.iconst 4, 1) := by decide +kernel
theorem d_Schedule_add_109 : decode m_Schedule_add.2.1 109 = .ok (.imul, 1) := by decide +kernel
theorem d_Schedule_add_110 : decode m_Schedule_add.2.1 110 = .ok (.iconst 2, 1) := by decide +kernel
theorem d_Schedule_add_111 : decode m_Schedule_add.2.1 111 = .ok (.iadd, 1) := by decide +kernel
theorem d_Schedule_add_112 : decode m_Schedule_add.2.1 112 = .ok (.iload_n 3, 1) := by decide +kernel
theorem d_Schedule_add_113 : decode m_Schedule_add.2.1 113 = .ok (.iastore, 1) := by decide +kernel
theorem d_Schedule_add_114 : decode m_Schedule_add.2.1 114 = .ok (.aload_n 0, 1) := by decide +kernel
theorem d_Schedule_add_115 : decode m_Schedule_add.2.1 115 = .ok (.getfield 11, 3) := by decide +kernel
theorem d_Schedule_add_118 : decode m_Schedule_add.2.1 118 = .ok (.iload 5, 2) := by decide +kernel
theorem d_Schedule_add_120 : decode m_Schedule_add.2.1 120 = .ok (.iconst 4, 1) := by decide +kernel
theorem d_Schedule_add_121 : decode m_Schedule_add.2.1 121 = .ok (.imul, 1) := by decide +kernel
theorem d_Schedule_add_122 : decode m_Schedule_add.2.1 122 = .ok (.iconst 3, 1) := by decide +kernel
theorem d_Schedule_add_123 : decode m_Schedule_add.2.1 123 = .ok (.iadd, 1) := by decide +kernel
theorem d_Schedule_add_124 : decode m_Schedule_add.2.1 124 = .ok (.iload 4, 2) := by decide +kernel
theorem d_Schedule_add_126 : decode m_Schedule_add.2.1 126 = .ok (.iastore, 1) := by decide +kernel
theorem d_Schedule_add_127 : decode m_Schedule_add.2.1 127 = .ok (.aload_n 0, 1) := by decide +kernel
theorem d_Schedule_add_128 : decode m_Schedule_add.2.1 128 = .ok (.dup, 1) := by decide +kernel
theorem d_Schedule_add_129 : decode m_Schedule_add.2.1 129 = .ok (.getfield 15, 3) := by decide +kernel
theorem d_Schedule_add_132 : decode m_Schedule_add.2.1 132 = .ok (.iconst 1, 1) := by decide +kernel
theorem d_Schedule_add_133 : decode m_Schedule_add.2.1 133 = .ok (.iadd, 1) := by decide +kernel
theorem d_Schedule_add_134 : decode m_Schedule_add.2.1 134 = .ok (.putfield 15, 3) := by decide +kernel
theorem d_Schedule_add_137 : decode m_Schedule_add.2.1 137 = .ok (.return_, 1) := by decide +kernel
theorem d_Schedule_drop_0 : decode m_Schedule_drop.2.1 0 = .ok (.iload_n 1, 1) := by decide +kernel
theorem d_Schedule_drop_1 : decode m_Schedule_drop.2.1 1 = .ok (.ifCond .lt 11, 3) := by decide +kernel
theorem d_Schedule_drop_4 : decode m_Schedule_drop.2.1 4 = .ok (.iload_n 1, 1) := by decide +kernel
theorem d_Schedule_drop_5 : decode m_Schedule_drop.2.1 5 = .ok (.aload_n 0, 1) := by decide +kernel
theorem d_Schedule_drop_6 : decode m_Schedule_drop.2.1 6 = .ok (.invokevirtual 28, 3) := by decide +kernel
theorem d_Schedule_drop_9 : decode m_Schedule_drop.2.1 9 = .ok (.if_icmp .lt 4, 3) := by decide +kernel
theorem d_Schedule_drop_12 : decode m_Schedule_drop.2.1 12 = .ok (.return_, 1) := by decide +kernel
theorem d_Schedule_drop_13 : decode m_Schedule_drop.2.1 13 = .ok (.aload_n 0, 1) := by decide +kernel
theorem d_Schedule_drop_14 : decode m_Schedule_drop.2.1 14 = .ok (.getfield 19, 3) := by decide +kernel
theorem d_Schedule_drop_17 : decode m_Schedule_drop.2.1 17 = .ok (.iload_n 1, 1) := by decide +kernel
theorem d_Schedule_drop_18 : decode m_Schedule_drop.2.1 18 = .ok (.iadd, 1) := by decide +kernel
theorem d_Schedule_drop_19 : decode m_Schedule_drop.2.1 19 = .ok (.iconst 1, 1) := by decide +kernel
theorem d_Schedule_drop_20 : decode m_Schedule_drop.2.1 20 = .ok (.iadd, 1) := by decide +kernel
theorem d_Schedule_drop_21 : decode m_Schedule_drop.2.1 21 = .ok (.istore_n 2, 1) := by decide +kernel
theorem d_Schedule_drop_22 : decode m_Schedule_drop.2.1 22 = .ok (.aload_n 0, 1) := by decide +kernel
theorem d_Schedule_drop_23 : decode m_Schedule_drop.2.1 23 = .ok (.getfield 11, 3) := by decide +kernel
theorem d_Schedule_drop_26 : decode m_Schedule_drop.2.1 26 = .ok (.iload_n 2, 1) := by decide +kernel
theorem d_Schedule_drop_27 : decode m_Schedule_drop.2.1 27 = .ok (.iconst 4, 1) := by decide +kernel
theorem d_Schedule_drop_28 : decode m_Schedule_drop.2.1 28 = .ok (.imul, 1) := by decide +kernel
theorem d_Schedule_drop_29 : decode m_Schedule_drop.2.1 29 = .ok (.aload_n 0, 1) := by decide +kernel
theorem d_Schedule_drop_30 : decode m_Schedule_drop.2.1 30 = .ok (.getfield 11, 3) := by decide +kernel
theorem d_Schedule_drop_33 : decode m_Schedule_drop.2.1 33 = .ok (.iload_n 2, 1) := by decide +kernel
theorem d_Schedule_drop_34 : decode m_Schedule_drop.2.1 34 = .ok (.iconst 1, 1) := by decide +kernel
theorem d_Schedule_drop_35 : decode m_Schedule_drop.2.1 35 = .ok (.isub, 1) := by decide +kernel
theorem d_Schedule_drop_36 : decode m_Schedule_drop.2.1 36 = .ok (.iconst 4, 1) := by decide +kernel
theorem d_Schedule_drop_37 : decode m_Schedule_drop.2.1 37 = .ok (.imul, 1) := by decide +kernel
theorem d_Schedule_drop_38 : decode m_Schedule_drop.2.1 38 = .ok (.aload_n 0, 1) := by decide +kernel
theorem d_Schedule_drop_39 : decode m_Schedule_drop.2.1 39 = .ok (.getfield 15, 3) := by decide +kernel
theorem d_Schedule_drop_42 : decode m_Schedule_drop.2.1 42 = .ok (.iload_n 2, 1) := by decide +kernel
theorem d_Schedule_drop_43 : decode m_Schedule_drop.2.1 43 = .ok (.isub, 1) := by decide +kernel
theorem d_Schedule_drop_44 : decode m_Schedule_drop.2.1 44 = .ok (.iconst 4, 1) := by decide +kernel
theorem d_Schedule_drop_45 : decode m_Schedule_drop.2.1 45 = .ok (.imul, 1) := by decide +kernel
theorem d_Schedule_drop_46 : decode m_Schedule_drop.2.1 46 = .ok (.invokestatic 22, 3) := by decide +kernel
theorem d_Schedule_drop_49 : decode m_Schedule_drop.2.1 49 = .ok (.aload_n 0, 1) := by decide +kernel
theorem d_Schedule_drop_50 : decode m_Schedule_drop.2.1 50 = .ok (.dup, 1) := by decide +kernel
theorem d_Schedule_drop_51 : decode m_Schedule_drop.2.1 51 = .ok (.getfield 15, 3) := by decide +kernel
theorem d_Schedule_drop_54 : decode m_Schedule_drop.2.1 54 = .ok (.iconst 1, 1) := by decide +kernel
theorem d_Schedule_drop_55 : decode m_Schedule_drop.2.1 55 = .ok (.isub, 1) := by decide +kernel
theorem d_Schedule_drop_56 : decode m_Schedule_drop.2.1 56 = .ok (.putfield 15, 3) := by decide +kernel
theorem d_Schedule_drop_59 : decode m_Schedule_drop.2.1 59 = .ok (.return_, 1) := by decide +kernel
theorem d_Schedule_passNext_0 : decode m_Schedule_passNext.2.1 0 = .ok (.aload_n 0, 1) := by decide +kernel
theorem d_Schedule_passNext_1 : decode m_Schedule_passNext.2.1 1 = .ok (.invokevirtual 28, 3) := by decide +kernel
theorem d_Schedule_passNext_4 : decode m_Schedule_passNext.2.1 4 = .ok (.ifCond .le 13, 3) := by decide +kernel
theorem d_Schedule_passNext_7 : decode m_Schedule_passNext.2.1 7 = .ok (.aload_n 0, 1) := by decide +kernel
theorem d_Schedule_passNext_8 : decode m_Schedule_passNext.2.1 8 = .ok (.dup, 1) := by decide +kernel
theorem d_Schedule_passNext_9 : decode m_Schedule_passNext.2.1 9 = .ok (.getfield 19, 3) := by decide +kernel
theorem d_Schedule_passNext_12 : decode m_Schedule_passNext.2.1 12 = .ok (.iconst 1, 1) := by decide +kernel
theorem d_Schedule_passNext_13 : decode m_Schedule_passNext.2.1 13 = .ok (.iadd, 1) := by decide +kernel
theorem d_Schedule_passNext_14 : decode m_Schedule_passNext.2.1 14 = .ok (.putfield 19, 3) := by decide +kernel
theorem d_Schedule_passNext_17 : decode m_Schedule_passNext.2.1 17 = .ok (.return_, 1) := by decide +kernel
theorem d_Station_init_0 : decode m_Station_init.2.1 0 = .ok (.aload_n 0, 1) := by decide +kernel
theorem d_Station_init_1 : decode m_Station_init.2.1 1 = .ok (.invokespecial 1, 3) := by decide +kernel
theorem d_Station_init_4 : decode m_Station_init.2.1 4 = .ok (.aload_n 0, 1) := by decide +kernel
theorem d_Station_init_5 : decode m_Station_init.2.1 5 = .ok (.new 7, 3) := by decide +kernel
theorem d_Station_init_8 : decode m_Station_init.2.1 8 = .ok (.dup, 1) := by decide +kernel
theorem d_Station_init_9 : decode m_Station_init.2.1 9 = .ok (.invokespecial 9, 3) := by decide +kernel
theorem d_Station_init_12 : decode m_Station_init.2.1 12 = .ok (.putfield 10, 3) := by decide +kernel
theorem d_Station_init_15 : decode m_Station_init.2.1 15 = .ok (.aload_n 0, 1) := by decide +kernel
theorem d_Station_init_16 : decode m_Station_init.2.1 16 = .ok (.new 16, 3) := by decide +kernel
theorem d_Station_init_19 : decode m_Station_init.2.1 19 = .ok (.dup, 1) := by decide +kernel
theorem d_Station_init_20 : decode m_Station_init.2.1 20 = .ok (.invokespecial 18, 3) := by decide +kernel
theorem d_Station_init_23 : decode m_Station_init.2.1 23 = .ok (.putfield 19, 3) := by decide +kernel
theorem d_Station_init_26 : decode m_Station_init.2.1 26 = .ok (.aload_n 0, 1) := by decide +kernel
theorem d_Station_init_27 : decode m_Station_init.2.1 27 = .ok (.new 23, 3) := by decide +kernel
theorem d_Station_init_30 : decode m_Station_init.2.1 30 = .ok (.dup, 1) := by decide +kernel
theorem d_Station_init_31 : decode m_Station_init.2.1 31 = .ok (.invokespecial 25, 3) := by decide +kernel
theorem d_Station_init_34 : decode m_Station_init.2.1 34 = .ok (.putfield 26, 3) := by decide +kernel
theorem d_Station_init_37 : decode m_Station_init.2.1 37 = .ok (.aload_n 0, 1) := by decide +kernel
theorem d_Station_init_38 : decode m_Station_init.2.1 38 = .ok (.new 30, 3) := by decide +kernel
theorem d_Station_init_41 : decode m_Station_init.2.1 41 = .ok (.dup, 1) := by decide +kernel
theorem d_Station_init_42 : decode m_Station_init.2.1 42 = .ok (.invokespecial 32, 3) := by decide +kernel
theorem d_Station_init_45 : decode m_Station_init.2.1 45 = .ok (.putfield 33, 3) := by decide +kernel
theorem d_Station_init_48 : decode m_Station_init.2.1 48 = .ok (.aload_n 0, 1) := by decide +kernel
theorem d_Station_init_49 : decode m_Station_init.2.1 49 = .ok (.new 37, 3) := by decide +kernel
theorem d_Station_init_52 : decode m_Station_init.2.1 52 = .ok (.dup, 1) := by decide +kernel
theorem d_Station_init_53 : decode m_Station_init.2.1 53 = .ok (.invokespecial 39, 3) := by decide +kernel
theorem d_Station_init_56 : decode m_Station_init.2.1 56 = .ok (.putfield 40, 3) := by decide +kernel
theorem d_Station_init_59 : decode m_Station_init.2.1 59 = .ok (.aload_n 0, 1) := by decide +kernel
theorem d_Station_init_60 : decode m_Station_init.2.1 60 = .ok (.new 44, 3) := by decide +kernel
theorem d_Station_init_63 : decode m_Station_init.2.1 63 = .ok (.dup, 1) := by decide +kernel
theorem d_Station_init_64 : decode m_Station_init.2.1 64 = .ok (.invokespecial 46, 3) := by decide +kernel
theorem d_Station_init_67 : decode m_Station_init.2.1 67 = .ok (.putfield 47, 3) := by decide +kernel
theorem d_Station_init_70 : decode m_Station_init.2.1 70 = .ok (.aload_n 0, 1) := by decide +kernel
theorem d_Station_init_71 : decode m_Station_init.2.1 71 = .ok (.bipush 11, 2) := by decide +kernel
theorem d_Station_init_73 : decode m_Station_init.2.1 73 = .ok (.newarray .long, 2) := by decide +kernel
theorem d_Station_init_75 : decode m_Station_init.2.1 75 = .ok (.putfield 51, 3) := by decide +kernel
theorem d_Station_init_78 : decode m_Station_init.2.1 78 = .ok (.aload_n 0, 1) := by decide +kernel
theorem d_Station_init_79 : decode m_Station_init.2.1 79 = .ok (.invokevirtual 55, 3) := by decide +kernel
theorem d_Station_init_82 : decode m_Station_init.2.1 82 = .ok (.aload_n 0, 1) := by decide +kernel
theorem d_Station_init_83 : decode m_Station_init.2.1 83 = .ok (.invokevirtual 58, 3) := by decide +kernel
theorem d_Station_init_86 : decode m_Station_init.2.1 86 = .ok (.return_, 1) := by decide +kernel
theorem d_Station_renew_0 : decode m_Station_renew.2.1 0 = .ok (.aload_n 0, 1) := by decide +kernel
theorem d_Station_renew_1 : decode m_Station_renew.2.1 1 = .ok (.iconst 0, 1) := by decide +kernel
theorem d_Station_renew_2 : decode m_Station_renew.2.1 2 = .ok (.putfield 61, 3) := by decide +kernel
theorem d_Station_renew_5 : decode m_Station_renew.2.1 5 = .ok (.aload_n 0, 1) := by decide +kernel
theorem d_Station_renew_6 : decode m_Station_renew.2.1 6 = .ok (.iconst 0, 1) := by decide +kernel
theorem d_Station_renew_7 : decode m_Station_renew.2.1 7 = .ok (.putfield 65, 3) := by decide +kernel
theorem d_Station_renew_10 : decode m_Station_renew.2.1 10 = .ok (.aload_n 0, 1) := by decide +kernel
theorem d_Station_renew_11 : decode m_Station_renew.2.1 11 = .ok (.getfield 10, 3) := by decide +kernel
theorem d_Station_renew_14 : decode m_Station_renew.2.1 14 = .ok (.invokevirtual 68, 3) := by decide +kernel
theorem d_Station_renew_17 : decode m_Station_renew.2.1 17 = .ok (.aload_n 0, 1) := by decide +kernel
theorem d_Station_renew_18 : decode m_Station_renew.2.1 18 = .ok (.getfield 19, 3) := by decide +kernel
theorem d_Station_renew_21 : decode m_Station_renew.2.1 21 = .ok (.invokevirtual 69, 3) := by decide +kernel
theorem d_Station_renew_24 : decode m_Station_renew.2.1 24 = .ok (.aload_n 0, 1) := by decide +kernel
theorem d_Station_renew_25 : decode m_Station_renew.2.1 25 = .ok (.getfield 26, 3) := by decide +kernel
theorem d_Station_renew_28 : decode m_Station_renew.2.1 28 = .ok (.invokevirtual 70, 3) := by decide +kernel
theorem d_Station_renew_31 : decode m_Station_renew.2.1 31 = .ok (.aload_n 0, 1) := by decide +kernel
theorem d_Station_renew_32 : decode m_Station_renew.2.1 32 = .ok (.getfield 33, 3) := by decide +kernel
theorem d_Station_renew_35 : decode m_Station_renew.2.1 35 = .ok (.invokevirtual 71, 3) := by decide +kernel
theorem d_Station_renew_38 : decode m_Station_renew.2.1 38 = .ok (.aload_n 0, 1) := by decide +kernel
theorem d_Station_renew_39 : decode m_Station_renew.2.1 39 = .ok (.getfield 40, 3) := by decide +kernel
theorem d_Station_renew_42 : decode m_Station_renew.2.1 42 = .ok (.invokevirtual 72, 3) := by decide +kernel
theorem d_Station_renew_45 : decode m_Station_renew.2.1 45 = .ok (.aload_n 0, 1) := by decide +kernel
theorem d_Station_renew_46 : decode m_Station_renew.2.1 46 = .ok (.getfield 47, 3) := by decide +kernel
theorem d_Station_renew_49 : decode m_Station_renew.2.1 49 = .ok (.invokevirtual 73, 3) := by decide +kernel
theorem d_Station_renew_52 : decode m_Station_renew.2.1 52 = .ok (.aload_n 0, 1) := by decide +kernel
theorem d_Station_renew_53 : decode m_Station_renew.2.1 53 = .ok (.invokevirtual 74, 3) := by decide +kernel
theorem d_Station_renew_56 : decode m_Station_renew.2.1 56 = .ok (.return_, 1) := by decide +kernel
theorem d_Station_begin_0 : decode m_Station_begin.2.1 0 = .ok (.aload_n 0, 1) := by decide +kernel
theorem d_Station_begin_1 : decode m_Station_begin.2.1 1 = .ok (.getfield 19, 3) := by decide +kernel
theorem d_Station_begin_4 : decode m_Station_begin.2.1 4 = .ok (.invokevirtual 77, 3) := by decide +kernel
theorem d_Station_begin_7 : decode m_Station_begin.2.1 7 = .ok (.aload_n 0, 1) := by decide +kernel
theorem d_Station_begin_8 : decode m_Station_begin.2.1 8 = .ok (.getfield 33, 3) := by decide +kernel
theorem d_Station_begin_11 : decode m_Station_begin.2.1 11 = .ok (.aload_n 0, 1) := by decide +kernel
theorem d_Station_begin_12 : decode m_Station_begin.2.1 12 = .ok (.getfield 10, 3) := by decide +kernel
theorem d_Station_begin_15 : decode m_Station_begin.2.1 15 = .ok (.bipush 12, 2) := by decide +kernel
theorem d_Station_begin_17 : decode m_Station_begin.2.1 17 = .ok (.invokevirtual 80, 3) := by decide +kernel
theorem d_Station_begin_20 : decode m_Station_begin.2.1 20 = .ok (.putfield 84, 3) := by decide +kernel
theorem d_Station_begin_23 : decode m_Station_begin.2.1 23 = .ok (.return_, 1) := by decide +kernel
theorem d_Station_copyFrom_0 : decode m_Station_copyFrom.2.1 0 = .ok (.aload_n 0, 1) := by decide +kernel
theorem d_Station_copyFrom_1 : decode m_Station_copyFrom.2.1 1 = .ok (.aload_n 1, 1) := by decide +kernel
theorem d_Station_copyFrom_2 : decode m_Station_copyFrom.2.1 2 = .ok (.getfield 61, 3) := by decide +kernel
theorem d_Station_copyFrom_5 : decode m_Station_copyFrom.2.1 5 = .ok (.putfield 61, 3) := by decide +kernel
theorem d_Station_copyFrom_8 : decode m_Station_copyFrom.2.1 8 = .ok (.aload_n 0, 1) := by decide +kernel
theorem d_Station_copyFrom_9 : decode m_Station_copyFrom.2.1 9 = .ok (.aload_n 1, 1) := by decide +kernel
theorem d_Station_copyFrom_10 : decode m_Station_copyFrom.2.1 10 = .ok (.getfield 65, 3) := by decide +kernel
theorem d_Station_copyFrom_13 : decode m_Station_copyFrom.2.1 13 = .ok (.putfield 65, 3) := by decide +kernel
theorem d_Station_copyFrom_16 : decode m_Station_copyFrom.2.1 16 = .ok (.aload_n 0, 1) := by decide +kernel
theorem d_Station_copyFrom_17 : decode m_Station_copyFrom.2.1 17 = .ok (.getfield 10, 3) := by decide +kernel
theorem d_Station_copyFrom_20 : decode m_Station_copyFrom.2.1 20 = .ok (.aload_n 1, 1) := by decide +kernel
theorem d_Station_copyFrom_21 : decode m_Station_copyFrom.2.1 21 = .ok (.getfield 10, 3) := by decide +kernel
theorem d_Station_copyFrom_24 : decode m_Station_copyFrom.2.1 24 = .ok (.invokevirtual 87, 3) := by decide +kernel
theorem d_Station_copyFrom_27 : decode m_Station_copyFrom.2.1 27 = .ok (.aload_n 0, 1) := by decide +kernel
theorem d_Station_copyFrom_28 : decode m_Station_copyFrom.2.1 28 = .ok (.getfield 19, 3) := by decide +kernel
theorem d_Station_copyFrom_31 : decode m_Station_copyFrom.2.1 31 = .ok (.aload_n 1, 1) := by decide +kernel
theorem d_Station_copyFrom_32 : decode m_Station_copyFrom.2.1 32 = .ok (.getfield 19, 3) := by decide +kernel
theorem d_Station_copyFrom_35 : decode m_Station_copyFrom.2.1 35 = .ok (.invokevirtual 91, 3) := by decide +kernel
theorem d_Station_copyFrom_38 : decode m_Station_copyFrom.2.1 38 = .ok (.aload_n 0, 1) := by decide +kernel
theorem d_Station_copyFrom_39 : decode m_Station_copyFrom.2.1 39 = .ok (.getfield 26, 3) := by decide +kernel
theorem d_Station_copyFrom_42 : decode m_Station_copyFrom.2.1 42 = .ok (.aload_n 1, 1) := by decide +kernel
theorem d_Station_copyFrom_43 : decode m_Station_copyFrom.2.1 43 = .ok (.getfield 26, 3) := by decide +kernel
theorem d_Station_copyFrom_46 : decode m_Station_copyFrom.2.1 46 = .ok (.invokevirtual 94, 3) := by decide +kernel
theorem d_Station_copyFrom_49 : decode m_Station_copyFrom.2.1 49 = .ok (.aload_n 0, 1) := by decide +kernel
theorem d_Station_copyFrom_50 : decode m_Station_copyFrom.2.1 50 = .ok (.getfield 33, 3) := by decide +kernel
theorem d_Station_copyFrom_53 : decode m_Station_copyFrom.2.1 53 = .ok (.aload_n 1, 1) := by decide +kernel
theorem d_Station_copyFrom_54 : decode m_Station_copyFrom.2.1 54 = .ok (.getfield 33, 3) := by decide +kernel
theorem d_Station_copyFrom_57 : decode m_Station_copyFrom.2.1 57 = .ok (.invokevirtual 97, 3) := by decide +kernel
theorem d_Station_copyFrom_60 : decode m_Station_copyFrom.2.1 60 = .ok (.aload_n 0, 1) := by decide +kernel
theorem d_Station_copyFrom_61 : decode m_Station_copyFrom.2.1 61 = .ok (.getfield 40, 3) := by decide +kernel
theorem d_Station_copyFrom_64 : decode m_Station_copyFrom.2.1 64 = .ok (.aload_n 1, 1) := by decide +kernel
theorem d_Station_copyFrom_65 : decode m_Station_copyFrom.2.1 65 = .ok (.getfield 40, 3) := by decide +kernel
theorem d_Station_copyFrom_68 : decode m_Station_copyFrom.2.1 68 = .ok (.invokevirtual 100, 3) := by decide +kernel
theorem d_Station_copyFrom_71 : decode m_Station_copyFrom.2.1 71 = .ok (.aload_n 0, 1) := by decide +kernel
theorem d_Station_copyFrom_72 : decode m_Station_copyFrom.2.1 72 = .ok (.getfield 47, 3) := by decide +kernel
theorem d_Station_copyFrom_75 : decode m_Station_copyFrom.2.1 75 = .ok (.aload_n 1, 1) := by decide +kernel
theorem d_Station_copyFrom_76 : decode m_Station_copyFrom.2.1 76 = .ok (.getfield 47, 3) := by decide +kernel
theorem d_Station_copyFrom_79 : decode m_Station_copyFrom.2.1 79 = .ok (.invokevirtual 103, 3) := by decide +kernel
theorem d_Station_copyFrom_82 : decode m_Station_copyFrom.2.1 82 = .ok (.aload_n 1, 1) := by decide +kernel
theorem d_Station_copyFrom_83 : decode m_Station_copyFrom.2.1 83 = .ok (.getfield 51, 3) := by decide +kernel
theorem d_Station_copyFrom_86 : decode m_Station_copyFrom.2.1 86 = .ok (.iconst 0, 1) := by decide +kernel
theorem d_Station_copyFrom_87 : decode m_Station_copyFrom.2.1 87 = .ok (.aload_n 0, 1) := by decide +kernel
theorem d_Station_copyFrom_88 : decode m_Station_copyFrom.2.1 88 = .ok (.getfield 51, 3) := by decide +kernel
theorem d_Station_copyFrom_91 : decode m_Station_copyFrom.2.1 91 = .ok (.iconst 0, 1) := by decide +kernel
theorem d_Station_copyFrom_92 : decode m_Station_copyFrom.2.1 92 = .ok (.bipush 11, 2) := by decide +kernel
theorem d_Station_copyFrom_94 : decode m_Station_copyFrom.2.1 94 = .ok (.invokestatic 106, 3) := by decide +kernel
theorem d_Station_copyFrom_97 : decode m_Station_copyFrom.2.1 97 = .ok (.return_, 1) := by decide +kernel
theorem d_Station_clearSums_0 : decode m_Station_clearSums.2.1 0 = .ok (.aload_n 0, 1) := by decide +kernel
theorem d_Station_clearSums_1 : decode m_Station_clearSums.2.1 1 = .ok (.getfield 51, 3) := by decide +kernel
theorem d_Station_clearSums_4 : decode m_Station_clearSums.2.1 4 = .ok (.lconst 0, 1) := by decide +kernel
theorem d_Station_clearSums_5 : decode m_Station_clearSums.2.1 5 = .ok (.invokestatic 112, 3) := by decide +kernel
theorem d_Station_clearSums_8 : decode m_Station_clearSums.2.1 8 = .ok (.return_, 1) := by decide +kernel
theorem d_Station_isSum_0 : decode m_Station_isSum.2.1 0 = .ok (.iload_n 1, 1) := by decide +kernel
theorem d_Station_isSum_1 : decode m_Station_isSum.2.1 1 = .ok (.ifCond .lt 13, 3) := by decide +kernel
theorem d_Station_isSum_4 : decode m_Station_isSum.2.1 4 = .ok (.iload_n 1, 1) := by decide +kernel
theorem d_Station_isSum_5 : decode m_Station_isSum.2.1 5 = .ok (.bipush 11, 2) := by decide +kernel
theorem d_Station_isSum_7 : decode m_Station_isSum.2.1 7 = .ok (.if_icmp .ge 7, 3) := by decide +kernel
theorem d_Station_isSum_10 : decode m_Station_isSum.2.1 10 = .ok (.iconst 1, 1) := by decide +kernel
theorem d_Station_isSum_11 : decode m_Station_isSum.2.1 11 = .ok (.goto 4, 3) := by decide +kernel
theorem d_Station_isSum_14 : decode m_Station_isSum.2.1 14 = .ok (.iconst 0, 1) := by decide +kernel
theorem d_Station_isSum_15 : decode m_Station_isSum.2.1 15 = .ok (.ireturn, 1) := by decide +kernel
theorem d_Station_sumOf_0 : decode m_Station_sumOf.2.1 0 = .ok (.aload_n 0, 1) := by decide +kernel
theorem d_Station_sumOf_1 : decode m_Station_sumOf.2.1 1 = .ok (.iload_n 1, 1) := by decide +kernel
theorem d_Station_sumOf_2 : decode m_Station_sumOf.2.1 2 = .ok (.invokevirtual 118, 3) := by decide +kernel
theorem d_Station_sumOf_5 : decode m_Station_sumOf.2.1 5 = .ok (.ifCond .eq 12, 3) := by decide +kernel
theorem d_Station_sumOf_8 : decode m_Station_sumOf.2.1 8 = .ok (.aload_n 0, 1) := by decide +kernel
theorem d_Station_sumOf_9 : decode m_Station_sumOf.2.1 9 = .ok (.getfield 51, 3) := by decide +kernel
theorem d_Station_sumOf_12 : decode m_Station_sumOf.2.1 12 = .ok (.iload_n 1, 1) := by decide +kernel
theorem d_Station_sumOf_13 : decode m_Station_sumOf.2.1 13 = .ok (.laload, 1) := by decide +kernel
theorem d_Station_sumOf_14 : decode m_Station_sumOf.2.1 14 = .ok (.goto 4, 3) := by decide +kernel
theorem d_Station_sumOf_17 : decode m_Station_sumOf.2.1 17 = .ok (.lconst 0, 1) := by decide +kernel
theorem d_Station_sumOf_18 : decode m_Station_sumOf.2.1 18 = .ok (.lreturn, 1) := by decide +kernel
theorem d_Station_advanceBy_0 : decode m_Station_advanceBy.2.1 0 = .ok (.iconst 0, 1) := by decide +kernel
theorem d_Station_advanceBy_1 : decode m_Station_advanceBy.2.1 1 = .ok (.istore_n 2, 1) := by decide +kernel
theorem d_Station_advanceBy_2 : decode m_Station_advanceBy.2.1 2 = .ok (.iload_n 2, 1) := by decide +kernel
theorem d_Station_advanceBy_3 : decode m_Station_advanceBy.2.1 3 = .ok (.iload_n 1, 1) := by decide +kernel
theorem d_Station_advanceBy_4 : decode m_Station_advanceBy.2.1 4 = .ok (.if_icmp .ge 13, 3) := by decide +kernel
theorem d_Station_advanceBy_7 : decode m_Station_advanceBy.2.1 7 = .ok (.aload_n 0, 1) := by decide +kernel
theorem d_Station_advanceBy_8 : decode m_Station_advanceBy.2.1 8 = .ok (.invokevirtual 122, 3) := by decide +kernel
theorem d_Station_advanceBy_11 : decode m_Station_advanceBy.2.1 11 = .ok (.iinc 2 1, 3) := by decide +kernel
theorem d_Station_advanceBy_14 : decode m_Station_advanceBy.2.1 14 = .ok (.goto (-12), 3) := by decide +kernel
theorem d_Station_advanceBy_17 : decode m_Station_advanceBy.2.1 17 = .ok (.return_, 1) := by decide +kernel
theorem d_Station_advance_0 : decode m_Station_advance.2.1 0 = .ok (.aload_n 0, 1) := by decide +kernel
theorem d_Station_advance_1 : decode m_Station_advance.2.1 1 = .ok (.dup, 1) := by decide +kernel
theorem d_Station_advance_2 : decode m_Station_advance.2.1 2 = .ok (.getfield 61, 3) := by decide +kernel
theorem d_Station_advance_5 : decode m_Station_advance.2.1 5 = .ok (.iconst 1, 1) := by decide +kernel
theorem d_Station_advance_6 : decode m_Station_advance.2.1 6 = .ok (.iadd, 1) := by decide +kernel
theorem d_Station_advance_7 : decode m_Station_advance.2.1 7 = .ok (.putfield 61, 3) := by decide +kernel
theorem d_Station_advance_10 : decode m_Station_advance.2.1 10 = .ok (.aload_n 0, 1) := by decide +kernel
theorem d_Station_advance_11 : decode m_Station_advance.2.1 11 = .ok (.invokevirtual 125, 3) := by decide +kernel
theorem d_Station_advance_14 : decode m_Station_advance.2.1 14 = .ok (.aload_n 0, 1) := by decide +kernel
theorem d_Station_advance_15 : decode m_Station_advance.2.1 15 = .ok (.getfield 33, 3) := by decide +kernel
theorem d_Station_advance_18 : decode m_Station_advance.2.1 18 = .ok (.getfield 128, 3) := by decide +kernel
theorem d_Station_advance_21 : decode m_Station_advance.2.1 21 = .ok (.ifCond .eq 21, 3) := by decide +kernel
theorem d_Station_advance_24 : decode m_Station_advance.2.1 24 = .ok (.aload_n 0, 1) := by decide +kernel
theorem d_Station_advance_25 : decode m_Station_advance.2.1 25 = .ok (.getfield 33, 3) := by decide +kernel
theorem d_Station_advance_28 : decode m_Station_advance.2.1 28 = .ok (.aload_n 0, 1) := by decide +kernel
theorem d_Station_advance_29 : decode m_Station_advance.2.1 29 = .ok (.getfield 19, 3) := by decide +kernel
theorem d_Station_advance_32 : decode m_Station_advance.2.1 32 = .ok (.aload_n 0, 1) := by decide +kernel
theorem d_Station_advance_33 : decode m_Station_advance.2.1 33 = .ok (.getfield 10, 3) := by decide +kernel
theorem d_Station_advance_36 : decode m_Station_advance.2.1 36 = .ok (.invokevirtual 132, 3) := by decide +kernel
theorem d_Station_advance_39 : decode m_Station_advance.2.1 39 = .ok (.goto 18, 3) := by decide +kernel
theorem d_Station_advance_42 : decode m_Station_advance.2.1 42 = .ok (.aload_n 0, 1) := by decide +kernel
theorem d_Station_advance_43 : decode m_Station_advance.2.1 43 = .ok (.getfield 33, 3) := by decide +kernel
theorem d_Station_advance_46 : decode m_Station_advance.2.1 46 = .ok (.aload_n 0, 1) := by decide +kernel
theorem d_Station_advance_47 : decode m_Station_advance.2.1 47 = .ok (.getfield 19, 3) := by decide +kernel
theorem d_Station_advance_50 : decode m_Station_advance.2.1 50 = .ok (.aload_n 0, 1) := by decide +kernel
theorem d_Station_advance_51 : decode m_Station_advance.2.1 51 = .ok (.getfield 10, 3) := by decide +kernel
theorem d_Station_advance_54 : decode m_Station_advance.2.1 54 = .ok (.invokevirtual 136, 3) := by decide +kernel
theorem d_Station_advance_57 : decode m_Station_advance.2.1 57 = .ok (.aload_n 0, 1) := by decide +kernel
theorem d_Station_advance_58 : decode m_Station_advance.2.1 58 = .ok (.getfield 40, 3) := by decide +kernel
theorem d_Station_advance_61 : decode m_Station_advance.2.1 61 = .ok (.aload_n 0, 1) := by decide +kernel
theorem d_Station_advance_62 : decode m_Station_advance.2.1 62 = .ok (.getfield 33, 3) := by decide +kernel
theorem d_Station_advance_65 : decode m_Station_advance.2.1 65 = .ok (.getfield 139, 3) := by decide +kernel
theorem d_Station_advance_68 : decode m_Station_advance.2.1 68 = .ok (.aload_n 0, 1) := by decide +kernel
theorem d_Station_advance_69 : decode m_Station_advance.2.1 69 = .ok (.getfield 10, 3) := by decide +kernel
theorem d_Station_advance_72 : decode m_Station_advance.2.1 72 = .ok (.invokevirtual 142, 3) := by decide +kernel
theorem d_Station_advance_75 : decode m_Station_advance.2.1 75 = .ok (.aload_n 0, 1) := by decide +kernel
theorem d_Station_advance_76 : decode m_Station_advance.2.1 76 = .ok (.getfield 33, 3) := by decide +kernel
theorem d_Station_advance_79 : decode m_Station_advance.2.1 79 = .ok (.getfield 139, 3) := by decide +kernel
theorem d_Station_advance_82 : decode m_Station_advance.2.1 82 = .ok (.aload_n 0, 1) := by decide +kernel
theorem d_Station_advance_83 : decode m_Station_advance.2.1 83 = .ok (.getfield 40, 3) := by decide +kernel
theorem d_Station_advance_86 : decode m_Station_advance.2.1 86 = .ok (.getfield 146, 3) := by decide +kernel
theorem d_Station_advance_89 : decode m_Station_advance.2.1 89 = .ok (.isub, 1) := by decide +kernel
theorem d_Station_advance_90 : decode m_Station_advance.2.1 90 = .ok (.istore_n 1, 1) := by decide +kernel
theorem d_Station_advance_91 : decode m_Station_advance.2.1 91 = .ok (.aload_n 0, 1) := by decide +kernel
theorem d_Station_advance_92 : decode m_Station_advance.2.1 92 = .ok (.getfield 47, 3) := by decide +kernel
theorem d_Station_advance_95 : decode m_Station_advance.2.1 95 = .ok (.iload_n 1, 1) := by decide +kernel
theorem d_Station_advance_96 : decode m_Station_advance.2.1 96 = .ok (.aload_n 0, 1) := by decide +kernel
theorem d_Station_advance_97 : decode m_Station_advance.2.1 97 = .ok (.getfield 10, 3) := by decide +kernel
theorem d_Station_advance_100 : decode m_Station_advance.2.1 100 = .ok (.invokevirtual 149, 3) := by decide +kernel
theorem d_Station_advance_103 : decode m_Station_advance.2.1 103 = .ok (.aload_n 0, 1) := by decide +kernel
theorem d_Station_advance_104 : decode m_Station_advance.2.1 104 = .ok (.iload_n 1, 1) := by decide +kernel
theorem d_Station_advance_105 : decode m_Station_advance.2.1 105 = .ok (.aload_n 0, 1) := by decide +kernel
theorem d_Station_advance_106 : decode m_Station_advance.2.1 106 = .ok (.getfield 47, 3) := by decide +kernel
theorem d_Station_advance_109 : decode m_Station_advance.2.1 109 = .ok (.getfield 152, 3) := by decide +kernel
theorem d_Station_advance_112 : decode m_Station_advance.2.1 112 = .ok (.isub, 1) := by decide +kernel
theorem d_Station_advance_113 : decode m_Station_advance.2.1 113 = .ok (.putfield 65, 3) := by decide +kernel
theorem d_Station_advance_116 : decode m_Station_advance.2.1 116 = .ok (.aload_n 0, 1) := by decide +kernel
theorem d_Station_advance_117 : decode m_Station_advance.2.1 117 = .ok (.invokevirtual 155, 3) := by decide +kernel
theorem d_Station_advance_120 : decode m_Station_advance.2.1 120 = .ok (.return_, 1) := by decide +kernel
theorem d_Station_doWhatComes_0 : decode m_Station_doWhatComes.2.1 0 = .ok (.iconst 0, 1) := by decide +kernel
theorem d_Station_doWhatComes_1 : decode m_Station_doWhatComes.2.1 1 = .ok (.istore_n 1, 1) := by decide +kernel
theorem d_Station_doWhatComes_2 : decode m_Station_doWhatComes.2.1 2 = .ok (.iconst 0, 1) := by decide +kernel
theorem d_Station_doWhatComes_3 : decode m_Station_doWhatComes.2.1 3 = .ok (.istore_n 2, 1) := by decide +kernel
theorem d_Station_doWhatComes_4 : decode m_Station_doWhatComes.2.1 4 = .ok (.iload_n 2, 1) := by decide +kernel
theorem d_Station_doWhatComes_5 : decode m_Station_doWhatComes.2.1 5 = .ok (.bipush 24, 2) := by decide +kernel
theorem d_Station_doWhatComes_7 : decode m_Station_doWhatComes.2.1 7 = .ok (.if_icmp .ge 131, 3) := by decide +kernel
theorem d_Station_doWhatComes_10 : decode m_Station_doWhatComes.2.1 10 = .ok (.aload_n 0, 1) := by decide +kernel
theorem d_Station_doWhatComes_11 : decode m_Station_doWhatComes.2.1 11 = .ok (.getfield 26, 3) := by decide +kernel
theorem d_Station_doWhatComes_14 : decode m_Station_doWhatComes.2.1 14 = .ok (.invokevirtual 158, 3) := by decide +kernel
theorem d_Station_doWhatComes_17 : decode m_Station_doWhatComes.2.1 17 = .ok (.ifCond .le 121, 3) := by decide +kernel
theorem d_Station_doWhatComes_20 : decode m_Station_doWhatComes.2.1 20 = .ok (.aload_n 0, 1) := by decide +kernel
theorem d_Station_doWhatComes_21 : decode m_Station_doWhatComes.2.1 21 = .ok (.getfield 26, 3) := by decide +kernel
theorem d_Station_doWhatComes_24 : decode m_Station_doWhatComes.2.1 24 = .ok (.iconst 0, 1) := by decide +kernel
theorem d_Station_doWhatComes_25 : decode m_Station_doWhatComes.2.1 25 = .ok (.iconst 0, 1) := by decide +kernel
theorem d_Station_doWhatComes_26 : decode m_Station_doWhatComes.2.1 26 = .ok (.invokevirtual 162, 3) := by decide +kernel
theorem d_Station_doWhatComes_29 : decode m_Station_doWhatComes.2.1 29 = .ok (.aload_n 0, 1) := by decide +kernel
theorem d_Station_doWhatComes_30 : decode m_Station_doWhatComes.2.1 30 = .ok (.getfield 61, 3) := by decide +kernel
theorem d_Station_doWhatComes_33 : decode m_Station_doWhatComes.2.1 33 = .ok (.if_icmp .le 6, 3) := by decide +kernel
theorem d_Station_doWhatComes_36 : decode m_Station_doWhatComes.2.1 36 = .ok (.goto 102, 3) := by decide +kernel
theorem d_Station_doWhatComes_39 : decode m_Station_doWhatComes.2.1 39 = .ok (.aload_n 0, 1) := by decide +kernel
theorem d_Station_doWhatComes_40 : decode m_Station_doWhatComes.2.1 40 = .ok (.getfield 26, 3) := by decide +kernel
theorem d_Station_doWhatComes_43 : decode m_Station_doWhatComes.2.1 43 = .ok (.iconst 0, 1) := by decide +kernel
theorem d_Station_doWhatComes_44 : decode m_Station_doWhatComes.2.1 44 = .ok (.iconst 3, 1) := by decide +kernel
theorem d_Station_doWhatComes_45 : decode m_Station_doWhatComes.2.1 45 = .ok (.invokevirtual 162, 3) := by decide +kernel
theorem d_Station_doWhatComes_48 : decode m_Station_doWhatComes.2.1 48 = .ok (.istore_n 3, 1) := by decide +kernel
theorem d_Station_doWhatComes_49 : decode m_Station_doWhatComes.2.1 49 = .ok (.aload_n 0, 1) := by decide +kernel
theorem d_Station_doWhatComes_50 : decode m_Station_doWhatComes.2.1 50 = .ok (.getfield 26, 3) := by decide +kernel
theorem d_Station_doWhatComes_53 : decode m_Station_doWhatComes.2.1 53 = .ok (.iconst 0, 1) := by decide +kernel
theorem d_Station_doWhatComes_54 : decode m_Station_doWhatComes.2.1 54 = .ok (.iconst 1, 1) := by decide +kernel
theorem d_Station_doWhatComes_55 : decode m_Station_doWhatComes.2.1 55 = .ok (.invokevirtual 162, 3) := by decide +kernel
theorem d_Station_doWhatComes_58 : decode m_Station_doWhatComes.2.1 58 = .ok (.lookupswitch 59 #[(0, 26), (1, 48)], 26) := by decide +kernel
theorem d_Station_doWhatComes_84 : decode m_Station_doWhatComes.2.1 84 = .ok (.aload_n 0, 1) := by decide +kernel
theorem d_Station_doWhatComes_85 : decode m_Station_doWhatComes.2.1 85 = .ok (.getfield 19, 3) := by decide +kernel
theorem d_Station_doWhatComes_88 : decode m_Station_doWhatComes.2.1 88 = .ok (.aload_n 0, 1) := by decide +kernel
theorem d_Station_doWhatComes_89 : decode m_Station_doWhatComes.2.1 89 = .ok (.getfield 26, 3) := by decide +kernel
theorem d_Station_doWhatComes_92 : decode m_Station_doWhatComes.2.1 92 = .ok (.iconst 0, 1) := by decide +kernel
theorem d_Station_doWhatComes_93 : decode m_Station_doWhatComes.2.1 93 = .ok (.iconst 2, 1) := by decide +kernel
theorem d_Station_doWhatComes_94 : decode m_Station_doWhatComes.2.1 94 = .ok (.invokevirtual 162, 3) := by decide +kernel
theorem d_Station_doWhatComes_97 : decode m_Station_doWhatComes.2.1 97 = .ok (.iload_n 3, 1) := by decide +kernel
theorem d_Station_doWhatComes_98 : decode m_Station_doWhatComes.2.1 98 = .ok (.invokevirtual 165, 3) := by decide +kernel
theorem d_Station_doWhatComes_101 : decode m_Station_doWhatComes.2.1 101 = .ok (.iconst 1, 1) := by decide +kernel
theorem d_Station_doWhatComes_102 : decode m_Station_doWhatComes.2.1 102 = .ok (.istore_n 1, 1) := by decide +kernel
theorem d_Station_doWhatComes_103 : decode m_Station_doWhatComes.2.1 103 = .ok (.goto 22, 3) := by decide +kernel
theorem d_Station_doWhatComes_106 : decode m_Station_doWhatComes.2.1 106 = .ok (.aload_n 0, 1) := by decide +kernel
theorem d_Station_doWhatComes_107 : decode m_Station_doWhatComes.2.1 107 = .ok (.getfield 47, 3) := by decide +kernel
theorem d_Station_doWhatComes_110 : decode m_Station_doWhatComes.2.1 110 = .ok (.iload_n 3, 1) := by decide +kernel
theorem d_Station_doWhatComes_111 : decode m_Station_doWhatComes.2.1 111 = .ok (.putfield 169, 3) := by decide +kernel
theorem d_Station_doWhatComes_114 : decode m_Station_doWhatComes.2.1 114 = .ok (.goto 11, 3) := by decide +kernel
theorem d_Station_doWhatComes_117 : decode m_Station_doWhatComes.2.1 117 = .ok (.aload_n 0, 1) := by decide +kernel
theorem d_Station_doWhatComes_118 : decode m_Station_doWhatComes.2.1 118 = .ok (.getfield 47, 3) := by decide +kernel
theorem d_Station_doWhatComes_121 : decode m_Station_doWhatComes.2.1 121 = .ok (.iload_n 3, 1) := by decide +kernel
theorem d_Station_doWhatComes_122 : decode m_Station_doWhatComes.2.1 122 = .ok (.putfield 172, 3) := by decide +kernel
theorem d_Station_doWhatComes_125 : decode m_Station_doWhatComes.2.1 125 = .ok (.aload_n 0, 1) := by decide +kernel
theorem d_Station_doWhatComes_126 : decode m_Station_doWhatComes.2.1 126 = .ok (.getfield 26, 3) := by decide +kernel
theorem d_Station_doWhatComes_129 : decode m_Station_doWhatComes.2.1 129 = .ok (.invokevirtual 175, 3) := by decide +kernel
theorem d_Station_doWhatComes_132 : decode m_Station_doWhatComes.2.1 132 = .ok (.iinc 2 1, 3) := by decide +kernel
theorem d_Station_doWhatComes_135 : decode m_Station_doWhatComes.2.1 135 = .ok (.goto (-131), 3) := by decide +kernel
theorem d_Station_doWhatComes_138 : decode m_Station_doWhatComes.2.1 138 = .ok (.iload_n 1, 1) := by decide +kernel
theorem d_Station_doWhatComes_139 : decode m_Station_doWhatComes.2.1 139 = .ok (.ifCond .eq 10, 3) := by decide +kernel
theorem d_Station_doWhatComes_142 : decode m_Station_doWhatComes.2.1 142 = .ok (.aload_n 0, 1) := by decide +kernel
theorem d_Station_doWhatComes_143 : decode m_Station_doWhatComes.2.1 143 = .ok (.getfield 19, 3) := by decide +kernel
theorem d_Station_doWhatComes_146 : decode m_Station_doWhatComes.2.1 146 = .ok (.invokevirtual 77, 3) := by decide +kernel
theorem d_Station_doWhatComes_149 : decode m_Station_doWhatComes.2.1 149 = .ok (.return_, 1) := by decide +kernel
theorem d_Station_addUp_0 : decode m_Station_addUp.2.1 0 = .ok (.aload_n 0, 1) := by decide +kernel
theorem d_Station_addUp_1 : decode m_Station_addUp.2.1 1 = .ok (.getfield 51, 3) := by decide +kernel
theorem d_Station_addUp_4 : decode m_Station_addUp.2.1 4 = .ok (.iconst 0, 1) := by decide +kernel
theorem d_Station_addUp_5 : decode m_Station_addUp.2.1 5 = .ok (.dup2, 1) := by decide +kernel
theorem d_Station_addUp_6 : decode m_Station_addUp.2.1 6 = .ok (.laload, 1) := by decide +kernel
theorem d_Station_addUp_7 : decode m_Station_addUp.2.1 7 = .ok (.aload_n 0, 1) := by decide +kernel
theorem d_Station_addUp_8 : decode m_Station_addUp.2.1 8 = .ok (.getfield 33, 3) := by decide +kernel
theorem d_Station_addUp_11 : decode m_Station_addUp.2.1 11 = .ok (.getfield 139, 3) := by decide +kernel
theorem d_Station_addUp_14 : decode m_Station_addUp.2.1 14 = .ok (.i2l, 1) := by decide +kernel
theorem d_Station_addUp_15 : decode m_Station_addUp.2.1 15 = .ok (.ladd, 1) := by decide +kernel
theorem d_Station_addUp_16 : decode m_Station_addUp.2.1 16 = .ok (.lastore, 1) := by decide +kernel
theorem d_Station_addUp_17 : decode m_Station_addUp.2.1 17 = .ok (.aload_n 0, 1) := by decide +kernel
theorem d_Station_addUp_18 : decode m_Station_addUp.2.1 18 = .ok (.getfield 51, 3) := by decide +kernel
theorem d_Station_addUp_21 : decode m_Station_addUp.2.1 21 = .ok (.iconst 1, 1) := by decide +kernel
theorem d_Station_addUp_22 : decode m_Station_addUp.2.1 22 = .ok (.dup2, 1) := by decide +kernel
theorem d_Station_addUp_23 : decode m_Station_addUp.2.1 23 = .ok (.laload, 1) := by decide +kernel
theorem d_Station_addUp_24 : decode m_Station_addUp.2.1 24 = .ok (.aload_n 0, 1) := by decide +kernel
theorem d_Station_addUp_25 : decode m_Station_addUp.2.1 25 = .ok (.getfield 19, 3) := by decide +kernel
theorem d_Station_addUp_28 : decode m_Station_addUp.2.1 28 = .ok (.getfield 178, 3) := by decide +kernel
theorem d_Station_addUp_31 : decode m_Station_addUp.2.1 31 = .ok (.i2l, 1) := by decide +kernel
theorem d_Station_addUp_32 : decode m_Station_addUp.2.1 32 = .ok (.ladd, 1) := by decide +kernel
theorem d_Station_addUp_33 : decode m_Station_addUp.2.1 33 = .ok (.lastore, 1) := by decide +kernel
theorem d_Station_addUp_34 : decode m_Station_addUp.2.1 34 = .ok (.aload_n 0, 1) := by decide +kernel
theorem d_Station_addUp_35 : decode m_Station_addUp.2.1 35 = .ok (.getfield 51, 3) := by decide +kernel
theorem d_Station_addUp_38 : decode m_Station_addUp.2.1 38 = .ok (.iconst 2, 1) := by decide +kernel
theorem d_Station_addUp_39 : decode m_Station_addUp.2.1 39 = .ok (.dup2, 1) := by decide +kernel
theorem d_Station_addUp_40 : decode m_Station_addUp.2.1 40 = .ok (.laload, 1) := by decide +kernel
theorem d_Station_addUp_41 : decode m_Station_addUp.2.1 41 = .ok (.aload_n 0, 1) := by decide +kernel
theorem d_Station_addUp_42 : decode m_Station_addUp.2.1 42 = .ok (.getfield 40, 3) := by decide +kernel
theorem d_Station_addUp_45 : decode m_Station_addUp.2.1 45 = .ok (.getfield 146, 3) := by decide +kernel
theorem d_Station_addUp_48 : decode m_Station_addUp.2.1 48 = .ok (.i2l, 1) := by decide +kernel
theorem d_Station_addUp_49 : decode m_Station_addUp.2.1 49 = .ok (.ladd, 1) := by decide +kernel
theorem d_Station_addUp_50 : decode m_Station_addUp.2.1 50 = .ok (.lastore, 1) := by decide +kernel
theorem d_Station_addUp_51 : decode m_Station_addUp.2.1 51 = .ok (.aload_n 0, 1) := by decide +kernel
theorem d_Station_addUp_52 : decode m_Station_addUp.2.1 52 = .ok (.getfield 51, 3) := by decide +kernel
theorem d_Station_addUp_55 : decode m_Station_addUp.2.1 55 = .ok (.iconst 3, 1) := by decide +kernel
theorem d_Station_addUp_56 : decode m_Station_addUp.2.1 56 = .ok (.dup2, 1) := by decide +kernel
theorem d_Station_addUp_57 : decode m_Station_addUp.2.1 57 = .ok (.laload, 1) := by decide +kernel
theorem d_Station_addUp_58 : decode m_Station_addUp.2.1 58 = .ok (.aload_n 0, 1) := by decide +kernel
theorem d_Station_addUp_59 : decode m_Station_addUp.2.1 59 = .ok (.getfield 47, 3) := by decide +kernel
theorem d_Station_addUp_62 : decode m_Station_addUp.2.1 62 = .ok (.getfield 152, 3) := by decide +kernel
theorem d_Station_addUp_65 : decode m_Station_addUp.2.1 65 = .ok (.i2l, 1) := by decide +kernel
theorem d_Station_addUp_66 : decode m_Station_addUp.2.1 66 = .ok (.ladd, 1) := by decide +kernel
theorem d_Station_addUp_67 : decode m_Station_addUp.2.1 67 = .ok (.lastore, 1) := by decide +kernel
theorem d_Station_addUp_68 : decode m_Station_addUp.2.1 68 = .ok (.aload_n 0, 1) := by decide +kernel
theorem d_Station_addUp_69 : decode m_Station_addUp.2.1 69 = .ok (.getfield 51, 3) := by decide +kernel
theorem d_Station_addUp_72 : decode m_Station_addUp.2.1 72 = .ok (.iconst 4, 1) := by decide +kernel
theorem d_Station_addUp_73 : decode m_Station_addUp.2.1 73 = .ok (.dup2, 1) := by decide +kernel
theorem d_Station_addUp_74 : decode m_Station_addUp.2.1 74 = .ok (.laload, 1) := by decide +kernel
theorem d_Station_addUp_75 : decode m_Station_addUp.2.1 75 = .ok (.aload_n 0, 1) := by decide +kernel
theorem d_Station_addUp_76 : decode m_Station_addUp.2.1 76 = .ok (.getfield 65, 3) := by decide +kernel
theorem d_Station_addUp_79 : decode m_Station_addUp.2.1 79 = .ok (.i2l, 1) := by decide +kernel
theorem d_Station_addUp_80 : decode m_Station_addUp.2.1 80 = .ok (.ladd, 1) := by decide +kernel
theorem d_Station_addUp_81 : decode m_Station_addUp.2.1 81 = .ok (.lastore, 1) := by decide +kernel
theorem d_Station_addUp_82 : decode m_Station_addUp.2.1 82 = .ok (.aload_n 0, 1) := by decide +kernel
theorem d_Station_addUp_83 : decode m_Station_addUp.2.1 83 = .ok (.getfield 51, 3) := by decide +kernel
theorem d_Station_addUp_86 : decode m_Station_addUp.2.1 86 = .ok (.iconst 5, 1) := by decide +kernel
theorem d_Station_addUp_87 : decode m_Station_addUp.2.1 87 = .ok (.dup2, 1) := by decide +kernel
theorem d_Station_addUp_88 : decode m_Station_addUp.2.1 88 = .ok (.laload, 1) := by decide +kernel
theorem d_Station_addUp_89 : decode m_Station_addUp.2.1 89 = .ok (.aload_n 0, 1) := by decide +kernel
theorem d_Station_addUp_90 : decode m_Station_addUp.2.1 90 = .ok (.getfield 40, 3) := by decide +kernel
theorem d_Station_addUp_93 : decode m_Station_addUp.2.1 93 = .ok (.getfield 181, 3) := by decide +kernel
theorem d_Station_addUp_96 : decode m_Station_addUp.2.1 96 = .ok (.i2l, 1) := by decide +kernel
theorem d_Station_addUp_97 : decode m_Station_addUp.2.1 97 = .ok (.ladd, 1) := by decide +kernel
theorem d_Station_addUp_98 : decode m_Station_addUp.2.1 98 = .ok (.lastore, 1) := by decide +kernel
theorem d_Station_addUp_99 : decode m_Station_addUp.2.1 99 = .ok (.aload_n 0, 1) := by decide +kernel
theorem d_Station_addUp_100 : decode m_Station_addUp.2.1 100 = .ok (.getfield 51, 3) := by decide +kernel
theorem d_Station_addUp_103 : decode m_Station_addUp.2.1 103 = .ok (.bipush 6, 2) := by decide +kernel
theorem d_Station_addUp_105 : decode m_Station_addUp.2.1 105 = .ok (.dup2, 1) := by decide +kernel
theorem d_Station_addUp_106 : decode m_Station_addUp.2.1 106 = .ok (.laload, 1) := by decide +kernel
theorem d_Station_addUp_107 : decode m_Station_addUp.2.1 107 = .ok (.aload_n 0, 1) := by decide +kernel
theorem d_Station_addUp_108 : decode m_Station_addUp.2.1 108 = .ok (.getfield 47, 3) := by decide +kernel
theorem d_Station_addUp_111 : decode m_Station_addUp.2.1 111 = .ok (.getfield 184, 3) := by decide +kernel
theorem d_Station_addUp_114 : decode m_Station_addUp.2.1 114 = .ok (.invokestatic 187, 3) := by decide +kernel
theorem d_Station_addUp_117 : decode m_Station_addUp.2.1 117 = .ok (.i2l, 1) := by decide +kernel
theorem d_Station_addUp_118 : decode m_Station_addUp.2.1 118 = .ok (.ladd, 1) := by decide +kernel
theorem d_Station_addUp_119 : decode m_Station_addUp.2.1 119 = .ok (.lastore, 1) := by decide +kernel
theorem d_Station_addUp_120 : decode m_Station_addUp.2.1 120 = .ok (.aload_n 0, 1) := by decide +kernel
theorem d_Station_addUp_121 : decode m_Station_addUp.2.1 121 = .ok (.getfield 51, 3) := by decide +kernel
theorem d_Station_addUp_124 : decode m_Station_addUp.2.1 124 = .ok (.bipush 7, 2) := by decide +kernel
theorem d_Station_addUp_126 : decode m_Station_addUp.2.1 126 = .ok (.dup2, 1) := by decide +kernel
theorem d_Station_addUp_127 : decode m_Station_addUp.2.1 127 = .ok (.laload, 1) := by decide +kernel
theorem d_Station_addUp_128 : decode m_Station_addUp.2.1 128 = .ok (.aload_n 0, 1) := by decide +kernel
theorem d_Station_addUp_129 : decode m_Station_addUp.2.1 129 = .ok (.getfield 33, 3) := by decide +kernel
theorem d_Station_addUp_132 : decode m_Station_addUp.2.1 132 = .ok (.getfield 193, 3) := by decide +kernel
theorem d_Station_addUp_135 : decode m_Station_addUp.2.1 135 = .ok (.invokestatic 187, 3) := by decide +kernel
theorem d_Station_addUp_138 : decode m_Station_addUp.2.1 138 = .ok (.i2l, 1) := by decide +kernel
theorem d_Station_addUp_139 : decode m_Station_addUp.2.1 139 = .ok (.ladd, 1) := by decide +kernel
theorem d_Station_addUp_140 : decode m_Station_addUp.2.1 140 = .ok (.lastore, 1) := by decide +kernel
theorem d_Station_addUp_141 : decode m_Station_addUp.2.1 141 = .ok (.aload_n 0, 1) := by decide +kernel
theorem d_Station_addUp_142 : decode m_Station_addUp.2.1 142 = .ok (.getfield 51, 3) := by decide +kernel
theorem d_Station_addUp_145 : decode m_Station_addUp.2.1 145 = .ok (.bipush 8, 2) := by decide +kernel
theorem d_Station_addUp_147 : decode m_Station_addUp.2.1 147 = .ok (.dup2, 1) := by decide +kernel
theorem d_Station_addUp_148 : decode m_Station_addUp.2.1 148 = .ok (.laload, 1) := by decide +kernel
theorem d_Station_addUp_149 : decode m_Station_addUp.2.1 149 = .ok (.aload_n 0, 1) := by decide +kernel
theorem d_Station_addUp_150 : decode m_Station_addUp.2.1 150 = .ok (.getfield 40, 3) := by decide +kernel
theorem d_Station_addUp_153 : decode m_Station_addUp.2.1 153 = .ok (.getfield 196, 3) := by decide +kernel
theorem d_Station_addUp_156 : decode m_Station_addUp.2.1 156 = .ok (.iconst 1, 1) := by decide +kernel
theorem d_Station_addUp_157 : decode m_Station_addUp.2.1 157 = .ok (.if_icmp .ne 7, 3) := by decide +kernel
theorem d_Station_addUp_160 : decode m_Station_addUp.2.1 160 = .ok (.iconst 1, 1) := by decide +kernel
theorem d_Station_addUp_161 : decode m_Station_addUp.2.1 161 = .ok (.goto 4, 3) := by decide +kernel
theorem d_Station_addUp_164 : decode m_Station_addUp.2.1 164 = .ok (.iconst 0, 1) := by decide +kernel
theorem d_Station_addUp_165 : decode m_Station_addUp.2.1 165 = .ok (.invokestatic 187, 3) := by decide +kernel
theorem d_Station_addUp_168 : decode m_Station_addUp.2.1 168 = .ok (.i2l, 1) := by decide +kernel
theorem d_Station_addUp_169 : decode m_Station_addUp.2.1 169 = .ok (.ladd, 1) := by decide +kernel
theorem d_Station_addUp_170 : decode m_Station_addUp.2.1 170 = .ok (.lastore, 1) := by decide +kernel
theorem d_Station_addUp_171 : decode m_Station_addUp.2.1 171 = .ok (.aload_n 0, 1) := by decide +kernel
theorem d_Station_addUp_172 : decode m_Station_addUp.2.1 172 = .ok (.getfield 51, 3) := by decide +kernel
theorem d_Station_addUp_175 : decode m_Station_addUp.2.1 175 = .ok (.bipush 9, 2) := by decide +kernel
theorem d_Station_addUp_177 : decode m_Station_addUp.2.1 177 = .ok (.dup2, 1) := by decide +kernel
theorem d_Station_addUp_178 : decode m_Station_addUp.2.1 178 = .ok (.laload, 1) := by decide +kernel
theorem d_Station_addUp_179 : decode m_Station_addUp.2.1 179 = .ok (.aload_n 0, 1) := by decide +kernel
theorem d_Station_addUp_180 : decode m_Station_addUp.2.1 180 = .ok (.getfield 40, 3) := by decide +kernel
theorem d_Station_addUp_183 : decode m_Station_addUp.2.1 183 = .ok (.getfield 196, 3) := by decide +kernel
theorem d_Station_addUp_186 : decode m_Station_addUp.2.1 186 = .ok (.iconst 2, 1) := by decide +kernel
theorem d_Station_addUp_187 : decode m_Station_addUp.2.1 187 = .ok (.if_icmp .ne 7, 3) := by decide +kernel
theorem d_Station_addUp_190 : decode m_Station_addUp.2.1 190 = .ok (.iconst 1, 1) := by decide +kernel
theorem d_Station_addUp_191 : decode m_Station_addUp.2.1 191 = .ok (.goto 4, 3) := by decide +kernel
theorem d_Station_addUp_194 : decode m_Station_addUp.2.1 194 = .ok (.iconst 0, 1) := by decide +kernel
theorem d_Station_addUp_195 : decode m_Station_addUp.2.1 195 = .ok (.invokestatic 187, 3) := by decide +kernel
theorem d_Station_addUp_198 : decode m_Station_addUp.2.1 198 = .ok (.i2l, 1) := by decide +kernel
theorem d_Station_addUp_199 : decode m_Station_addUp.2.1 199 = .ok (.ladd, 1) := by decide +kernel
theorem d_Station_addUp_200 : decode m_Station_addUp.2.1 200 = .ok (.lastore, 1) := by decide +kernel
theorem d_Station_addUp_201 : decode m_Station_addUp.2.1 201 = .ok (.aload_n 0, 1) := by decide +kernel
theorem d_Station_addUp_202 : decode m_Station_addUp.2.1 202 = .ok (.getfield 51, 3) := by decide +kernel
theorem d_Station_addUp_205 : decode m_Station_addUp.2.1 205 = .ok (.bipush 10, 2) := by decide +kernel
theorem d_Station_addUp_207 : decode m_Station_addUp.2.1 207 = .ok (.dup2, 1) := by decide +kernel
theorem d_Station_addUp_208 : decode m_Station_addUp.2.1 208 = .ok (.laload, 1) := by decide +kernel
theorem d_Station_addUp_209 : decode m_Station_addUp.2.1 209 = .ok (.aload_n 0, 1) := by decide +kernel
theorem d_Station_addUp_210 : decode m_Station_addUp.2.1 210 = .ok (.getfield 40, 3) := by decide +kernel
theorem d_Station_addUp_213 : decode m_Station_addUp.2.1 213 = .ok (.getfield 196, 3) := by decide +kernel
theorem d_Station_addUp_216 : decode m_Station_addUp.2.1 216 = .ok (.ifCond .ne 7, 3) := by decide +kernel
theorem d_Station_addUp_219 : decode m_Station_addUp.2.1 219 = .ok (.iconst 1, 1) := by decide +kernel
theorem d_Station_addUp_220 : decode m_Station_addUp.2.1 220 = .ok (.goto 4, 3) := by decide +kernel
theorem d_Station_addUp_223 : decode m_Station_addUp.2.1 223 = .ok (.iconst 0, 1) := by decide +kernel
theorem d_Station_addUp_224 : decode m_Station_addUp.2.1 224 = .ok (.invokestatic 187, 3) := by decide +kernel
theorem d_Station_addUp_227 : decode m_Station_addUp.2.1 227 = .ok (.i2l, 1) := by decide +kernel
theorem d_Station_addUp_228 : decode m_Station_addUp.2.1 228 = .ok (.ladd, 1) := by decide +kernel
theorem d_Station_addUp_229 : decode m_Station_addUp.2.1 229 = .ok (.lastore, 1) := by decide +kernel
theorem d_Station_addUp_230 : decode m_Station_addUp.2.1 230 = .ok (.return_, 1) := by decide +kernel
theorem d_Station_holds_0 : decode m_Station_holds.2.1 0 = .ok (.iload_n 1, 1) := by decide +kernel
theorem d_Station_holds_1 : decode m_Station_holds.2.1 1 = .ok (.lookupswitch 52 #[(0, 27), (1, 35)], 27) := by decide +kernel
theorem d_Station_holds_28 : decode m_Station_holds.2.1 28 = .ok (.aload_n 0, 1) := by decide +kernel
theorem d_Station_holds_29 : decode m_Station_holds.2.1 29 = .ok (.getfield 47, 3) := by decide +kernel
theorem d_Station_holds_32 : decode m_Station_holds.2.1 32 = .ok (.getfield 184, 3) := by decide +kernel
theorem d_Station_holds_35 : decode m_Station_holds.2.1 35 = .ok (.ireturn, 1) := by decide +kernel
theorem d_Station_holds_36 : decode m_Station_holds.2.1 36 = .ok (.aload_n 0, 1) := by decide +kernel
theorem d_Station_holds_37 : decode m_Station_holds.2.1 37 = .ok (.getfield 40, 3) := by decide +kernel
theorem d_Station_holds_40 : decode m_Station_holds.2.1 40 = .ok (.getfield 199, 3) := by decide +kernel
theorem d_Station_holds_43 : decode m_Station_holds.2.1 43 = .ok (.iconst 2, 1) := by decide +kernel
theorem d_Station_holds_44 : decode m_Station_holds.2.1 44 = .ok (.if_icmp .ne 7, 3) := by decide +kernel
theorem d_Station_holds_47 : decode m_Station_holds.2.1 47 = .ok (.iconst 1, 1) := by decide +kernel
theorem d_Station_holds_48 : decode m_Station_holds.2.1 48 = .ok (.goto 4, 3) := by decide +kernel
theorem d_Station_holds_51 : decode m_Station_holds.2.1 51 = .ok (.iconst 0, 1) := by decide +kernel
theorem d_Station_holds_52 : decode m_Station_holds.2.1 52 = .ok (.ireturn, 1) := by decide +kernel
theorem d_Station_holds_53 : decode m_Station_holds.2.1 53 = .ok (.aload_n 0, 1) := by decide +kernel
theorem d_Station_holds_54 : decode m_Station_holds.2.1 54 = .ok (.getfield 40, 3) := by decide +kernel
theorem d_Station_holds_57 : decode m_Station_holds.2.1 57 = .ok (.getfield 202, 3) := by decide +kernel
theorem d_Station_holds_60 : decode m_Station_holds.2.1 60 = .ok (.aload_n 0, 1) := by decide +kernel
theorem d_Station_holds_61 : decode m_Station_holds.2.1 61 = .ok (.getfield 10, 3) := by decide +kernel
theorem d_Station_holds_64 : decode m_Station_holds.2.1 64 = .ok (.iconst 0, 1) := by decide +kernel
theorem d_Station_holds_65 : decode m_Station_holds.2.1 65 = .ok (.invokevirtual 80, 3) := by decide +kernel
theorem d_Station_holds_68 : decode m_Station_holds.2.1 68 = .ok (.if_icmp .ne 7, 3) := by decide +kernel
theorem d_Station_holds_71 : decode m_Station_holds.2.1 71 = .ok (.iconst 1, 1) := by decide +kernel
theorem d_Station_holds_72 : decode m_Station_holds.2.1 72 = .ok (.goto 4, 3) := by decide +kernel
theorem d_Station_holds_75 : decode m_Station_holds.2.1 75 = .ok (.iconst 0, 1) := by decide +kernel
theorem d_Station_holds_76 : decode m_Station_holds.2.1 76 = .ok (.ireturn, 1) := by decide +kernel
theorem d_Tape_init_0 : decode m_Tape_init.2.1 0 = .ok (.aload_n 0, 1) := by decide +kernel
theorem d_Tape_init_1 : decode m_Tape_init.2.1 1 = .ok (.invokespecial 1, 3) := by decide +kernel
theorem d_Tape_init_4 : decode m_Tape_init.2.1 4 = .ok (.aload_n 0, 1) := by decide +kernel
theorem d_Tape_init_5 : decode m_Tape_init.2.1 5 = .ok (.sipush 900, 3) := by decide +kernel
theorem d_Tape_init_8 : decode m_Tape_init.2.1 8 = .ok (.newarray .byte, 2) := by decide +kernel
theorem d_Tape_init_10 : decode m_Tape_init.2.1 10 = .ok (.putfield 9, 3) := by decide +kernel
theorem d_Tape_init_13 : decode m_Tape_init.2.1 13 = .ok (.return_, 1) := by decide +kernel
theorem d_Tape_hasRoomFor_0 : decode m_Tape_hasRoomFor.2.1 0 = .ok (.aload_n 0, 1) := by decide +kernel
theorem d_Tape_hasRoomFor_1 : decode m_Tape_hasRoomFor.2.1 1 = .ok (.getfield 13, 3) := by decide +kernel
theorem d_Tape_hasRoomFor_4 : decode m_Tape_hasRoomFor.2.1 4 = .ok (.iload_n 1, 1) := by decide +kernel
theorem d_Tape_hasRoomFor_5 : decode m_Tape_hasRoomFor.2.1 5 = .ok (.iadd, 1) := by decide +kernel
theorem d_Tape_hasRoomFor_6 : decode m_Tape_hasRoomFor.2.1 6 = .ok (.sipush 900, 3) := by decide +kernel
theorem d_Tape_hasRoomFor_9 : decode m_Tape_hasRoomFor.2.1 9 = .ok (.if_icmp .gt 7, 3) := by decide +kernel
theorem d_Tape_hasRoomFor_12 : decode m_Tape_hasRoomFor.2.1 12 = .ok (.iconst 1, 1) := by decide +kernel
theorem d_Tape_hasRoomFor_13 : decode m_Tape_hasRoomFor.2.1 13 = .ok (.goto 4, 3) := by decide +kernel
theorem d_Tape_hasRoomFor_16 : decode m_Tape_hasRoomFor.2.1 16 = .ok (.iconst 0, 1) := by decide +kernel
theorem d_Tape_hasRoomFor_17 : decode m_Tape_hasRoomFor.2.1 17 = .ok (.ireturn, 1) := by decide +kernel
theorem d_Tape_addNumber_0 : decode m_Tape_addNumber.2.1 0 = .ok (.bipush 24, 2) := by decide +kernel
theorem d_Tape_addNumber_2 : decode m_Tape_addNumber.2.1 2 = .ok (.istore_n 2, 1) := by decide +kernel
theorem d_Tape_addNumber_3 : decode m_Tape_addNumber.2.1 3 = .ok (.iload_n 2, 1) := by decide +kernel
theorem d_Tape_addNumber_4 : decode m_Tape_addNumber.2.1 4 = .ok (.ifCond .lt 42, 3) := by decide +kernel
theorem d_Tape_addNumber_7 : decode m_Tape_addNumber.2.1 7 = .ok (.aload_n 0, 1) := by decide +kernel
theorem d_Tape_addNumber_8 : decode m_Tape_addNumber.2.1 8 = .ok (.getfield 13, 3) := by decide +kernel
theorem d_Tape_addNumber_11 : decode m_Tape_addNumber.2.1 11 = .ok (.sipush 900, 3) := by decide +kernel
theorem d_Tape_addNumber_14 : decode m_Tape_addNumber.2.1 14 = .ok (.if_icmp .ge 26, 3) := by decide +kernel
theorem d_Tape_addNumber_17 : decode m_Tape_addNumber.2.1 17 = .ok (.aload_n 0, 1) := by decide +kernel
theorem d_Tape_addNumber_18 : decode m_Tape_addNumber.2.1 18 = .ok (.getfield 9, 3) := by decide +kernel
theorem d_Tape_addNumber_21 : decode m_Tape_addNumber.2.1 21 = .ok (.aload_n 0, 1) := by decide +kernel
theorem d_Tape_addNumber_22 : decode m_Tape_addNumber.2.1 22 = .ok (.getfield 13, 3) := by decide +kernel
theorem d_Tape_addNumber_25 : decode m_Tape_addNumber.2.1 25 = .ok (.iload_n 1, 1) := by decide +kernel
theorem d_Tape_addNumber_26 : decode m_Tape_addNumber.2.1 26 = .ok (.iload_n 2, 1) := by decide +kernel
theorem d_Tape_addNumber_27 : decode m_Tape_addNumber.2.1 27 = .ok (.iushr, 1) := by decide +kernel
theorem d_Tape_addNumber_28 : decode m_Tape_addNumber.2.1 28 = .ok (.i2b, 1) := by decide +kernel
theorem d_Tape_addNumber_29 : decode m_Tape_addNumber.2.1 29 = .ok (.bastore, 1) := by decide +kernel
theorem d_Tape_addNumber_30 : decode m_Tape_addNumber.2.1 30 = .ok (.aload_n 0, 1) := by decide +kernel
theorem d_Tape_addNumber_31 : decode m_Tape_addNumber.2.1 31 = .ok (.dup, 1) := by decide +kernel
theorem d_Tape_addNumber_32 : decode m_Tape_addNumber.2.1 32 = .ok (.getfield 13, 3) := by decide +kernel
theorem d_Tape_addNumber_35 : decode m_Tape_addNumber.2.1 35 = .ok (.iconst 1, 1) := by decide +kernel
theorem d_Tape_addNumber_36 : decode m_Tape_addNumber.2.1 36 = .ok (.iadd, 1) := by decide +kernel
theorem d_Tape_addNumber_37 : decode m_Tape_addNumber.2.1 37 = .ok (.putfield 13, 3) := by decide +kernel
theorem d_Tape_addNumber_40 : decode m_Tape_addNumber.2.1 40 = .ok (.iinc 2 (-8), 3) := by decide +kernel
theorem d_Tape_addNumber_43 : decode m_Tape_addNumber.2.1 43 = .ok (.goto (-40), 3) := by decide +kernel
theorem d_Tape_addNumber_46 : decode m_Tape_addNumber.2.1 46 = .ok (.return_, 1) := by decide +kernel
theorem d_Told_init_0 : decode m_Told_init.2.1 0 = .ok (.aload_n 0, 1) := by decide +kernel
theorem d_Told_init_1 : decode m_Told_init.2.1 1 = .ok (.invokespecial 1, 3) := by decide +kernel
theorem d_Told_init_4 : decode m_Told_init.2.1 4 = .ok (.aload_n 0, 1) := by decide +kernel
theorem d_Told_init_5 : decode m_Told_init.2.1 5 = .ok (.bipush 19, 2) := by decide +kernel
theorem d_Told_init_7 : decode m_Told_init.2.1 7 = .ok (.newarray .int, 2) := by decide +kernel
theorem d_Told_init_9 : decode m_Told_init.2.1 9 = .ok (.putfield 9, 3) := by decide +kernel
theorem d_Told_init_12 : decode m_Told_init.2.1 12 = .ok (.return_, 1) := by decide +kernel
theorem d_Told_isOne_0 : decode m_Told_isOne.2.1 0 = .ok (.iload_n 0, 1) := by decide +kernel
theorem d_Told_isOne_1 : decode m_Told_isOne.2.1 1 = .ok (.ifCond .lt 13, 3) := by decide +kernel
theorem d_Told_isOne_4 : decode m_Told_isOne.2.1 4 = .ok (.iload_n 0, 1) := by decide +kernel
theorem d_Told_isOne_5 : decode m_Told_isOne.2.1 5 = .ok (.bipush 19, 2) := by decide +kernel
theorem d_Told_isOne_7 : decode m_Told_isOne.2.1 7 = .ok (.if_icmp .ge 7, 3) := by decide +kernel
theorem d_Told_isOne_10 : decode m_Told_isOne.2.1 10 = .ok (.iconst 1, 1) := by decide +kernel
theorem d_Told_isOne_11 : decode m_Told_isOne.2.1 11 = .ok (.goto 4, 3) := by decide +kernel
theorem d_Told_isOne_14 : decode m_Told_isOne.2.1 14 = .ok (.iconst 0, 1) := by decide +kernel
theorem d_Told_isOne_15 : decode m_Told_isOne.2.1 15 = .ok (.ireturn, 1) := by decide +kernel
theorem d_Told_leastOf_0 : decode m_Told_leastOf.2.1 0 = .ok (.iload_n 0, 1) := by decide +kernel
theorem d_Told_leastOf_1 : decode m_Told_leastOf.2.1 1 = .ok (.ifCond .lt 17, 3) := by decide +kernel
theorem d_Told_leastOf_4 : decode m_Told_leastOf.2.1 4 = .ok (.iload_n 0, 1) := by decide +kernel
theorem d_Told_leastOf_5 : decode m_Told_leastOf.2.1 5 = .ok (.bipush 19, 2) := by decide +kernel
theorem d_Told_leastOf_7 : decode m_Told_leastOf.2.1 7 = .ok (.if_icmp .ge 11, 3) := by decide +kernel
theorem d_Told_leastOf_10 : decode m_Told_leastOf.2.1 10 = .ok (.getstatic 13, 3) := by decide +kernel
theorem d_Told_leastOf_13 : decode m_Told_leastOf.2.1 13 = .ok (.iload_n 0, 1) := by decide +kernel
theorem d_Told_leastOf_14 : decode m_Told_leastOf.2.1 14 = .ok (.iaload, 1) := by decide +kernel
theorem d_Told_leastOf_15 : decode m_Told_leastOf.2.1 15 = .ok (.goto 4, 3) := by decide +kernel
theorem d_Told_leastOf_18 : decode m_Told_leastOf.2.1 18 = .ok (.iconst 0, 1) := by decide +kernel
theorem d_Told_leastOf_19 : decode m_Told_leastOf.2.1 19 = .ok (.ireturn, 1) := by decide +kernel
theorem d_Told_mostOf_0 : decode m_Told_mostOf.2.1 0 = .ok (.iload_n 0, 1) := by decide +kernel
theorem d_Told_mostOf_1 : decode m_Told_mostOf.2.1 1 = .ok (.ifCond .lt 17, 3) := by decide +kernel
theorem d_Told_mostOf_4 : decode m_Told_mostOf.2.1 4 = .ok (.iload_n 0, 1) := by decide +kernel
theorem d_Told_mostOf_5 : decode m_Told_mostOf.2.1 5 = .ok (.bipush 19, 2) := by decide +kernel
theorem d_Told_mostOf_7 : decode m_Told_mostOf.2.1 7 = .ok (.if_icmp .ge 11, 3) := by decide +kernel
theorem d_Told_mostOf_10 : decode m_Told_mostOf.2.1 10 = .ok (.getstatic 16, 3) := by decide +kernel
theorem d_Told_mostOf_13 : decode m_Told_mostOf.2.1 13 = .ok (.iload_n 0, 1) := by decide +kernel
theorem d_Told_mostOf_14 : decode m_Told_mostOf.2.1 14 = .ok (.iaload, 1) := by decide +kernel
theorem d_Told_mostOf_15 : decode m_Told_mostOf.2.1 15 = .ok (.goto 4, 3) := by decide +kernel
theorem d_Told_mostOf_18 : decode m_Told_mostOf.2.1 18 = .ok (.iconst 0, 1) := by decide +kernel
theorem d_Told_mostOf_19 : decode m_Told_mostOf.2.1 19 = .ok (.ireturn, 1) := by decide +kernel
theorem d_Told_mayBe_0 : decode m_Told_mayBe.2.1 0 = .ok (.iload_n 0, 1) := by decide +kernel
theorem d_Told_mayBe_1 : decode m_Told_mayBe.2.1 1 = .ok (.ifCond .lt 31, 3) := by decide +kernel
theorem d_Told_mayBe_4 : decode m_Told_mayBe.2.1 4 = .ok (.iload_n 0, 1) := by decide +kernel
theorem d_Told_mayBe_5 : decode m_Told_mayBe.2.1 5 = .ok (.bipush 19, 2) := by decide +kernel
theorem d_Told_mayBe_7 : decode m_Told_mayBe.2.1 7 = .ok (.if_icmp .ge 25, 3) := by decide +kernel
theorem d_Told_mayBe_10 : decode m_Told_mayBe.2.1 10 = .ok (.iload_n 1, 1) := by decide +kernel
theorem d_Told_mayBe_11 : decode m_Told_mayBe.2.1 11 = .ok (.getstatic 13, 3) := by decide +kernel
theorem d_Told_mayBe_14 : decode m_Told_mayBe.2.1 14 = .ok (.iload_n 0, 1) := by decide +kernel
theorem d_Told_mayBe_15 : decode m_Told_mayBe.2.1 15 = .ok (.iaload, 1) := by decide +kernel
theorem d_Told_mayBe_16 : decode m_Told_mayBe.2.1 16 = .ok (.if_icmp .lt 16, 3) := by decide +kernel
theorem d_Told_mayBe_19 : decode m_Told_mayBe.2.1 19 = .ok (.iload_n 1, 1) := by decide +kernel
theorem d_Told_mayBe_20 : decode m_Told_mayBe.2.1 20 = .ok (.getstatic 16, 3) := by decide +kernel
theorem d_Told_mayBe_23 : decode m_Told_mayBe.2.1 23 = .ok (.iload_n 0, 1) := by decide +kernel
theorem d_Told_mayBe_24 : decode m_Told_mayBe.2.1 24 = .ok (.iaload, 1) := by decide +kernel
theorem d_Told_mayBe_25 : decode m_Told_mayBe.2.1 25 = .ok (.if_icmp .gt 7, 3) := by decide +kernel
theorem d_Told_mayBe_28 : decode m_Told_mayBe.2.1 28 = .ok (.iconst 1, 1) := by decide +kernel
theorem d_Told_mayBe_29 : decode m_Told_mayBe.2.1 29 = .ok (.goto 4, 3) := by decide +kernel
theorem d_Told_mayBe_32 : decode m_Told_mayBe.2.1 32 = .ok (.iconst 0, 1) := by decide +kernel
theorem d_Told_mayBe_33 : decode m_Told_mayBe.2.1 33 = .ok (.ireturn, 1) := by decide +kernel
theorem d_Told_renew_0 : decode m_Told_renew.2.1 0 = .ok (.getstatic 19, 3) := by decide +kernel
theorem d_Told_renew_3 : decode m_Told_renew.2.1 3 = .ok (.iconst 0, 1) := by decide +kernel
theorem d_Told_renew_4 : decode m_Told_renew.2.1 4 = .ok (.aload_n 0, 1) := by decide +kernel
theorem d_Told_renew_5 : decode m_Told_renew.2.1 5 = .ok (.getfield 9, 3) := by decide +kernel
theorem d_Told_renew_8 : decode m_Told_renew.2.1 8 = .ok (.iconst 0, 1) := by decide +kernel
theorem d_Told_renew_9 : decode m_Told_renew.2.1 9 = .ok (.bipush 19, 2) := by decide +kernel
theorem d_Told_renew_11 : decode m_Told_renew.2.1 11 = .ok (.invokestatic 22, 3) := by decide +kernel
theorem d_Told_renew_14 : decode m_Told_renew.2.1 14 = .ok (.return_, 1) := by decide +kernel
theorem d_Told_copyFrom_0 : decode m_Told_copyFrom.2.1 0 = .ok (.aload_n 1, 1) := by decide +kernel
theorem d_Told_copyFrom_1 : decode m_Told_copyFrom.2.1 1 = .ok (.getfield 9, 3) := by decide +kernel
theorem d_Told_copyFrom_4 : decode m_Told_copyFrom.2.1 4 = .ok (.iconst 0, 1) := by decide +kernel
theorem d_Told_copyFrom_5 : decode m_Told_copyFrom.2.1 5 = .ok (.aload_n 0, 1) := by decide +kernel
theorem d_Told_copyFrom_6 : decode m_Told_copyFrom.2.1 6 = .ok (.getfield 9, 3) := by decide +kernel
theorem d_Told_copyFrom_9 : decode m_Told_copyFrom.2.1 9 = .ok (.iconst 0, 1) := by decide +kernel
theorem d_Told_copyFrom_10 : decode m_Told_copyFrom.2.1 10 = .ok (.bipush 19, 2) := by decide +kernel
theorem d_Told_copyFrom_12 : decode m_Told_copyFrom.2.1 12 = .ok (.invokestatic 22, 3) := by decide +kernel
theorem d_Told_copyFrom_15 : decode m_Told_copyFrom.2.1 15 = .ok (.return_, 1) := by decide +kernel
theorem d_Told_get_0 : decode m_Told_get.2.1 0 = .ok (.iload_n 1, 1) := by decide +kernel
theorem d_Told_get_1 : decode m_Told_get.2.1 1 = .ok (.ifCond .lt 18, 3) := by decide +kernel
theorem d_Told_get_4 : decode m_Told_get.2.1 4 = .ok (.iload_n 1, 1) := by decide +kernel
theorem d_Told_get_5 : decode m_Told_get.2.1 5 = .ok (.bipush 19, 2) := by decide +kernel
theorem d_Told_get_7 : decode m_Told_get.2.1 7 = .ok (.if_icmp .ge 12, 3) := by decide +kernel
theorem d_Told_get_10 : decode m_Told_get.2.1 10 = .ok (.aload_n 0, 1) := by decide +kernel
theorem d_Told_get_11 : decode m_Told_get.2.1 11 = .ok (.getfield 9, 3) := by decide +kernel
theorem d_Told_get_14 : decode m_Told_get.2.1 14 = .ok (.iload_n 1, 1) := by decide +kernel
theorem d_Told_get_15 : decode m_Told_get.2.1 15 = .ok (.iaload, 1) := by decide +kernel
theorem d_Told_get_16 : decode m_Told_get.2.1 16 = .ok (.goto 4, 3) := by decide +kernel
theorem d_Told_get_19 : decode m_Told_get.2.1 19 = .ok (.iconst 0, 1) := by decide +kernel
theorem d_Told_get_20 : decode m_Told_get.2.1 20 = .ok (.ireturn, 1) := by decide +kernel
theorem d_Told_put_0 : decode m_Told_put.2.1 0 = .ok (.iload_n 1, 1) := by decide +kernel
theorem d_Told_put_1 : decode m_Told_put.2.1 1 = .ok (.ifCond .lt 16, 3) := by decide +kernel
theorem d_Told_put_4 : decode m_Told_put.2.1 4 = .ok (.iload_n 1, 1) := by decide +kernel
theorem d_Told_put_5 : decode m_Told_put.2.1 5 = .ok (.bipush 19, 2) := by decide +kernel
theorem d_Told_put_7 : decode m_Told_put.2.1 7 = .ok (.if_icmp .ge 10, 3) := by decide +kernel
theorem d_Told_put_10 : decode m_Told_put.2.1 10 = .ok (.aload_n 0, 1) := by decide +kernel
theorem d_Told_put_11 : decode m_Told_put.2.1 11 = .ok (.getfield 9, 3) := by decide +kernel
theorem d_Told_put_14 : decode m_Told_put.2.1 14 = .ok (.iload_n 1, 1) := by decide +kernel
theorem d_Told_put_15 : decode m_Told_put.2.1 15 = .ok (.iload_n 2, 1) := by decide +kernel
theorem d_Told_put_16 : decode m_Told_put.2.1 16 = .ok (.iastore, 1) := by decide +kernel
theorem d_Told_put_17 : decode m_Told_put.2.1 17 = .ok (.return_, 1) := by decide +kernel
