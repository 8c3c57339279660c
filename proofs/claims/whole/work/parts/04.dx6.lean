theorem dX6_init_0 : decode cX6_init 0 = .ok (.aload_n 0, 1) := by decide +kernel
theorem dX6_init_1 : decode cX6_init 1 = .ok (.invokespecial 1, 3) := by decide +kernel
theorem dX6_init_4 : decode cX6_init 4 = .ok (.aload_n 0, 1) := by decide +kernel
theorem dX6_init_5 : decode cX6_init 5 = .ok (.new 7, 3) := by decide +kernel
theorem dX6_init_8 : decode cX6_init 8 = .ok (.dup, 1) := by decide +kernel
theorem dX6_init_9 : decode cX6_init 9 = .ok (.invokespecial 9, 3) := by decide +kernel
theorem dX6_init_12 : decode cX6_init 12 = .ok (.putfield 10, 3) := by decide +kernel
theorem dX6_init_15 : decode cX6_init 15 = .ok (.aload_n 0, 1) := by decide +kernel
theorem dX6_init_16 : decode cX6_init 16 = .ok (.new 16, 3) := by decide +kernel
theorem dX6_init_19 : decode cX6_init 19 = .ok (.dup, 1) := by decide +kernel
theorem dX6_init_20 : decode cX6_init 20 = .ok (.invokespecial 18, 3) := by decide +kernel
theorem dX6_init_23 : decode cX6_init 23 = .ok (.putfield 19, 3) := by decide +kernel
theorem dX6_init_26 : decode cX6_init 26 = .ok (.aload_n 0, 1) := by decide +kernel
theorem dX6_init_27 : decode cX6_init 27 = .ok (.new 16, 3) := by decide +kernel
theorem dX6_init_30 : decode cX6_init 30 = .ok (.dup, 1) := by decide +kernel
theorem dX6_init_31 : decode cX6_init 31 = .ok (.invokespecial 18, 3) := by decide +kernel
theorem dX6_init_34 : decode cX6_init 34 = .ok (.putfield 23, 3) := by decide +kernel
theorem dX6_init_37 : decode cX6_init 37 = .ok (.aload_n 0, 1) := by decide +kernel
theorem dX6_init_38 : decode cX6_init 38 = .ok (.iconst 3, 1) := by decide +kernel
theorem dX6_init_39 : decode cX6_init 39 = .ok (.anewarray 16, 3) := by decide +kernel
theorem dX6_init_42 : decode cX6_init 42 = .ok (.putfield 26, 3) := by decide +kernel
theorem dX6_init_45 : decode cX6_init 45 = .ok (.aload_n 0, 1) := by decide +kernel
theorem dX6_init_46 : decode cX6_init 46 = .ok (.iconst 4, 1) := by decide +kernel
theorem dX6_init_47 : decode cX6_init 47 = .ok (.anewarray 30, 3) := by decide +kernel
theorem dX6_init_50 : decode cX6_init 50 = .ok (.putfield 32, 3) := by decide +kernel
theorem dX6_init_53 : decode cX6_init 53 = .ok (.aload_n 0, 1) := by decide +kernel
theorem dX6_init_54 : decode cX6_init 54 = .ok (.new 36, 3) := by decide +kernel
theorem dX6_init_57 : decode cX6_init 57 = .ok (.dup, 1) := by decide +kernel
theorem dX6_init_58 : decode cX6_init 58 = .ok (.invokespecial 38, 3) := by decide +kernel
theorem dX6_init_61 : decode cX6_init 61 = .ok (.putfield 39, 3) := by decide +kernel
theorem dX6_init_64 : decode cX6_init 64 = .ok (.aload_n 0, 1) := by decide +kernel
theorem dX6_init_65 : decode cX6_init 65 = .ok (.new 36, 3) := by decide +kernel
theorem dX6_init_68 : decode cX6_init 68 = .ok (.dup, 1) := by decide +kernel
theorem dX6_init_69 : decode cX6_init 69 = .ok (.invokespecial 38, 3) := by decide +kernel
theorem dX6_init_72 : decode cX6_init 72 = .ok (.putfield 43, 3) := by decide +kernel
theorem dX6_init_75 : decode cX6_init 75 = .ok (.aload_n 0, 1) := by decide +kernel
theorem dX6_init_76 : decode cX6_init 76 = .ok (.new 46, 3) := by decide +kernel
theorem dX6_init_79 : decode cX6_init 79 = .ok (.dup, 1) := by decide +kernel
theorem dX6_init_80 : decode cX6_init 80 = .ok (.invokespecial 48, 3) := by decide +kernel
theorem dX6_init_83 : decode cX6_init 83 = .ok (.putfield 49, 3) := by decide +kernel
theorem dX6_init_86 : decode cX6_init 86 = .ok (.aload_n 0, 1) := by decide +kernel
theorem dX6_init_87 : decode cX6_init 87 = .ok (.new 46, 3) := by decide +kernel
theorem dX6_init_90 : decode cX6_init 90 = .ok (.dup, 1) := by decide +kernel
theorem dX6_init_91 : decode cX6_init 91 = .ok (.invokespecial 48, 3) := by decide +kernel
theorem dX6_init_94 : decode cX6_init 94 = .ok (.putfield 53, 3) := by decide +kernel
theorem dX6_init_97 : decode cX6_init 97 = .ok (.aload_n 0, 1) := by decide +kernel
theorem dX6_init_98 : decode cX6_init 98 = .ok (.sipush 256, 3) := by decide +kernel
theorem dX6_init_101 : decode cX6_init 101 = .ok (.newarray .int, 2) := by decide +kernel
theorem dX6_init_103 : decode cX6_init 103 = .ok (.putfield 56, 3) := by decide +kernel
theorem dX6_init_106 : decode cX6_init 106 = .ok (.aload_n 0, 1) := by decide +kernel
theorem dX6_init_107 : decode cX6_init 107 = .ok (.iconst 4, 1) := by decide +kernel
theorem dX6_init_108 : decode cX6_init 108 = .ok (.newarray .int, 2) := by decide +kernel
theorem dX6_init_110 : decode cX6_init 110 = .ok (.putfield 60, 3) := by decide +kernel
theorem dX6_init_113 : decode cX6_init 113 = .ok (.iconst 0, 1) := by decide +kernel
theorem dX6_init_114 : decode cX6_init 114 = .ok (.istore_n 1, 1) := by decide +kernel
theorem dX6_init_115 : decode cX6_init 115 = .ok (.iload_n 1, 1) := by decide +kernel
theorem dX6_init_116 : decode cX6_init 116 = .ok (.iconst 3, 1) := by decide +kernel
theorem dX6_init_117 : decode cX6_init 117 = .ok (.if_icmp .ge 22, 3) := by decide +kernel
theorem dX6_init_120 : decode cX6_init 120 = .ok (.aload_n 0, 1) := by decide +kernel
theorem dX6_init_121 : decode cX6_init 121 = .ok (.getfield 26, 3) := by decide +kernel
theorem dX6_init_124 : decode cX6_init 124 = .ok (.iload_n 1, 1) := by decide +kernel
theorem dX6_init_125 : decode cX6_init 125 = .ok (.new 16, 3) := by decide +kernel
theorem dX6_init_128 : decode cX6_init 128 = .ok (.dup, 1) := by decide +kernel
theorem dX6_init_129 : decode cX6_init 129 = .ok (.invokespecial 18, 3) := by decide +kernel
theorem dX6_init_132 : decode cX6_init 132 = .ok (.aastore, 1) := by decide +kernel
theorem dX6_init_133 : decode cX6_init 133 = .ok (.iinc 1 1, 3) := by decide +kernel
theorem dX6_init_136 : decode cX6_init 136 = .ok (.goto (-21), 3) := by decide +kernel
theorem dX6_init_139 : decode cX6_init 139 = .ok (.iconst 0, 1) := by decide +kernel
theorem dX6_init_140 : decode cX6_init 140 = .ok (.istore_n 1, 1) := by decide +kernel
theorem dX6_init_141 : decode cX6_init 141 = .ok (.iload_n 1, 1) := by decide +kernel
theorem dX6_init_142 : decode cX6_init 142 = .ok (.iconst 4, 1) := by decide +kernel
theorem dX6_init_143 : decode cX6_init 143 = .ok (.if_icmp .ge 22, 3) := by decide +kernel
theorem dX6_init_146 : decode cX6_init 146 = .ok (.aload_n 0, 1) := by decide +kernel
theorem dX6_init_147 : decode cX6_init 147 = .ok (.getfield 32, 3) := by decide +kernel
theorem dX6_init_150 : decode cX6_init 150 = .ok (.iload_n 1, 1) := by decide +kernel
theorem dX6_init_151 : decode cX6_init 151 = .ok (.new 30, 3) := by decide +kernel
theorem dX6_init_154 : decode cX6_init 154 = .ok (.dup, 1) := by decide +kernel
theorem dX6_init_155 : decode cX6_init 155 = .ok (.invokespecial 63, 3) := by decide +kernel
theorem dX6_init_158 : decode cX6_init 158 = .ok (.aastore, 1) := by decide +kernel
theorem dX6_init_159 : decode cX6_init 159 = .ok (.iinc 1 1, 3) := by decide +kernel
theorem dX6_init_162 : decode cX6_init 162 = .ok (.goto (-21), 3) := by decide +kernel
theorem dX6_init_165 : decode cX6_init 165 = .ok (.return_, 1) := by decide +kernel
theorem dX6_feed_0 : decode cX6_feed 0 = .ok (.aload_n 0, 1) := by decide +kernel
theorem dX6_feed_1 : decode cX6_feed 1 = .ok (.getfield 10, 3) := by decide +kernel
theorem dX6_feed_4 : decode cX6_feed 4 = .ok (.bipush 20, 2) := by decide +kernel
theorem dX6_feed_6 : decode cX6_feed 6 = .ok (.invokevirtual 64, 3) := by decide +kernel
theorem dX6_feed_9 : decode cX6_feed 9 = .ok (.ifCond .ne 5, 3) := by decide +kernel
theorem dX6_feed_12 : decode cX6_feed 12 = .ok (.iconst (-1), 1) := by decide +kernel
theorem dX6_feed_13 : decode cX6_feed 13 = .ok (.ireturn, 1) := by decide +kernel
theorem dX6_feed_14 : decode cX6_feed 14 = .ok (.aload_n 0, 1) := by decide +kernel
theorem dX6_feed_15 : decode cX6_feed 15 = .ok (.getfield 10, 3) := by decide +kernel
theorem dX6_feed_18 : decode cX6_feed 18 = .ok (.iload_n 1, 1) := by decide +kernel
theorem dX6_feed_19 : decode cX6_feed 19 = .ok (.invokevirtual 68, 3) := by decide +kernel
theorem dX6_feed_22 : decode cX6_feed 22 = .ok (.aload_n 0, 1) := by decide +kernel
theorem dX6_feed_23 : decode cX6_feed 23 = .ok (.getfield 10, 3) := by decide +kernel
theorem dX6_feed_26 : decode cX6_feed 26 = .ok (.iload_n 2, 1) := by decide +kernel
theorem dX6_feed_27 : decode cX6_feed 27 = .ok (.invokevirtual 68, 3) := by decide +kernel
theorem dX6_feed_30 : decode cX6_feed 30 = .ok (.aload_n 0, 1) := by decide +kernel
theorem dX6_feed_31 : decode cX6_feed 31 = .ok (.getfield 10, 3) := by decide +kernel
theorem dX6_feed_34 : decode cX6_feed 34 = .ok (.iload_n 3, 1) := by decide +kernel
theorem dX6_feed_35 : decode cX6_feed 35 = .ok (.invokevirtual 68, 3) := by decide +kernel
theorem dX6_feed_38 : decode cX6_feed 38 = .ok (.aload_n 0, 1) := by decide +kernel
theorem dX6_feed_39 : decode cX6_feed 39 = .ok (.getfield 10, 3) := by decide +kernel
theorem dX6_feed_42 : decode cX6_feed 42 = .ok (.iload 4, 2) := by decide +kernel
theorem dX6_feed_44 : decode cX6_feed 44 = .ok (.invokevirtual 68, 3) := by decide +kernel
theorem dX6_feed_47 : decode cX6_feed 47 = .ok (.aload_n 0, 1) := by decide +kernel
theorem dX6_feed_48 : decode cX6_feed 48 = .ok (.getfield 10, 3) := by decide +kernel
theorem dX6_feed_51 : decode cX6_feed 51 = .ok (.iload 5, 2) := by decide +kernel
theorem dX6_feed_53 : decode cX6_feed 53 = .ok (.invokevirtual 68, 3) := by decide +kernel
theorem dX6_feed_56 : decode cX6_feed 56 = .ok (.aload_n 0, 1) := by decide +kernel
theorem dX6_feed_57 : decode cX6_feed 57 = .ok (.getfield 10, 3) := by decide +kernel
theorem dX6_feed_60 : decode cX6_feed 60 = .ok (.getfield 72, 3) := by decide +kernel
theorem dX6_feed_63 : decode cX6_feed 63 = .ok (.ireturn, 1) := by decide +kernel
theorem dX6_end_0 : decode cX6_end 0 = .ok (.iload_n 1, 1) := by decide +kernel
theorem dX6_end_1 : decode cX6_end 1 = .ok (.ifCond .lt 14, 3) := by decide +kernel
theorem dX6_end_4 : decode cX6_end 4 = .ok (.iload_n 1, 1) := by decide +kernel
theorem dX6_end_5 : decode cX6_end 5 = .ok (.aload_n 0, 1) := by decide +kernel
theorem dX6_end_6 : decode cX6_end 6 = .ok (.getfield 10, 3) := by decide +kernel
theorem dX6_end_9 : decode cX6_end 9 = .ok (.getfield 72, 3) := by decide +kernel
theorem dX6_end_12 : decode cX6_end 12 = .ok (.if_icmp .le 5, 3) := by decide +kernel
theorem dX6_end_15 : decode cX6_end 15 = .ok (.iconst (-1), 1) := by decide +kernel
theorem dX6_end_16 : decode cX6_end 16 = .ok (.ireturn, 1) := by decide +kernel
theorem dX6_end_17 : decode cX6_end 17 = .ok (.aload_n 0, 1) := by decide +kernel
theorem dX6_end_18 : decode cX6_end 18 = .ok (.getfield 10, 3) := by decide +kernel
theorem dX6_end_21 : decode cX6_end 21 = .ok (.iload_n 1, 1) := by decide +kernel
theorem dX6_end_22 : decode cX6_end 22 = .ok (.putfield 72, 3) := by decide +kernel
theorem dX6_end_25 : decode cX6_end 25 = .ok (.iload_n 1, 1) := by decide +kernel
theorem dX6_end_26 : decode cX6_end 26 = .ok (.ireturn, 1) := by decide +kernel
theorem dX6_store_0 : decode cX6_store 0 = .ok (.aload_n 0, 1) := by decide +kernel
theorem dX6_store_1 : decode cX6_store 1 = .ok (.getfield 10, 3) := by decide +kernel
theorem dX6_store_4 : decode cX6_store 4 = .ok (.aload_n 0, 1) := by decide +kernel
theorem dX6_store_5 : decode cX6_store 5 = .ok (.getfield 23, 3) := by decide +kernel
theorem dX6_store_8 : decode cX6_store 8 = .ok (.invokevirtual 76, 3) := by decide +kernel
theorem dX6_store_11 : decode cX6_store 11 = .ok (.istore_n 1, 1) := by decide +kernel
theorem dX6_store_12 : decode cX6_store 12 = .ok (.aload_n 0, 1) := by decide +kernel
theorem dX6_store_13 : decode cX6_store 13 = .ok (.getfield 10, 3) := by decide +kernel
theorem dX6_store_16 : decode cX6_store 16 = .ok (.iconst 0, 1) := by decide +kernel
theorem dX6_store_17 : decode cX6_store 17 = .ok (.putfield 72, 3) := by decide +kernel
theorem dX6_store_20 : decode cX6_store 20 = .ok (.iload_n 1, 1) := by decide +kernel
theorem dX6_store_21 : decode cX6_store 21 = .ok (.ifCond .ne 6, 3) := by decide +kernel
theorem dX6_store_24 : decode cX6_store 24 = .ok (.bipush (-4), 2) := by decide +kernel
theorem dX6_store_26 : decode cX6_store 26 = .ok (.ireturn, 1) := by decide +kernel
theorem dX6_store_27 : decode cX6_store 27 = .ok (.aload_n 0, 1) := by decide +kernel
theorem dX6_store_28 : decode cX6_store 28 = .ok (.getfield 19, 3) := by decide +kernel
theorem dX6_store_31 : decode cX6_store 31 = .ok (.aload_n 0, 1) := by decide +kernel
theorem dX6_store_32 : decode cX6_store 32 = .ok (.getfield 23, 3) := by decide +kernel
theorem dX6_store_35 : decode cX6_store 35 = .ok (.invokevirtual 80, 3) := by decide +kernel
theorem dX6_store_38 : decode cX6_store 38 = .ok (.aload_n 0, 1) := by decide +kernel
theorem dX6_store_39 : decode cX6_store 39 = .ok (.invokevirtual 84, 3) := by decide +kernel
theorem dX6_store_42 : decode cX6_store 42 = .ok (.aload_n 0, 1) := by decide +kernel
theorem dX6_store_43 : decode cX6_store 43 = .ok (.getfield 19, 3) := by decide +kernel
theorem dX6_store_46 : decode cX6_store 46 = .ok (.invokevirtual 87, 3) := by decide +kernel
theorem dX6_store_49 : decode cX6_store 49 = .ok (.ireturn, 1) := by decide +kernel
theorem dX6_fault_0 : decode cX6_fault 0 = .ok (.iload_n 1, 1) := by decide +kernel
theorem dX6_fault_1 : decode cX6_fault 1 = .ok (.ifCond .ne 11, 3) := by decide +kernel
theorem dX6_fault_4 : decode cX6_fault 4 = .ok (.aload_n 0, 1) := by decide +kernel
theorem dX6_fault_5 : decode cX6_fault 5 = .ok (.getfield 10, 3) := by decide +kernel
theorem dX6_fault_8 : decode cX6_fault 8 = .ok (.getfield 91, 3) := by decide +kernel
theorem dX6_fault_11 : decode cX6_fault 11 = .ok (.ireturn, 1) := by decide +kernel
theorem dX6_fault_12 : decode cX6_fault 12 = .ok (.iload_n 1, 1) := by decide +kernel
theorem dX6_fault_13 : decode cX6_fault 13 = .ok (.iconst 1, 1) := by decide +kernel
theorem dX6_fault_14 : decode cX6_fault 14 = .ok (.if_icmp .ne 13, 3) := by decide +kernel
theorem dX6_fault_17 : decode cX6_fault 17 = .ok (.aload_n 0, 1) := by decide +kernel
theorem dX6_fault_18 : decode cX6_fault 18 = .ok (.getfield 10, 3) := by decide +kernel
theorem dX6_fault_21 : decode cX6_fault 21 = .ok (.getfield 94, 3) := by decide +kernel
theorem dX6_fault_24 : decode cX6_fault 24 = .ok (.goto 4, 3) := by decide +kernel
theorem dX6_fault_27 : decode cX6_fault 27 = .ok (.iconst (-1), 1) := by decide +kernel
theorem dX6_fault_28 : decode cX6_fault 28 = .ok (.ireturn, 1) := by decide +kernel
theorem dX6_event_0 : decode cX6_event 0 = .ok (.aload_n 0, 1) := by decide +kernel
theorem dX6_event_1 : decode cX6_event 1 = .ok (.iload_n 1, 1) := by decide +kernel
theorem dX6_event_2 : decode cX6_event 2 = .ok (.invokevirtual 97, 3) := by decide +kernel
theorem dX6_event_5 : decode cX6_event 5 = .ok (.ifCond .eq 12, 3) := by decide +kernel
theorem dX6_event_8 : decode cX6_event 8 = .ok (.iload_n 2, 1) := by decide +kernel
theorem dX6_event_9 : decode cX6_event 9 = .ok (.ifCond .lt 8, 3) := by decide +kernel
theorem dX6_event_12 : decode cX6_event 12 = .ok (.iload_n 2, 1) := by decide +kernel
theorem dX6_event_13 : decode cX6_event 13 = .ok (.iconst 3, 1) := by decide +kernel
theorem dX6_event_14 : decode cX6_event 14 = .ok (.if_icmp .le 6, 3) := by decide +kernel
theorem dX6_event_17 : decode cX6_event 17 = .ok (.bipush (-2), 2) := by decide +kernel
theorem dX6_event_19 : decode cX6_event 19 = .ok (.ireturn, 1) := by decide +kernel
theorem dX6_event_20 : decode cX6_event 20 = .ok (.iload_n 2, 1) := by decide +kernel
theorem dX6_event_21 : decode cX6_event 21 = .ok (.ifCond .ne 14, 3) := by decide +kernel
theorem dX6_event_24 : decode cX6_event 24 = .ok (.aload_n 0, 1) := by decide +kernel
theorem dX6_event_25 : decode cX6_event 25 = .ok (.getfield 19, 3) := by decide +kernel
theorem dX6_event_28 : decode cX6_event 28 = .ok (.iload_n 1, 1) := by decide +kernel
theorem dX6_event_29 : decode cX6_event 29 = .ok (.invokevirtual 100, 3) := by decide +kernel
theorem dX6_event_32 : decode cX6_event 32 = .ok (.goto 14, 3) := by decide +kernel
theorem dX6_event_35 : decode cX6_event 35 = .ok (.aload_n 0, 1) := by decide +kernel
theorem dX6_event_36 : decode cX6_event 36 = .ok (.getfield 19, 3) := by decide +kernel
theorem dX6_event_39 : decode cX6_event 39 = .ok (.iload_n 1, 1) := by decide +kernel
theorem dX6_event_40 : decode cX6_event 40 = .ok (.iload_n 2, 1) := by decide +kernel
theorem dX6_event_41 : decode cX6_event 41 = .ok (.iconst 1, 1) := by decide +kernel
theorem dX6_event_42 : decode cX6_event 42 = .ok (.isub, 1) := by decide +kernel
theorem dX6_event_43 : decode cX6_event 43 = .ok (.invokevirtual 104, 3) := by decide +kernel
theorem dX6_event_46 : decode cX6_event 46 = .ok (.ireturn, 1) := by decide +kernel
theorem dX6_refused_0 : decode cX6_refused 0 = .ok (.aload_n 0, 1) := by decide +kernel
theorem dX6_refused_1 : decode cX6_refused 1 = .ok (.iload_n 1, 1) := by decide +kernel
theorem dX6_refused_2 : decode cX6_refused 2 = .ok (.invokevirtual 97, 3) := by decide +kernel
theorem dX6_refused_5 : decode cX6_refused 5 = .ok (.ifCond .ne 6, 3) := by decide +kernel
theorem dX6_refused_8 : decode cX6_refused 8 = .ok (.bipush (-2), 2) := by decide +kernel
theorem dX6_refused_10 : decode cX6_refused 10 = .ok (.ireturn, 1) := by decide +kernel
theorem dX6_refused_11 : decode cX6_refused 11 = .ok (.aload_n 0, 1) := by decide +kernel
theorem dX6_refused_12 : decode cX6_refused 12 = .ok (.iload_n 1, 1) := by decide +kernel
theorem dX6_refused_13 : decode cX6_refused 13 = .ok (.iconst 1, 1) := by decide +kernel
theorem dX6_refused_14 : decode cX6_refused 14 = .ok (.iadd, 1) := by decide +kernel
theorem dX6_refused_15 : decode cX6_refused 15 = .ok (.invokevirtual 108, 3) := by decide +kernel
theorem dX6_refused_18 : decode cX6_refused 18 = .ok (.aload_n 0, 1) := by decide +kernel
theorem dX6_refused_19 : decode cX6_refused 19 = .ok (.getfield 39, 3) := by decide +kernel
theorem dX6_refused_22 : decode cX6_refused 22 = .ok (.getfield 111, 3) := by decide +kernel
theorem dX6_refused_25 : decode cX6_refused 25 = .ok (.ireturn, 1) := by decide +kernel
theorem dX6_value_0 : decode cX6_value 0 = .ok (.aload_n 0, 1) := by decide +kernel
theorem dX6_value_1 : decode cX6_value 1 = .ok (.iload_n 1, 1) := by decide +kernel
theorem dX6_value_2 : decode cX6_value 2 = .ok (.invokevirtual 114, 3) := by decide +kernel
theorem dX6_value_5 : decode cX6_value 5 = .ok (.ifCond .eq 11, 3) := by decide +kernel
theorem dX6_value_8 : decode cX6_value 8 = .ok (.aload_n 0, 1) := by decide +kernel
theorem dX6_value_9 : decode cX6_value 9 = .ok (.iload_n 2, 1) := by decide +kernel
theorem dX6_value_10 : decode cX6_value 10 = .ok (.invokevirtual 117, 3) := by decide +kernel
theorem dX6_value_13 : decode cX6_value 13 = .ok (.ifCond .ne 6, 3) := by decide +kernel
theorem dX6_value_16 : decode cX6_value 16 = .ok (.bipush (-2), 2) := by decide +kernel
theorem dX6_value_18 : decode cX6_value 18 = .ok (.ireturn, 1) := by decide +kernel
theorem dX6_value_19 : decode cX6_value 19 = .ok (.aload_n 0, 1) := by decide +kernel
theorem dX6_value_20 : decode cX6_value 20 = .ok (.iload_n 2, 1) := by decide +kernel
theorem dX6_value_21 : decode cX6_value 21 = .ok (.invokevirtual 108, 3) := by decide +kernel
theorem dX6_value_24 : decode cX6_value 24 = .ok (.aload_n 0, 1) := by decide +kernel
theorem dX6_value_25 : decode cX6_value 25 = .ok (.getfield 39, 3) := by decide +kernel
theorem dX6_value_28 : decode cX6_value 28 = .ok (.getfield 120, 3) := by decide +kernel
theorem dX6_value_31 : decode cX6_value 31 = .ok (.iload_n 1, 1) := by decide +kernel
theorem dX6_value_32 : decode cX6_value 32 = .ok (.invokevirtual 123, 3) := by decide +kernel
theorem dX6_value_35 : decode cX6_value 35 = .ok (.ireturn, 1) := by decide +kernel
theorem dX6_sum_0 : decode cX6_sum 0 = .ok (.aload_n 0, 1) := by decide +kernel
theorem dX6_sum_1 : decode cX6_sum 1 = .ok (.iload_n 1, 1) := by decide +kernel
theorem dX6_sum_2 : decode cX6_sum 2 = .ok (.invokevirtual 117, 3) := by decide +kernel
theorem dX6_sum_5 : decode cX6_sum 5 = .ok (.ifCond .ne 6, 3) := by decide +kernel
theorem dX6_sum_8 : decode cX6_sum 8 = .ok (.bipush (-2), 2) := by decide +kernel
theorem dX6_sum_10 : decode cX6_sum 10 = .ok (.ireturn, 1) := by decide +kernel
theorem dX6_sum_11 : decode cX6_sum 11 = .ok (.aload_n 0, 1) := by decide +kernel
theorem dX6_sum_12 : decode cX6_sum 12 = .ok (.iload_n 1, 1) := by decide +kernel
theorem dX6_sum_13 : decode cX6_sum 13 = .ok (.invokevirtual 108, 3) := by decide +kernel
theorem dX6_sum_16 : decode cX6_sum 16 = .ok (.aload_n 0, 1) := by decide +kernel
theorem dX6_sum_17 : decode cX6_sum 17 = .ok (.getfield 39, 3) := by decide +kernel
theorem dX6_sum_20 : decode cX6_sum 20 = .ok (.getfield 120, 3) := by decide +kernel
theorem dX6_sum_23 : decode cX6_sum 23 = .ok (.invokevirtual 126, 3) := by decide +kernel
theorem dX6_sum_26 : decode cX6_sum 26 = .ok (.ireturn, 1) := by decide +kernel
theorem dX6_changes_0 : decode cX6_changes 0 = .ok (.aload_n 0, 1) := by decide +kernel
theorem dX6_changes_1 : decode cX6_changes 1 = .ok (.iload_n 1, 1) := by decide +kernel
theorem dX6_changes_2 : decode cX6_changes 2 = .ok (.invokevirtual 97, 3) := by decide +kernel
theorem dX6_changes_5 : decode cX6_changes 5 = .ok (.ifCond .ne 6, 3) := by decide +kernel
theorem dX6_changes_8 : decode cX6_changes 8 = .ok (.bipush (-2), 2) := by decide +kernel
theorem dX6_changes_10 : decode cX6_changes 10 = .ok (.ireturn, 1) := by decide +kernel
theorem dX6_changes_11 : decode cX6_changes 11 = .ok (.aload_n 0, 1) := by decide +kernel
theorem dX6_changes_12 : decode cX6_changes 12 = .ok (.iload_n 1, 1) := by decide +kernel
theorem dX6_changes_13 : decode cX6_changes 13 = .ok (.iconst 1, 1) := by decide +kernel
theorem dX6_changes_14 : decode cX6_changes 14 = .ok (.iadd, 1) := by decide +kernel
theorem dX6_changes_15 : decode cX6_changes 15 = .ok (.invokevirtual 108, 3) := by decide +kernel
theorem dX6_changes_18 : decode cX6_changes 18 = .ok (.aload_n 0, 1) := by decide +kernel
theorem dX6_changes_19 : decode cX6_changes 19 = .ok (.getfield 39, 3) := by decide +kernel
theorem dX6_changes_22 : decode cX6_changes 22 = .ok (.getfield 129, 3) := by decide +kernel
theorem dX6_changes_25 : decode cX6_changes 25 = .ok (.invokestatic 132, 3) := by decide +kernel
theorem dX6_changes_28 : decode cX6_changes 28 = .ok (.ireturn, 1) := by decide +kernel
theorem dX6_latest_0 : decode cX6_latest 0 = .ok (.aload_n 0, 1) := by decide +kernel
theorem dX6_latest_1 : decode cX6_latest 1 = .ok (.iload_n 1, 1) := by decide +kernel
theorem dX6_latest_2 : decode cX6_latest 2 = .ok (.invokevirtual 114, 3) := by decide +kernel
theorem dX6_latest_5 : decode cX6_latest 5 = .ok (.ifCond .eq 11, 3) := by decide +kernel
theorem dX6_latest_8 : decode cX6_latest 8 = .ok (.aload_n 0, 1) := by decide +kernel
theorem dX6_latest_9 : decode cX6_latest 9 = .ok (.iload_n 2, 1) := by decide +kernel
theorem dX6_latest_10 : decode cX6_latest 10 = .ok (.invokevirtual 117, 3) := by decide +kernel
theorem dX6_latest_13 : decode cX6_latest 13 = .ok (.ifCond .ne 6, 3) := by decide +kernel
theorem dX6_latest_16 : decode cX6_latest 16 = .ok (.bipush (-2), 2) := by decide +kernel
theorem dX6_latest_18 : decode cX6_latest 18 = .ok (.ireturn, 1) := by decide +kernel
theorem dX6_latest_19 : decode cX6_latest 19 = .ok (.aload_n 0, 1) := by decide +kernel
theorem dX6_latest_20 : decode cX6_latest 20 = .ok (.iload_n 2, 1) := by decide +kernel
theorem dX6_latest_21 : decode cX6_latest 21 = .ok (.invokevirtual 108, 3) := by decide +kernel
theorem dX6_latest_24 : decode cX6_latest 24 = .ok (.aload_n 0, 1) := by decide +kernel
theorem dX6_latest_25 : decode cX6_latest 25 = .ok (.getfield 39, 3) := by decide +kernel
theorem dX6_latest_28 : decode cX6_latest 28 = .ok (.iload_n 1, 1) := by decide +kernel
theorem dX6_latest_29 : decode cX6_latest 29 = .ok (.invokevirtual 137, 3) := by decide +kernel
theorem dX6_latest_32 : decode cX6_latest 32 = .ok (.ireturn, 1) := by decide +kernel
theorem dX6_dirty_0 : decode cX6_dirty 0 = .ok (.aload_n 0, 1) := by decide +kernel
theorem dX6_dirty_1 : decode cX6_dirty 1 = .ok (.iload_n 1, 1) := by decide +kernel
theorem dX6_dirty_2 : decode cX6_dirty 2 = .ok (.invokevirtual 114, 3) := by decide +kernel
theorem dX6_dirty_5 : decode cX6_dirty 5 = .ok (.ifCond .eq 11, 3) := by decide +kernel
theorem dX6_dirty_8 : decode cX6_dirty 8 = .ok (.aload_n 0, 1) := by decide +kernel
theorem dX6_dirty_9 : decode cX6_dirty 9 = .ok (.iload_n 2, 1) := by decide +kernel
theorem dX6_dirty_10 : decode cX6_dirty 10 = .ok (.invokevirtual 117, 3) := by decide +kernel
theorem dX6_dirty_13 : decode cX6_dirty 13 = .ok (.ifCond .ne 6, 3) := by decide +kernel
theorem dX6_dirty_16 : decode cX6_dirty 16 = .ok (.bipush (-2), 2) := by decide +kernel
theorem dX6_dirty_18 : decode cX6_dirty 18 = .ok (.ireturn, 1) := by decide +kernel
theorem dX6_dirty_19 : decode cX6_dirty 19 = .ok (.aload_n 0, 1) := by decide +kernel
theorem dX6_dirty_20 : decode cX6_dirty 20 = .ok (.iload_n 2, 1) := by decide +kernel
theorem dX6_dirty_21 : decode cX6_dirty 21 = .ok (.invokevirtual 108, 3) := by decide +kernel
theorem dX6_dirty_24 : decode cX6_dirty 24 = .ok (.aload_n 0, 1) := by decide +kernel
theorem dX6_dirty_25 : decode cX6_dirty 25 = .ok (.getfield 39, 3) := by decide +kernel
theorem dX6_dirty_28 : decode cX6_dirty 28 = .ok (.getfield 140, 3) := by decide +kernel
theorem dX6_dirty_31 : decode cX6_dirty 31 = .ok (.iload_n 1, 1) := by decide +kernel
theorem dX6_dirty_32 : decode cX6_dirty 32 = .ok (.invokestatic 143, 3) := by decide +kernel
theorem dX6_dirty_35 : decode cX6_dirty 35 = .ok (.ifCond .eq 7, 3) := by decide +kernel
theorem dX6_dirty_38 : decode cX6_dirty 38 = .ok (.iconst 1, 1) := by decide +kernel
theorem dX6_dirty_39 : decode cX6_dirty 39 = .ok (.goto 4, 3) := by decide +kernel
theorem dX6_dirty_42 : decode cX6_dirty 42 = .ok (.iconst 0, 1) := by decide +kernel
theorem dX6_dirty_43 : decode cX6_dirty 43 = .ok (.ireturn, 1) := by decide +kernel
theorem dX6_dirties_0 : decode cX6_dirties 0 = .ok (.aload_n 0, 1) := by decide +kernel
theorem dX6_dirties_1 : decode cX6_dirties 1 = .ok (.iload_n 1, 1) := by decide +kernel
theorem dX6_dirties_2 : decode cX6_dirties 2 = .ok (.invokevirtual 117, 3) := by decide +kernel
theorem dX6_dirties_5 : decode cX6_dirties 5 = .ok (.ifCond .ne 6, 3) := by decide +kernel
theorem dX6_dirties_8 : decode cX6_dirties 8 = .ok (.bipush (-2), 2) := by decide +kernel
theorem dX6_dirties_10 : decode cX6_dirties 10 = .ok (.ireturn, 1) := by decide +kernel
theorem dX6_dirties_11 : decode cX6_dirties 11 = .ok (.aload_n 0, 1) := by decide +kernel
theorem dX6_dirties_12 : decode cX6_dirties 12 = .ok (.iload_n 1, 1) := by decide +kernel
theorem dX6_dirties_13 : decode cX6_dirties 13 = .ok (.invokevirtual 108, 3) := by decide +kernel
theorem dX6_dirties_16 : decode cX6_dirties 16 = .ok (.aload_n 0, 1) := by decide +kernel
theorem dX6_dirties_17 : decode cX6_dirties 17 = .ok (.getfield 39, 3) := by decide +kernel
theorem dX6_dirties_20 : decode cX6_dirties 20 = .ok (.getfield 140, 3) := by decide +kernel
theorem dX6_dirties_23 : decode cX6_dirties 23 = .ok (.invokestatic 132, 3) := by decide +kernel
theorem dX6_dirties_26 : decode cX6_dirties 26 = .ok (.ireturn, 1) := by decide +kernel
theorem dX6_region_0 : decode cX6_region 0 = .ok (.aload_n 0, 1) := by decide +kernel
theorem dX6_region_1 : decode cX6_region 1 = .ok (.iload_n 3, 1) := by decide +kernel
theorem dX6_region_2 : decode cX6_region 2 = .ok (.invokevirtual 117, 3) := by decide +kernel
theorem dX6_region_5 : decode cX6_region 5 = .ok (.ifCond .eq 22, 3) := by decide +kernel
theorem dX6_region_8 : decode cX6_region 8 = .ok (.iload_n 1, 1) := by decide +kernel
theorem dX6_region_9 : decode cX6_region 9 = .ok (.invokestatic 147, 3) := by decide +kernel
theorem dX6_region_12 : decode cX6_region 12 = .ok (.ifCond .eq 15, 3) := by decide +kernel
theorem dX6_region_15 : decode cX6_region 15 = .ok (.iload_n 2, 1) := by decide +kernel
theorem dX6_region_16 : decode cX6_region 16 = .ok (.ifCond .lt 11, 3) := by decide +kernel
theorem dX6_region_19 : decode cX6_region 19 = .ok (.iload_n 2, 1) := by decide +kernel
theorem dX6_region_20 : decode cX6_region 20 = .ok (.bipush 32, 2) := by decide +kernel
theorem dX6_region_22 : decode cX6_region 22 = .ok (.iload_n 1, 1) := by decide +kernel
theorem dX6_region_23 : decode cX6_region 23 = .ok (.ishr, 1) := by decide +kernel
theorem dX6_region_24 : decode cX6_region 24 = .ok (.if_icmp .lt 6, 3) := by decide +kernel
theorem dX6_region_27 : decode cX6_region 27 = .ok (.bipush (-2), 2) := by decide +kernel
theorem dX6_region_29 : decode cX6_region 29 = .ok (.ireturn, 1) := by decide +kernel
theorem dX6_region_30 : decode cX6_region 30 = .ok (.aload_n 0, 1) := by decide +kernel
theorem dX6_region_31 : decode cX6_region 31 = .ok (.iload_n 3, 1) := by decide +kernel
theorem dX6_region_32 : decode cX6_region 32 = .ok (.invokevirtual 108, 3) := by decide +kernel
theorem dX6_region_35 : decode cX6_region 35 = .ok (.aload_n 0, 1) := by decide +kernel
theorem dX6_region_36 : decode cX6_region 36 = .ok (.getfield 39, 3) := by decide +kernel
theorem dX6_region_39 : decode cX6_region 39 = .ok (.getfield 140, 3) := by decide +kernel
theorem dX6_region_42 : decode cX6_region 42 = .ok (.iload_n 1, 1) := by decide +kernel
theorem dX6_region_43 : decode cX6_region 43 = .ok (.iload_n 2, 1) := by decide +kernel
theorem dX6_region_44 : decode cX6_region 44 = .ok (.invokestatic 150, 3) := by decide +kernel
theorem dX6_region_47 : decode cX6_region 47 = .ok (.iand, 1) := by decide +kernel
theorem dX6_region_48 : decode cX6_region 48 = .ok (.ifCond .eq 7, 3) := by decide +kernel
theorem dX6_region_51 : decode cX6_region 51 = .ok (.iconst 1, 1) := by decide +kernel
theorem dX6_region_52 : decode cX6_region 52 = .ok (.goto 4, 3) := by decide +kernel
theorem dX6_region_55 : decode cX6_region 55 = .ok (.iconst 0, 1) := by decide +kernel
theorem dX6_region_56 : decode cX6_region 56 = .ok (.ireturn, 1) := by decide +kernel
theorem dX6_regions_0 : decode cX6_regions 0 = .ok (.aload_n 0, 1) := by decide +kernel
theorem dX6_regions_1 : decode cX6_regions 1 = .ok (.iload_n 2, 1) := by decide +kernel
theorem dX6_regions_2 : decode cX6_regions 2 = .ok (.invokevirtual 117, 3) := by decide +kernel
theorem dX6_regions_5 : decode cX6_regions 5 = .ok (.ifCond .eq 10, 3) := by decide +kernel
theorem dX6_regions_8 : decode cX6_regions 8 = .ok (.iload_n 1, 1) := by decide +kernel
theorem dX6_regions_9 : decode cX6_regions 9 = .ok (.invokestatic 147, 3) := by decide +kernel
theorem dX6_regions_12 : decode cX6_regions 12 = .ok (.ifCond .ne 6, 3) := by decide +kernel
theorem dX6_regions_15 : decode cX6_regions 15 = .ok (.bipush (-2), 2) := by decide +kernel
theorem dX6_regions_17 : decode cX6_regions 17 = .ok (.ireturn, 1) := by decide +kernel
theorem dX6_regions_18 : decode cX6_regions 18 = .ok (.aload_n 0, 1) := by decide +kernel
theorem dX6_regions_19 : decode cX6_regions 19 = .ok (.iload_n 2, 1) := by decide +kernel
theorem dX6_regions_20 : decode cX6_regions 20 = .ok (.invokevirtual 108, 3) := by decide +kernel
theorem dX6_regions_23 : decode cX6_regions 23 = .ok (.iload_n 1, 1) := by decide +kernel
theorem dX6_regions_24 : decode cX6_regions 24 = .ok (.aload_n 0, 1) := by decide +kernel
theorem dX6_regions_25 : decode cX6_regions 25 = .ok (.getfield 39, 3) := by decide +kernel
theorem dX6_regions_28 : decode cX6_regions 28 = .ok (.getfield 140, 3) := by decide +kernel
theorem dX6_regions_31 : decode cX6_regions 31 = .ok (.invokestatic 153, 3) := by decide +kernel
theorem dX6_regions_34 : decode cX6_regions 34 = .ok (.ireturn, 1) := by decide +kernel
theorem dX6_looks_0 : decode cX6_looks 0 = .ok (.aload_n 0, 1) := by decide +kernel
theorem dX6_looks_1 : decode cX6_looks 1 = .ok (.iload_n 1, 1) := by decide +kernel
theorem dX6_looks_2 : decode cX6_looks 2 = .ok (.invokevirtual 117, 3) := by decide +kernel
theorem dX6_looks_5 : decode cX6_looks 5 = .ok (.ifCond .ne 6, 3) := by decide +kernel
theorem dX6_looks_8 : decode cX6_looks 8 = .ok (.bipush (-2), 2) := by decide +kernel
theorem dX6_looks_10 : decode cX6_looks 10 = .ok (.ireturn, 1) := by decide +kernel
theorem dX6_looks_11 : decode cX6_looks 11 = .ok (.aload_n 0, 1) := by decide +kernel
theorem dX6_looks_12 : decode cX6_looks 12 = .ok (.iload_n 1, 1) := by decide +kernel
theorem dX6_looks_13 : decode cX6_looks 13 = .ok (.invokevirtual 108, 3) := by decide +kernel
theorem dX6_looks_16 : decode cX6_looks 16 = .ok (.iconst 1, 1) := by decide +kernel
theorem dX6_looks_17 : decode cX6_looks 17 = .ok (.istore_n 2, 1) := by decide +kernel
theorem dX6_looks_18 : decode cX6_looks 18 = .ok (.iconst 1, 1) := by decide +kernel
theorem dX6_looks_19 : decode cX6_looks 19 = .ok (.istore_n 3, 1) := by decide +kernel
theorem dX6_looks_20 : decode cX6_looks 20 = .ok (.iload_n 3, 1) := by decide +kernel
theorem dX6_looks_21 : decode cX6_looks 21 = .ok (.iconst 5, 1) := by decide +kernel
theorem dX6_looks_22 : decode cX6_looks 22 = .ok (.if_icmp .gt 25, 3) := by decide +kernel
theorem dX6_looks_25 : decode cX6_looks 25 = .ok (.iload_n 2, 1) := by decide +kernel
theorem dX6_looks_26 : decode cX6_looks 26 = .ok (.iconst 2, 1) := by decide +kernel
theorem dX6_looks_27 : decode cX6_looks 27 = .ok (.iload_n 3, 1) := by decide +kernel
theorem dX6_looks_28 : decode cX6_looks 28 = .ok (.aload_n 0, 1) := by decide +kernel
theorem dX6_looks_29 : decode cX6_looks 29 = .ok (.getfield 39, 3) := by decide +kernel
theorem dX6_looks_32 : decode cX6_looks 32 = .ok (.getfield 140, 3) := by decide +kernel
theorem dX6_looks_35 : decode cX6_looks 35 = .ok (.invokestatic 153, 3) := by decide +kernel
theorem dX6_looks_38 : decode cX6_looks 38 = .ok (.imul, 1) := by decide +kernel
theorem dX6_looks_39 : decode cX6_looks 39 = .ok (.iadd, 1) := by decide +kernel
theorem dX6_looks_40 : decode cX6_looks 40 = .ok (.istore_n 2, 1) := by decide +kernel
theorem dX6_looks_41 : decode cX6_looks 41 = .ok (.iinc 3 1, 3) := by decide +kernel
theorem dX6_looks_44 : decode cX6_looks 44 = .ok (.goto (-24), 3) := by decide +kernel
theorem dX6_looks_47 : decode cX6_looks 47 = .ok (.iload_n 2, 1) := by decide +kernel
theorem dX6_looks_48 : decode cX6_looks 48 = .ok (.ireturn, 1) := by decide +kernel
theorem dX6_copies_0 : decode cX6_copies 0 = .ok (.aload_n 0, 1) := by decide +kernel
theorem dX6_copies_1 : decode cX6_copies 1 = .ok (.iload_n 1, 1) := by decide +kernel
theorem dX6_copies_2 : decode cX6_copies 2 = .ok (.invokevirtual 117, 3) := by decide +kernel
theorem dX6_copies_5 : decode cX6_copies 5 = .ok (.ifCond .ne 6, 3) := by decide +kernel
theorem dX6_copies_8 : decode cX6_copies 8 = .ok (.bipush (-2), 2) := by decide +kernel
theorem dX6_copies_10 : decode cX6_copies 10 = .ok (.ireturn, 1) := by decide +kernel
theorem dX6_copies_11 : decode cX6_copies 11 = .ok (.aload_n 0, 1) := by decide +kernel
theorem dX6_copies_12 : decode cX6_copies 12 = .ok (.iload_n 1, 1) := by decide +kernel
theorem dX6_copies_13 : decode cX6_copies 13 = .ok (.invokevirtual 108, 3) := by decide +kernel
theorem dX6_copies_16 : decode cX6_copies 16 = .ok (.aload_n 0, 1) := by decide +kernel
theorem dX6_copies_17 : decode cX6_copies 17 = .ok (.getfield 39, 3) := by decide +kernel
theorem dX6_copies_20 : decode cX6_copies 20 = .ok (.getfield 156, 3) := by decide +kernel
theorem dX6_copies_23 : decode cX6_copies 23 = .ok (.ireturn, 1) := by decide +kernel
theorem dX6_open_0 : decode cX6_open 0 = .ok (.aload_n 0, 1) := by decide +kernel
theorem dX6_open_1 : decode cX6_open 1 = .ok (.iload_n 1, 1) := by decide +kernel
theorem dX6_open_2 : decode cX6_open 2 = .ok (.invokevirtual 117, 3) := by decide +kernel
theorem dX6_open_5 : decode cX6_open 5 = .ok (.ifCond .ne 6, 3) := by decide +kernel
theorem dX6_open_8 : decode cX6_open 8 = .ok (.bipush (-2), 2) := by decide +kernel
theorem dX6_open_10 : decode cX6_open 10 = .ok (.ireturn, 1) := by decide +kernel
theorem dX6_open_11 : decode cX6_open 11 = .ok (.aload_n 0, 1) := by decide +kernel
theorem dX6_open_12 : decode cX6_open 12 = .ok (.iload_n 1, 1) := by decide +kernel
theorem dX6_open_13 : decode cX6_open 13 = .ok (.invokevirtual 108, 3) := by decide +kernel
theorem dX6_open_16 : decode cX6_open 16 = .ok (.aload_n 0, 1) := by decide +kernel
theorem dX6_open_17 : decode cX6_open 17 = .ok (.getfield 39, 3) := by decide +kernel
theorem dX6_open_20 : decode cX6_open 20 = .ok (.getfield 159, 3) := by decide +kernel
theorem dX6_open_23 : decode cX6_open 23 = .ok (.ireturn, 1) := by decide +kernel
theorem dX6_copy_0 : decode cX6_copy 0 = .ok (.aload_n 0, 1) := by decide +kernel
theorem dX6_copy_1 : decode cX6_copy 1 = .ok (.iload_n 1, 1) := by decide +kernel
theorem dX6_copy_2 : decode cX6_copy 2 = .ok (.invokevirtual 162, 3) := by decide +kernel
theorem dX6_copy_5 : decode cX6_copy 5 = .ok (.astore_n 3, 1) := by decide +kernel
theorem dX6_copy_6 : decode cX6_copy 6 = .ok (.aload_n 3, 1) := by decide +kernel
theorem dX6_copy_7 : decode cX6_copy 7 = .ok (.ifnull 13, 3) := by decide +kernel
theorem dX6_copy_10 : decode cX6_copy 10 = .ok (.iload_n 2, 1) := by decide +kernel
theorem dX6_copy_11 : decode cX6_copy 11 = .ok (.ifCond .lt 9, 3) := by decide +kernel
theorem dX6_copy_14 : decode cX6_copy 14 = .ok (.iload_n 2, 1) := by decide +kernel
theorem dX6_copy_15 : decode cX6_copy 15 = .ok (.bipush 6, 2) := by decide +kernel
theorem dX6_copy_17 : decode cX6_copy 17 = .ok (.if_icmp .le 6, 3) := by decide +kernel
theorem dX6_copy_20 : decode cX6_copy 20 = .ok (.bipush (-2), 2) := by decide +kernel
theorem dX6_copy_22 : decode cX6_copy 22 = .ok (.ireturn, 1) := by decide +kernel
theorem dX6_copy_23 : decode cX6_copy 23 = .ok (.iload_n 2, 1) := by decide +kernel
theorem dX6_copy_24 : decode cX6_copy 24 = .ok (.tableswitch 84 0 5 #[40, 53, 58, 63, 71, 76], 40) := by decide +kernel
theorem dX6_copy_64 : decode cX6_copy 64 = .ok (.aload_n 3, 1) := by decide +kernel
theorem dX6_copy_65 : decode cX6_copy 65 = .ok (.getfield 166, 3) := by decide +kernel
theorem dX6_copy_68 : decode cX6_copy 68 = .ok (.ifCond .eq 7, 3) := by decide +kernel
theorem dX6_copy_71 : decode cX6_copy 71 = .ok (.iconst 1, 1) := by decide +kernel
theorem dX6_copy_72 : decode cX6_copy 72 = .ok (.goto 4, 3) := by decide +kernel
theorem dX6_copy_75 : decode cX6_copy 75 = .ok (.iconst 0, 1) := by decide +kernel
theorem dX6_copy_76 : decode cX6_copy 76 = .ok (.ireturn, 1) := by decide +kernel
theorem dX6_copy_77 : decode cX6_copy 77 = .ok (.aload_n 3, 1) := by decide +kernel
theorem dX6_copy_78 : decode cX6_copy 78 = .ok (.getfield 172, 3) := by decide +kernel
theorem dX6_copy_81 : decode cX6_copy 81 = .ok (.ireturn, 1) := by decide +kernel
theorem dX6_copy_82 : decode cX6_copy 82 = .ok (.aload_n 3, 1) := by decide +kernel
theorem dX6_copy_83 : decode cX6_copy 83 = .ok (.getfield 175, 3) := by decide +kernel
theorem dX6_copy_86 : decode cX6_copy 86 = .ok (.ireturn, 1) := by decide +kernel
theorem dX6_copy_87 : decode cX6_copy 87 = .ok (.aload_n 3, 1) := by decide +kernel
theorem dX6_copy_88 : decode cX6_copy 88 = .ok (.getfield 178, 3) := by decide +kernel
theorem dX6_copy_91 : decode cX6_copy 91 = .ok (.invokestatic 132, 3) := by decide +kernel
theorem dX6_copy_94 : decode cX6_copy 94 = .ok (.ireturn, 1) := by decide +kernel
theorem dX6_copy_95 : decode cX6_copy 95 = .ok (.aload_n 3, 1) := by decide +kernel
theorem dX6_copy_96 : decode cX6_copy 96 = .ok (.getfield 181, 3) := by decide +kernel
theorem dX6_copy_99 : decode cX6_copy 99 = .ok (.ireturn, 1) := by decide +kernel
theorem dX6_copy_100 : decode cX6_copy 100 = .ok (.aload_n 3, 1) := by decide +kernel
theorem dX6_copy_101 : decode cX6_copy 101 = .ok (.getfield 184, 3) := by decide +kernel
theorem dX6_copy_104 : decode cX6_copy 104 = .ok (.invokestatic 132, 3) := by decide +kernel
theorem dX6_copy_107 : decode cX6_copy 107 = .ok (.ireturn, 1) := by decide +kernel
theorem dX6_copy_108 : decode cX6_copy 108 = .ok (.aload_n 3, 1) := by decide +kernel
theorem dX6_copy_109 : decode cX6_copy 109 = .ok (.getfield 187, 3) := by decide +kernel
theorem dX6_copy_112 : decode cX6_copy 112 = .ok (.ireturn, 1) := by decide +kernel
theorem dX6_kept_0 : decode cX6_kept 0 = .ok (.aload_n 0, 1) := by decide +kernel
theorem dX6_kept_1 : decode cX6_kept 1 = .ok (.iload_n 1, 1) := by decide +kernel
theorem dX6_kept_2 : decode cX6_kept 2 = .ok (.invokevirtual 162, 3) := by decide +kernel
theorem dX6_kept_5 : decode cX6_kept 5 = .ok (.astore_n 3, 1) := by decide +kernel
theorem dX6_kept_6 : decode cX6_kept 6 = .ok (.aload_n 3, 1) := by decide +kernel
theorem dX6_kept_7 : decode cX6_kept 7 = .ok (.ifnull 11, 3) := by decide +kernel
theorem dX6_kept_10 : decode cX6_kept 10 = .ok (.aload_n 0, 1) := by decide +kernel
theorem dX6_kept_11 : decode cX6_kept 11 = .ok (.iload_n 2, 1) := by decide +kernel
theorem dX6_kept_12 : decode cX6_kept 12 = .ok (.invokevirtual 114, 3) := by decide +kernel
theorem dX6_kept_15 : decode cX6_kept 15 = .ok (.ifCond .ne 6, 3) := by decide +kernel
theorem dX6_kept_18 : decode cX6_kept 18 = .ok (.bipush (-2), 2) := by decide +kernel
theorem dX6_kept_20 : decode cX6_kept 20 = .ok (.ireturn, 1) := by decide +kernel
theorem dX6_kept_21 : decode cX6_kept 21 = .ok (.aload_n 3, 1) := by decide +kernel
theorem dX6_kept_22 : decode cX6_kept 22 = .ok (.getfield 175, 3) := by decide +kernel
theorem dX6_kept_25 : decode cX6_kept 25 = .ok (.iconst 2, 1) := by decide +kernel
theorem dX6_kept_26 : decode cX6_kept 26 = .ok (.if_icmp .eq 22, 3) := by decide +kernel
theorem dX6_kept_29 : decode cX6_kept 29 = .ok (.aload_n 3, 1) := by decide +kernel
theorem dX6_kept_30 : decode cX6_kept 30 = .ok (.getfield 190, 3) := by decide +kernel
theorem dX6_kept_33 : decode cX6_kept 33 = .ok (.iload_n 2, 1) := by decide +kernel
theorem dX6_kept_34 : decode cX6_kept 34 = .ok (.invokestatic 143, 3) := by decide +kernel
theorem dX6_kept_37 : decode cX6_kept 37 = .ok (.ifCond .eq 11, 3) := by decide +kernel
theorem dX6_kept_40 : decode cX6_kept 40 = .ok (.aload_n 3, 1) := by decide +kernel
theorem dX6_kept_41 : decode cX6_kept 41 = .ok (.iload_n 2, 1) := by decide +kernel
theorem dX6_kept_42 : decode cX6_kept 42 = .ok (.invokevirtual 193, 3) := by decide +kernel
theorem dX6_kept_45 : decode cX6_kept 45 = .ok (.goto 4, 3) := by decide +kernel
theorem dX6_kept_48 : decode cX6_kept 48 = .ok (.iconst (-1), 1) := by decide +kernel
theorem dX6_kept_49 : decode cX6_kept 49 = .ok (.ireturn, 1) := by decide +kernel
theorem dX6_saved_0 : decode cX6_saved 0 = .ok (.aload_n 0, 1) := by decide +kernel
theorem dX6_saved_1 : decode cX6_saved 1 = .ok (.iload_n 1, 1) := by decide +kernel
theorem dX6_saved_2 : decode cX6_saved 2 = .ok (.invokevirtual 162, 3) := by decide +kernel
theorem dX6_saved_5 : decode cX6_saved 5 = .ok (.astore_n 3, 1) := by decide +kernel
theorem dX6_saved_6 : decode cX6_saved 6 = .ok (.aload_n 3, 1) := by decide +kernel
theorem dX6_saved_7 : decode cX6_saved 7 = .ok (.ifnull 11, 3) := by decide +kernel
theorem dX6_saved_10 : decode cX6_saved 10 = .ok (.aload_n 0, 1) := by decide +kernel
theorem dX6_saved_11 : decode cX6_saved 11 = .ok (.iload_n 2, 1) := by decide +kernel
theorem dX6_saved_12 : decode cX6_saved 12 = .ok (.invokevirtual 114, 3) := by decide +kernel
theorem dX6_saved_15 : decode cX6_saved 15 = .ok (.ifCond .ne 6, 3) := by decide +kernel
theorem dX6_saved_18 : decode cX6_saved 18 = .ok (.bipush (-2), 2) := by decide +kernel
theorem dX6_saved_20 : decode cX6_saved 20 = .ok (.ireturn, 1) := by decide +kernel
theorem dX6_saved_21 : decode cX6_saved 21 = .ok (.aload_n 3, 1) := by decide +kernel
theorem dX6_saved_22 : decode cX6_saved 22 = .ok (.getfield 184, 3) := by decide +kernel
theorem dX6_saved_25 : decode cX6_saved 25 = .ok (.iload_n 2, 1) := by decide +kernel
theorem dX6_saved_26 : decode cX6_saved 26 = .ok (.invokestatic 143, 3) := by decide +kernel
theorem dX6_saved_29 : decode cX6_saved 29 = .ok (.ifCond .eq 7, 3) := by decide +kernel
theorem dX6_saved_32 : decode cX6_saved 32 = .ok (.iconst 1, 1) := by decide +kernel
theorem dX6_saved_33 : decode cX6_saved 33 = .ok (.goto 4, 3) := by decide +kernel
theorem dX6_saved_36 : decode cX6_saved 36 = .ok (.iconst 0, 1) := by decide +kernel
theorem dX6_saved_37 : decode cX6_saved 37 = .ok (.ireturn, 1) := by decide +kernel
theorem dX6_order_0 : decode cX6_order 0 = .ok (.aload_n 0, 1) := by decide +kernel
theorem dX6_order_1 : decode cX6_order 1 = .ok (.iload_n 1, 1) := by decide +kernel
theorem dX6_order_2 : decode cX6_order 2 = .ok (.invokevirtual 162, 3) := by decide +kernel
theorem dX6_order_5 : decode cX6_order 5 = .ok (.astore_n 3, 1) := by decide +kernel
theorem dX6_order_6 : decode cX6_order 6 = .ok (.aload_n 3, 1) := by decide +kernel
theorem dX6_order_7 : decode cX6_order 7 = .ok (.ifnull 7, 3) := by decide +kernel
theorem dX6_order_10 : decode cX6_order 10 = .ok (.iload_n 2, 1) := by decide +kernel
theorem dX6_order_11 : decode cX6_order 11 = .ok (.ifCond .ge 6, 3) := by decide +kernel
theorem dX6_order_14 : decode cX6_order 14 = .ok (.bipush (-2), 2) := by decide +kernel
theorem dX6_order_16 : decode cX6_order 16 = .ok (.ireturn, 1) := by decide +kernel
theorem dX6_order_17 : decode cX6_order 17 = .ok (.aload_n 3, 1) := by decide +kernel
theorem dX6_order_18 : decode cX6_order 18 = .ok (.iload_n 2, 1) := by decide +kernel
theorem dX6_order_19 : decode cX6_order 19 = .ok (.invokevirtual 196, 3) := by decide +kernel
theorem dX6_order_22 : decode cX6_order 22 = .ok (.ireturn, 1) := by decide +kernel
theorem dX6_waiting_0 : decode cX6_waiting 0 = .ok (.aload_n 0, 1) := by decide +kernel
theorem dX6_waiting_1 : decode cX6_waiting 1 = .ok (.iload_n 1, 1) := by decide +kernel
theorem dX6_waiting_2 : decode cX6_waiting 2 = .ok (.invokevirtual 117, 3) := by decide +kernel
theorem dX6_waiting_5 : decode cX6_waiting 5 = .ok (.ifCond .ne 6, 3) := by decide +kernel
theorem dX6_waiting_8 : decode cX6_waiting 8 = .ok (.bipush (-2), 2) := by decide +kernel
theorem dX6_waiting_10 : decode cX6_waiting 10 = .ok (.ireturn, 1) := by decide +kernel
theorem dX6_waiting_11 : decode cX6_waiting 11 = .ok (.aload_n 0, 1) := by decide +kernel
theorem dX6_waiting_12 : decode cX6_waiting 12 = .ok (.iload_n 1, 1) := by decide +kernel
theorem dX6_waiting_13 : decode cX6_waiting 13 = .ok (.invokevirtual 108, 3) := by decide +kernel
theorem dX6_waiting_16 : decode cX6_waiting 16 = .ok (.aload_n 0, 1) := by decide +kernel
theorem dX6_waiting_17 : decode cX6_waiting 17 = .ok (.getfield 39, 3) := by decide +kernel
theorem dX6_waiting_20 : decode cX6_waiting 20 = .ok (.aload_n 0, 1) := by decide +kernel
theorem dX6_waiting_21 : decode cX6_waiting 21 = .ok (.getfield 39, 3) := by decide +kernel
theorem dX6_waiting_24 : decode cX6_waiting 24 = .ok (.getfield 159, 3) := by decide +kernel
theorem dX6_waiting_27 : decode cX6_waiting 27 = .ok (.invokevirtual 199, 3) := by decide +kernel
theorem dX6_waiting_30 : decode cX6_waiting 30 = .ok (.astore_n 2, 1) := by decide +kernel
theorem dX6_waiting_31 : decode cX6_waiting 31 = .ok (.aload_n 2, 1) := by decide +kernel
theorem dX6_waiting_32 : decode cX6_waiting 32 = .ok (.ifnonnull 7, 3) := by decide +kernel
theorem dX6_waiting_35 : decode cX6_waiting 35 = .ok (.iconst (-1), 1) := by decide +kernel
theorem dX6_waiting_36 : decode cX6_waiting 36 = .ok (.goto 10, 3) := by decide +kernel
theorem dX6_waiting_39 : decode cX6_waiting 39 = .ok (.aload_n 2, 1) := by decide +kernel
theorem dX6_waiting_40 : decode cX6_waiting 40 = .ok (.invokevirtual 202, 3) := by decide +kernel
theorem dX6_waiting_43 : decode cX6_waiting 43 = .ok (.invokestatic 132, 3) := by decide +kernel
theorem dX6_waiting_46 : decode cX6_waiting 46 = .ok (.ireturn, 1) := by decide +kernel
theorem dX6_saves_0 : decode cX6_saves 0 = .ok (.aload_n 0, 1) := by decide +kernel
theorem dX6_saves_1 : decode cX6_saves 1 = .ok (.iload_n 1, 1) := by decide +kernel
theorem dX6_saves_2 : decode cX6_saves 2 = .ok (.invokevirtual 97, 3) := by decide +kernel
theorem dX6_saves_5 : decode cX6_saves 5 = .ok (.ifCond .ne 6, 3) := by decide +kernel
theorem dX6_saves_8 : decode cX6_saves 8 = .ok (.bipush (-2), 2) := by decide +kernel
theorem dX6_saves_10 : decode cX6_saves 10 = .ok (.ireturn, 1) := by decide +kernel
theorem dX6_saves_11 : decode cX6_saves 11 = .ok (.aload_n 0, 1) := by decide +kernel
theorem dX6_saves_12 : decode cX6_saves 12 = .ok (.iload_n 1, 1) := by decide +kernel
theorem dX6_saves_13 : decode cX6_saves 13 = .ok (.iconst 1, 1) := by decide +kernel
theorem dX6_saves_14 : decode cX6_saves 14 = .ok (.iadd, 1) := by decide +kernel
theorem dX6_saves_15 : decode cX6_saves 15 = .ok (.invokevirtual 108, 3) := by decide +kernel
theorem dX6_saves_18 : decode cX6_saves 18 = .ok (.aload_n 0, 1) := by decide +kernel
theorem dX6_saves_19 : decode cX6_saves 19 = .ok (.getfield 39, 3) := by decide +kernel
theorem dX6_saves_22 : decode cX6_saves 22 = .ok (.getfield 205, 3) := by decide +kernel
theorem dX6_saves_25 : decode cX6_saves 25 = .ok (.invokestatic 132, 3) := by decide +kernel
theorem dX6_saves_28 : decode cX6_saves 28 = .ok (.ireturn, 1) := by decide +kernel
theorem dX6_work_0 : decode cX6_work 0 = .ok (.aload_n 0, 1) := by decide +kernel
theorem dX6_work_1 : decode cX6_work 1 = .ok (.iload_n 1, 1) := by decide +kernel
theorem dX6_work_2 : decode cX6_work 2 = .ok (.invokevirtual 117, 3) := by decide +kernel
theorem dX6_work_5 : decode cX6_work 5 = .ok (.ifCond .ne 6, 3) := by decide +kernel
theorem dX6_work_8 : decode cX6_work 8 = .ok (.bipush (-2), 2) := by decide +kernel
theorem dX6_work_10 : decode cX6_work 10 = .ok (.ireturn, 1) := by decide +kernel
theorem dX6_work_11 : decode cX6_work 11 = .ok (.aload_n 0, 1) := by decide +kernel
theorem dX6_work_12 : decode cX6_work 12 = .ok (.iload_n 1, 1) := by decide +kernel
theorem dX6_work_13 : decode cX6_work 13 = .ok (.invokevirtual 108, 3) := by decide +kernel
theorem dX6_work_16 : decode cX6_work 16 = .ok (.aload_n 0, 1) := by decide +kernel
theorem dX6_work_17 : decode cX6_work 17 = .ok (.getfield 39, 3) := by decide +kernel
theorem dX6_work_20 : decode cX6_work 20 = .ok (.iconst 0, 1) := by decide +kernel
theorem dX6_work_21 : decode cX6_work 21 = .ok (.invokevirtual 208, 3) := by decide +kernel
theorem dX6_work_24 : decode cX6_work 24 = .ok (.aload_n 0, 1) := by decide +kernel
theorem dX6_work_25 : decode cX6_work 25 = .ok (.getfield 39, 3) := by decide +kernel
theorem dX6_work_28 : decode cX6_work 28 = .ok (.iconst 1, 1) := by decide +kernel
theorem dX6_work_29 : decode cX6_work 29 = .ok (.invokevirtual 208, 3) := by decide +kernel
theorem dX6_work_32 : decode cX6_work 32 = .ok (.iadd, 1) := by decide +kernel
theorem dX6_work_33 : decode cX6_work 33 = .ok (.aload_n 0, 1) := by decide +kernel
theorem dX6_work_34 : decode cX6_work 34 = .ok (.getfield 39, 3) := by decide +kernel
theorem dX6_work_37 : decode cX6_work 37 = .ok (.iconst 2, 1) := by decide +kernel
theorem dX6_work_38 : decode cX6_work 38 = .ok (.invokevirtual 208, 3) := by decide +kernel
theorem dX6_work_41 : decode cX6_work 41 = .ok (.iadd, 1) := by decide +kernel
theorem dX6_work_42 : decode cX6_work 42 = .ok (.ireturn, 1) := by decide +kernel
theorem dX6_wasted_0 : decode cX6_wasted 0 = .ok (.aload_n 0, 1) := by decide +kernel
theorem dX6_wasted_1 : decode cX6_wasted 1 = .ok (.iload_n 1, 1) := by decide +kernel
theorem dX6_wasted_2 : decode cX6_wasted 2 = .ok (.invokevirtual 117, 3) := by decide +kernel
theorem dX6_wasted_5 : decode cX6_wasted 5 = .ok (.ifCond .ne 6, 3) := by decide +kernel
theorem dX6_wasted_8 : decode cX6_wasted 8 = .ok (.bipush (-2), 2) := by decide +kernel
theorem dX6_wasted_10 : decode cX6_wasted 10 = .ok (.ireturn, 1) := by decide +kernel
theorem dX6_wasted_11 : decode cX6_wasted 11 = .ok (.aload_n 0, 1) := by decide +kernel
theorem dX6_wasted_12 : decode cX6_wasted 12 = .ok (.iload_n 1, 1) := by decide +kernel
theorem dX6_wasted_13 : decode cX6_wasted 13 = .ok (.invokevirtual 108, 3) := by decide +kernel
theorem dX6_wasted_16 : decode cX6_wasted 16 = .ok (.aload_n 0, 1) := by decide +kernel
theorem dX6_wasted_17 : decode cX6_wasted 17 = .ok (.getfield 39, 3) := by decide +kernel
theorem dX6_wasted_20 : decode cX6_wasted 20 = .ok (.iconst 2, 1) := by decide +kernel
theorem dX6_wasted_21 : decode cX6_wasted 21 = .ok (.invokevirtual 208, 3) := by decide +kernel
theorem dX6_wasted_24 : decode cX6_wasted 24 = .ok (.ireturn, 1) := by decide +kernel
theorem dX6_chain_0 : decode cX6_chain 0 = .ok (.aload_n 0, 1) := by decide +kernel
theorem dX6_chain_1 : decode cX6_chain 1 = .ok (.iload_n 1, 1) := by decide +kernel
theorem dX6_chain_2 : decode cX6_chain 2 = .ok (.invokevirtual 117, 3) := by decide +kernel
theorem dX6_chain_5 : decode cX6_chain 5 = .ok (.ifCond .ne 6, 3) := by decide +kernel
theorem dX6_chain_8 : decode cX6_chain 8 = .ok (.bipush (-2), 2) := by decide +kernel
theorem dX6_chain_10 : decode cX6_chain 10 = .ok (.ireturn, 1) := by decide +kernel
theorem dX6_chain_11 : decode cX6_chain 11 = .ok (.aload_n 0, 1) := by decide +kernel
theorem dX6_chain_12 : decode cX6_chain 12 = .ok (.iload_n 1, 1) := by decide +kernel
theorem dX6_chain_13 : decode cX6_chain 13 = .ok (.invokevirtual 108, 3) := by decide +kernel
theorem dX6_chain_16 : decode cX6_chain 16 = .ok (.aload_n 0, 1) := by decide +kernel
theorem dX6_chain_17 : decode cX6_chain 17 = .ok (.getfield 39, 3) := by decide +kernel
theorem dX6_chain_20 : decode cX6_chain 20 = .ok (.invokevirtual 211, 3) := by decide +kernel
theorem dX6_chain_23 : decode cX6_chain 23 = .ok (.ireturn, 1) := by decide +kernel
theorem dX6_linked_0 : decode cX6_linked 0 = .ok (.aload_n 0, 1) := by decide +kernel
theorem dX6_linked_1 : decode cX6_linked 1 = .ok (.iload_n 1, 1) := by decide +kernel
theorem dX6_linked_2 : decode cX6_linked 2 = .ok (.invokevirtual 117, 3) := by decide +kernel
theorem dX6_linked_5 : decode cX6_linked 5 = .ok (.ifCond .eq 7, 3) := by decide +kernel
theorem dX6_linked_8 : decode cX6_linked 8 = .ok (.iload_n 2, 1) := by decide +kernel
theorem dX6_linked_9 : decode cX6_linked 9 = .ok (.ifCond .ge 6, 3) := by decide +kernel
theorem dX6_linked_12 : decode cX6_linked 12 = .ok (.bipush (-2), 2) := by decide +kernel
theorem dX6_linked_14 : decode cX6_linked 14 = .ok (.ireturn, 1) := by decide +kernel
theorem dX6_linked_15 : decode cX6_linked 15 = .ok (.aload_n 0, 1) := by decide +kernel
theorem dX6_linked_16 : decode cX6_linked 16 = .ok (.iload_n 1, 1) := by decide +kernel
theorem dX6_linked_17 : decode cX6_linked 17 = .ok (.invokevirtual 108, 3) := by decide +kernel
theorem dX6_linked_20 : decode cX6_linked 20 = .ok (.aload_n 0, 1) := by decide +kernel
theorem dX6_linked_21 : decode cX6_linked 21 = .ok (.getfield 39, 3) := by decide +kernel
theorem dX6_linked_24 : decode cX6_linked 24 = .ok (.iload_n 2, 1) := by decide +kernel
theorem dX6_linked_25 : decode cX6_linked 25 = .ok (.invokevirtual 214, 3) := by decide +kernel
theorem dX6_linked_28 : decode cX6_linked 28 = .ok (.ireturn, 1) := by decide +kernel
theorem dX6_replays_0 : decode cX6_replays 0 = .ok (.aload_n 0, 1) := by decide +kernel
theorem dX6_replays_1 : decode cX6_replays 1 = .ok (.iload_n 1, 1) := by decide +kernel
theorem dX6_replays_2 : decode cX6_replays 2 = .ok (.invokevirtual 117, 3) := by decide +kernel
theorem dX6_replays_5 : decode cX6_replays 5 = .ok (.ifCond .ne 6, 3) := by decide +kernel
theorem dX6_replays_8 : decode cX6_replays 8 = .ok (.bipush (-2), 2) := by decide +kernel
theorem dX6_replays_10 : decode cX6_replays 10 = .ok (.ireturn, 1) := by decide +kernel
theorem dX6_replays_11 : decode cX6_replays 11 = .ok (.aload_n 0, 1) := by decide +kernel
theorem dX6_replays_12 : decode cX6_replays 12 = .ok (.iload_n 1, 1) := by decide +kernel
theorem dX6_replays_13 : decode cX6_replays 13 = .ok (.invokevirtual 108, 3) := by decide +kernel
theorem dX6_replays_16 : decode cX6_replays 16 = .ok (.iconst 0, 1) := by decide +kernel
theorem dX6_replays_17 : decode cX6_replays 17 = .ok (.istore_n 2, 1) := by decide +kernel
theorem dX6_replays_18 : decode cX6_replays 18 = .ok (.aload_n 0, 1) := by decide +kernel
theorem dX6_replays_19 : decode cX6_replays 19 = .ok (.getfield 39, 3) := by decide +kernel
theorem dX6_replays_22 : decode cX6_replays 22 = .ok (.invokevirtual 217, 3) := by decide +kernel
theorem dX6_replays_25 : decode cX6_replays 25 = .ok (.istore_n 3, 1) := by decide +kernel
theorem dX6_replays_26 : decode cX6_replays 26 = .ok (.iload_n 3, 1) := by decide +kernel
theorem dX6_replays_27 : decode cX6_replays 27 = .ok (.iload_n 1, 1) := by decide +kernel
theorem dX6_replays_28 : decode cX6_replays 28 = .ok (.if_icmp .ge 23, 3) := by decide +kernel
theorem dX6_replays_31 : decode cX6_replays 31 = .ok (.aload_n 0, 1) := by decide +kernel
theorem dX6_replays_32 : decode cX6_replays 32 = .ok (.getfield 19, 3) := by decide +kernel
theorem dX6_replays_35 : decode cX6_replays 35 = .ok (.iload_n 3, 1) := by decide +kernel
theorem dX6_replays_36 : decode cX6_replays 36 = .ok (.invokevirtual 220, 3) := by decide +kernel
theorem dX6_replays_39 : decode cX6_replays 39 = .ok (.ifCond .eq 6, 3) := by decide +kernel
theorem dX6_replays_42 : decode cX6_replays 42 = .ok (.iinc 2 1, 3) := by decide +kernel
theorem dX6_replays_45 : decode cX6_replays 45 = .ok (.iinc 3 1, 3) := by decide +kernel
theorem dX6_replays_48 : decode cX6_replays 48 = .ok (.goto (-22), 3) := by decide +kernel
theorem dX6_replays_51 : decode cX6_replays 51 = .ok (.iload_n 2, 1) := by decide +kernel
theorem dX6_replays_52 : decode cX6_replays 52 = .ok (.ireturn, 1) := by decide +kernel
theorem dX6_raised_0 : decode cX6_raised 0 = .ok (.aload_n 0, 1) := by decide +kernel
theorem dX6_raised_1 : decode cX6_raised 1 = .ok (.iload_n 1, 1) := by decide +kernel
theorem dX6_raised_2 : decode cX6_raised 2 = .ok (.invokevirtual 114, 3) := by decide +kernel
theorem dX6_raised_5 : decode cX6_raised 5 = .ok (.ifCond .eq 11, 3) := by decide +kernel
theorem dX6_raised_8 : decode cX6_raised 8 = .ok (.aload_n 0, 1) := by decide +kernel
theorem dX6_raised_9 : decode cX6_raised 9 = .ok (.iload_n 2, 1) := by decide +kernel
theorem dX6_raised_10 : decode cX6_raised 10 = .ok (.invokevirtual 117, 3) := by decide +kernel
theorem dX6_raised_13 : decode cX6_raised 13 = .ok (.ifCond .ne 6, 3) := by decide +kernel
theorem dX6_raised_16 : decode cX6_raised 16 = .ok (.bipush (-2), 2) := by decide +kernel
theorem dX6_raised_18 : decode cX6_raised 18 = .ok (.ireturn, 1) := by decide +kernel
theorem dX6_raised_19 : decode cX6_raised 19 = .ok (.aload_n 0, 1) := by decide +kernel
theorem dX6_raised_20 : decode cX6_raised 20 = .ok (.iload_n 2, 1) := by decide +kernel
theorem dX6_raised_21 : decode cX6_raised 21 = .ok (.invokevirtual 108, 3) := by decide +kernel
theorem dX6_raised_24 : decode cX6_raised 24 = .ok (.aload_n 0, 1) := by decide +kernel
theorem dX6_raised_25 : decode cX6_raised 25 = .ok (.getfield 39, 3) := by decide +kernel
theorem dX6_raised_28 : decode cX6_raised 28 = .ok (.iload_n 1, 1) := by decide +kernel
theorem dX6_raised_29 : decode cX6_raised 29 = .ok (.invokevirtual 223, 3) := by decide +kernel
theorem dX6_raised_32 : decode cX6_raised 32 = .ok (.ireturn, 1) := by decide +kernel
theorem dX6_restored_0 : decode cX6_restored 0 = .ok (.aload_n 0, 1) := by decide +kernel
theorem dX6_restored_1 : decode cX6_restored 1 = .ok (.iload_n 1, 1) := by decide +kernel
theorem dX6_restored_2 : decode cX6_restored 2 = .ok (.invokevirtual 114, 3) := by decide +kernel
theorem dX6_restored_5 : decode cX6_restored 5 = .ok (.ifCond .eq 11, 3) := by decide +kernel
theorem dX6_restored_8 : decode cX6_restored 8 = .ok (.aload_n 0, 1) := by decide +kernel
theorem dX6_restored_9 : decode cX6_restored 9 = .ok (.iload_n 2, 1) := by decide +kernel
theorem dX6_restored_10 : decode cX6_restored 10 = .ok (.invokevirtual 117, 3) := by decide +kernel
theorem dX6_restored_13 : decode cX6_restored 13 = .ok (.ifCond .ne 6, 3) := by decide +kernel
theorem dX6_restored_16 : decode cX6_restored 16 = .ok (.bipush (-2), 2) := by decide +kernel
theorem dX6_restored_18 : decode cX6_restored 18 = .ok (.ireturn, 1) := by decide +kernel
theorem dX6_restored_19 : decode cX6_restored 19 = .ok (.aload_n 0, 1) := by decide +kernel
theorem dX6_restored_20 : decode cX6_restored 20 = .ok (.iload_n 2, 1) := by decide +kernel
theorem dX6_restored_21 : decode cX6_restored 21 = .ok (.invokevirtual 108, 3) := by decide +kernel
theorem dX6_restored_24 : decode cX6_restored 24 = .ok (.aload_n 0, 1) := by decide +kernel
theorem dX6_restored_25 : decode cX6_restored 25 = .ok (.getfield 49, 3) := by decide +kernel
theorem dX6_restored_28 : decode cX6_restored 28 = .ok (.aload_n 0, 1) := by decide +kernel
theorem dX6_restored_29 : decode cX6_restored 29 = .ok (.getfield 19, 3) := by decide +kernel
theorem dX6_restored_32 : decode cX6_restored 32 = .ok (.getfield 226, 3) := by decide +kernel
theorem dX6_restored_35 : decode cX6_restored 35 = .ok (.invokevirtual 229, 3) := by decide +kernel
theorem dX6_restored_38 : decode cX6_restored 38 = .ok (.iconst 0, 1) := by decide +kernel
theorem dX6_restored_39 : decode cX6_restored 39 = .ok (.istore_n 3, 1) := by decide +kernel
theorem dX6_restored_40 : decode cX6_restored 40 = .ok (.iload_n 3, 1) := by decide +kernel
theorem dX6_restored_41 : decode cX6_restored 41 = .ok (.aload_n 0, 1) := by decide +kernel
theorem dX6_restored_42 : decode cX6_restored 42 = .ok (.getfield 19, 3) := by decide +kernel
theorem dX6_restored_45 : decode cX6_restored 45 = .ok (.getfield 226, 3) := by decide +kernel
theorem dX6_restored_48 : decode cX6_restored 48 = .ok (.if_icmp .ge 26, 3) := by decide +kernel
theorem dX6_restored_51 : decode cX6_restored 51 = .ok (.aload_n 0, 1) := by decide +kernel
theorem dX6_restored_52 : decode cX6_restored 52 = .ok (.getfield 49, 3) := by decide +kernel
theorem dX6_restored_55 : decode cX6_restored 55 = .ok (.iload_n 3, 1) := by decide +kernel
theorem dX6_restored_56 : decode cX6_restored 56 = .ok (.aload_n 0, 1) := by decide +kernel
theorem dX6_restored_57 : decode cX6_restored 57 = .ok (.getfield 39, 3) := by decide +kernel
theorem dX6_restored_60 : decode cX6_restored 60 = .ok (.iload_n 3, 1) := by decide +kernel
theorem dX6_restored_61 : decode cX6_restored 61 = .ok (.invokevirtual 223, 3) := by decide +kernel
theorem dX6_restored_64 : decode cX6_restored 64 = .ok (.invokevirtual 232, 3) := by decide +kernel
theorem dX6_restored_67 : decode cX6_restored 67 = .ok (.pop, 1) := by decide +kernel
theorem dX6_restored_68 : decode cX6_restored 68 = .ok (.iinc 3 1, 3) := by decide +kernel
theorem dX6_restored_71 : decode cX6_restored 71 = .ok (.goto (-31), 3) := by decide +kernel
theorem dX6_restored_74 : decode cX6_restored 74 = .ok (.aload_n 0, 1) := by decide +kernel
theorem dX6_restored_75 : decode cX6_restored 75 = .ok (.getfield 39, 3) := by decide +kernel
theorem dX6_restored_78 : decode cX6_restored 78 = .ok (.invokevirtual 217, 3) := by decide +kernel
theorem dX6_restored_81 : decode cX6_restored 81 = .ok (.istore_n 3, 1) := by decide +kernel
theorem dX6_restored_82 : decode cX6_restored 82 = .ok (.iload_n 3, 1) := by decide +kernel
theorem dX6_restored_83 : decode cX6_restored 83 = .ok (.iload_n 2, 1) := by decide +kernel
theorem dX6_restored_84 : decode cX6_restored 84 = .ok (.if_icmp .ge 22, 3) := by decide +kernel
theorem dX6_restored_87 : decode cX6_restored 87 = .ok (.aload_n 0, 1) := by decide +kernel
theorem dX6_restored_88 : decode cX6_restored 88 = .ok (.getfield 49, 3) := by decide +kernel
theorem dX6_restored_91 : decode cX6_restored 91 = .ok (.aload_n 0, 1) := by decide +kernel
theorem dX6_restored_92 : decode cX6_restored 92 = .ok (.getfield 19, 3) := by decide +kernel
theorem dX6_restored_95 : decode cX6_restored 95 = .ok (.iload_n 3, 1) := by decide +kernel
theorem dX6_restored_96 : decode cX6_restored 96 = .ok (.invokevirtual 235, 3) := by decide +kernel
theorem dX6_restored_99 : decode cX6_restored 99 = .ok (.pop, 1) := by decide +kernel
theorem dX6_restored_100 : decode cX6_restored 100 = .ok (.iinc 3 1, 3) := by decide +kernel
theorem dX6_restored_103 : decode cX6_restored 103 = .ok (.goto (-21), 3) := by decide +kernel
theorem dX6_restored_106 : decode cX6_restored 106 = .ok (.aload_n 0, 1) := by decide +kernel
theorem dX6_restored_107 : decode cX6_restored 107 = .ok (.getfield 49, 3) := by decide +kernel
theorem dX6_restored_110 : decode cX6_restored 110 = .ok (.iload_n 1, 1) := by decide +kernel
theorem dX6_restored_111 : decode cX6_restored 111 = .ok (.invokevirtual 123, 3) := by decide +kernel
theorem dX6_restored_114 : decode cX6_restored 114 = .ok (.ireturn, 1) := by decide +kernel
theorem dX6_doubled_0 : decode cX6_doubled 0 = .ok (.aload_n 0, 1) := by decide +kernel
theorem dX6_doubled_1 : decode cX6_doubled 1 = .ok (.iload_n 1, 1) := by decide +kernel
theorem dX6_doubled_2 : decode cX6_doubled 2 = .ok (.invokevirtual 117, 3) := by decide +kernel
theorem dX6_doubled_5 : decode cX6_doubled 5 = .ok (.ifCond .ne 6, 3) := by decide +kernel
theorem dX6_doubled_8 : decode cX6_doubled 8 = .ok (.bipush (-2), 2) := by decide +kernel
theorem dX6_doubled_10 : decode cX6_doubled 10 = .ok (.ireturn, 1) := by decide +kernel
theorem dX6_doubled_11 : decode cX6_doubled 11 = .ok (.aload_n 0, 1) := by decide +kernel
theorem dX6_doubled_12 : decode cX6_doubled 12 = .ok (.iload_n 1, 1) := by decide +kernel
theorem dX6_doubled_13 : decode cX6_doubled 13 = .ok (.invokevirtual 108, 3) := by decide +kernel
theorem dX6_doubled_16 : decode cX6_doubled 16 = .ok (.aload_n 0, 1) := by decide +kernel
theorem dX6_doubled_17 : decode cX6_doubled 17 = .ok (.getfield 39, 3) := by decide +kernel
theorem dX6_doubled_20 : decode cX6_doubled 20 = .ok (.invokevirtual 239, 3) := by decide +kernel
theorem dX6_doubled_23 : decode cX6_doubled 23 = .ok (.ireturn, 1) := by decide +kernel
theorem dX6_source_0 : decode cX6_source 0 = .ok (.aload_n 0, 1) := by decide +kernel
theorem dX6_source_1 : decode cX6_source 1 = .ok (.iload_n 1, 1) := by decide +kernel
theorem dX6_source_2 : decode cX6_source 2 = .ok (.invokevirtual 114, 3) := by decide +kernel
theorem dX6_source_5 : decode cX6_source 5 = .ok (.ifCond .eq 11, 3) := by decide +kernel
theorem dX6_source_8 : decode cX6_source 8 = .ok (.aload_n 0, 1) := by decide +kernel
theorem dX6_source_9 : decode cX6_source 9 = .ok (.iload_n 2, 1) := by decide +kernel
theorem dX6_source_10 : decode cX6_source 10 = .ok (.invokevirtual 117, 3) := by decide +kernel
theorem dX6_source_13 : decode cX6_source 13 = .ok (.ifCond .ne 6, 3) := by decide +kernel
theorem dX6_source_16 : decode cX6_source 16 = .ok (.bipush (-2), 2) := by decide +kernel
theorem dX6_source_18 : decode cX6_source 18 = .ok (.ireturn, 1) := by decide +kernel
theorem dX6_source_19 : decode cX6_source 19 = .ok (.aload_n 0, 1) := by decide +kernel
theorem dX6_source_20 : decode cX6_source 20 = .ok (.iload_n 2, 1) := by decide +kernel
theorem dX6_source_21 : decode cX6_source 21 = .ok (.invokevirtual 108, 3) := by decide +kernel
theorem dX6_source_24 : decode cX6_source 24 = .ok (.aload_n 0, 1) := by decide +kernel
theorem dX6_source_25 : decode cX6_source 25 = .ok (.getfield 39, 3) := by decide +kernel
theorem dX6_source_28 : decode cX6_source 28 = .ok (.iload_n 1, 1) := by decide +kernel
theorem dX6_source_29 : decode cX6_source 29 = .ok (.invokevirtual 242, 3) := by decide +kernel
theorem dX6_source_32 : decode cX6_source 32 = .ok (.ireturn, 1) := by decide +kernel
theorem dX6_age_0 : decode cX6_age 0 = .ok (.aload_n 0, 1) := by decide +kernel
theorem dX6_age_1 : decode cX6_age 1 = .ok (.iload_n 1, 1) := by decide +kernel
theorem dX6_age_2 : decode cX6_age 2 = .ok (.invokevirtual 117, 3) := by decide +kernel
theorem dX6_age_5 : decode cX6_age 5 = .ok (.ifCond .ne 6, 3) := by decide +kernel
theorem dX6_age_8 : decode cX6_age 8 = .ok (.bipush (-2), 2) := by decide +kernel
theorem dX6_age_10 : decode cX6_age 10 = .ok (.ireturn, 1) := by decide +kernel
theorem dX6_age_11 : decode cX6_age 11 = .ok (.aload_n 0, 1) := by decide +kernel
theorem dX6_age_12 : decode cX6_age 12 = .ok (.iload_n 1, 1) := by decide +kernel
theorem dX6_age_13 : decode cX6_age 13 = .ok (.invokevirtual 108, 3) := by decide +kernel
theorem dX6_age_16 : decode cX6_age 16 = .ok (.iload_n 1, 1) := by decide +kernel
theorem dX6_age_17 : decode cX6_age 17 = .ok (.aload_n 0, 1) := by decide +kernel
theorem dX6_age_18 : decode cX6_age 18 = .ok (.getfield 39, 3) := by decide +kernel
theorem dX6_age_21 : decode cX6_age 21 = .ok (.invokevirtual 217, 3) := by decide +kernel
theorem dX6_age_24 : decode cX6_age 24 = .ok (.isub, 1) := by decide +kernel
theorem dX6_age_25 : decode cX6_age 25 = .ok (.ireturn, 1) := by decide +kernel
theorem dX6_worst_0 : decode cX6_worst 0 = .ok (.aload_n 0, 1) := by decide +kernel
theorem dX6_worst_1 : decode cX6_worst 1 = .ok (.getfield 19, 3) := by decide +kernel
theorem dX6_worst_4 : decode cX6_worst 4 = .ok (.invokevirtual 245, 3) := by decide +kernel
theorem dX6_worst_7 : decode cX6_worst 7 = .ok (.ifCond .ne 6, 3) := by decide +kernel
theorem dX6_worst_10 : decode cX6_worst 10 = .ok (.bipush (-2), 2) := by decide +kernel
theorem dX6_worst_12 : decode cX6_worst 12 = .ok (.ireturn, 1) := by decide +kernel
theorem dX6_worst_13 : decode cX6_worst 13 = .ok (.iconst 0, 1) := by decide +kernel
theorem dX6_worst_14 : decode cX6_worst 14 = .ok (.istore_n 1, 1) := by decide +kernel
theorem dX6_worst_15 : decode cX6_worst 15 = .ok (.iconst 0, 1) := by decide +kernel
theorem dX6_worst_16 : decode cX6_worst 16 = .ok (.istore_n 2, 1) := by decide +kernel
theorem dX6_worst_17 : decode cX6_worst 17 = .ok (.aload_n 0, 1) := by decide +kernel
theorem dX6_worst_18 : decode cX6_worst 18 = .ok (.invokevirtual 84, 3) := by decide +kernel
theorem dX6_worst_21 : decode cX6_worst 21 = .ok (.iconst 1, 1) := by decide +kernel
theorem dX6_worst_22 : decode cX6_worst 22 = .ok (.istore_n 3, 1) := by decide +kernel
theorem dX6_worst_23 : decode cX6_worst 23 = .ok (.iload_n 3, 1) := by decide +kernel
theorem dX6_worst_24 : decode cX6_worst 24 = .ok (.aload_n 0, 1) := by decide +kernel
theorem dX6_worst_25 : decode cX6_worst 25 = .ok (.getfield 19, 3) := by decide +kernel
theorem dX6_worst_28 : decode cX6_worst 28 = .ok (.invokevirtual 249, 3) := by decide +kernel
theorem dX6_worst_31 : decode cX6_worst 31 = .ok (.if_icmp .gt 36, 3) := by decide +kernel
theorem dX6_worst_34 : decode cX6_worst 34 = .ok (.aload_n 0, 1) := by decide +kernel
theorem dX6_worst_35 : decode cX6_worst 35 = .ok (.iload_n 3, 1) := by decide +kernel
theorem dX6_worst_36 : decode cX6_worst 36 = .ok (.invokevirtual 108, 3) := by decide +kernel
theorem dX6_worst_39 : decode cX6_worst 39 = .ok (.iload_n 3, 1) := by decide +kernel
theorem dX6_worst_40 : decode cX6_worst 40 = .ok (.aload_n 0, 1) := by decide +kernel
theorem dX6_worst_41 : decode cX6_worst 41 = .ok (.getfield 39, 3) := by decide +kernel
theorem dX6_worst_44 : decode cX6_worst 44 = .ok (.invokevirtual 217, 3) := by decide +kernel
theorem dX6_worst_47 : decode cX6_worst 47 = .ok (.isub, 1) := by decide +kernel
theorem dX6_worst_48 : decode cX6_worst 48 = .ok (.istore 4, 2) := by decide +kernel
theorem dX6_worst_50 : decode cX6_worst 50 = .ok (.iload 4, 2) := by decide +kernel
theorem dX6_worst_52 : decode cX6_worst 52 = .ok (.iload_n 2, 1) := by decide +kernel
theorem dX6_worst_53 : decode cX6_worst 53 = .ok (.if_icmp .le 8, 3) := by decide +kernel
theorem dX6_worst_56 : decode cX6_worst 56 = .ok (.iload 4, 2) := by decide +kernel
theorem dX6_worst_58 : decode cX6_worst 58 = .ok (.istore_n 2, 1) := by decide +kernel
theorem dX6_worst_59 : decode cX6_worst 59 = .ok (.iload_n 3, 1) := by decide +kernel
theorem dX6_worst_60 : decode cX6_worst 60 = .ok (.istore_n 1, 1) := by decide +kernel
theorem dX6_worst_61 : decode cX6_worst 61 = .ok (.iinc 3 1, 3) := by decide +kernel
theorem dX6_worst_64 : decode cX6_worst 64 = .ok (.goto (-41), 3) := by decide +kernel
theorem dX6_worst_67 : decode cX6_worst 67 = .ok (.iload_n 1, 1) := by decide +kernel
theorem dX6_worst_68 : decode cX6_worst 68 = .ok (.ireturn, 1) := by decide +kernel
theorem dX6_differ_0 : decode cX6_differ 0 = .ok (.aload_n 0, 1) := by decide +kernel
theorem dX6_differ_1 : decode cX6_differ 1 = .ok (.iload_n 1, 1) := by decide +kernel
theorem dX6_differ_2 : decode cX6_differ 2 = .ok (.invokevirtual 117, 3) := by decide +kernel
theorem dX6_differ_5 : decode cX6_differ 5 = .ok (.ifCond .eq 11, 3) := by decide +kernel
theorem dX6_differ_8 : decode cX6_differ 8 = .ok (.aload_n 0, 1) := by decide +kernel
theorem dX6_differ_9 : decode cX6_differ 9 = .ok (.iload_n 2, 1) := by decide +kernel
theorem dX6_differ_10 : decode cX6_differ 10 = .ok (.invokevirtual 117, 3) := by decide +kernel
theorem dX6_differ_13 : decode cX6_differ 13 = .ok (.ifCond .ne 6, 3) := by decide +kernel
theorem dX6_differ_16 : decode cX6_differ 16 = .ok (.bipush (-2), 2) := by decide +kernel
theorem dX6_differ_18 : decode cX6_differ 18 = .ok (.ireturn, 1) := by decide +kernel
theorem dX6_differ_19 : decode cX6_differ 19 = .ok (.aload_n 0, 1) := by decide +kernel
theorem dX6_differ_20 : decode cX6_differ 20 = .ok (.getfield 49, 3) := by decide +kernel
theorem dX6_differ_23 : decode cX6_differ 23 = .ok (.aload_n 0, 1) := by decide +kernel
theorem dX6_differ_24 : decode cX6_differ 24 = .ok (.getfield 19, 3) := by decide +kernel
theorem dX6_differ_27 : decode cX6_differ 27 = .ok (.iload_n 1, 1) := by decide +kernel
theorem dX6_differ_28 : decode cX6_differ 28 = .ok (.lconst 0, 1) := by decide +kernel
theorem dX6_differ_29 : decode cX6_differ 29 = .ok (.invokevirtual 251, 3) := by decide +kernel
theorem dX6_differ_32 : decode cX6_differ 32 = .ok (.aload_n 0, 1) := by decide +kernel
theorem dX6_differ_33 : decode cX6_differ 33 = .ok (.getfield 53, 3) := by decide +kernel
theorem dX6_differ_36 : decode cX6_differ 36 = .ok (.aload_n 0, 1) := by decide +kernel
theorem dX6_differ_37 : decode cX6_differ 37 = .ok (.getfield 19, 3) := by decide +kernel
theorem dX6_differ_40 : decode cX6_differ 40 = .ok (.iload_n 2, 1) := by decide +kernel
theorem dX6_differ_41 : decode cX6_differ 41 = .ok (.lconst 0, 1) := by decide +kernel
theorem dX6_differ_42 : decode cX6_differ 42 = .ok (.invokevirtual 251, 3) := by decide +kernel
theorem dX6_differ_45 : decode cX6_differ 45 = .ok (.aload_n 0, 1) := by decide +kernel
theorem dX6_differ_46 : decode cX6_differ 46 = .ok (.getfield 49, 3) := by decide +kernel
theorem dX6_differ_49 : decode cX6_differ 49 = .ok (.aload_n 0, 1) := by decide +kernel
theorem dX6_differ_50 : decode cX6_differ 50 = .ok (.getfield 53, 3) := by decide +kernel
theorem dX6_differ_53 : decode cX6_differ 53 = .ok (.invokevirtual 255, 3) := by decide +kernel
theorem dX6_differ_56 : decode cX6_differ 56 = .ok (.ireturn, 1) := by decide +kernel
theorem dX6_same_0 : decode cX6_same 0 = .ok (.aload_n 0, 1) := by decide +kernel
theorem dX6_same_1 : decode cX6_same 1 = .ok (.iload_n 1, 1) := by decide +kernel
theorem dX6_same_2 : decode cX6_same 2 = .ok (.invokevirtual 117, 3) := by decide +kernel
theorem dX6_same_5 : decode cX6_same 5 = .ok (.ifCond .ne 6, 3) := by decide +kernel
theorem dX6_same_8 : decode cX6_same 8 = .ok (.bipush (-2), 2) := by decide +kernel
theorem dX6_same_10 : decode cX6_same 10 = .ok (.ireturn, 1) := by decide +kernel
theorem dX6_same_11 : decode cX6_same 11 = .ok (.aload_n 0, 1) := by decide +kernel
theorem dX6_same_12 : decode cX6_same 12 = .ok (.getfield 49, 3) := by decide +kernel
theorem dX6_same_15 : decode cX6_same 15 = .ok (.aload_n 0, 1) := by decide +kernel
theorem dX6_same_16 : decode cX6_same 16 = .ok (.getfield 19, 3) := by decide +kernel
theorem dX6_same_19 : decode cX6_same 19 = .ok (.iload_n 1, 1) := by decide +kernel
theorem dX6_same_20 : decode cX6_same 20 = .ok (.lconst 0, 1) := by decide +kernel
theorem dX6_same_21 : decode cX6_same 21 = .ok (.invokevirtual 251, 3) := by decide +kernel
theorem dX6_same_24 : decode cX6_same 24 = .ok (.aload_n 0, 1) := by decide +kernel
theorem dX6_same_25 : decode cX6_same 25 = .ok (.getfield 53, 3) := by decide +kernel
theorem dX6_same_28 : decode cX6_same 28 = .ok (.aload_n 0, 1) := by decide +kernel
theorem dX6_same_29 : decode cX6_same 29 = .ok (.getfield 19, 3) := by decide +kernel
theorem dX6_same_32 : decode cX6_same 32 = .ok (.getfield 226, 3) := by decide +kernel
theorem dX6_same_35 : decode cX6_same 35 = .ok (.invokevirtual 229, 3) := by decide +kernel
theorem dX6_same_38 : decode cX6_same 38 = .ok (.iconst 0, 1) := by decide +kernel
theorem dX6_same_39 : decode cX6_same 39 = .ok (.istore_n 2, 1) := by decide +kernel
theorem dX6_same_40 : decode cX6_same 40 = .ok (.iload_n 2, 1) := by decide +kernel
theorem dX6_same_41 : decode cX6_same 41 = .ok (.iload_n 1, 1) := by decide +kernel
theorem dX6_same_42 : decode cX6_same 42 = .ok (.if_icmp .ge 38, 3) := by decide +kernel
theorem dX6_same_45 : decode cX6_same 45 = .ok (.aload_n 0, 1) := by decide +kernel
theorem dX6_same_46 : decode cX6_same 46 = .ok (.getfield 53, 3) := by decide +kernel
theorem dX6_same_49 : decode cX6_same 49 = .ok (.aload_n 0, 1) := by decide +kernel
theorem dX6_same_50 : decode cX6_same 50 = .ok (.getfield 49, 3) := by decide +kernel
theorem dX6_same_53 : decode cX6_same 53 = .ok (.invokevirtual 255, 3) := by decide +kernel
theorem dX6_same_56 : decode cX6_same 56 = .ok (.ifCond .ne 5, 3) := by decide +kernel
theorem dX6_same_59 : decode cX6_same 59 = .ok (.iload_n 2, 1) := by decide +kernel
theorem dX6_same_60 : decode cX6_same 60 = .ok (.ireturn, 1) := by decide +kernel
theorem dX6_same_61 : decode cX6_same 61 = .ok (.aload_n 0, 1) := by decide +kernel
theorem dX6_same_62 : decode cX6_same 62 = .ok (.getfield 53, 3) := by decide +kernel
theorem dX6_same_65 : decode cX6_same 65 = .ok (.aload_n 0, 1) := by decide +kernel
theorem dX6_same_66 : decode cX6_same 66 = .ok (.getfield 19, 3) := by decide +kernel
theorem dX6_same_69 : decode cX6_same 69 = .ok (.iload_n 2, 1) := by decide +kernel
theorem dX6_same_70 : decode cX6_same 70 = .ok (.invokevirtual 235, 3) := by decide +kernel
theorem dX6_same_73 : decode cX6_same 73 = .ok (.pop, 1) := by decide +kernel
theorem dX6_same_74 : decode cX6_same 74 = .ok (.iinc 2 1, 3) := by decide +kernel
theorem dX6_same_77 : decode cX6_same 77 = .ok (.goto (-37), 3) := by decide +kernel
theorem dX6_same_80 : decode cX6_same 80 = .ok (.iload_n 1, 1) := by decide +kernel
theorem dX6_same_81 : decode cX6_same 81 = .ok (.ireturn, 1) := by decide +kernel
theorem dX6_pace_0 : decode cX6_pace 0 = .ok (.aload_n 0, 1) := by decide +kernel
theorem dX6_pace_1 : decode cX6_pace 1 = .ok (.getfield 19, 3) := by decide +kernel
theorem dX6_pace_4 : decode cX6_pace 4 = .ok (.invokevirtual 245, 3) := by decide +kernel
theorem dX6_pace_7 : decode cX6_pace 7 = .ok (.ifCond .eq 14, 3) := by decide +kernel
theorem dX6_pace_10 : decode cX6_pace 10 = .ok (.iload_n 1, 1) := by decide +kernel
theorem dX6_pace_11 : decode cX6_pace 11 = .ok (.iconst 1, 1) := by decide +kernel
theorem dX6_pace_12 : decode cX6_pace 12 = .ok (.if_icmp .lt 9, 3) := by decide +kernel
theorem dX6_pace_15 : decode cX6_pace 15 = .ok (.iload_n 1, 1) := by decide +kernel
theorem dX6_pace_16 : decode cX6_pace 16 = .ok (.bipush 20, 2) := by decide +kernel
theorem dX6_pace_18 : decode cX6_pace 18 = .ok (.if_icmp .le 6, 3) := by decide +kernel
theorem dX6_pace_21 : decode cX6_pace 21 = .ok (.bipush (-2), 2) := by decide +kernel
theorem dX6_pace_23 : decode cX6_pace 23 = .ok (.ireturn, 1) := by decide +kernel
theorem dX6_pace_24 : decode cX6_pace 24 = .ok (.aload_n 0, 1) := by decide +kernel
theorem dX6_pace_25 : decode cX6_pace 25 = .ok (.iload_n 1, 1) := by decide +kernel
theorem dX6_pace_26 : decode cX6_pace 26 = .ok (.invokevirtual 259, 3) := by decide +kernel
theorem dX6_pace_29 : decode cX6_pace 29 = .ok (.ireturn, 1) := by decide +kernel
theorem dX6_best_0 : decode cX6_best 0 = .ok (.aload_n 0, 1) := by decide +kernel
theorem dX6_best_1 : decode cX6_best 1 = .ok (.getfield 19, 3) := by decide +kernel
theorem dX6_best_4 : decode cX6_best 4 = .ok (.invokevirtual 245, 3) := by decide +kernel
theorem dX6_best_7 : decode cX6_best 7 = .ok (.ifCond .ne 6, 3) := by decide +kernel
theorem dX6_best_10 : decode cX6_best 10 = .ok (.bipush (-2), 2) := by decide +kernel
theorem dX6_best_12 : decode cX6_best 12 = .ok (.ireturn, 1) := by decide +kernel
theorem dX6_best_13 : decode cX6_best 13 = .ok (.aload_n 0, 1) := by decide +kernel
theorem dX6_best_14 : decode cX6_best 14 = .ok (.getfield 19, 3) := by decide +kernel
theorem dX6_best_17 : decode cX6_best 17 = .ok (.invokevirtual 262, 3) := by decide +kernel
theorem dX6_best_20 : decode cX6_best 20 = .ok (.istore_n 1, 1) := by decide +kernel
theorem dX6_best_21 : decode cX6_best 21 = .ok (.iconst 1, 1) := by decide +kernel
theorem dX6_best_22 : decode cX6_best 22 = .ok (.istore_n 2, 1) := by decide +kernel
theorem dX6_best_23 : decode cX6_best 23 = .ok (.iconst 0, 1) := by decide +kernel
theorem dX6_best_24 : decode cX6_best 24 = .ok (.istore_n 3, 1) := by decide +kernel
theorem dX6_best_25 : decode cX6_best 25 = .ok (.iconst 1, 1) := by decide +kernel
theorem dX6_best_26 : decode cX6_best 26 = .ok (.istore 4, 2) := by decide +kernel
theorem dX6_best_28 : decode cX6_best 28 = .ok (.iload 4, 2) := by decide +kernel
theorem dX6_best_30 : decode cX6_best 30 = .ok (.bipush 20, 2) := by decide +kernel
theorem dX6_best_32 : decode cX6_best 32 = .ok (.if_icmp .gt 58, 3) := by decide +kernel
theorem dX6_best_35 : decode cX6_best 35 = .ok (.iload_n 1, 1) := by decide +kernel
theorem dX6_best_36 : decode cX6_best 36 = .ok (.ifCond .ne 7, 3) := by decide +kernel
theorem dX6_best_39 : decode cX6_best 39 = .ok (.iconst 0, 1) := by decide +kernel
theorem dX6_best_40 : decode cX6_best 40 = .ok (.goto 11, 3) := by decide +kernel
theorem dX6_best_43 : decode cX6_best 43 = .ok (.iload_n 1, 1) := by decide +kernel
theorem dX6_best_44 : decode cX6_best 44 = .ok (.iconst 1, 1) := by decide +kernel
theorem dX6_best_45 : decode cX6_best 45 = .ok (.isub, 1) := by decide +kernel
theorem dX6_best_46 : decode cX6_best 46 = .ok (.iload 4, 2) := by decide +kernel
theorem dX6_best_48 : decode cX6_best 48 = .ok (.irem, 1) := by decide +kernel
theorem dX6_best_49 : decode cX6_best 49 = .ok (.iconst 1, 1) := by decide +kernel
theorem dX6_best_50 : decode cX6_best 50 = .ok (.iadd, 1) := by decide +kernel
theorem dX6_best_51 : decode cX6_best 51 = .ok (.istore 5, 2) := by decide +kernel
theorem dX6_best_53 : decode cX6_best 53 = .ok (.aload_n 0, 1) := by decide +kernel
theorem dX6_best_54 : decode cX6_best 54 = .ok (.iload 4, 2) := by decide +kernel
theorem dX6_best_56 : decode cX6_best 56 = .ok (.invokevirtual 259, 3) := by decide +kernel
theorem dX6_best_59 : decode cX6_best 59 = .ok (.iconst 2, 1) := by decide +kernel
theorem dX6_best_60 : decode cX6_best 60 = .ok (.iload 5, 2) := by decide +kernel
theorem dX6_best_62 : decode cX6_best 62 = .ok (.imul, 1) := by decide +kernel
theorem dX6_best_63 : decode cX6_best 63 = .ok (.iadd, 1) := by decide +kernel
theorem dX6_best_64 : decode cX6_best 64 = .ok (.istore 6, 2) := by decide +kernel
theorem dX6_best_66 : decode cX6_best 66 = .ok (.iload 4, 2) := by decide +kernel
theorem dX6_best_68 : decode cX6_best 68 = .ok (.iconst 1, 1) := by decide +kernel
theorem dX6_best_69 : decode cX6_best 69 = .ok (.if_icmp .eq 9, 3) := by decide +kernel
theorem dX6_best_72 : decode cX6_best 72 = .ok (.iload 6, 2) := by decide +kernel
theorem dX6_best_74 : decode cX6_best 74 = .ok (.iload_n 3, 1) := by decide +kernel
theorem dX6_best_75 : decode cX6_best 75 = .ok (.if_icmp .ge 9, 3) := by decide +kernel
theorem dX6_best_78 : decode cX6_best 78 = .ok (.iload 6, 2) := by decide +kernel
theorem dX6_best_80 : decode cX6_best 80 = .ok (.istore_n 3, 1) := by decide +kernel
theorem dX6_best_81 : decode cX6_best 81 = .ok (.iload 4, 2) := by decide +kernel
theorem dX6_best_83 : decode cX6_best 83 = .ok (.istore_n 2, 1) := by decide +kernel
theorem dX6_best_84 : decode cX6_best 84 = .ok (.iinc 4 1, 3) := by decide +kernel
theorem dX6_best_87 : decode cX6_best 87 = .ok (.goto (-59), 3) := by decide +kernel
theorem dX6_best_90 : decode cX6_best 90 = .ok (.iload_n 2, 1) := by decide +kernel
theorem dX6_best_91 : decode cX6_best 91 = .ok (.ireturn, 1) := by decide +kernel
theorem dX6_keptByPace_0 : decode cX6_keptByPace 0 = .ok (.iconst 0, 1) := by decide +kernel
theorem dX6_keptByPace_1 : decode cX6_keptByPace 1 = .ok (.istore_n 2, 1) := by decide +kernel
theorem dX6_keptByPace_2 : decode cX6_keptByPace 2 = .ok (.iconst 0, 1) := by decide +kernel
theorem dX6_keptByPace_3 : decode cX6_keptByPace 3 = .ok (.istore_n 3, 1) := by decide +kernel
theorem dX6_keptByPace_4 : decode cX6_keptByPace 4 = .ok (.iconst 0, 1) := by decide +kernel
theorem dX6_keptByPace_5 : decode cX6_keptByPace 5 = .ok (.istore 4, 2) := by decide +kernel
theorem dX6_keptByPace_7 : decode cX6_keptByPace 7 = .ok (.aload_n 0, 1) := by decide +kernel
theorem dX6_keptByPace_8 : decode cX6_keptByPace 8 = .ok (.getfield 49, 3) := by decide +kernel
theorem dX6_keptByPace_11 : decode cX6_keptByPace 11 = .ok (.aload_n 0, 1) := by decide +kernel
theorem dX6_keptByPace_12 : decode cX6_keptByPace 12 = .ok (.getfield 19, 3) := by decide +kernel
theorem dX6_keptByPace_15 : decode cX6_keptByPace 15 = .ok (.getfield 226, 3) := by decide +kernel
theorem dX6_keptByPace_18 : decode cX6_keptByPace 18 = .ok (.invokevirtual 229, 3) := by decide +kernel
theorem dX6_keptByPace_21 : decode cX6_keptByPace 21 = .ok (.iconst 0, 1) := by decide +kernel
theorem dX6_keptByPace_22 : decode cX6_keptByPace 22 = .ok (.istore 5, 2) := by decide +kernel
theorem dX6_keptByPace_24 : decode cX6_keptByPace 24 = .ok (.iload 5, 2) := by decide +kernel
theorem dX6_keptByPace_26 : decode cX6_keptByPace 26 = .ok (.aload_n 0, 1) := by decide +kernel
theorem dX6_keptByPace_27 : decode cX6_keptByPace 27 = .ok (.getfield 19, 3) := by decide +kernel
theorem dX6_keptByPace_30 : decode cX6_keptByPace 30 = .ok (.invokevirtual 249, 3) := by decide +kernel
theorem dX6_keptByPace_33 : decode cX6_keptByPace 33 = .ok (.if_icmp .ge 81, 3) := by decide +kernel
theorem dX6_keptByPace_36 : decode cX6_keptByPace 36 = .ok (.aload_n 0, 1) := by decide +kernel
theorem dX6_keptByPace_37 : decode cX6_keptByPace 37 = .ok (.getfield 19, 3) := by decide +kernel
theorem dX6_keptByPace_40 : decode cX6_keptByPace 40 = .ok (.iload 5, 2) := by decide +kernel
theorem dX6_keptByPace_42 : decode cX6_keptByPace 42 = .ok (.invokevirtual 220, 3) := by decide +kernel
theorem dX6_keptByPace_45 : decode cX6_keptByPace 45 = .ok (.ifCond .ne 6, 3) := by decide +kernel
theorem dX6_keptByPace_48 : decode cX6_keptByPace 48 = .ok (.goto 60, 3) := by decide +kernel
theorem dX6_keptByPace_51 : decode cX6_keptByPace 51 = .ok (.iload_n 3, 1) := by decide +kernel
theorem dX6_keptByPace_52 : decode cX6_keptByPace 52 = .ok (.ifCond .ne 14, 3) := by decide +kernel
theorem dX6_keptByPace_55 : decode cX6_keptByPace 55 = .ok (.aload_n 0, 1) := by decide +kernel
theorem dX6_keptByPace_56 : decode cX6_keptByPace 56 = .ok (.getfield 19, 3) := by decide +kernel
theorem dX6_keptByPace_59 : decode cX6_keptByPace 59 = .ok (.getfield 226, 3) := by decide +kernel
theorem dX6_keptByPace_62 : decode cX6_keptByPace 62 = .ok (.istore_n 2, 1) := by decide +kernel
theorem dX6_keptByPace_63 : decode cX6_keptByPace 63 = .ok (.goto 24, 3) := by decide +kernel
theorem dX6_keptByPace_66 : decode cX6_keptByPace 66 = .ok (.iload_n 1, 1) := by decide +kernel
theorem dX6_keptByPace_67 : decode cX6_keptByPace 67 = .ok (.ifCond .le 20, 3) := by decide +kernel
theorem dX6_keptByPace_70 : decode cX6_keptByPace 70 = .ok (.iload_n 3, 1) := by decide +kernel
theorem dX6_keptByPace_71 : decode cX6_keptByPace 71 = .ok (.iload_n 1, 1) := by decide +kernel
theorem dX6_keptByPace_72 : decode cX6_keptByPace 72 = .ok (.irem, 1) := by decide +kernel
theorem dX6_keptByPace_73 : decode cX6_keptByPace 73 = .ok (.ifCond .ne 14, 3) := by decide +kernel
theorem dX6_keptByPace_76 : decode cX6_keptByPace 76 = .ok (.iload_n 2, 1) := by decide +kernel
theorem dX6_keptByPace_77 : decode cX6_keptByPace 77 = .ok (.iload 4, 2) := by decide +kernel
theorem dX6_keptByPace_79 : decode cX6_keptByPace 79 = .ok (.invokestatic 132, 3) := by decide +kernel
theorem dX6_keptByPace_82 : decode cX6_keptByPace 82 = .ok (.iadd, 1) := by decide +kernel
theorem dX6_keptByPace_83 : decode cX6_keptByPace 83 = .ok (.istore_n 2, 1) := by decide +kernel
theorem dX6_keptByPace_84 : decode cX6_keptByPace 84 = .ok (.iconst 0, 1) := by decide +kernel
theorem dX6_keptByPace_85 : decode cX6_keptByPace 85 = .ok (.istore 4, 2) := by decide +kernel
theorem dX6_keptByPace_87 : decode cX6_keptByPace 87 = .ok (.iload 4, 2) := by decide +kernel
theorem dX6_keptByPace_89 : decode cX6_keptByPace 89 = .ok (.aload_n 0, 1) := by decide +kernel
theorem dX6_keptByPace_90 : decode cX6_keptByPace 90 = .ok (.getfield 49, 3) := by decide +kernel
theorem dX6_keptByPace_93 : decode cX6_keptByPace 93 = .ok (.aload_n 0, 1) := by decide +kernel
theorem dX6_keptByPace_94 : decode cX6_keptByPace 94 = .ok (.getfield 19, 3) := by decide +kernel
theorem dX6_keptByPace_97 : decode cX6_keptByPace 97 = .ok (.iload 5, 2) := by decide +kernel
theorem dX6_keptByPace_99 : decode cX6_keptByPace 99 = .ok (.invokevirtual 235, 3) := by decide +kernel
theorem dX6_keptByPace_102 : decode cX6_keptByPace 102 = .ok (.ior, 1) := by decide +kernel
theorem dX6_keptByPace_103 : decode cX6_keptByPace 103 = .ok (.istore 4, 2) := by decide +kernel
theorem dX6_keptByPace_105 : decode cX6_keptByPace 105 = .ok (.iinc 3 1, 3) := by decide +kernel
theorem dX6_keptByPace_108 : decode cX6_keptByPace 108 = .ok (.iinc 5 1, 3) := by decide +kernel
theorem dX6_keptByPace_111 : decode cX6_keptByPace 111 = .ok (.goto (-87), 3) := by decide +kernel
theorem dX6_keptByPace_114 : decode cX6_keptByPace 114 = .ok (.iload_n 2, 1) := by decide +kernel
theorem dX6_keptByPace_115 : decode cX6_keptByPace 115 = .ok (.ireturn, 1) := by decide +kernel
theorem dX6_blame_0 : decode cX6_blame 0 = .ok (.aload_n 0, 1) := by decide +kernel
theorem dX6_blame_1 : decode cX6_blame 1 = .ok (.getfield 19, 3) := by decide +kernel
theorem dX6_blame_4 : decode cX6_blame 4 = .ok (.invokevirtual 245, 3) := by decide +kernel
theorem dX6_blame_7 : decode cX6_blame 7 = .ok (.ifCond .ne 6, 3) := by decide +kernel
theorem dX6_blame_10 : decode cX6_blame 10 = .ok (.bipush (-2), 2) := by decide +kernel
theorem dX6_blame_12 : decode cX6_blame 12 = .ok (.ireturn, 1) := by decide +kernel
theorem dX6_blame_13 : decode cX6_blame 13 = .ok (.aload_n 0, 1) := by decide +kernel
theorem dX6_blame_14 : decode cX6_blame 14 = .ok (.getfield 49, 3) := by decide +kernel
theorem dX6_blame_17 : decode cX6_blame 17 = .ok (.aload_n 0, 1) := by decide +kernel
theorem dX6_blame_18 : decode cX6_blame 18 = .ok (.getfield 19, 3) := by decide +kernel
theorem dX6_blame_21 : decode cX6_blame 21 = .ok (.aload_n 0, 1) := by decide +kernel
theorem dX6_blame_22 : decode cX6_blame 22 = .ok (.getfield 19, 3) := by decide +kernel
theorem dX6_blame_25 : decode cX6_blame 25 = .ok (.invokevirtual 249, 3) := by decide +kernel
theorem dX6_blame_28 : decode cX6_blame 28 = .ok (.lconst 0, 1) := by decide +kernel
theorem dX6_blame_29 : decode cX6_blame 29 = .ok (.invokevirtual 251, 3) := by decide +kernel
theorem dX6_blame_32 : decode cX6_blame 32 = .ok (.aload_n 0, 1) := by decide +kernel
theorem dX6_blame_33 : decode cX6_blame 33 = .ok (.getfield 49, 3) := by decide +kernel
theorem dX6_blame_36 : decode cX6_blame 36 = .ok (.invokevirtual 265, 3) := by decide +kernel
theorem dX6_blame_39 : decode cX6_blame 39 = .ok (.istore_n 1, 1) := by decide +kernel
theorem dX6_blame_40 : decode cX6_blame 40 = .ok (.iconst (-1), 1) := by decide +kernel
theorem dX6_blame_41 : decode cX6_blame 41 = .ok (.istore_n 2, 1) := by decide +kernel
theorem dX6_blame_42 : decode cX6_blame 42 = .ok (.iconst 0, 1) := by decide +kernel
theorem dX6_blame_43 : decode cX6_blame 43 = .ok (.istore_n 3, 1) := by decide +kernel
theorem dX6_blame_44 : decode cX6_blame 44 = .ok (.iload_n 3, 1) := by decide +kernel
theorem dX6_blame_45 : decode cX6_blame 45 = .ok (.aload_n 0, 1) := by decide +kernel
theorem dX6_blame_46 : decode cX6_blame 46 = .ok (.getfield 19, 3) := by decide +kernel
theorem dX6_blame_49 : decode cX6_blame 49 = .ok (.getfield 268, 3) := by decide +kernel
theorem dX6_blame_52 : decode cX6_blame 52 = .ok (.if_icmp .ge 51, 3) := by decide +kernel
theorem dX6_blame_55 : decode cX6_blame 55 = .ok (.aload_n 0, 1) := by decide +kernel
theorem dX6_blame_56 : decode cX6_blame 56 = .ok (.getfield 49, 3) := by decide +kernel
theorem dX6_blame_59 : decode cX6_blame 59 = .ok (.aload_n 0, 1) := by decide +kernel
theorem dX6_blame_60 : decode cX6_blame 60 = .ok (.getfield 19, 3) := by decide +kernel
theorem dX6_blame_63 : decode cX6_blame 63 = .ok (.aload_n 0, 1) := by decide +kernel
theorem dX6_blame_64 : decode cX6_blame 64 = .ok (.getfield 19, 3) := by decide +kernel
theorem dX6_blame_67 : decode cX6_blame 67 = .ok (.invokevirtual 249, 3) := by decide +kernel
theorem dX6_blame_70 : decode cX6_blame 70 = .ok (.lconst 1, 1) := by decide +kernel
theorem dX6_blame_71 : decode cX6_blame 71 = .ok (.iload_n 3, 1) := by decide +kernel
theorem dX6_blame_72 : decode cX6_blame 72 = .ok (.lshl, 1) := by decide +kernel
theorem dX6_blame_73 : decode cX6_blame 73 = .ok (.invokevirtual 251, 3) := by decide +kernel
theorem dX6_blame_76 : decode cX6_blame 76 = .ok (.aload_n 0, 1) := by decide +kernel
theorem dX6_blame_77 : decode cX6_blame 77 = .ok (.getfield 49, 3) := by decide +kernel
theorem dX6_blame_80 : decode cX6_blame 80 = .ok (.invokevirtual 265, 3) := by decide +kernel
theorem dX6_blame_83 : decode cX6_blame 83 = .ok (.iload_n 1, 1) := by decide +kernel
theorem dX6_blame_84 : decode cX6_blame 84 = .ok (.if_icmp .le 13, 3) := by decide +kernel
theorem dX6_blame_87 : decode cX6_blame 87 = .ok (.aload_n 0, 1) := by decide +kernel
theorem dX6_blame_88 : decode cX6_blame 88 = .ok (.getfield 49, 3) := by decide +kernel
theorem dX6_blame_91 : decode cX6_blame 91 = .ok (.invokevirtual 265, 3) := by decide +kernel
theorem dX6_blame_94 : decode cX6_blame 94 = .ok (.istore_n 1, 1) := by decide +kernel
theorem dX6_blame_95 : decode cX6_blame 95 = .ok (.iload_n 3, 1) := by decide +kernel
theorem dX6_blame_96 : decode cX6_blame 96 = .ok (.istore_n 2, 1) := by decide +kernel
theorem dX6_blame_97 : decode cX6_blame 97 = .ok (.iinc 3 1, 3) := by decide +kernel
theorem dX6_blame_100 : decode cX6_blame 100 = .ok (.goto (-56), 3) := by decide +kernel
theorem dX6_blame_103 : decode cX6_blame 103 = .ok (.iload_n 2, 1) := by decide +kernel
theorem dX6_blame_104 : decode cX6_blame 104 = .ok (.ireturn, 1) := by decide +kernel
theorem dX6_idle_0 : decode cX6_idle 0 = .ok (.aload_n 0, 1) := by decide +kernel
theorem dX6_idle_1 : decode cX6_idle 1 = .ok (.getfield 19, 3) := by decide +kernel
theorem dX6_idle_4 : decode cX6_idle 4 = .ok (.invokevirtual 245, 3) := by decide +kernel
theorem dX6_idle_7 : decode cX6_idle 7 = .ok (.ifCond .ne 6, 3) := by decide +kernel
theorem dX6_idle_10 : decode cX6_idle 10 = .ok (.bipush (-2), 2) := by decide +kernel
theorem dX6_idle_12 : decode cX6_idle 12 = .ok (.ireturn, 1) := by decide +kernel
theorem dX6_idle_13 : decode cX6_idle 13 = .ok (.aload_n 0, 1) := by decide +kernel
theorem dX6_idle_14 : decode cX6_idle 14 = .ok (.getfield 53, 3) := by decide +kernel
theorem dX6_idle_17 : decode cX6_idle 17 = .ok (.aload_n 0, 1) := by decide +kernel
theorem dX6_idle_18 : decode cX6_idle 18 = .ok (.getfield 19, 3) := by decide +kernel
theorem dX6_idle_21 : decode cX6_idle 21 = .ok (.aload_n 0, 1) := by decide +kernel
theorem dX6_idle_22 : decode cX6_idle 22 = .ok (.getfield 19, 3) := by decide +kernel
theorem dX6_idle_25 : decode cX6_idle 25 = .ok (.invokevirtual 249, 3) := by decide +kernel
theorem dX6_idle_28 : decode cX6_idle 28 = .ok (.lconst 0, 1) := by decide +kernel
theorem dX6_idle_29 : decode cX6_idle 29 = .ok (.invokevirtual 251, 3) := by decide +kernel
theorem dX6_idle_32 : decode cX6_idle 32 = .ok (.iconst 0, 1) := by decide +kernel
theorem dX6_idle_33 : decode cX6_idle 33 = .ok (.istore_n 1, 1) := by decide +kernel
theorem dX6_idle_34 : decode cX6_idle 34 = .ok (.iload_n 1, 1) := by decide +kernel
theorem dX6_idle_35 : decode cX6_idle 35 = .ok (.aload_n 0, 1) := by decide +kernel
theorem dX6_idle_36 : decode cX6_idle 36 = .ok (.getfield 19, 3) := by decide +kernel
theorem dX6_idle_39 : decode cX6_idle 39 = .ok (.getfield 268, 3) := by decide +kernel
theorem dX6_idle_42 : decode cX6_idle 42 = .ok (.if_icmp .ge 57, 3) := by decide +kernel
theorem dX6_idle_45 : decode cX6_idle 45 = .ok (.aload_n 0, 1) := by decide +kernel
theorem dX6_idle_46 : decode cX6_idle 46 = .ok (.getfield 19, 3) := by decide +kernel
theorem dX6_idle_49 : decode cX6_idle 49 = .ok (.iload_n 1, 1) := by decide +kernel
theorem dX6_idle_50 : decode cX6_idle 50 = .ok (.invokevirtual 220, 3) := by decide +kernel
theorem dX6_idle_53 : decode cX6_idle 53 = .ok (.ifCond .eq 40, 3) := by decide +kernel
theorem dX6_idle_56 : decode cX6_idle 56 = .ok (.aload_n 0, 1) := by decide +kernel
theorem dX6_idle_57 : decode cX6_idle 57 = .ok (.getfield 49, 3) := by decide +kernel
theorem dX6_idle_60 : decode cX6_idle 60 = .ok (.aload_n 0, 1) := by decide +kernel
theorem dX6_idle_61 : decode cX6_idle 61 = .ok (.getfield 19, 3) := by decide +kernel
theorem dX6_idle_64 : decode cX6_idle 64 = .ok (.aload_n 0, 1) := by decide +kernel
theorem dX6_idle_65 : decode cX6_idle 65 = .ok (.getfield 19, 3) := by decide +kernel
theorem dX6_idle_68 : decode cX6_idle 68 = .ok (.invokevirtual 249, 3) := by decide +kernel
theorem dX6_idle_71 : decode cX6_idle 71 = .ok (.lconst 1, 1) := by decide +kernel
theorem dX6_idle_72 : decode cX6_idle 72 = .ok (.iload_n 1, 1) := by decide +kernel
theorem dX6_idle_73 : decode cX6_idle 73 = .ok (.lshl, 1) := by decide +kernel
theorem dX6_idle_74 : decode cX6_idle 74 = .ok (.invokevirtual 251, 3) := by decide +kernel
theorem dX6_idle_77 : decode cX6_idle 77 = .ok (.aload_n 0, 1) := by decide +kernel
theorem dX6_idle_78 : decode cX6_idle 78 = .ok (.getfield 49, 3) := by decide +kernel
theorem dX6_idle_81 : decode cX6_idle 81 = .ok (.aload_n 0, 1) := by decide +kernel
theorem dX6_idle_82 : decode cX6_idle 82 = .ok (.getfield 53, 3) := by decide +kernel
theorem dX6_idle_85 : decode cX6_idle 85 = .ok (.invokevirtual 255, 3) := by decide +kernel
theorem dX6_idle_88 : decode cX6_idle 88 = .ok (.ifCond .ne 5, 3) := by decide +kernel
theorem dX6_idle_91 : decode cX6_idle 91 = .ok (.iload_n 1, 1) := by decide +kernel
theorem dX6_idle_92 : decode cX6_idle 92 = .ok (.ireturn, 1) := by decide +kernel
theorem dX6_idle_93 : decode cX6_idle 93 = .ok (.iinc 1 1, 3) := by decide +kernel
theorem dX6_idle_96 : decode cX6_idle 96 = .ok (.goto (-62), 3) := by decide +kernel
theorem dX6_idle_99 : decode cX6_idle 99 = .ok (.iconst (-1), 1) := by decide +kernel
theorem dX6_idle_100 : decode cX6_idle 100 = .ok (.ireturn, 1) := by decide +kernel
theorem dX6_may_0 : decode cX6_may 0 = .ok (.aload_n 0, 1) := by decide +kernel
theorem dX6_may_1 : decode cX6_may 1 = .ok (.iload_n 1, 1) := by decide +kernel
theorem dX6_may_2 : decode cX6_may 2 = .ok (.invokevirtual 271, 3) := by decide +kernel
theorem dX6_may_5 : decode cX6_may 5 = .ok (.istore_n 2, 1) := by decide +kernel
theorem dX6_may_6 : decode cX6_may 6 = .ok (.iload_n 2, 1) := by decide +kernel
theorem dX6_may_7 : decode cX6_may 7 = .ok (.ifCond .eq 5, 3) := by decide +kernel
theorem dX6_may_10 : decode cX6_may 10 = .ok (.iload_n 2, 1) := by decide +kernel
theorem dX6_may_11 : decode cX6_may 11 = .ok (.ireturn, 1) := by decide +kernel
theorem dX6_may_12 : decode cX6_may 12 = .ok (.iconst 0, 1) := by decide +kernel
theorem dX6_may_13 : decode cX6_may 13 = .ok (.istore_n 3, 1) := by decide +kernel
theorem dX6_may_14 : decode cX6_may 14 = .ok (.iconst 0, 1) := by decide +kernel
theorem dX6_may_15 : decode cX6_may 15 = .ok (.istore 4, 2) := by decide +kernel
theorem dX6_may_17 : decode cX6_may 17 = .ok (.iload 4, 2) := by decide +kernel
theorem dX6_may_19 : decode cX6_may 19 = .ok (.aload_n 0, 1) := by decide +kernel
theorem dX6_may_20 : decode cX6_may 20 = .ok (.getfield 19, 3) := by decide +kernel
theorem dX6_may_23 : decode cX6_may 23 = .ok (.getfield 268, 3) := by decide +kernel
theorem dX6_may_26 : decode cX6_may 26 = .ok (.if_icmp .ge 29, 3) := by decide +kernel
theorem dX6_may_29 : decode cX6_may 29 = .ok (.aload_n 0, 1) := by decide +kernel
theorem dX6_may_30 : decode cX6_may 30 = .ok (.aload_n 0, 1) := by decide +kernel
theorem dX6_may_31 : decode cX6_may 31 = .ok (.getfield 32, 3) := by decide +kernel
theorem dX6_may_34 : decode cX6_may 34 = .ok (.iload_n 1, 1) := by decide +kernel
theorem dX6_may_35 : decode cX6_may 35 = .ok (.aaload, 1) := by decide +kernel
theorem dX6_may_36 : decode cX6_may 36 = .ok (.lconst 1, 1) := by decide +kernel
theorem dX6_may_37 : decode cX6_may 37 = .ok (.iload 4, 2) := by decide +kernel
theorem dX6_may_39 : decode cX6_may 39 = .ok (.lshl, 1) := by decide +kernel
theorem dX6_may_40 : decode cX6_may 40 = .ok (.invokevirtual 274, 3) := by decide +kernel
theorem dX6_may_43 : decode cX6_may 43 = .ok (.ifCond .eq 6, 3) := by decide +kernel
theorem dX6_may_46 : decode cX6_may 46 = .ok (.iinc 3 1, 3) := by decide +kernel
theorem dX6_may_49 : decode cX6_may 49 = .ok (.iinc 4 1, 3) := by decide +kernel
theorem dX6_may_52 : decode cX6_may 52 = .ok (.goto (-35), 3) := by decide +kernel
theorem dX6_may_55 : decode cX6_may 55 = .ok (.iload_n 3, 1) := by decide +kernel
theorem dX6_may_56 : decode cX6_may 56 = .ok (.ireturn, 1) := by decide +kernel
theorem dX6_which_0 : decode cX6_which 0 = .ok (.aload_n 0, 1) := by decide +kernel
theorem dX6_which_1 : decode cX6_which 1 = .ok (.iload_n 1, 1) := by decide +kernel
theorem dX6_which_2 : decode cX6_which 2 = .ok (.invokevirtual 271, 3) := by decide +kernel
theorem dX6_which_5 : decode cX6_which 5 = .ok (.istore_n 2, 1) := by decide +kernel
theorem dX6_which_6 : decode cX6_which 6 = .ok (.iload_n 2, 1) := by decide +kernel
theorem dX6_which_7 : decode cX6_which 7 = .ok (.ifCond .eq 5, 3) := by decide +kernel
theorem dX6_which_10 : decode cX6_which 10 = .ok (.iload_n 2, 1) := by decide +kernel
theorem dX6_which_11 : decode cX6_which 11 = .ok (.ireturn, 1) := by decide +kernel
theorem dX6_which_12 : decode cX6_which 12 = .ok (.iconst 0, 1) := by decide +kernel
theorem dX6_which_13 : decode cX6_which 13 = .ok (.istore_n 3, 1) := by decide +kernel
theorem dX6_which_14 : decode cX6_which 14 = .ok (.iload_n 3, 1) := by decide +kernel
theorem dX6_which_15 : decode cX6_which 15 = .ok (.aload_n 0, 1) := by decide +kernel
theorem dX6_which_16 : decode cX6_which 16 = .ok (.getfield 19, 3) := by decide +kernel
theorem dX6_which_19 : decode cX6_which 19 = .ok (.getfield 268, 3) := by decide +kernel
theorem dX6_which_22 : decode cX6_which 22 = .ok (.if_icmp .ge 27, 3) := by decide +kernel
theorem dX6_which_25 : decode cX6_which 25 = .ok (.aload_n 0, 1) := by decide +kernel
theorem dX6_which_26 : decode cX6_which 26 = .ok (.aload_n 0, 1) := by decide +kernel
theorem dX6_which_27 : decode cX6_which 27 = .ok (.getfield 32, 3) := by decide +kernel
theorem dX6_which_30 : decode cX6_which 30 = .ok (.iload_n 1, 1) := by decide +kernel
theorem dX6_which_31 : decode cX6_which 31 = .ok (.aaload, 1) := by decide +kernel
theorem dX6_which_32 : decode cX6_which 32 = .ok (.lconst 1, 1) := by decide +kernel
theorem dX6_which_33 : decode cX6_which 33 = .ok (.iload_n 3, 1) := by decide +kernel
theorem dX6_which_34 : decode cX6_which 34 = .ok (.lshl, 1) := by decide +kernel
theorem dX6_which_35 : decode cX6_which 35 = .ok (.invokevirtual 274, 3) := by decide +kernel
theorem dX6_which_38 : decode cX6_which 38 = .ok (.ifCond .eq 5, 3) := by decide +kernel
theorem dX6_which_41 : decode cX6_which 41 = .ok (.iload_n 3, 1) := by decide +kernel
theorem dX6_which_42 : decode cX6_which 42 = .ok (.ireturn, 1) := by decide +kernel
theorem dX6_which_43 : decode cX6_which 43 = .ok (.iinc 3 1, 3) := by decide +kernel
theorem dX6_which_46 : decode cX6_which 46 = .ok (.goto (-32), 3) := by decide +kernel
theorem dX6_which_49 : decode cX6_which 49 = .ok (.iconst (-1), 1) := by decide +kernel
theorem dX6_which_50 : decode cX6_which 50 = .ok (.ireturn, 1) := by decide +kernel
theorem dX6_plain_0 : decode cX6_plain 0 = .ok (.aload_n 0, 1) := by decide +kernel
theorem dX6_plain_1 : decode cX6_plain 1 = .ok (.iload_n 1, 1) := by decide +kernel
theorem dX6_plain_2 : decode cX6_plain 2 = .ok (.invokevirtual 271, 3) := by decide +kernel
theorem dX6_plain_5 : decode cX6_plain 5 = .ok (.istore_n 2, 1) := by decide +kernel
theorem dX6_plain_6 : decode cX6_plain 6 = .ok (.iload_n 2, 1) := by decide +kernel
theorem dX6_plain_7 : decode cX6_plain 7 = .ok (.ifCond .eq 5, 3) := by decide +kernel
theorem dX6_plain_10 : decode cX6_plain 10 = .ok (.iload_n 2, 1) := by decide +kernel
theorem dX6_plain_11 : decode cX6_plain 11 = .ok (.ireturn, 1) := by decide +kernel
theorem dX6_plain_12 : decode cX6_plain 12 = .ok (.aload_n 0, 1) := by decide +kernel
theorem dX6_plain_13 : decode cX6_plain 13 = .ok (.aload_n 0, 1) := by decide +kernel
theorem dX6_plain_14 : decode cX6_plain 14 = .ok (.getfield 32, 3) := by decide +kernel
theorem dX6_plain_17 : decode cX6_plain 17 = .ok (.iload_n 1, 1) := by decide +kernel
theorem dX6_plain_18 : decode cX6_plain 18 = .ok (.aaload, 1) := by decide +kernel
theorem dX6_plain_19 : decode cX6_plain 19 = .ok (.lconst 0, 1) := by decide +kernel
theorem dX6_plain_20 : decode cX6_plain 20 = .ok (.invokevirtual 274, 3) := by decide +kernel
theorem dX6_plain_23 : decode cX6_plain 23 = .ok (.ifCond .eq 7, 3) := by decide +kernel
theorem dX6_plain_26 : decode cX6_plain 26 = .ok (.iconst 1, 1) := by decide +kernel
theorem dX6_plain_27 : decode cX6_plain 27 = .ok (.goto 4, 3) := by decide +kernel
theorem dX6_plain_30 : decode cX6_plain 30 = .ok (.iconst 0, 1) := by decide +kernel
theorem dX6_plain_31 : decode cX6_plain 31 = .ok (.ireturn, 1) := by decide +kernel
theorem dX6_seenRefusal_0 : decode cX6_seenRefusal 0 = .ok (.iload_n 1, 1) := by decide +kernel
theorem dX6_seenRefusal_1 : decode cX6_seenRefusal 1 = .ok (.invokestatic 278, 3) := by decide +kernel
theorem dX6_seenRefusal_4 : decode cX6_seenRefusal 4 = .ok (.ifCond .eq 13, 3) := by decide +kernel
theorem dX6_seenRefusal_7 : decode cX6_seenRefusal 7 = .ok (.aload_n 0, 1) := by decide +kernel
theorem dX6_seenRefusal_8 : decode cX6_seenRefusal 8 = .ok (.getfield 19, 3) := by decide +kernel
theorem dX6_seenRefusal_11 : decode cX6_seenRefusal 11 = .ok (.invokevirtual 245, 3) := by decide +kernel
theorem dX6_seenRefusal_14 : decode cX6_seenRefusal 14 = .ok (.ifCond .ne 6, 3) := by decide +kernel
theorem dX6_seenRefusal_17 : decode cX6_seenRefusal 17 = .ok (.bipush (-2), 2) := by decide +kernel
theorem dX6_seenRefusal_19 : decode cX6_seenRefusal 19 = .ok (.ireturn, 1) := by decide +kernel
theorem dX6_seenRefusal_20 : decode cX6_seenRefusal 20 = .ok (.aload_n 0, 1) := by decide +kernel
theorem dX6_seenRefusal_21 : decode cX6_seenRefusal 21 = .ok (.getfield 32, 3) := by decide +kernel
theorem dX6_seenRefusal_24 : decode cX6_seenRefusal 24 = .ok (.iload_n 1, 1) := by decide +kernel
theorem dX6_seenRefusal_25 : decode cX6_seenRefusal 25 = .ok (.aaload, 1) := by decide +kernel
theorem dX6_seenRefusal_26 : decode cX6_seenRefusal 26 = .ok (.astore_n 2, 1) := by decide +kernel
theorem dX6_seenRefusal_27 : decode cX6_seenRefusal 27 = .ok (.aload_n 2, 1) := by decide +kernel
theorem dX6_seenRefusal_28 : decode cX6_seenRefusal 28 = .ok (.getfield 281, 3) := by decide +kernel
theorem dX6_seenRefusal_31 : decode cX6_seenRefusal 31 = .ok (.ifCond .ne 6, 3) := by decide +kernel
theorem dX6_seenRefusal_34 : decode cX6_seenRefusal 34 = .ok (.bipush (-6), 2) := by decide +kernel
theorem dX6_seenRefusal_36 : decode cX6_seenRefusal 36 = .ok (.ireturn, 1) := by decide +kernel
theorem dX6_seenRefusal_37 : decode cX6_seenRefusal 37 = .ok (.aload_n 2, 1) := by decide +kernel
theorem dX6_seenRefusal_38 : decode cX6_seenRefusal 38 = .ok (.getfield 284, 3) := by decide +kernel
theorem dX6_seenRefusal_41 : decode cX6_seenRefusal 41 = .ok (.iconst 3, 1) := by decide +kernel
theorem dX6_seenRefusal_42 : decode cX6_seenRefusal 42 = .ok (.irem, 1) := by decide +kernel
theorem dX6_seenRefusal_43 : decode cX6_seenRefusal 43 = .ok (.ifCond .eq 6, 3) := by decide +kernel
theorem dX6_seenRefusal_46 : decode cX6_seenRefusal 46 = .ok (.bipush (-2), 2) := by decide +kernel
theorem dX6_seenRefusal_48 : decode cX6_seenRefusal 48 = .ok (.ireturn, 1) := by decide +kernel
theorem dX6_seenRefusal_49 : decode cX6_seenRefusal 49 = .ok (.iconst 0, 1) := by decide +kernel
theorem dX6_seenRefusal_50 : decode cX6_seenRefusal 50 = .ok (.istore_n 3, 1) := by decide +kernel
theorem dX6_seenRefusal_51 : decode cX6_seenRefusal 51 = .ok (.iload_n 3, 1) := by decide +kernel
theorem dX6_seenRefusal_52 : decode cX6_seenRefusal 52 = .ok (.iconst 2, 1) := by decide +kernel
theorem dX6_seenRefusal_53 : decode cX6_seenRefusal 53 = .ok (.iadd, 1) := by decide +kernel
theorem dX6_seenRefusal_54 : decode cX6_seenRefusal 54 = .ok (.aload_n 2, 1) := by decide +kernel
theorem dX6_seenRefusal_55 : decode cX6_seenRefusal 55 = .ok (.getfield 284, 3) := by decide +kernel
theorem dX6_seenRefusal_58 : decode cX6_seenRefusal 58 = .ok (.if_icmp .ge 80, 3) := by decide +kernel
theorem dX6_seenRefusal_61 : decode cX6_seenRefusal 61 = .ok (.aload_n 2, 1) := by decide +kernel
theorem dX6_seenRefusal_62 : decode cX6_seenRefusal 62 = .ok (.iload_n 3, 1) := by decide +kernel
theorem dX6_seenRefusal_63 : decode cX6_seenRefusal 63 = .ok (.invokevirtual 285, 3) := by decide +kernel
theorem dX6_seenRefusal_66 : decode cX6_seenRefusal 66 = .ok (.aload_n 0, 1) := by decide +kernel
theorem dX6_seenRefusal_67 : decode cX6_seenRefusal 67 = .ok (.getfield 19, 3) := by decide +kernel
theorem dX6_seenRefusal_70 : decode cX6_seenRefusal 70 = .ok (.invokevirtual 249, 3) := by decide +kernel
theorem dX6_seenRefusal_73 : decode cX6_seenRefusal 73 = .ok (.invokestatic 289, 3) := by decide +kernel
theorem dX6_seenRefusal_76 : decode cX6_seenRefusal 76 = .ok (.ifCond .eq 45, 3) := by decide +kernel
theorem dX6_seenRefusal_79 : decode cX6_seenRefusal 79 = .ok (.aload_n 2, 1) := by decide +kernel
theorem dX6_seenRefusal_80 : decode cX6_seenRefusal 80 = .ok (.iload_n 3, 1) := by decide +kernel
theorem dX6_seenRefusal_81 : decode cX6_seenRefusal 81 = .ok (.iconst 1, 1) := by decide +kernel
theorem dX6_seenRefusal_82 : decode cX6_seenRefusal 82 = .ok (.iadd, 1) := by decide +kernel
theorem dX6_seenRefusal_83 : decode cX6_seenRefusal 83 = .ok (.invokevirtual 285, 3) := by decide +kernel
theorem dX6_seenRefusal_86 : decode cX6_seenRefusal 86 = .ok (.aload_n 0, 1) := by decide +kernel
theorem dX6_seenRefusal_87 : decode cX6_seenRefusal 87 = .ok (.getfield 19, 3) := by decide +kernel
theorem dX6_seenRefusal_90 : decode cX6_seenRefusal 90 = .ok (.getfield 226, 3) := by decide +kernel
theorem dX6_seenRefusal_93 : decode cX6_seenRefusal 93 = .ok (.iconst 1, 1) := by decide +kernel
theorem dX6_seenRefusal_94 : decode cX6_seenRefusal 94 = .ok (.isub, 1) := by decide +kernel
theorem dX6_seenRefusal_95 : decode cX6_seenRefusal 95 = .ok (.invokestatic 289, 3) := by decide +kernel
theorem dX6_seenRefusal_98 : decode cX6_seenRefusal 98 = .ok (.ifCond .eq 23, 3) := by decide +kernel
theorem dX6_seenRefusal_101 : decode cX6_seenRefusal 101 = .ok (.aload_n 2, 1) := by decide +kernel
theorem dX6_seenRefusal_102 : decode cX6_seenRefusal 102 = .ok (.iload_n 3, 1) := by decide +kernel
theorem dX6_seenRefusal_103 : decode cX6_seenRefusal 103 = .ok (.iconst 2, 1) := by decide +kernel
theorem dX6_seenRefusal_104 : decode cX6_seenRefusal 104 = .ok (.iadd, 1) := by decide +kernel
theorem dX6_seenRefusal_105 : decode cX6_seenRefusal 105 = .ok (.invokevirtual 285, 3) := by decide +kernel
theorem dX6_seenRefusal_108 : decode cX6_seenRefusal 108 = .ok (.sipush 255, 3) := by decide +kernel
theorem dX6_seenRefusal_111 : decode cX6_seenRefusal 111 = .ok (.invokestatic 289, 3) := by decide +kernel
theorem dX6_seenRefusal_114 : decode cX6_seenRefusal 114 = .ok (.ifCond .eq 7, 3) := by decide +kernel
theorem dX6_seenRefusal_117 : decode cX6_seenRefusal 117 = .ok (.iconst 1, 1) := by decide +kernel
theorem dX6_seenRefusal_118 : decode cX6_seenRefusal 118 = .ok (.goto 4, 3) := by decide +kernel
theorem dX6_seenRefusal_121 : decode cX6_seenRefusal 121 = .ok (.iconst 0, 1) := by decide +kernel
theorem dX6_seenRefusal_122 : decode cX6_seenRefusal 122 = .ok (.istore 4, 2) := by decide +kernel
theorem dX6_seenRefusal_124 : decode cX6_seenRefusal 124 = .ok (.iload 4, 2) := by decide +kernel
theorem dX6_seenRefusal_126 : decode cX6_seenRefusal 126 = .ok (.ifCond .ne 6, 3) := by decide +kernel
theorem dX6_seenRefusal_129 : decode cX6_seenRefusal 129 = .ok (.bipush (-2), 2) := by decide +kernel
theorem dX6_seenRefusal_131 : decode cX6_seenRefusal 131 = .ok (.ireturn, 1) := by decide +kernel
theorem dX6_seenRefusal_132 : decode cX6_seenRefusal 132 = .ok (.iinc 3 3, 3) := by decide +kernel
theorem dX6_seenRefusal_135 : decode cX6_seenRefusal 135 = .ok (.goto (-84), 3) := by decide +kernel
theorem dX6_seenRefusal_138 : decode cX6_seenRefusal 138 = .ok (.iconst 0, 1) := by decide +kernel
theorem dX6_seenRefusal_139 : decode cX6_seenRefusal 139 = .ok (.ireturn, 1) := by decide +kernel
theorem dX6_isAsSeen_0 : decode cX6_isAsSeen 0 = .ok (.aload_n 0, 1) := by decide +kernel
theorem dX6_isAsSeen_1 : decode cX6_isAsSeen 1 = .ok (.getfield 49, 3) := by decide +kernel
theorem dX6_isAsSeen_4 : decode cX6_isAsSeen 4 = .ok (.aload_n 0, 1) := by decide +kernel
theorem dX6_isAsSeen_5 : decode cX6_isAsSeen 5 = .ok (.getfield 19, 3) := by decide +kernel
theorem dX6_isAsSeen_8 : decode cX6_isAsSeen 8 = .ok (.getfield 226, 3) := by decide +kernel
theorem dX6_isAsSeen_11 : decode cX6_isAsSeen 11 = .ok (.invokevirtual 229, 3) := by decide +kernel
theorem dX6_isAsSeen_14 : decode cX6_isAsSeen 14 = .ok (.iconst 0, 1) := by decide +kernel
theorem dX6_isAsSeen_15 : decode cX6_isAsSeen 15 = .ok (.istore 4, 2) := by decide +kernel
theorem dX6_isAsSeen_17 : decode cX6_isAsSeen 17 = .ok (.iload 4, 2) := by decide +kernel
theorem dX6_isAsSeen_19 : decode cX6_isAsSeen 19 = .ok (.aload_n 0, 1) := by decide +kernel
theorem dX6_isAsSeen_20 : decode cX6_isAsSeen 20 = .ok (.getfield 19, 3) := by decide +kernel
theorem dX6_isAsSeen_23 : decode cX6_isAsSeen 23 = .ok (.invokevirtual 249, 3) := by decide +kernel
theorem dX6_isAsSeen_26 : decode cX6_isAsSeen 26 = .ok (.if_icmp .gt 108, 3) := by decide +kernel
theorem dX6_isAsSeen_29 : decode cX6_isAsSeen 29 = .ok (.iconst 0, 1) := by decide +kernel
theorem dX6_isAsSeen_30 : decode cX6_isAsSeen 30 = .ok (.istore 5, 2) := by decide +kernel
theorem dX6_isAsSeen_32 : decode cX6_isAsSeen 32 = .ok (.iload 5, 2) := by decide +kernel
theorem dX6_isAsSeen_34 : decode cX6_isAsSeen 34 = .ok (.iconst 2, 1) := by decide +kernel
theorem dX6_isAsSeen_35 : decode cX6_isAsSeen 35 = .ok (.iadd, 1) := by decide +kernel
theorem dX6_isAsSeen_36 : decode cX6_isAsSeen 36 = .ok (.aload_n 1, 1) := by decide +kernel
theorem dX6_isAsSeen_37 : decode cX6_isAsSeen 37 = .ok (.getfield 284, 3) := by decide +kernel
theorem dX6_isAsSeen_40 : decode cX6_isAsSeen 40 = .ok (.if_icmp .ge 53, 3) := by decide +kernel
theorem dX6_isAsSeen_43 : decode cX6_isAsSeen 43 = .ok (.aload_n 1, 1) := by decide +kernel
theorem dX6_isAsSeen_44 : decode cX6_isAsSeen 44 = .ok (.iload 5, 2) := by decide +kernel
theorem dX6_isAsSeen_46 : decode cX6_isAsSeen 46 = .ok (.invokevirtual 285, 3) := by decide +kernel
theorem dX6_isAsSeen_49 : decode cX6_isAsSeen 49 = .ok (.iload 4, 2) := by decide +kernel
theorem dX6_isAsSeen_51 : decode cX6_isAsSeen 51 = .ok (.i2l, 1) := by decide +kernel
theorem dX6_isAsSeen_52 : decode cX6_isAsSeen 52 = .ok (.lcmp, 1) := by decide +kernel
theorem dX6_isAsSeen_53 : decode cX6_isAsSeen 53 = .ok (.ifCond .ne 34, 3) := by decide +kernel
theorem dX6_isAsSeen_56 : decode cX6_isAsSeen 56 = .ok (.aload_n 0, 1) := by decide +kernel
theorem dX6_isAsSeen_57 : decode cX6_isAsSeen 57 = .ok (.getfield 49, 3) := by decide +kernel
theorem dX6_isAsSeen_60 : decode cX6_isAsSeen 60 = .ok (.aload_n 1, 1) := by decide +kernel
theorem dX6_isAsSeen_61 : decode cX6_isAsSeen 61 = .ok (.iload 5, 2) := by decide +kernel
theorem dX6_isAsSeen_63 : decode cX6_isAsSeen 63 = .ok (.iconst 1, 1) := by decide +kernel
theorem dX6_isAsSeen_64 : decode cX6_isAsSeen 64 = .ok (.iadd, 1) := by decide +kernel
theorem dX6_isAsSeen_65 : decode cX6_isAsSeen 65 = .ok (.invokevirtual 285, 3) := by decide +kernel
theorem dX6_isAsSeen_68 : decode cX6_isAsSeen 68 = .ok (.l2i, 1) := by decide +kernel
theorem dX6_isAsSeen_69 : decode cX6_isAsSeen 69 = .ok (.invokevirtual 123, 3) := by decide +kernel
theorem dX6_isAsSeen_72 : decode cX6_isAsSeen 72 = .ok (.i2l, 1) := by decide +kernel
theorem dX6_isAsSeen_73 : decode cX6_isAsSeen 73 = .ok (.aload_n 1, 1) := by decide +kernel
theorem dX6_isAsSeen_74 : decode cX6_isAsSeen 74 = .ok (.iload 5, 2) := by decide +kernel
theorem dX6_isAsSeen_76 : decode cX6_isAsSeen 76 = .ok (.iconst 2, 1) := by decide +kernel
theorem dX6_isAsSeen_77 : decode cX6_isAsSeen 77 = .ok (.iadd, 1) := by decide +kernel
theorem dX6_isAsSeen_78 : decode cX6_isAsSeen 78 = .ok (.invokevirtual 285, 3) := by decide +kernel
theorem dX6_isAsSeen_81 : decode cX6_isAsSeen 81 = .ok (.lcmp, 1) := by decide +kernel
theorem dX6_isAsSeen_82 : decode cX6_isAsSeen 82 = .ok (.ifCond .eq 5, 3) := by decide +kernel
theorem dX6_isAsSeen_85 : decode cX6_isAsSeen 85 = .ok (.iconst 0, 1) := by decide +kernel
theorem dX6_isAsSeen_86 : decode cX6_isAsSeen 86 = .ok (.ireturn, 1) := by decide +kernel
theorem dX6_isAsSeen_87 : decode cX6_isAsSeen 87 = .ok (.iinc 5 3, 3) := by decide +kernel
theorem dX6_isAsSeen_90 : decode cX6_isAsSeen 90 = .ok (.goto (-58), 3) := by decide +kernel
theorem dX6_isAsSeen_93 : decode cX6_isAsSeen 93 = .ok (.iload 4, 2) := by decide +kernel
theorem dX6_isAsSeen_95 : decode cX6_isAsSeen 95 = .ok (.aload_n 0, 1) := by decide +kernel
theorem dX6_isAsSeen_96 : decode cX6_isAsSeen 96 = .ok (.getfield 19, 3) := by decide +kernel
theorem dX6_isAsSeen_99 : decode cX6_isAsSeen 99 = .ok (.invokevirtual 249, 3) := by decide +kernel
theorem dX6_isAsSeen_102 : decode cX6_isAsSeen 102 = .ok (.if_icmp .ge 26, 3) := by decide +kernel
theorem dX6_isAsSeen_105 : decode cX6_isAsSeen 105 = .ok (.lload_n 2, 1) := by decide +kernel
theorem dX6_isAsSeen_106 : decode cX6_isAsSeen 106 = .ok (.iload 4, 2) := by decide +kernel
theorem dX6_isAsSeen_108 : decode cX6_isAsSeen 108 = .ok (.invokestatic 293, 3) := by decide +kernel
theorem dX6_isAsSeen_111 : decode cX6_isAsSeen 111 = .ok (.ifCond .ne 17, 3) := by decide +kernel
theorem dX6_isAsSeen_114 : decode cX6_isAsSeen 114 = .ok (.aload_n 0, 1) := by decide +kernel
theorem dX6_isAsSeen_115 : decode cX6_isAsSeen 115 = .ok (.getfield 49, 3) := by decide +kernel
theorem dX6_isAsSeen_118 : decode cX6_isAsSeen 118 = .ok (.aload_n 0, 1) := by decide +kernel
theorem dX6_isAsSeen_119 : decode cX6_isAsSeen 119 = .ok (.getfield 19, 3) := by decide +kernel
theorem dX6_isAsSeen_122 : decode cX6_isAsSeen 122 = .ok (.iload 4, 2) := by decide +kernel
theorem dX6_isAsSeen_124 : decode cX6_isAsSeen 124 = .ok (.invokevirtual 235, 3) := by decide +kernel
theorem dX6_isAsSeen_127 : decode cX6_isAsSeen 127 = .ok (.pop, 1) := by decide +kernel
theorem dX6_isAsSeen_128 : decode cX6_isAsSeen 128 = .ok (.iinc 4 1, 3) := by decide +kernel
theorem dX6_isAsSeen_131 : decode cX6_isAsSeen 131 = .ok (.goto (-114), 3) := by decide +kernel
theorem dX6_isAsSeen_134 : decode cX6_isAsSeen 134 = .ok (.iconst 1, 1) := by decide +kernel
theorem dX6_isAsSeen_135 : decode cX6_isAsSeen 135 = .ok (.ireturn, 1) := by decide +kernel
theorem dX6_by_0 : decode cX6_by 0 = .ok (.aload_n 0, 1) := by decide +kernel
theorem dX6_by_1 : decode cX6_by 1 = .ok (.getfield 19, 3) := by decide +kernel
theorem dX6_by_4 : decode cX6_by 4 = .ok (.invokevirtual 245, 3) := by decide +kernel
theorem dX6_by_7 : decode cX6_by 7 = .ok (.ifCond .eq 12, 3) := by decide +kernel
theorem dX6_by_10 : decode cX6_by 10 = .ok (.iload_n 1, 1) := by decide +kernel
theorem dX6_by_11 : decode cX6_by 11 = .ok (.ifCond .lt 8, 3) := by decide +kernel
theorem dX6_by_14 : decode cX6_by 14 = .ok (.iload_n 1, 1) := by decide +kernel
theorem dX6_by_15 : decode cX6_by 15 = .ok (.iconst 3, 1) := by decide +kernel
theorem dX6_by_16 : decode cX6_by 16 = .ok (.if_icmp .le 6, 3) := by decide +kernel
theorem dX6_by_19 : decode cX6_by 19 = .ok (.bipush (-2), 2) := by decide +kernel
theorem dX6_by_21 : decode cX6_by 21 = .ok (.ireturn, 1) := by decide +kernel
theorem dX6_by_22 : decode cX6_by 22 = .ok (.aload_n 0, 1) := by decide +kernel
theorem dX6_by_23 : decode cX6_by 23 = .ok (.iload_n 1, 1) := by decide +kernel
theorem dX6_by_24 : decode cX6_by 24 = .ok (.invokevirtual 296, 3) := by decide +kernel
theorem dX6_by_27 : decode cX6_by 27 = .ok (.ireturn, 1) := by decide +kernel
theorem dX6_law_0 : decode cX6_law 0 = .ok (.aload_n 0, 1) := by decide +kernel
theorem dX6_law_1 : decode cX6_law 1 = .ok (.getfield 19, 3) := by decide +kernel
theorem dX6_law_4 : decode cX6_law 4 = .ok (.invokevirtual 245, 3) := by decide +kernel
theorem dX6_law_7 : decode cX6_law 7 = .ok (.ifCond .ne 6, 3) := by decide +kernel
theorem dX6_law_10 : decode cX6_law 10 = .ok (.bipush (-2), 2) := by decide +kernel
theorem dX6_law_12 : decode cX6_law 12 = .ok (.ireturn, 1) := by decide +kernel
theorem dX6_law_13 : decode cX6_law 13 = .ok (.iconst 0, 1) := by decide +kernel
theorem dX6_law_14 : decode cX6_law 14 = .ok (.istore_n 1, 1) := by decide +kernel
theorem dX6_law_15 : decode cX6_law 15 = .ok (.aload_n 0, 1) := by decide +kernel
theorem dX6_law_16 : decode cX6_law 16 = .ok (.iconst 0, 1) := by decide +kernel
theorem dX6_law_17 : decode cX6_law 17 = .ok (.invokevirtual 296, 3) := by decide +kernel
theorem dX6_law_20 : decode cX6_law 20 = .ok (.istore_n 2, 1) := by decide +kernel
theorem dX6_law_21 : decode cX6_law 21 = .ok (.iconst 1, 1) := by decide +kernel
theorem dX6_law_22 : decode cX6_law 22 = .ok (.istore_n 3, 1) := by decide +kernel
theorem dX6_law_23 : decode cX6_law 23 = .ok (.iload_n 3, 1) := by decide +kernel
theorem dX6_law_24 : decode cX6_law 24 = .ok (.iconst 3, 1) := by decide +kernel
theorem dX6_law_25 : decode cX6_law 25 = .ok (.if_icmp .gt 27, 3) := by decide +kernel
theorem dX6_law_28 : decode cX6_law 28 = .ok (.aload_n 0, 1) := by decide +kernel
theorem dX6_law_29 : decode cX6_law 29 = .ok (.iload_n 3, 1) := by decide +kernel
theorem dX6_law_30 : decode cX6_law 30 = .ok (.invokevirtual 296, 3) := by decide +kernel
theorem dX6_law_33 : decode cX6_law 33 = .ok (.istore 4, 2) := by decide +kernel
theorem dX6_law_35 : decode cX6_law 35 = .ok (.iload 4, 2) := by decide +kernel
theorem dX6_law_37 : decode cX6_law 37 = .ok (.iload_n 2, 1) := by decide +kernel
theorem dX6_law_38 : decode cX6_law 38 = .ok (.if_icmp .ge 8, 3) := by decide +kernel
theorem dX6_law_41 : decode cX6_law 41 = .ok (.iload 4, 2) := by decide +kernel
theorem dX6_law_43 : decode cX6_law 43 = .ok (.istore_n 2, 1) := by decide +kernel
theorem dX6_law_44 : decode cX6_law 44 = .ok (.iload_n 3, 1) := by decide +kernel
theorem dX6_law_45 : decode cX6_law 45 = .ok (.istore_n 1, 1) := by decide +kernel
theorem dX6_law_46 : decode cX6_law 46 = .ok (.iinc 3 1, 3) := by decide +kernel
theorem dX6_law_49 : decode cX6_law 49 = .ok (.goto (-26), 3) := by decide +kernel
theorem dX6_law_52 : decode cX6_law 52 = .ok (.iload_n 1, 1) := by decide +kernel
theorem dX6_law_53 : decode cX6_law 53 = .ok (.ireturn, 1) := by decide +kernel
theorem dX6_rescuedByLaw_0 : decode cX6_rescuedByLaw 0 = .ok (.aload_n 0, 1) := by decide +kernel
theorem dX6_rescuedByLaw_1 : decode cX6_rescuedByLaw 1 = .ok (.getfield 43, 3) := by decide +kernel
theorem dX6_rescuedByLaw_4 : decode cX6_rescuedByLaw 4 = .ok (.aload_n 0, 1) := by decide +kernel
theorem dX6_rescuedByLaw_5 : decode cX6_rescuedByLaw 5 = .ok (.getfield 19, 3) := by decide +kernel
theorem dX6_rescuedByLaw_8 : decode cX6_rescuedByLaw 8 = .ok (.iload_n 1, 1) := by decide +kernel
theorem dX6_rescuedByLaw_9 : decode cX6_rescuedByLaw 9 = .ok (.lconst 0, 1) := by decide +kernel
theorem dX6_rescuedByLaw_10 : decode cX6_rescuedByLaw 10 = .ok (.invokevirtual 299, 3) := by decide +kernel
theorem dX6_rescuedByLaw_13 : decode cX6_rescuedByLaw 13 = .ok (.aload_n 0, 1) := by decide +kernel
theorem dX6_rescuedByLaw_14 : decode cX6_rescuedByLaw 14 = .ok (.getfield 43, 3) := by decide +kernel
theorem dX6_rescuedByLaw_17 : decode cX6_rescuedByLaw 17 = .ok (.invokevirtual 300, 3) := by decide +kernel
theorem dX6_rescuedByLaw_20 : decode cX6_rescuedByLaw 20 = .ok (.ireturn, 1) := by decide +kernel
theorem dX6_worth_0 : decode cX6_worth 0 = .ok (.aload_n 0, 1) := by decide +kernel
theorem dX6_worth_1 : decode cX6_worth 1 = .ok (.getfield 19, 3) := by decide +kernel
theorem dX6_worth_4 : decode cX6_worth 4 = .ok (.invokevirtual 245, 3) := by decide +kernel
theorem dX6_worth_7 : decode cX6_worth 7 = .ok (.ifCond .eq 14, 3) := by decide +kernel
theorem dX6_worth_10 : decode cX6_worth 10 = .ok (.iload_n 1, 1) := by decide +kernel
theorem dX6_worth_11 : decode cX6_worth 11 = .ok (.ifCond .lt 10, 3) := by decide +kernel
theorem dX6_worth_14 : decode cX6_worth 14 = .ok (.iload_n 1, 1) := by decide +kernel
theorem dX6_worth_15 : decode cX6_worth 15 = .ok (.sipush 256, 3) := by decide +kernel
theorem dX6_worth_18 : decode cX6_worth 18 = .ok (.if_icmp .lt 6, 3) := by decide +kernel
theorem dX6_worth_21 : decode cX6_worth 21 = .ok (.bipush (-2), 2) := by decide +kernel
theorem dX6_worth_23 : decode cX6_worth 23 = .ok (.ireturn, 1) := by decide +kernel
theorem dX6_worth_24 : decode cX6_worth 24 = .ok (.aload_n 0, 1) := by decide +kernel
theorem dX6_worth_25 : decode cX6_worth 25 = .ok (.iload_n 1, 1) := by decide +kernel
theorem dX6_worth_26 : decode cX6_worth 26 = .ok (.aload_n 0, 1) := by decide +kernel
theorem dX6_worth_27 : decode cX6_worth 27 = .ok (.invokevirtual 303, 3) := by decide +kernel
theorem dX6_worth_30 : decode cX6_worth 30 = .ok (.invokevirtual 306, 3) := by decide +kernel
theorem dX6_worth_33 : decode cX6_worth 33 = .ok (.ireturn, 1) := by decide +kernel
theorem dX6_share_0 : decode cX6_share 0 = .ok (.iload_n 1, 1) := by decide +kernel
theorem dX6_share_1 : decode cX6_share 1 = .ok (.ifCond .lt 37, 3) := by decide +kernel
theorem dX6_share_4 : decode cX6_share 4 = .ok (.iload_n 1, 1) := by decide +kernel
theorem dX6_share_5 : decode cX6_share 5 = .ok (.bipush 8, 2) := by decide +kernel
theorem dX6_share_7 : decode cX6_share 7 = .ok (.if_icmp .ge 31, 3) := by decide +kernel
theorem dX6_share_10 : decode cX6_share 10 = .ok (.aload_n 0, 1) := by decide +kernel
theorem dX6_share_11 : decode cX6_share 11 = .ok (.iload_n 1, 1) := by decide +kernel
theorem dX6_share_12 : decode cX6_share 12 = .ok (.invokevirtual 309, 3) := by decide +kernel
theorem dX6_share_15 : decode cX6_share 15 = .ok (.ifCond .eq 23, 3) := by decide +kernel
theorem dX6_share_18 : decode cX6_share 18 = .ok (.aload_n 0, 1) := by decide +kernel
theorem dX6_share_19 : decode cX6_share 19 = .ok (.getfield 19, 3) := by decide +kernel
theorem dX6_share_22 : decode cX6_share 22 = .ok (.iload_n 1, 1) := by decide +kernel
theorem dX6_share_23 : decode cX6_share 23 = .ok (.invokevirtual 220, 3) := by decide +kernel
theorem dX6_share_26 : decode cX6_share 26 = .ok (.ifCond .eq 12, 3) := by decide +kernel
theorem dX6_share_29 : decode cX6_share 29 = .ok (.iload_n 2, 1) := by decide +kernel
theorem dX6_share_30 : decode cX6_share 30 = .ok (.ifCond .lt 8, 3) := by decide +kernel
theorem dX6_share_33 : decode cX6_share 33 = .ok (.iload_n 2, 1) := by decide +kernel
theorem dX6_share_34 : decode cX6_share 34 = .ok (.iconst 1, 1) := by decide +kernel
theorem dX6_share_35 : decode cX6_share 35 = .ok (.if_icmp .le 7, 3) := by decide +kernel
theorem dX6_share_38 : decode cX6_share 38 = .ok (.sipush (-1000), 3) := by decide +kernel
theorem dX6_share_41 : decode cX6_share 41 = .ok (.ireturn, 1) := by decide +kernel
theorem dX6_share_42 : decode cX6_share 42 = .ok (.aload_n 0, 1) := by decide +kernel
theorem dX6_share_43 : decode cX6_share 43 = .ok (.invokevirtual 303, 3) := by decide +kernel
theorem dX6_share_46 : decode cX6_share 46 = .ok (.istore_n 3, 1) := by decide +kernel
theorem dX6_share_47 : decode cX6_share 47 = .ok (.aload_n 0, 1) := by decide +kernel
theorem dX6_share_48 : decode cX6_share 48 = .ok (.iload_n 3, 1) := by decide +kernel
theorem dX6_share_49 : decode cX6_share 49 = .ok (.invokevirtual 312, 3) := by decide +kernel
theorem dX6_share_52 : decode cX6_share 52 = .ok (.iload_n 3, 1) := by decide +kernel
theorem dX6_share_53 : decode cX6_share 53 = .ok (.invokestatic 132, 3) := by decide +kernel
theorem dX6_share_56 : decode cX6_share 56 = .ok (.istore 4, 2) := by decide +kernel
theorem dX6_share_58 : decode cX6_share 58 = .ok (.iconst 1, 1) := by decide +kernel
theorem dX6_share_59 : decode cX6_share 59 = .ok (.iload_n 1, 1) := by decide +kernel
theorem dX6_share_60 : decode cX6_share 60 = .ok (.ishl, 1) := by decide +kernel
theorem dX6_share_61 : decode cX6_share 61 = .ok (.istore 5, 2) := by decide +kernel
theorem dX6_share_63 : decode cX6_share 63 = .ok (.lconst 0, 1) := by decide +kernel
theorem dX6_share_64 : decode cX6_share 64 = .ok (.lstore 6, 2) := by decide +kernel
theorem dX6_share_66 : decode cX6_share 66 = .ok (.iconst 0, 1) := by decide +kernel
theorem dX6_share_67 : decode cX6_share 67 = .ok (.istore 8, 2) := by decide +kernel
theorem dX6_share_69 : decode cX6_share 69 = .ok (.iload 8, 2) := by decide +kernel
theorem dX6_share_71 : decode cX6_share 71 = .ok (.sipush 256, 3) := by decide +kernel
theorem dX6_share_74 : decode cX6_share 74 = .ok (.if_icmp .ge 74, 3) := by decide +kernel
theorem dX6_share_77 : decode cX6_share 77 = .ok (.iload 8, 2) := by decide +kernel
theorem dX6_share_79 : decode cX6_share 79 = .ok (.iload_n 3, 1) := by decide +kernel
theorem dX6_share_80 : decode cX6_share 80 = .ok (.iconst (-1), 1) := by decide +kernel
theorem dX6_share_81 : decode cX6_share 81 = .ok (.ixor, 1) := by decide +kernel
theorem dX6_share_82 : decode cX6_share 82 = .ok (.iand, 1) := by decide +kernel
theorem dX6_share_83 : decode cX6_share 83 = .ok (.ifCond .ne 59, 3) := by decide +kernel
theorem dX6_share_86 : decode cX6_share 86 = .ok (.iload 8, 2) := by decide +kernel
theorem dX6_share_88 : decode cX6_share 88 = .ok (.iload 5, 2) := by decide +kernel
theorem dX6_share_90 : decode cX6_share 90 = .ok (.iand, 1) := by decide +kernel
theorem dX6_share_91 : decode cX6_share 91 = .ok (.ifCond .ne 51, 3) := by decide +kernel
theorem dX6_share_94 : decode cX6_share 94 = .ok (.iload 8, 2) := by decide +kernel
theorem dX6_share_96 : decode cX6_share 96 = .ok (.invokestatic 132, 3) := by decide +kernel
theorem dX6_share_99 : decode cX6_share 99 = .ok (.istore 9, 2) := by decide +kernel
theorem dX6_share_101 : decode cX6_share 101 = .ok (.lload 6, 2) := by decide +kernel
theorem dX6_share_103 : decode cX6_share 103 = .ok (.iload 9, 2) := by decide +kernel
theorem dX6_share_105 : decode cX6_share 105 = .ok (.invokestatic 315, 3) := by decide +kernel
theorem dX6_share_108 : decode cX6_share 108 = .ok (.iload 4, 2) := by decide +kernel
theorem dX6_share_110 : decode cX6_share 110 = .ok (.iconst 1, 1) := by decide +kernel
theorem dX6_share_111 : decode cX6_share 111 = .ok (.isub, 1) := by decide +kernel
theorem dX6_share_112 : decode cX6_share 112 = .ok (.iload 9, 2) := by decide +kernel
theorem dX6_share_114 : decode cX6_share 114 = .ok (.isub, 1) := by decide +kernel
theorem dX6_share_115 : decode cX6_share 115 = .ok (.invokestatic 315, 3) := by decide +kernel
theorem dX6_share_118 : decode cX6_share 118 = .ok (.lmul, 1) := by decide +kernel
theorem dX6_share_119 : decode cX6_share 119 = .ok (.aload_n 0, 1) := by decide +kernel
theorem dX6_share_120 : decode cX6_share 120 = .ok (.getfield 56, 3) := by decide +kernel
theorem dX6_share_123 : decode cX6_share 123 = .ok (.iload 8, 2) := by decide +kernel
theorem dX6_share_125 : decode cX6_share 125 = .ok (.iload 5, 2) := by decide +kernel
theorem dX6_share_127 : decode cX6_share 127 = .ok (.ior, 1) := by decide +kernel
theorem dX6_share_128 : decode cX6_share 128 = .ok (.iaload, 1) := by decide +kernel
theorem dX6_share_129 : decode cX6_share 129 = .ok (.aload_n 0, 1) := by decide +kernel
theorem dX6_share_130 : decode cX6_share 130 = .ok (.getfield 56, 3) := by decide +kernel
theorem dX6_share_133 : decode cX6_share 133 = .ok (.iload 8, 2) := by decide +kernel
theorem dX6_share_135 : decode cX6_share 135 = .ok (.iaload, 1) := by decide +kernel
theorem dX6_share_136 : decode cX6_share 136 = .ok (.isub, 1) := by decide +kernel
theorem dX6_share_137 : decode cX6_share 137 = .ok (.i2l, 1) := by decide +kernel
theorem dX6_share_138 : decode cX6_share 138 = .ok (.lmul, 1) := by decide +kernel
theorem dX6_share_139 : decode cX6_share 139 = .ok (.ladd, 1) := by decide +kernel
theorem dX6_share_140 : decode cX6_share 140 = .ok (.lstore 6, 2) := by decide +kernel
theorem dX6_share_142 : decode cX6_share 142 = .ok (.iinc 8 1, 3) := by decide +kernel
theorem dX6_share_145 : decode cX6_share 145 = .ok (.goto (-76), 3) := by decide +kernel
theorem dX6_share_148 : decode cX6_share 148 = .ok (.lload 6, 2) := by decide +kernel
theorem dX6_share_150 : decode cX6_share 150 = .ok (.iload 4, 2) := by decide +kernel
theorem dX6_share_152 : decode cX6_share 152 = .ok (.invokestatic 315, 3) := by decide +kernel
theorem dX6_share_155 : decode cX6_share 155 = .ok (.iload_n 2, 1) := by decide +kernel
theorem dX6_share_156 : decode cX6_share 156 = .ok (.invokestatic 318, 3) := by decide +kernel
theorem dX6_share_159 : decode cX6_share 159 = .ok (.l2i, 1) := by decide +kernel
theorem dX6_share_160 : decode cX6_share 160 = .ok (.ireturn, 1) := by decide +kernel
theorem dX6_fillWorths_0 : decode cX6_fillWorths 0 = .ok (.iconst 0, 1) := by decide +kernel
theorem dX6_fillWorths_1 : decode cX6_fillWorths 1 = .ok (.istore_n 2, 1) := by decide +kernel
theorem dX6_fillWorths_2 : decode cX6_fillWorths 2 = .ok (.iload_n 2, 1) := by decide +kernel
theorem dX6_fillWorths_3 : decode cX6_fillWorths 3 = .ok (.sipush 256, 3) := by decide +kernel
theorem dX6_fillWorths_6 : decode cX6_fillWorths 6 = .ok (.if_icmp .ge 29, 3) := by decide +kernel
theorem dX6_fillWorths_9 : decode cX6_fillWorths 9 = .ok (.iload_n 2, 1) := by decide +kernel
theorem dX6_fillWorths_10 : decode cX6_fillWorths 10 = .ok (.iload_n 1, 1) := by decide +kernel
theorem dX6_fillWorths_11 : decode cX6_fillWorths 11 = .ok (.iconst (-1), 1) := by decide +kernel
theorem dX6_fillWorths_12 : decode cX6_fillWorths 12 = .ok (.ixor, 1) := by decide +kernel
theorem dX6_fillWorths_13 : decode cX6_fillWorths 13 = .ok (.iand, 1) := by decide +kernel
theorem dX6_fillWorths_14 : decode cX6_fillWorths 14 = .ok (.ifCond .ne 15, 3) := by decide +kernel
theorem dX6_fillWorths_17 : decode cX6_fillWorths 17 = .ok (.aload_n 0, 1) := by decide +kernel
theorem dX6_fillWorths_18 : decode cX6_fillWorths 18 = .ok (.getfield 56, 3) := by decide +kernel
theorem dX6_fillWorths_21 : decode cX6_fillWorths 21 = .ok (.iload_n 2, 1) := by decide +kernel
theorem dX6_fillWorths_22 : decode cX6_fillWorths 22 = .ok (.aload_n 0, 1) := by decide +kernel
theorem dX6_fillWorths_23 : decode cX6_fillWorths 23 = .ok (.iload_n 2, 1) := by decide +kernel
theorem dX6_fillWorths_24 : decode cX6_fillWorths 24 = .ok (.iload_n 1, 1) := by decide +kernel
theorem dX6_fillWorths_25 : decode cX6_fillWorths 25 = .ok (.invokevirtual 306, 3) := by decide +kernel
theorem dX6_fillWorths_28 : decode cX6_fillWorths 28 = .ok (.iastore, 1) := by decide +kernel
theorem dX6_fillWorths_29 : decode cX6_fillWorths 29 = .ok (.iinc 2 1, 3) := by decide +kernel
theorem dX6_fillWorths_32 : decode cX6_fillWorths 32 = .ok (.goto (-30), 3) := by decide +kernel
theorem dX6_fillWorths_35 : decode cX6_fillWorths 35 = .ok (.return_, 1) := by decide +kernel
theorem dX6_players_0 : decode cX6_players 0 = .ok (.iconst 0, 1) := by decide +kernel
theorem dX6_players_1 : decode cX6_players 1 = .ok (.istore_n 1, 1) := by decide +kernel
theorem dX6_players_2 : decode cX6_players 2 = .ok (.iconst 0, 1) := by decide +kernel
theorem dX6_players_3 : decode cX6_players 3 = .ok (.istore_n 2, 1) := by decide +kernel
theorem dX6_players_4 : decode cX6_players 4 = .ok (.iload_n 2, 1) := by decide +kernel
theorem dX6_players_5 : decode cX6_players 5 = .ok (.bipush 8, 2) := by decide +kernel
theorem dX6_players_7 : decode cX6_players 7 = .ok (.if_icmp .ge 37, 3) := by decide +kernel
theorem dX6_players_10 : decode cX6_players 10 = .ok (.iload_n 2, 1) := by decide +kernel
theorem dX6_players_11 : decode cX6_players 11 = .ok (.aload_n 0, 1) := by decide +kernel
theorem dX6_players_12 : decode cX6_players 12 = .ok (.getfield 19, 3) := by decide +kernel
theorem dX6_players_15 : decode cX6_players 15 = .ok (.getfield 268, 3) := by decide +kernel
theorem dX6_players_18 : decode cX6_players 18 = .ok (.if_icmp .ge 26, 3) := by decide +kernel
theorem dX6_players_21 : decode cX6_players 21 = .ok (.aload_n 0, 1) := by decide +kernel
theorem dX6_players_22 : decode cX6_players 22 = .ok (.getfield 19, 3) := by decide +kernel
theorem dX6_players_25 : decode cX6_players 25 = .ok (.iload_n 2, 1) := by decide +kernel
theorem dX6_players_26 : decode cX6_players 26 = .ok (.invokevirtual 220, 3) := by decide +kernel
theorem dX6_players_29 : decode cX6_players 29 = .ok (.ifCond .eq 9, 3) := by decide +kernel
theorem dX6_players_32 : decode cX6_players 32 = .ok (.iload_n 1, 1) := by decide +kernel
theorem dX6_players_33 : decode cX6_players 33 = .ok (.iconst 1, 1) := by decide +kernel
theorem dX6_players_34 : decode cX6_players 34 = .ok (.iload_n 2, 1) := by decide +kernel
theorem dX6_players_35 : decode cX6_players 35 = .ok (.ishl, 1) := by decide +kernel
theorem dX6_players_36 : decode cX6_players 36 = .ok (.ior, 1) := by decide +kernel
theorem dX6_players_37 : decode cX6_players 37 = .ok (.istore_n 1, 1) := by decide +kernel
theorem dX6_players_38 : decode cX6_players 38 = .ok (.iinc 2 1, 3) := by decide +kernel
theorem dX6_players_41 : decode cX6_players 41 = .ok (.goto (-37), 3) := by decide +kernel
theorem dX6_players_44 : decode cX6_players 44 = .ok (.iload_n 1, 1) := by decide +kernel
theorem dX6_players_45 : decode cX6_players 45 = .ok (.ireturn, 1) := by decide +kernel
theorem dX6_worthOf_0 : decode cX6_worthOf 0 = .ok (.aload_n 0, 1) := by decide +kernel
theorem dX6_worthOf_1 : decode cX6_worthOf 1 = .ok (.getfield 49, 3) := by decide +kernel
theorem dX6_worthOf_4 : decode cX6_worthOf 4 = .ok (.aload_n 0, 1) := by decide +kernel
theorem dX6_worthOf_5 : decode cX6_worthOf 5 = .ok (.getfield 19, 3) := by decide +kernel
theorem dX6_worthOf_8 : decode cX6_worthOf 8 = .ok (.aload_n 0, 1) := by decide +kernel
theorem dX6_worthOf_9 : decode cX6_worthOf 9 = .ok (.getfield 19, 3) := by decide +kernel
theorem dX6_worthOf_12 : decode cX6_worthOf 12 = .ok (.invokevirtual 249, 3) := by decide +kernel
theorem dX6_worthOf_15 : decode cX6_worthOf 15 = .ok (.iload_n 2, 1) := by decide +kernel
theorem dX6_worthOf_16 : decode cX6_worthOf 16 = .ok (.iload_n 1, 1) := by decide +kernel
theorem dX6_worthOf_17 : decode cX6_worthOf 17 = .ok (.iconst (-1), 1) := by decide +kernel
theorem dX6_worthOf_18 : decode cX6_worthOf 18 = .ok (.ixor, 1) := by decide +kernel
theorem dX6_worthOf_19 : decode cX6_worthOf 19 = .ok (.iand, 1) := by decide +kernel
theorem dX6_worthOf_20 : decode cX6_worthOf 20 = .ok (.i2l, 1) := by decide +kernel
theorem dX6_worthOf_21 : decode cX6_worthOf 21 = .ok (.invokevirtual 251, 3) := by decide +kernel
theorem dX6_worthOf_24 : decode cX6_worthOf 24 = .ok (.aload_n 0, 1) := by decide +kernel
theorem dX6_worthOf_25 : decode cX6_worthOf 25 = .ok (.getfield 19, 3) := by decide +kernel
theorem dX6_worthOf_28 : decode cX6_worthOf 28 = .ok (.getfield 226, 3) := by decide +kernel
theorem dX6_worthOf_31 : decode cX6_worthOf 31 = .ok (.aload_n 0, 1) := by decide +kernel
theorem dX6_worthOf_32 : decode cX6_worthOf 32 = .ok (.getfield 49, 3) := by decide +kernel
theorem dX6_worthOf_35 : decode cX6_worthOf 35 = .ok (.invokevirtual 265, 3) := by decide +kernel
theorem dX6_worthOf_38 : decode cX6_worthOf 38 = .ok (.isub, 1) := by decide +kernel
theorem dX6_worthOf_39 : decode cX6_worthOf 39 = .ok (.ireturn, 1) := by decide +kernel
theorem dX6_rests_0 : decode cX6_rests 0 = .ok (.aload_n 0, 1) := by decide +kernel
theorem dX6_rests_1 : decode cX6_rests 1 = .ok (.iload_n 1, 1) := by decide +kernel
theorem dX6_rests_2 : decode cX6_rests 2 = .ok (.invokevirtual 309, 3) := by decide +kernel
theorem dX6_rests_5 : decode cX6_rests 5 = .ok (.ifCond .eq 16, 3) := by decide +kernel
theorem dX6_rests_8 : decode cX6_rests 8 = .ok (.aload_n 0, 1) := by decide +kernel
theorem dX6_rests_9 : decode cX6_rests 9 = .ok (.iload_n 2, 1) := by decide +kernel
theorem dX6_rests_10 : decode cX6_rests 10 = .ok (.invokevirtual 309, 3) := by decide +kernel
theorem dX6_rests_13 : decode cX6_rests 13 = .ok (.ifCond .eq 8, 3) := by decide +kernel
theorem dX6_rests_16 : decode cX6_rests 16 = .ok (.iload_n 1, 1) := by decide +kernel
theorem dX6_rests_17 : decode cX6_rests 17 = .ok (.iload_n 2, 1) := by decide +kernel
theorem dX6_rests_18 : decode cX6_rests 18 = .ok (.if_icmp .ne 6, 3) := by decide +kernel
theorem dX6_rests_21 : decode cX6_rests 21 = .ok (.bipush (-2), 2) := by decide +kernel
theorem dX6_rests_23 : decode cX6_rests 23 = .ok (.ireturn, 1) := by decide +kernel
theorem dX6_rests_24 : decode cX6_rests 24 = .ok (.iconst 0, 1) := by decide +kernel
theorem dX6_rests_25 : decode cX6_rests 25 = .ok (.istore_n 3, 1) := by decide +kernel
theorem dX6_rests_26 : decode cX6_rests 26 = .ok (.iload_n 3, 1) := by decide +kernel
theorem dX6_rests_27 : decode cX6_rests 27 = .ok (.iconst 4, 1) := by decide +kernel
theorem dX6_rests_28 : decode cX6_rests 28 = .ok (.if_icmp .ge 27, 3) := by decide +kernel
theorem dX6_rests_31 : decode cX6_rests 31 = .ok (.aload_n 0, 1) := by decide +kernel
theorem dX6_rests_32 : decode cX6_rests 32 = .ok (.getfield 60, 3) := by decide +kernel
theorem dX6_rests_35 : decode cX6_rests 35 = .ok (.iload_n 3, 1) := by decide +kernel
theorem dX6_rests_36 : decode cX6_rests 36 = .ok (.aload_n 0, 1) := by decide +kernel
theorem dX6_rests_37 : decode cX6_rests 37 = .ok (.iload_n 1, 1) := by decide +kernel
theorem dX6_rests_38 : decode cX6_rests 38 = .ok (.iload_n 2, 1) := by decide +kernel
theorem dX6_rests_39 : decode cX6_rests 39 = .ok (.iload_n 3, 1) := by decide +kernel
theorem dX6_rests_40 : decode cX6_rests 40 = .ok (.iconst 1, 1) := by decide +kernel
theorem dX6_rests_41 : decode cX6_rests 41 = .ok (.iand, 1) := by decide +kernel
theorem dX6_rests_42 : decode cX6_rests 42 = .ok (.iload_n 3, 1) := by decide +kernel
theorem dX6_rests_43 : decode cX6_rests 43 = .ok (.iconst 1, 1) := by decide +kernel
theorem dX6_rests_44 : decode cX6_rests 44 = .ok (.ishr, 1) := by decide +kernel
theorem dX6_rests_45 : decode cX6_rests 45 = .ok (.invokevirtual 322, 3) := by decide +kernel
theorem dX6_rests_48 : decode cX6_rests 48 = .ok (.iastore, 1) := by decide +kernel
theorem dX6_rests_49 : decode cX6_rests 49 = .ok (.iinc 3 1, 3) := by decide +kernel
theorem dX6_rests_52 : decode cX6_rests 52 = .ok (.goto (-26), 3) := by decide +kernel
theorem dX6_rests_55 : decode cX6_rests 55 = .ok (.iconst 0, 1) := by decide +kernel
theorem dX6_rests_56 : decode cX6_rests 56 = .ok (.istore_n 3, 1) := by decide +kernel
theorem dX6_rests_57 : decode cX6_rests 57 = .ok (.iconst 0, 1) := by decide +kernel
theorem dX6_rests_58 : decode cX6_rests 58 = .ok (.istore 4, 2) := by decide +kernel
theorem dX6_rests_60 : decode cX6_rests 60 = .ok (.iload 4, 2) := by decide +kernel
theorem dX6_rests_62 : decode cX6_rests 62 = .ok (.iconst 4, 1) := by decide +kernel
theorem dX6_rests_63 : decode cX6_rests 63 = .ok (.if_icmp .ge 94, 3) := by decide +kernel
theorem dX6_rests_66 : decode cX6_rests 66 = .ok (.iload 4, 2) := by decide +kernel
theorem dX6_rests_68 : decode cX6_rests 68 = .ok (.iconst 1, 1) := by decide +kernel
theorem dX6_rests_69 : decode cX6_rests 69 = .ok (.iand, 1) := by decide +kernel
theorem dX6_rests_70 : decode cX6_rests 70 = .ok (.istore 5, 2) := by decide +kernel
theorem dX6_rests_72 : decode cX6_rests 72 = .ok (.iload 4, 2) := by decide +kernel
theorem dX6_rests_74 : decode cX6_rests 74 = .ok (.iconst 1, 1) := by decide +kernel
theorem dX6_rests_75 : decode cX6_rests 75 = .ok (.ishr, 1) := by decide +kernel
theorem dX6_rests_76 : decode cX6_rests 76 = .ok (.istore 6, 2) := by decide +kernel
theorem dX6_rests_78 : decode cX6_rests 78 = .ok (.aload_n 0, 1) := by decide +kernel
theorem dX6_rests_79 : decode cX6_rests 79 = .ok (.getfield 60, 3) := by decide +kernel
theorem dX6_rests_82 : decode cX6_rests 82 = .ok (.iload 4, 2) := by decide +kernel
theorem dX6_rests_84 : decode cX6_rests 84 = .ok (.iconst 1, 1) := by decide +kernel
theorem dX6_rests_85 : decode cX6_rests 85 = .ok (.ixor, 1) := by decide +kernel
theorem dX6_rests_86 : decode cX6_rests 86 = .ok (.iaload, 1) := by decide +kernel
theorem dX6_rests_87 : decode cX6_rests 87 = .ok (.aload_n 0, 1) := by decide +kernel
theorem dX6_rests_88 : decode cX6_rests 88 = .ok (.getfield 60, 3) := by decide +kernel
theorem dX6_rests_91 : decode cX6_rests 91 = .ok (.iload 4, 2) := by decide +kernel
theorem dX6_rests_93 : decode cX6_rests 93 = .ok (.iaload, 1) := by decide +kernel
theorem dX6_rests_94 : decode cX6_rests 94 = .ok (.isub, 1) := by decide +kernel
theorem dX6_rests_95 : decode cX6_rests 95 = .ok (.iconst 3, 1) := by decide +kernel
theorem dX6_rests_96 : decode cX6_rests 96 = .ok (.iconst 1, 1) := by decide +kernel
theorem dX6_rests_97 : decode cX6_rests 97 = .ok (.iconst 2, 1) := by decide +kernel
theorem dX6_rests_98 : decode cX6_rests 98 = .ok (.iload 5, 2) := by decide +kernel
theorem dX6_rests_100 : decode cX6_rests 100 = .ok (.imul, 1) := by decide +kernel
theorem dX6_rests_101 : decode cX6_rests 101 = .ok (.isub, 1) := by decide +kernel
theorem dX6_rests_102 : decode cX6_rests 102 = .ok (.imul, 1) := by decide +kernel
theorem dX6_rests_103 : decode cX6_rests 103 = .ok (.isub, 1) := by decide +kernel
theorem dX6_rests_104 : decode cX6_rests 104 = .ok (.istore 7, 2) := by decide +kernel
theorem dX6_rests_106 : decode cX6_rests 106 = .ok (.aload_n 0, 1) := by decide +kernel
theorem dX6_rests_107 : decode cX6_rests 107 = .ok (.getfield 60, 3) := by decide +kernel
theorem dX6_rests_110 : decode cX6_rests 110 = .ok (.iload 4, 2) := by decide +kernel
theorem dX6_rests_112 : decode cX6_rests 112 = .ok (.iconst 2, 1) := by decide +kernel
theorem dX6_rests_113 : decode cX6_rests 113 = .ok (.ixor, 1) := by decide +kernel
theorem dX6_rests_114 : decode cX6_rests 114 = .ok (.iaload, 1) := by decide +kernel
theorem dX6_rests_115 : decode cX6_rests 115 = .ok (.aload_n 0, 1) := by decide +kernel
theorem dX6_rests_116 : decode cX6_rests 116 = .ok (.getfield 60, 3) := by decide +kernel
theorem dX6_rests_119 : decode cX6_rests 119 = .ok (.iload 4, 2) := by decide +kernel
theorem dX6_rests_121 : decode cX6_rests 121 = .ok (.iaload, 1) := by decide +kernel
theorem dX6_rests_122 : decode cX6_rests 122 = .ok (.isub, 1) := by decide +kernel
theorem dX6_rests_123 : decode cX6_rests 123 = .ok (.iconst 3, 1) := by decide +kernel
theorem dX6_rests_124 : decode cX6_rests 124 = .ok (.iconst 1, 1) := by decide +kernel
theorem dX6_rests_125 : decode cX6_rests 125 = .ok (.iconst 2, 1) := by decide +kernel
theorem dX6_rests_126 : decode cX6_rests 126 = .ok (.iload 6, 2) := by decide +kernel
theorem dX6_rests_128 : decode cX6_rests 128 = .ok (.imul, 1) := by decide +kernel
theorem dX6_rests_129 : decode cX6_rests 129 = .ok (.isub, 1) := by decide +kernel
theorem dX6_rests_130 : decode cX6_rests 130 = .ok (.imul, 1) := by decide +kernel
theorem dX6_rests_131 : decode cX6_rests 131 = .ok (.isub, 1) := by decide +kernel
theorem dX6_rests_132 : decode cX6_rests 132 = .ok (.istore 8, 2) := by decide +kernel
theorem dX6_rests_134 : decode cX6_rests 134 = .ok (.iload 7, 2) := by decide +kernel
theorem dX6_rests_136 : decode cX6_rests 136 = .ok (.ifCond .gt 15, 3) := by decide +kernel
theorem dX6_rests_139 : decode cX6_rests 139 = .ok (.iload 8, 2) := by decide +kernel
theorem dX6_rests_141 : decode cX6_rests 141 = .ok (.ifCond .gt 10, 3) := by decide +kernel
theorem dX6_rests_144 : decode cX6_rests 144 = .ok (.iload_n 3, 1) := by decide +kernel
theorem dX6_rests_145 : decode cX6_rests 145 = .ok (.iconst 1, 1) := by decide +kernel
theorem dX6_rests_146 : decode cX6_rests 146 = .ok (.iload 4, 2) := by decide +kernel
theorem dX6_rests_148 : decode cX6_rests 148 = .ok (.ishl, 1) := by decide +kernel
theorem dX6_rests_149 : decode cX6_rests 149 = .ok (.ior, 1) := by decide +kernel
theorem dX6_rests_150 : decode cX6_rests 150 = .ok (.istore_n 3, 1) := by decide +kernel
theorem dX6_rests_151 : decode cX6_rests 151 = .ok (.iinc 4 1, 3) := by decide +kernel
theorem dX6_rests_154 : decode cX6_rests 154 = .ok (.goto (-94), 3) := by decide +kernel
theorem dX6_rests_157 : decode cX6_rests 157 = .ok (.iload_n 3, 1) := by decide +kernel
theorem dX6_rests_158 : decode cX6_rests 158 = .ok (.ireturn, 1) := by decide +kernel
theorem dX6_gets_0 : decode cX6_gets 0 = .ok (.aload_n 0, 1) := by decide +kernel
theorem dX6_gets_1 : decode cX6_gets 1 = .ok (.iload_n 1, 1) := by decide +kernel
theorem dX6_gets_2 : decode cX6_gets 2 = .ok (.invokevirtual 309, 3) := by decide +kernel
theorem dX6_gets_5 : decode cX6_gets 5 = .ok (.ifCond .eq 36, 3) := by decide +kernel
theorem dX6_gets_8 : decode cX6_gets 8 = .ok (.aload_n 0, 1) := by decide +kernel
theorem dX6_gets_9 : decode cX6_gets 9 = .ok (.iload_n 2, 1) := by decide +kernel
theorem dX6_gets_10 : decode cX6_gets 10 = .ok (.invokevirtual 309, 3) := by decide +kernel
theorem dX6_gets_13 : decode cX6_gets 13 = .ok (.ifCond .eq 28, 3) := by decide +kernel
theorem dX6_gets_16 : decode cX6_gets 16 = .ok (.iload_n 1, 1) := by decide +kernel
theorem dX6_gets_17 : decode cX6_gets 17 = .ok (.iload_n 2, 1) := by decide +kernel
theorem dX6_gets_18 : decode cX6_gets 18 = .ok (.if_icmp .eq 23, 3) := by decide +kernel
theorem dX6_gets_21 : decode cX6_gets 21 = .ok (.iload_n 3, 1) := by decide +kernel
theorem dX6_gets_22 : decode cX6_gets 22 = .ok (.ifCond .lt 19, 3) := by decide +kernel
theorem dX6_gets_25 : decode cX6_gets 25 = .ok (.iload_n 3, 1) := by decide +kernel
theorem dX6_gets_26 : decode cX6_gets 26 = .ok (.iconst 1, 1) := by decide +kernel
theorem dX6_gets_27 : decode cX6_gets 27 = .ok (.if_icmp .gt 14, 3) := by decide +kernel
theorem dX6_gets_30 : decode cX6_gets 30 = .ok (.iload 4, 2) := by decide +kernel
theorem dX6_gets_32 : decode cX6_gets 32 = .ok (.ifCond .lt 9, 3) := by decide +kernel
theorem dX6_gets_35 : decode cX6_gets 35 = .ok (.iload 4, 2) := by decide +kernel
theorem dX6_gets_37 : decode cX6_gets 37 = .ok (.iconst 1, 1) := by decide +kernel
theorem dX6_gets_38 : decode cX6_gets 38 = .ok (.if_icmp .le 7, 3) := by decide +kernel
theorem dX6_gets_41 : decode cX6_gets 41 = .ok (.sipush (-1000), 3) := by decide +kernel
theorem dX6_gets_44 : decode cX6_gets 44 = .ok (.ireturn, 1) := by decide +kernel
theorem dX6_gets_45 : decode cX6_gets 45 = .ok (.aload_n 0, 1) := by decide +kernel
theorem dX6_gets_46 : decode cX6_gets 46 = .ok (.iload_n 1, 1) := by decide +kernel
theorem dX6_gets_47 : decode cX6_gets 47 = .ok (.iload_n 2, 1) := by decide +kernel
theorem dX6_gets_48 : decode cX6_gets 48 = .ok (.iload_n 3, 1) := by decide +kernel
theorem dX6_gets_49 : decode cX6_gets 49 = .ok (.iload 4, 2) := by decide +kernel
theorem dX6_gets_51 : decode cX6_gets 51 = .ok (.invokevirtual 322, 3) := by decide +kernel
theorem dX6_gets_54 : decode cX6_gets 54 = .ok (.iconst 3, 1) := by decide +kernel
theorem dX6_gets_55 : decode cX6_gets 55 = .ok (.iload_n 3, 1) := by decide +kernel
theorem dX6_gets_56 : decode cX6_gets 56 = .ok (.imul, 1) := by decide +kernel
theorem dX6_gets_57 : decode cX6_gets 57 = .ok (.isub, 1) := by decide +kernel
theorem dX6_gets_58 : decode cX6_gets 58 = .ok (.ireturn, 1) := by decide +kernel
theorem dX6_wholeWithout_0 : decode cX6_wholeWithout 0 = .ok (.aload_n 0, 1) := by decide +kernel
theorem dX6_wholeWithout_1 : decode cX6_wholeWithout 1 = .ok (.getfield 43, 3) := by decide +kernel
theorem dX6_wholeWithout_4 : decode cX6_wholeWithout 4 = .ok (.aload_n 0, 1) := by decide +kernel
theorem dX6_wholeWithout_5 : decode cX6_wholeWithout 5 = .ok (.getfield 19, 3) := by decide +kernel
theorem dX6_wholeWithout_8 : decode cX6_wholeWithout 8 = .ok (.aload_n 0, 1) := by decide +kernel
theorem dX6_wholeWithout_9 : decode cX6_wholeWithout 9 = .ok (.getfield 19, 3) := by decide +kernel
theorem dX6_wholeWithout_12 : decode cX6_wholeWithout 12 = .ok (.getfield 326, 3) := by decide +kernel
theorem dX6_wholeWithout_15 : decode cX6_wholeWithout 15 = .ok (.iload_n 3, 1) := by decide +kernel
theorem dX6_wholeWithout_16 : decode cX6_wholeWithout 16 = .ok (.i2l, 1) := by decide +kernel
theorem dX6_wholeWithout_17 : decode cX6_wholeWithout 17 = .ok (.iload_n 1, 1) := by decide +kernel
theorem dX6_wholeWithout_18 : decode cX6_wholeWithout 18 = .ok (.lshl, 1) := by decide +kernel
theorem dX6_wholeWithout_19 : decode cX6_wholeWithout 19 = .ok (.iload 4, 2) := by decide +kernel
theorem dX6_wholeWithout_21 : decode cX6_wholeWithout 21 = .ok (.i2l, 1) := by decide +kernel
theorem dX6_wholeWithout_22 : decode cX6_wholeWithout 22 = .ok (.iload_n 2, 1) := by decide +kernel
theorem dX6_wholeWithout_23 : decode cX6_wholeWithout 23 = .ok (.lshl, 1) := by decide +kernel
theorem dX6_wholeWithout_24 : decode cX6_wholeWithout 24 = .ok (.lor, 1) := by decide +kernel
theorem dX6_wholeWithout_25 : decode cX6_wholeWithout 25 = .ok (.invokevirtual 299, 3) := by decide +kernel
theorem dX6_wholeWithout_28 : decode cX6_wholeWithout 28 = .ok (.aload_n 0, 1) := by decide +kernel
theorem dX6_wholeWithout_29 : decode cX6_wholeWithout 29 = .ok (.getfield 43, 3) := by decide +kernel
theorem dX6_wholeWithout_32 : decode cX6_wholeWithout 32 = .ok (.iconst 1, 1) := by decide +kernel
theorem dX6_wholeWithout_33 : decode cX6_wholeWithout 33 = .ok (.invokevirtual 208, 3) := by decide +kernel
theorem dX6_wholeWithout_36 : decode cX6_wholeWithout 36 = .ok (.ireturn, 1) := by decide +kernel
theorem dX6_chance_0 : decode cX6_chance 0 = .ok (.aload_n 0, 1) := by decide +kernel
theorem dX6_chance_1 : decode cX6_chance 1 = .ok (.iload_n 1, 1) := by decide +kernel
theorem dX6_chance_2 : decode cX6_chance 2 = .ok (.invokevirtual 114, 3) := by decide +kernel
theorem dX6_chance_5 : decode cX6_chance 5 = .ok (.ifCond .eq 20, 3) := by decide +kernel
theorem dX6_chance_8 : decode cX6_chance 8 = .ok (.aload_n 0, 1) := by decide +kernel
theorem dX6_chance_9 : decode cX6_chance 9 = .ok (.iload_n 2, 1) := by decide +kernel
theorem dX6_chance_10 : decode cX6_chance 10 = .ok (.invokevirtual 329, 3) := by decide +kernel
theorem dX6_chance_13 : decode cX6_chance 13 = .ok (.ifCond .eq 12, 3) := by decide +kernel
theorem dX6_chance_16 : decode cX6_chance 16 = .ok (.iload_n 3, 1) := by decide +kernel
theorem dX6_chance_17 : decode cX6_chance 17 = .ok (.ifCond .lt 8, 3) := by decide +kernel
theorem dX6_chance_20 : decode cX6_chance 20 = .ok (.iload_n 3, 1) := by decide +kernel
theorem dX6_chance_21 : decode cX6_chance 21 = .ok (.iconst 1, 1) := by decide +kernel
theorem dX6_chance_22 : decode cX6_chance 22 = .ok (.if_icmp .le 7, 3) := by decide +kernel
theorem dX6_chance_25 : decode cX6_chance 25 = .ok (.ldc2_w 332, 3) := by decide +kernel
theorem dX6_chance_28 : decode cX6_chance 28 = .ok (.lreturn, 1) := by decide +kernel
theorem dX6_chance_29 : decode cX6_chance 29 = .ok (.aload_n 0, 1) := by decide +kernel
theorem dX6_chance_30 : decode cX6_chance 30 = .ok (.iload_n 2, 1) := by decide +kernel
theorem dX6_chance_31 : decode cX6_chance 31 = .ok (.iconst 1, 1) := by decide +kernel
theorem dX6_chance_32 : decode cX6_chance 32 = .ok (.iload_n 1, 1) := by decide +kernel
theorem dX6_chance_33 : decode cX6_chance 33 = .ok (.ishl, 1) := by decide +kernel
theorem dX6_chance_34 : decode cX6_chance 34 = .ok (.invokevirtual 334, 3) := by decide +kernel
theorem dX6_chance_37 : decode cX6_chance 37 = .ok (.bipush 10, 2) := by decide +kernel
theorem dX6_chance_39 : decode cX6_chance 39 = .ok (.iload_n 2, 1) := by decide +kernel
theorem dX6_chance_40 : decode cX6_chance 40 = .ok (.invokestatic 338, 3) := by decide +kernel
theorem dX6_chance_43 : decode cX6_chance 43 = .ok (.iload_n 3, 1) := by decide +kernel
theorem dX6_chance_44 : decode cX6_chance 44 = .ok (.invokestatic 318, 3) := by decide +kernel
theorem dX6_chance_47 : decode cX6_chance 47 = .ok (.lreturn, 1) := by decide +kernel
theorem dX6_mean_0 : decode cX6_mean 0 = .ok (.aload_n 0, 1) := by decide +kernel
theorem dX6_mean_1 : decode cX6_mean 1 = .ok (.iload_n 1, 1) := by decide +kernel
theorem dX6_mean_2 : decode cX6_mean 2 = .ok (.invokevirtual 329, 3) := by decide +kernel
theorem dX6_mean_5 : decode cX6_mean 5 = .ok (.ifCond .eq 12, 3) := by decide +kernel
theorem dX6_mean_8 : decode cX6_mean 8 = .ok (.iload_n 2, 1) := by decide +kernel
theorem dX6_mean_9 : decode cX6_mean 9 = .ok (.ifCond .lt 8, 3) := by decide +kernel
theorem dX6_mean_12 : decode cX6_mean 12 = .ok (.iload_n 2, 1) := by decide +kernel
theorem dX6_mean_13 : decode cX6_mean 13 = .ok (.iconst 1, 1) := by decide +kernel
theorem dX6_mean_14 : decode cX6_mean 14 = .ok (.if_icmp .le 7, 3) := by decide +kernel
theorem dX6_mean_17 : decode cX6_mean 17 = .ok (.ldc2_w 332, 3) := by decide +kernel
theorem dX6_mean_20 : decode cX6_mean 20 = .ok (.lreturn, 1) := by decide +kernel
theorem dX6_mean_21 : decode cX6_mean 21 = .ok (.aload_n 0, 1) := by decide +kernel
theorem dX6_mean_22 : decode cX6_mean 22 = .ok (.iload_n 1, 1) := by decide +kernel
theorem dX6_mean_23 : decode cX6_mean 23 = .ok (.iconst (-1), 1) := by decide +kernel
theorem dX6_mean_24 : decode cX6_mean 24 = .ok (.invokevirtual 334, 3) := by decide +kernel
theorem dX6_mean_27 : decode cX6_mean 27 = .ok (.bipush 10, 2) := by decide +kernel
theorem dX6_mean_29 : decode cX6_mean 29 = .ok (.iload_n 1, 1) := by decide +kernel
theorem dX6_mean_30 : decode cX6_mean 30 = .ok (.invokestatic 338, 3) := by decide +kernel
theorem dX6_mean_33 : decode cX6_mean 33 = .ok (.iload_n 2, 1) := by decide +kernel
theorem dX6_mean_34 : decode cX6_mean 34 = .ok (.invokestatic 318, 3) := by decide +kernel
theorem dX6_mean_37 : decode cX6_mean 37 = .ok (.lreturn, 1) := by decide +kernel
theorem dX6_hasChances_0 : decode cX6_hasChances 0 = .ok (.aload_n 0, 1) := by decide +kernel
theorem dX6_hasChances_1 : decode cX6_hasChances 1 = .ok (.getfield 19, 3) := by decide +kernel
theorem dX6_hasChances_4 : decode cX6_hasChances 4 = .ok (.invokevirtual 245, 3) := by decide +kernel
theorem dX6_hasChances_7 : decode cX6_hasChances 7 = .ok (.ifCond .eq 28, 3) := by decide +kernel
theorem dX6_hasChances_10 : decode cX6_hasChances 10 = .ok (.iload_n 1, 1) := by decide +kernel
theorem dX6_hasChances_11 : decode cX6_hasChances 11 = .ok (.ifCond .lt 24, 3) := by decide +kernel
theorem dX6_hasChances_14 : decode cX6_hasChances 14 = .ok (.iload_n 1, 1) := by decide +kernel
theorem dX6_hasChances_15 : decode cX6_hasChances 15 = .ok (.bipush 6, 2) := by decide +kernel
theorem dX6_hasChances_17 : decode cX6_hasChances 17 = .ok (.if_icmp .gt 18, 3) := by decide +kernel
theorem dX6_hasChances_20 : decode cX6_hasChances 20 = .ok (.iload_n 1, 1) := by decide +kernel
theorem dX6_hasChances_21 : decode cX6_hasChances 21 = .ok (.aload_n 0, 1) := by decide +kernel
theorem dX6_hasChances_22 : decode cX6_hasChances 22 = .ok (.getfield 19, 3) := by decide +kernel
theorem dX6_hasChances_25 : decode cX6_hasChances 25 = .ok (.invokevirtual 249, 3) := by decide +kernel
theorem dX6_hasChances_28 : decode cX6_hasChances 28 = .ok (.if_icmp .gt 7, 3) := by decide +kernel
theorem dX6_hasChances_31 : decode cX6_hasChances 31 = .ok (.iconst 1, 1) := by decide +kernel
theorem dX6_hasChances_32 : decode cX6_hasChances 32 = .ok (.goto 4, 3) := by decide +kernel
theorem dX6_hasChances_35 : decode cX6_hasChances 35 = .ok (.iconst 0, 1) := by decide +kernel
theorem dX6_hasChances_36 : decode cX6_hasChances 36 = .ok (.ireturn, 1) := by decide +kernel
theorem dX6_weighedDirties_0 : decode cX6_weighedDirties 0 = .ok (.lconst 0, 1) := by decide +kernel
theorem dX6_weighedDirties_1 : decode cX6_weighedDirties 1 = .ok (.lstore_n 3, 1) := by decide +kernel
theorem dX6_weighedDirties_2 : decode cX6_weighedDirties 2 = .ok (.iconst 0, 1) := by decide +kernel
theorem dX6_weighedDirties_3 : decode cX6_weighedDirties 3 = .ok (.istore 5, 2) := by decide +kernel
theorem dX6_weighedDirties_5 : decode cX6_weighedDirties 5 = .ok (.iload 5, 2) := by decide +kernel
theorem dX6_weighedDirties_7 : decode cX6_weighedDirties 7 = .ok (.iconst 1, 1) := by decide +kernel
theorem dX6_weighedDirties_8 : decode cX6_weighedDirties 8 = .ok (.iload_n 1, 1) := by decide +kernel
theorem dX6_weighedDirties_9 : decode cX6_weighedDirties 9 = .ok (.ishl, 1) := by decide +kernel
theorem dX6_weighedDirties_10 : decode cX6_weighedDirties 10 = .ok (.if_icmp .ge 105, 3) := by decide +kernel
theorem dX6_weighedDirties_13 : decode cX6_weighedDirties 13 = .ok (.iload 5, 2) := by decide +kernel
theorem dX6_weighedDirties_15 : decode cX6_weighedDirties 15 = .ok (.invokestatic 132, 3) := by decide +kernel
theorem dX6_weighedDirties_18 : decode cX6_weighedDirties 18 = .ok (.istore 6, 2) := by decide +kernel
theorem dX6_weighedDirties_20 : decode cX6_weighedDirties 20 = .ok (.aload_n 0, 1) := by decide +kernel
theorem dX6_weighedDirties_21 : decode cX6_weighedDirties 21 = .ok (.getfield 19, 3) := by decide +kernel
theorem dX6_weighedDirties_24 : decode cX6_weighedDirties 24 = .ok (.getfield 341, 3) := by decide +kernel
theorem dX6_weighedDirties_27 : decode cX6_weighedDirties 27 = .ok (.iload 6, 2) := by decide +kernel
theorem dX6_weighedDirties_29 : decode cX6_weighedDirties 29 = .ok (.invokestatic 338, 3) := by decide +kernel
theorem dX6_weighedDirties_32 : decode cX6_weighedDirties 32 = .ok (.bipush 10, 2) := by decide +kernel
theorem dX6_weighedDirties_34 : decode cX6_weighedDirties 34 = .ok (.aload_n 0, 1) := by decide +kernel
theorem dX6_weighedDirties_35 : decode cX6_weighedDirties 35 = .ok (.getfield 19, 3) := by decide +kernel
theorem dX6_weighedDirties_38 : decode cX6_weighedDirties 38 = .ok (.getfield 341, 3) := by decide +kernel
theorem dX6_weighedDirties_41 : decode cX6_weighedDirties 41 = .ok (.isub, 1) := by decide +kernel
theorem dX6_weighedDirties_42 : decode cX6_weighedDirties 42 = .ok (.iload_n 1, 1) := by decide +kernel
theorem dX6_weighedDirties_43 : decode cX6_weighedDirties 43 = .ok (.iload 6, 2) := by decide +kernel
theorem dX6_weighedDirties_45 : decode cX6_weighedDirties 45 = .ok (.isub, 1) := by decide +kernel
theorem dX6_weighedDirties_46 : decode cX6_weighedDirties 46 = .ok (.invokestatic 338, 3) := by decide +kernel
theorem dX6_weighedDirties_49 : decode cX6_weighedDirties 49 = .ok (.lmul, 1) := by decide +kernel
theorem dX6_weighedDirties_50 : decode cX6_weighedDirties 50 = .ok (.lstore 7, 2) := by decide +kernel
theorem dX6_weighedDirties_52 : decode cX6_weighedDirties 52 = .ok (.lload 7, 2) := by decide +kernel
theorem dX6_weighedDirties_54 : decode cX6_weighedDirties 54 = .ok (.lconst 0, 1) := by decide +kernel
theorem dX6_weighedDirties_55 : decode cX6_weighedDirties 55 = .ok (.lcmp, 1) := by decide +kernel
theorem dX6_weighedDirties_56 : decode cX6_weighedDirties 56 = .ok (.ifCond .eq 53, 3) := by decide +kernel
theorem dX6_weighedDirties_59 : decode cX6_weighedDirties 59 = .ok (.aload_n 0, 1) := by decide +kernel
theorem dX6_weighedDirties_60 : decode cX6_weighedDirties 60 = .ok (.getfield 43, 3) := by decide +kernel
theorem dX6_weighedDirties_63 : decode cX6_weighedDirties 63 = .ok (.aload_n 0, 1) := by decide +kernel
theorem dX6_weighedDirties_64 : decode cX6_weighedDirties 64 = .ok (.getfield 19, 3) := by decide +kernel
theorem dX6_weighedDirties_67 : decode cX6_weighedDirties 67 = .ok (.aload_n 0, 1) := by decide +kernel
theorem dX6_weighedDirties_68 : decode cX6_weighedDirties 68 = .ok (.getfield 19, 3) := by decide +kernel
theorem dX6_weighedDirties_71 : decode cX6_weighedDirties 71 = .ok (.getfield 326, 3) := by decide +kernel
theorem dX6_weighedDirties_74 : decode cX6_weighedDirties 74 = .ok (.iload 5, 2) := by decide +kernel
theorem dX6_weighedDirties_76 : decode cX6_weighedDirties 76 = .ok (.i2l, 1) := by decide +kernel
theorem dX6_weighedDirties_77 : decode cX6_weighedDirties 77 = .ok (.aload_n 0, 1) := by decide +kernel
theorem dX6_weighedDirties_78 : decode cX6_weighedDirties 78 = .ok (.getfield 19, 3) := by decide +kernel
theorem dX6_weighedDirties_81 : decode cX6_weighedDirties 81 = .ok (.invokevirtual 249, 3) := by decide +kernel
theorem dX6_weighedDirties_84 : decode cX6_weighedDirties 84 = .ok (.iload_n 1, 1) := by decide +kernel
theorem dX6_weighedDirties_85 : decode cX6_weighedDirties 85 = .ok (.isub, 1) := by decide +kernel
theorem dX6_weighedDirties_86 : decode cX6_weighedDirties 86 = .ok (.lshl, 1) := by decide +kernel
theorem dX6_weighedDirties_87 : decode cX6_weighedDirties 87 = .ok (.invokevirtual 299, 3) := by decide +kernel
theorem dX6_weighedDirties_90 : decode cX6_weighedDirties 90 = .ok (.lload_n 3, 1) := by decide +kernel
theorem dX6_weighedDirties_91 : decode cX6_weighedDirties 91 = .ok (.lload 7, 2) := by decide +kernel
theorem dX6_weighedDirties_93 : decode cX6_weighedDirties 93 = .ok (.aload_n 0, 1) := by decide +kernel
theorem dX6_weighedDirties_94 : decode cX6_weighedDirties 94 = .ok (.getfield 43, 3) := by decide +kernel
theorem dX6_weighedDirties_97 : decode cX6_weighedDirties 97 = .ok (.getfield 140, 3) := by decide +kernel
theorem dX6_weighedDirties_100 : decode cX6_weighedDirties 100 = .ok (.iload_n 2, 1) := by decide +kernel
theorem dX6_weighedDirties_101 : decode cX6_weighedDirties 101 = .ok (.iand, 1) := by decide +kernel
theorem dX6_weighedDirties_102 : decode cX6_weighedDirties 102 = .ok (.invokestatic 132, 3) := by decide +kernel
theorem dX6_weighedDirties_105 : decode cX6_weighedDirties 105 = .ok (.i2l, 1) := by decide +kernel
theorem dX6_weighedDirties_106 : decode cX6_weighedDirties 106 = .ok (.lmul, 1) := by decide +kernel
theorem dX6_weighedDirties_107 : decode cX6_weighedDirties 107 = .ok (.ladd, 1) := by decide +kernel
theorem dX6_weighedDirties_108 : decode cX6_weighedDirties 108 = .ok (.lstore_n 3, 1) := by decide +kernel
theorem dX6_weighedDirties_109 : decode cX6_weighedDirties 109 = .ok (.iinc 5 1, 3) := by decide +kernel
theorem dX6_weighedDirties_112 : decode cX6_weighedDirties 112 = .ok (.goto (-107), 3) := by decide +kernel
theorem dX6_weighedDirties_115 : decode cX6_weighedDirties 115 = .ok (.lload_n 3, 1) := by decide +kernel
theorem dX6_weighedDirties_116 : decode cX6_weighedDirties 116 = .ok (.lreturn, 1) := by decide +kernel
theorem dX6_does_0 : decode cX6_does 0 = .ok (.aload_n 0, 1) := by decide +kernel
theorem dX6_does_1 : decode cX6_does 1 = .ok (.getfield 19, 3) := by decide +kernel
theorem dX6_does_4 : decode cX6_does 4 = .ok (.invokevirtual 245, 3) := by decide +kernel
theorem dX6_does_7 : decode cX6_does 7 = .ok (.ifCond .eq 25, 3) := by decide +kernel
theorem dX6_does_10 : decode cX6_does 10 = .ok (.iload_n 1, 1) := by decide +kernel
theorem dX6_does_11 : decode cX6_does 11 = .ok (.ifCond .lt 21, 3) := by decide +kernel
theorem dX6_does_14 : decode cX6_does 14 = .ok (.iload_n 1, 1) := by decide +kernel
theorem dX6_does_15 : decode cX6_does 15 = .ok (.bipush 9, 2) := by decide +kernel
theorem dX6_does_17 : decode cX6_does 17 = .ok (.if_icmp .ge 15, 3) := by decide +kernel
theorem dX6_does_20 : decode cX6_does 20 = .ok (.aload_n 0, 1) := by decide +kernel
theorem dX6_does_21 : decode cX6_does 21 = .ok (.iload_n 1, 1) := by decide +kernel
theorem dX6_does_22 : decode cX6_does 22 = .ok (.iload_n 2, 1) := by decide +kernel
theorem dX6_does_23 : decode cX6_does 23 = .ok (.iload_n 3, 1) := by decide +kernel
theorem dX6_does_24 : decode cX6_does 24 = .ok (.iload 4, 2) := by decide +kernel
theorem dX6_does_26 : decode cX6_does 26 = .ok (.invokevirtual 344, 3) := by decide +kernel
theorem dX6_does_29 : decode cX6_does 29 = .ok (.ifCond .ne 6, 3) := by decide +kernel
theorem dX6_does_32 : decode cX6_does 32 = .ok (.bipush (-2), 2) := by decide +kernel
theorem dX6_does_34 : decode cX6_does 34 = .ok (.ireturn, 1) := by decide +kernel
theorem dX6_does_35 : decode cX6_does 35 = .ok (.aload_n 0, 1) := by decide +kernel
theorem dX6_does_36 : decode cX6_does 36 = .ok (.getfield 19, 3) := by decide +kernel
theorem dX6_does_39 : decode cX6_does 39 = .ok (.getfield 348, 3) := by decide +kernel
theorem dX6_does_42 : decode cX6_does 42 = .ok (.bipush 20, 2) := by decide +kernel
theorem dX6_does_44 : decode cX6_does 44 = .ok (.if_icmp .lt 6, 3) := by decide +kernel
theorem dX6_does_47 : decode cX6_does 47 = .ok (.bipush (-5), 2) := by decide +kernel
theorem dX6_does_49 : decode cX6_does 49 = .ok (.ireturn, 1) := by decide +kernel
theorem dX6_does_50 : decode cX6_does 50 = .ok (.aload_n 0, 1) := by decide +kernel
theorem dX6_does_51 : decode cX6_does 51 = .ok (.getfield 19, 3) := by decide +kernel
theorem dX6_does_54 : decode cX6_does 54 = .ok (.iload_n 1, 1) := by decide +kernel
theorem dX6_does_55 : decode cX6_does 55 = .ok (.iload_n 2, 1) := by decide +kernel
theorem dX6_does_56 : decode cX6_does 56 = .ok (.iload_n 3, 1) := by decide +kernel
theorem dX6_does_57 : decode cX6_does 57 = .ok (.iload 4, 2) := by decide +kernel
theorem dX6_does_59 : decode cX6_does 59 = .ok (.invokevirtual 351, 3) := by decide +kernel
theorem dX6_does_62 : decode cX6_does 62 = .ok (.aload_n 0, 1) := by decide +kernel
theorem dX6_does_63 : decode cX6_does 63 = .ok (.getfield 19, 3) := by decide +kernel
theorem dX6_does_66 : decode cX6_does 66 = .ok (.dup, 1) := by decide +kernel
theorem dX6_does_67 : decode cX6_does 67 = .ok (.getfield 348, 3) := by decide +kernel
theorem dX6_does_70 : decode cX6_does 70 = .ok (.iconst 1, 1) := by decide +kernel
theorem dX6_does_71 : decode cX6_does 71 = .ok (.iadd, 1) := by decide +kernel
theorem dX6_does_72 : decode cX6_does 72 = .ok (.putfield 348, 3) := by decide +kernel
theorem dX6_does_75 : decode cX6_does 75 = .ok (.aload_n 0, 1) := by decide +kernel
theorem dX6_does_76 : decode cX6_does 76 = .ok (.aload_n 0, 1) := by decide +kernel
theorem dX6_does_77 : decode cX6_does 77 = .ok (.getfield 19, 3) := by decide +kernel
theorem dX6_does_80 : decode cX6_does 80 = .ok (.invokevirtual 249, 3) := by decide +kernel
theorem dX6_does_83 : decode cX6_does 83 = .ok (.invokevirtual 108, 3) := by decide +kernel
theorem dX6_does_86 : decode cX6_does 86 = .ok (.aload_n 0, 1) := by decide +kernel
theorem dX6_does_87 : decode cX6_does 87 = .ok (.getfield 39, 3) := by decide +kernel
theorem dX6_does_90 : decode cX6_does 90 = .ok (.getfield 111, 3) := by decide +kernel
theorem dX6_does_93 : decode cX6_does 93 = .ok (.ireturn, 1) := by decide +kernel
theorem dX6_areNumbersOf_0 : decode cX6_areNumbersOf 0 = .ok (.getstatic 355, 3) := by decide +kernel
theorem dX6_areNumbersOf_3 : decode cX6_areNumbersOf 3 = .ok (.iload_n 1, 1) := by decide +kernel
theorem dX6_areNumbersOf_4 : decode cX6_areNumbersOf 4 = .ok (.iaload, 1) := by decide +kernel
theorem dX6_areNumbersOf_5 : decode cX6_areNumbersOf 5 = .ok (.istore 5, 2) := by decide +kernel
theorem dX6_areNumbersOf_7 : decode cX6_areNumbersOf 7 = .ok (.iload 5, 2) := by decide +kernel
theorem dX6_areNumbersOf_9 : decode cX6_areNumbersOf 9 = .ok (.ifCond .le 20, 3) := by decide +kernel
theorem dX6_areNumbersOf_12 : decode cX6_areNumbersOf 12 = .ok (.aload_n 0, 1) := by decide +kernel
theorem dX6_areNumbersOf_13 : decode cX6_areNumbersOf 13 = .ok (.getfield 19, 3) := by decide +kernel
theorem dX6_areNumbersOf_16 : decode cX6_areNumbersOf 16 = .ok (.getfield 226, 3) := by decide +kernel
theorem dX6_areNumbersOf_19 : decode cX6_areNumbersOf 19 = .ok (.iload_n 1, 1) := by decide +kernel
theorem dX6_areNumbersOf_20 : decode cX6_areNumbersOf 20 = .ok (.iconst 0, 1) := by decide +kernel
theorem dX6_areNumbersOf_21 : decode cX6_areNumbersOf 21 = .ok (.iload_n 2, 1) := by decide +kernel
theorem dX6_areNumbersOf_22 : decode cX6_areNumbersOf 22 = .ok (.iload_n 2, 1) := by decide +kernel
theorem dX6_areNumbersOf_23 : decode cX6_areNumbersOf 23 = .ok (.invokestatic 358, 3) := by decide +kernel
theorem dX6_areNumbersOf_26 : decode cX6_areNumbersOf 26 = .ok (.goto 12, 3) := by decide +kernel
theorem dX6_areNumbersOf_29 : decode cX6_areNumbersOf 29 = .ok (.iload_n 2, 1) := by decide +kernel
theorem dX6_areNumbersOf_30 : decode cX6_areNumbersOf 30 = .ok (.ifCond .ne 7, 3) := by decide +kernel
theorem dX6_areNumbersOf_33 : decode cX6_areNumbersOf 33 = .ok (.iconst 1, 1) := by decide +kernel
theorem dX6_areNumbersOf_34 : decode cX6_areNumbersOf 34 = .ok (.goto 4, 3) := by decide +kernel
theorem dX6_areNumbersOf_37 : decode cX6_areNumbersOf 37 = .ok (.iconst 0, 1) := by decide +kernel
theorem dX6_areNumbersOf_38 : decode cX6_areNumbersOf 38 = .ok (.istore 6, 2) := by decide +kernel
theorem dX6_areNumbersOf_40 : decode cX6_areNumbersOf 40 = .ok (.iload 5, 2) := by decide +kernel
theorem dX6_areNumbersOf_42 : decode cX6_areNumbersOf 42 = .ok (.iconst 1, 1) := by decide +kernel
theorem dX6_areNumbersOf_43 : decode cX6_areNumbersOf 43 = .ok (.if_icmp .le 20, 3) := by decide +kernel
theorem dX6_areNumbersOf_46 : decode cX6_areNumbersOf 46 = .ok (.aload_n 0, 1) := by decide +kernel
theorem dX6_areNumbersOf_47 : decode cX6_areNumbersOf 47 = .ok (.getfield 19, 3) := by decide +kernel
theorem dX6_areNumbersOf_50 : decode cX6_areNumbersOf 50 = .ok (.getfield 226, 3) := by decide +kernel
theorem dX6_areNumbersOf_53 : decode cX6_areNumbersOf 53 = .ok (.iload_n 1, 1) := by decide +kernel
theorem dX6_areNumbersOf_54 : decode cX6_areNumbersOf 54 = .ok (.iconst 1, 1) := by decide +kernel
theorem dX6_areNumbersOf_55 : decode cX6_areNumbersOf 55 = .ok (.iload_n 3, 1) := by decide +kernel
theorem dX6_areNumbersOf_56 : decode cX6_areNumbersOf 56 = .ok (.iload_n 2, 1) := by decide +kernel
theorem dX6_areNumbersOf_57 : decode cX6_areNumbersOf 57 = .ok (.invokestatic 358, 3) := by decide +kernel
theorem dX6_areNumbersOf_60 : decode cX6_areNumbersOf 60 = .ok (.goto 12, 3) := by decide +kernel
theorem dX6_areNumbersOf_63 : decode cX6_areNumbersOf 63 = .ok (.iload_n 3, 1) := by decide +kernel
theorem dX6_areNumbersOf_64 : decode cX6_areNumbersOf 64 = .ok (.ifCond .ne 7, 3) := by decide +kernel
theorem dX6_areNumbersOf_67 : decode cX6_areNumbersOf 67 = .ok (.iconst 1, 1) := by decide +kernel
theorem dX6_areNumbersOf_68 : decode cX6_areNumbersOf 68 = .ok (.goto 4, 3) := by decide +kernel
theorem dX6_areNumbersOf_71 : decode cX6_areNumbersOf 71 = .ok (.iconst 0, 1) := by decide +kernel
theorem dX6_areNumbersOf_72 : decode cX6_areNumbersOf 72 = .ok (.istore 7, 2) := by decide +kernel
theorem dX6_areNumbersOf_74 : decode cX6_areNumbersOf 74 = .ok (.iload 5, 2) := by decide +kernel
theorem dX6_areNumbersOf_76 : decode cX6_areNumbersOf 76 = .ok (.iconst 2, 1) := by decide +kernel
theorem dX6_areNumbersOf_77 : decode cX6_areNumbersOf 77 = .ok (.if_icmp .le 21, 3) := by decide +kernel
theorem dX6_areNumbersOf_80 : decode cX6_areNumbersOf 80 = .ok (.aload_n 0, 1) := by decide +kernel
theorem dX6_areNumbersOf_81 : decode cX6_areNumbersOf 81 = .ok (.getfield 19, 3) := by decide +kernel
theorem dX6_areNumbersOf_84 : decode cX6_areNumbersOf 84 = .ok (.getfield 226, 3) := by decide +kernel
theorem dX6_areNumbersOf_87 : decode cX6_areNumbersOf 87 = .ok (.iload_n 1, 1) := by decide +kernel
theorem dX6_areNumbersOf_88 : decode cX6_areNumbersOf 88 = .ok (.iconst 2, 1) := by decide +kernel
theorem dX6_areNumbersOf_89 : decode cX6_areNumbersOf 89 = .ok (.iload 4, 2) := by decide +kernel
theorem dX6_areNumbersOf_91 : decode cX6_areNumbersOf 91 = .ok (.iload_n 2, 1) := by decide +kernel
theorem dX6_areNumbersOf_92 : decode cX6_areNumbersOf 92 = .ok (.invokestatic 358, 3) := by decide +kernel
theorem dX6_areNumbersOf_95 : decode cX6_areNumbersOf 95 = .ok (.goto 13, 3) := by decide +kernel
theorem dX6_areNumbersOf_98 : decode cX6_areNumbersOf 98 = .ok (.iload 4, 2) := by decide +kernel
theorem dX6_areNumbersOf_100 : decode cX6_areNumbersOf 100 = .ok (.ifCond .ne 7, 3) := by decide +kernel
theorem dX6_areNumbersOf_103 : decode cX6_areNumbersOf 103 = .ok (.iconst 1, 1) := by decide +kernel
theorem dX6_areNumbersOf_104 : decode cX6_areNumbersOf 104 = .ok (.goto 4, 3) := by decide +kernel
theorem dX6_areNumbersOf_107 : decode cX6_areNumbersOf 107 = .ok (.iconst 0, 1) := by decide +kernel
theorem dX6_areNumbersOf_108 : decode cX6_areNumbersOf 108 = .ok (.istore 8, 2) := by decide +kernel
theorem dX6_areNumbersOf_110 : decode cX6_areNumbersOf 110 = .ok (.iload 6, 2) := by decide +kernel
theorem dX6_areNumbersOf_112 : decode cX6_areNumbersOf 112 = .ok (.ifCond .eq 17, 3) := by decide +kernel
theorem dX6_areNumbersOf_115 : decode cX6_areNumbersOf 115 = .ok (.iload 7, 2) := by decide +kernel
theorem dX6_areNumbersOf_117 : decode cX6_areNumbersOf 117 = .ok (.ifCond .eq 12, 3) := by decide +kernel
theorem dX6_areNumbersOf_120 : decode cX6_areNumbersOf 120 = .ok (.iload 8, 2) := by decide +kernel
theorem dX6_areNumbersOf_122 : decode cX6_areNumbersOf 122 = .ok (.ifCond .eq 7, 3) := by decide +kernel
theorem dX6_areNumbersOf_125 : decode cX6_areNumbersOf 125 = .ok (.iconst 1, 1) := by decide +kernel
theorem dX6_areNumbersOf_126 : decode cX6_areNumbersOf 126 = .ok (.goto 4, 3) := by decide +kernel
theorem dX6_areNumbersOf_129 : decode cX6_areNumbersOf 129 = .ok (.iconst 0, 1) := by decide +kernel
theorem dX6_areNumbersOf_130 : decode cX6_areNumbersOf 130 = .ok (.ireturn, 1) := by decide +kernel
theorem dX6_undo_0 : decode cX6_undo 0 = .ok (.aload_n 0, 1) := by decide +kernel
theorem dX6_undo_1 : decode cX6_undo 1 = .ok (.getfield 19, 3) := by decide +kernel
theorem dX6_undo_4 : decode cX6_undo 4 = .ok (.invokevirtual 245, 3) := by decide +kernel
theorem dX6_undo_7 : decode cX6_undo 7 = .ok (.ifCond .ne 6, 3) := by decide +kernel
theorem dX6_undo_10 : decode cX6_undo 10 = .ok (.bipush (-2), 2) := by decide +kernel
theorem dX6_undo_12 : decode cX6_undo 12 = .ok (.ireturn, 1) := by decide +kernel
theorem dX6_undo_13 : decode cX6_undo 13 = .ok (.aload_n 0, 1) := by decide +kernel
theorem dX6_undo_14 : decode cX6_undo 14 = .ok (.getfield 19, 3) := by decide +kernel
theorem dX6_undo_17 : decode cX6_undo 17 = .ok (.getfield 348, 3) := by decide +kernel
theorem dX6_undo_20 : decode cX6_undo 20 = .ok (.ifCond .ne 6, 3) := by decide +kernel
theorem dX6_undo_23 : decode cX6_undo 23 = .ok (.bipush (-5), 2) := by decide +kernel
theorem dX6_undo_25 : decode cX6_undo 25 = .ok (.ireturn, 1) := by decide +kernel
theorem dX6_undo_26 : decode cX6_undo 26 = .ok (.aload_n 0, 1) := by decide +kernel
theorem dX6_undo_27 : decode cX6_undo 27 = .ok (.getfield 19, 3) := by decide +kernel
theorem dX6_undo_30 : decode cX6_undo 30 = .ok (.dup, 1) := by decide +kernel
theorem dX6_undo_31 : decode cX6_undo 31 = .ok (.getfield 348, 3) := by decide +kernel
theorem dX6_undo_34 : decode cX6_undo 34 = .ok (.iconst 1, 1) := by decide +kernel
theorem dX6_undo_35 : decode cX6_undo 35 = .ok (.isub, 1) := by decide +kernel
theorem dX6_undo_36 : decode cX6_undo 36 = .ok (.putfield 348, 3) := by decide +kernel
theorem dX6_undo_39 : decode cX6_undo 39 = .ok (.aload_n 0, 1) := by decide +kernel
theorem dX6_undo_40 : decode cX6_undo 40 = .ok (.invokevirtual 84, 3) := by decide +kernel
theorem dX6_undo_43 : decode cX6_undo 43 = .ok (.aload_n 0, 1) := by decide +kernel
theorem dX6_undo_44 : decode cX6_undo 44 = .ok (.getfield 19, 3) := by decide +kernel
theorem dX6_undo_47 : decode cX6_undo 47 = .ok (.getfield 348, 3) := by decide +kernel
theorem dX6_undo_50 : decode cX6_undo 50 = .ok (.ireturn, 1) := by decide +kernel
theorem dX6_anew_0 : decode cX6_anew 0 = .ok (.aload_n 0, 1) := by decide +kernel
theorem dX6_anew_1 : decode cX6_anew 1 = .ok (.getfield 19, 3) := by decide +kernel
theorem dX6_anew_4 : decode cX6_anew 4 = .ok (.invokevirtual 245, 3) := by decide +kernel
theorem dX6_anew_7 : decode cX6_anew 7 = .ok (.ifCond .ne 6, 3) := by decide +kernel
theorem dX6_anew_10 : decode cX6_anew 10 = .ok (.bipush (-2), 2) := by decide +kernel
theorem dX6_anew_12 : decode cX6_anew 12 = .ok (.ireturn, 1) := by decide +kernel
theorem dX6_anew_13 : decode cX6_anew 13 = .ok (.aload_n 0, 1) := by decide +kernel
theorem dX6_anew_14 : decode cX6_anew 14 = .ok (.getfield 19, 3) := by decide +kernel
theorem dX6_anew_17 : decode cX6_anew 17 = .ok (.getfield 348, 3) := by decide +kernel
theorem dX6_anew_20 : decode cX6_anew 20 = .ok (.istore_n 1, 1) := by decide +kernel
theorem dX6_anew_21 : decode cX6_anew 21 = .ok (.aload_n 0, 1) := by decide +kernel
theorem dX6_anew_22 : decode cX6_anew 22 = .ok (.getfield 19, 3) := by decide +kernel
theorem dX6_anew_25 : decode cX6_anew 25 = .ok (.iconst 0, 1) := by decide +kernel
theorem dX6_anew_26 : decode cX6_anew 26 = .ok (.putfield 348, 3) := by decide +kernel
theorem dX6_anew_29 : decode cX6_anew 29 = .ok (.aload_n 0, 1) := by decide +kernel
theorem dX6_anew_30 : decode cX6_anew 30 = .ok (.invokevirtual 84, 3) := by decide +kernel
theorem dX6_anew_33 : decode cX6_anew 33 = .ok (.iload_n 1, 1) := by decide +kernel
theorem dX6_anew_34 : decode cX6_anew 34 = .ok (.ireturn, 1) := by decide +kernel
theorem dX6_drawn_0 : decode cX6_drawn 0 = .ok (.aload_n 0, 1) := by decide +kernel
theorem dX6_drawn_1 : decode cX6_drawn 1 = .ok (.getfield 19, 3) := by decide +kernel
theorem dX6_drawn_4 : decode cX6_drawn 4 = .ok (.invokevirtual 245, 3) := by decide +kernel
theorem dX6_drawn_7 : decode cX6_drawn 7 = .ok (.ifCond .eq 19, 3) := by decide +kernel
theorem dX6_drawn_10 : decode cX6_drawn 10 = .ok (.iload_n 1, 1) := by decide +kernel
theorem dX6_drawn_11 : decode cX6_drawn 11 = .ok (.invokestatic 362, 3) := by decide +kernel
theorem dX6_drawn_14 : decode cX6_drawn 14 = .ok (.ifCond .eq 12, 3) := by decide +kernel
theorem dX6_drawn_17 : decode cX6_drawn 17 = .ok (.iload_n 2, 1) := by decide +kernel
theorem dX6_drawn_18 : decode cX6_drawn 18 = .ok (.ifCond .lt 8, 3) := by decide +kernel
theorem dX6_drawn_21 : decode cX6_drawn 21 = .ok (.iload_n 2, 1) := by decide +kernel
theorem dX6_drawn_22 : decode cX6_drawn 22 = .ok (.iconst 1, 1) := by decide +kernel
theorem dX6_drawn_23 : decode cX6_drawn 23 = .ok (.if_icmp .le 6, 3) := by decide +kernel
theorem dX6_drawn_26 : decode cX6_drawn 26 = .ok (.bipush (-2), 2) := by decide +kernel
theorem dX6_drawn_28 : decode cX6_drawn 28 = .ok (.ireturn, 1) := by decide +kernel
theorem dX6_drawn_29 : decode cX6_drawn 29 = .ok (.aload_n 0, 1) := by decide +kernel
theorem dX6_drawn_30 : decode cX6_drawn 30 = .ok (.iload_n 1, 1) := by decide +kernel
theorem dX6_drawn_31 : decode cX6_drawn 31 = .ok (.i2l, 1) := by decide +kernel
theorem dX6_drawn_32 : decode cX6_drawn 32 = .ok (.invokevirtual 365, 3) := by decide +kernel
theorem dX6_drawn_35 : decode cX6_drawn 35 = .ok (.lstore_n 3, 1) := by decide +kernel
theorem dX6_drawn_36 : decode cX6_drawn 36 = .ok (.iload_n 2, 1) := by decide +kernel
theorem dX6_drawn_37 : decode cX6_drawn 37 = .ok (.ifCond .ne 8, 3) := by decide +kernel
theorem dX6_drawn_40 : decode cX6_drawn 40 = .ok (.lload_n 3, 1) := by decide +kernel
theorem dX6_drawn_41 : decode cX6_drawn 41 = .ok (.invokestatic 369, 3) := by decide +kernel
theorem dX6_drawn_44 : decode cX6_drawn 44 = .ok (.ireturn, 1) := by decide +kernel
theorem dX6_drawn_45 : decode cX6_drawn 45 = .ok (.aload_n 0, 1) := by decide +kernel
theorem dX6_drawn_46 : decode cX6_drawn 46 = .ok (.getfield 43, 3) := by decide +kernel
theorem dX6_drawn_49 : decode cX6_drawn 49 = .ok (.aload_n 0, 1) := by decide +kernel
theorem dX6_drawn_50 : decode cX6_drawn 50 = .ok (.getfield 19, 3) := by decide +kernel
theorem dX6_drawn_53 : decode cX6_drawn 53 = .ok (.aload_n 0, 1) := by decide +kernel
theorem dX6_drawn_54 : decode cX6_drawn 54 = .ok (.getfield 19, 3) := by decide +kernel
theorem dX6_drawn_57 : decode cX6_drawn 57 = .ok (.getfield 326, 3) := by decide +kernel
theorem dX6_drawn_60 : decode cX6_drawn 60 = .ok (.lload_n 3, 1) := by decide +kernel
theorem dX6_drawn_61 : decode cX6_drawn 61 = .ok (.invokevirtual 299, 3) := by decide +kernel
theorem dX6_drawn_64 : decode cX6_drawn 64 = .ok (.aload_n 0, 1) := by decide +kernel
theorem dX6_drawn_65 : decode cX6_drawn 65 = .ok (.getfield 43, 3) := by decide +kernel
theorem dX6_drawn_68 : decode cX6_drawn 68 = .ok (.getfield 140, 3) := by decide +kernel
theorem dX6_drawn_71 : decode cX6_drawn 71 = .ok (.invokestatic 132, 3) := by decide +kernel
theorem dX6_drawn_74 : decode cX6_drawn 74 = .ok (.ireturn, 1) := by decide +kernel
theorem dX6_luck_0 : decode cX6_luck 0 = .ok (.aload_n 0, 1) := by decide +kernel
theorem dX6_luck_1 : decode cX6_luck 1 = .ok (.iload_n 3, 1) := by decide +kernel
theorem dX6_luck_2 : decode cX6_luck 2 = .ok (.invokevirtual 114, 3) := by decide +kernel
theorem dX6_luck_5 : decode cX6_luck 5 = .ok (.ifCond .eq 21, 3) := by decide +kernel
theorem dX6_luck_8 : decode cX6_luck 8 = .ok (.iload_n 1, 1) := by decide +kernel
theorem dX6_luck_9 : decode cX6_luck 9 = .ok (.invokestatic 362, 3) := by decide +kernel
theorem dX6_luck_12 : decode cX6_luck 12 = .ok (.ifCond .eq 14, 3) := by decide +kernel
theorem dX6_luck_15 : decode cX6_luck 15 = .ok (.iload_n 2, 1) := by decide +kernel
theorem dX6_luck_16 : decode cX6_luck 16 = .ok (.iconst 1, 1) := by decide +kernel
theorem dX6_luck_17 : decode cX6_luck 17 = .ok (.if_icmp .lt 9, 3) := by decide +kernel
theorem dX6_luck_20 : decode cX6_luck 20 = .ok (.iload_n 2, 1) := by decide +kernel
theorem dX6_luck_21 : decode cX6_luck 21 = .ok (.bipush 20, 2) := by decide +kernel
theorem dX6_luck_23 : decode cX6_luck 23 = .ok (.if_icmp .le 6, 3) := by decide +kernel
theorem dX6_luck_26 : decode cX6_luck 26 = .ok (.bipush (-2), 2) := by decide +kernel
theorem dX6_luck_28 : decode cX6_luck 28 = .ok (.ireturn, 1) := by decide +kernel
theorem dX6_luck_29 : decode cX6_luck 29 = .ok (.iconst 0, 1) := by decide +kernel
theorem dX6_luck_30 : decode cX6_luck 30 = .ok (.istore 4, 2) := by decide +kernel
theorem dX6_luck_32 : decode cX6_luck 32 = .ok (.iconst 0, 1) := by decide +kernel
theorem dX6_luck_33 : decode cX6_luck 33 = .ok (.istore 5, 2) := by decide +kernel
theorem dX6_luck_35 : decode cX6_luck 35 = .ok (.iload 5, 2) := by decide +kernel
theorem dX6_luck_37 : decode cX6_luck 37 = .ok (.iload_n 2, 1) := by decide +kernel
theorem dX6_luck_38 : decode cX6_luck 38 = .ok (.if_icmp .ge 54, 3) := by decide +kernel
theorem dX6_luck_41 : decode cX6_luck 41 = .ok (.aload_n 0, 1) := by decide +kernel
theorem dX6_luck_42 : decode cX6_luck 42 = .ok (.getfield 43, 3) := by decide +kernel
theorem dX6_luck_45 : decode cX6_luck 45 = .ok (.aload_n 0, 1) := by decide +kernel
theorem dX6_luck_46 : decode cX6_luck 46 = .ok (.getfield 19, 3) := by decide +kernel
theorem dX6_luck_49 : decode cX6_luck 49 = .ok (.aload_n 0, 1) := by decide +kernel
theorem dX6_luck_50 : decode cX6_luck 50 = .ok (.getfield 19, 3) := by decide +kernel
theorem dX6_luck_53 : decode cX6_luck 53 = .ok (.getfield 326, 3) := by decide +kernel
theorem dX6_luck_56 : decode cX6_luck 56 = .ok (.aload_n 0, 1) := by decide +kernel
theorem dX6_luck_57 : decode cX6_luck 57 = .ok (.iload_n 1, 1) := by decide +kernel
theorem dX6_luck_58 : decode cX6_luck 58 = .ok (.i2l, 1) := by decide +kernel
theorem dX6_luck_59 : decode cX6_luck 59 = .ok (.iload 5, 2) := by decide +kernel
theorem dX6_luck_61 : decode cX6_luck 61 = .ok (.i2l, 1) := by decide +kernel
theorem dX6_luck_62 : decode cX6_luck 62 = .ok (.ladd, 1) := by decide +kernel
theorem dX6_luck_63 : decode cX6_luck 63 = .ok (.invokevirtual 365, 3) := by decide +kernel
theorem dX6_luck_66 : decode cX6_luck 66 = .ok (.invokevirtual 299, 3) := by decide +kernel
theorem dX6_luck_69 : decode cX6_luck 69 = .ok (.aload_n 0, 1) := by decide +kernel
theorem dX6_luck_70 : decode cX6_luck 70 = .ok (.getfield 43, 3) := by decide +kernel
theorem dX6_luck_73 : decode cX6_luck 73 = .ok (.getfield 140, 3) := by decide +kernel
theorem dX6_luck_76 : decode cX6_luck 76 = .ok (.iload_n 3, 1) := by decide +kernel
theorem dX6_luck_77 : decode cX6_luck 77 = .ok (.invokestatic 143, 3) := by decide +kernel
theorem dX6_luck_80 : decode cX6_luck 80 = .ok (.ifCond .eq 6, 3) := by decide +kernel
theorem dX6_luck_83 : decode cX6_luck 83 = .ok (.iinc 4 1, 3) := by decide +kernel
theorem dX6_luck_86 : decode cX6_luck 86 = .ok (.iinc 5 1, 3) := by decide +kernel
theorem dX6_luck_89 : decode cX6_luck 89 = .ok (.goto (-54), 3) := by decide +kernel
theorem dX6_luck_92 : decode cX6_luck 92 = .ok (.iload 4, 2) := by decide +kernel
theorem dX6_luck_94 : decode cX6_luck 94 = .ok (.ireturn, 1) := by decide +kernel
theorem dX6_drawOut_0 : decode cX6_drawOut 0 = .ok (.lconst 0, 1) := by decide +kernel
theorem dX6_drawOut_1 : decode cX6_drawOut 1 = .ok (.lstore_n 3, 1) := by decide +kernel
theorem dX6_drawOut_2 : decode cX6_drawOut 2 = .ok (.lload_n 1, 1) := by decide +kernel
theorem dX6_drawOut_3 : decode cX6_drawOut 3 = .ok (.lstore 5, 2) := by decide +kernel
theorem dX6_drawOut_5 : decode cX6_drawOut 5 = .ok (.iconst 0, 1) := by decide +kernel
theorem dX6_drawOut_6 : decode cX6_drawOut 6 = .ok (.istore 7, 2) := by decide +kernel
theorem dX6_drawOut_8 : decode cX6_drawOut 8 = .ok (.iload 7, 2) := by decide +kernel
theorem dX6_drawOut_10 : decode cX6_drawOut 10 = .ok (.aload_n 0, 1) := by decide +kernel
theorem dX6_drawOut_11 : decode cX6_drawOut 11 = .ok (.getfield 19, 3) := by decide +kernel
theorem dX6_drawOut_14 : decode cX6_drawOut 14 = .ok (.invokevirtual 249, 3) := by decide +kernel
theorem dX6_drawOut_17 : decode cX6_drawOut 17 = .ok (.if_icmp .ge 54, 3) := by decide +kernel
theorem dX6_drawOut_20 : decode cX6_drawOut 20 = .ok (.ldc2_w 374, 3) := by decide +kernel
theorem dX6_drawOut_23 : decode cX6_drawOut 23 = .ok (.lload 5, 2) := by decide +kernel
theorem dX6_drawOut_25 : decode cX6_drawOut 25 = .ok (.lmul, 1) := by decide +kernel
theorem dX6_drawOut_26 : decode cX6_drawOut 26 = .ok (.ldc2_w 376, 3) := by decide +kernel
theorem dX6_drawOut_29 : decode cX6_drawOut 29 = .ok (.ladd, 1) := by decide +kernel
theorem dX6_drawOut_30 : decode cX6_drawOut 30 = .ok (.ldc2_w 378, 3) := by decide +kernel
theorem dX6_drawOut_33 : decode cX6_drawOut 33 = .ok (.lrem, 1) := by decide +kernel
theorem dX6_drawOut_34 : decode cX6_drawOut 34 = .ok (.lstore 5, 2) := by decide +kernel
theorem dX6_drawOut_36 : decode cX6_drawOut 36 = .ok (.lload 5, 2) := by decide +kernel
theorem dX6_drawOut_38 : decode cX6_drawOut 38 = .ok (.ldc2_w 380, 3) := by decide +kernel
theorem dX6_drawOut_41 : decode cX6_drawOut 41 = .ok (.ldiv, 1) := by decide +kernel
theorem dX6_drawOut_42 : decode cX6_drawOut 42 = .ok (.ldc2_w 382, 3) := by decide +kernel
theorem dX6_drawOut_45 : decode cX6_drawOut 45 = .ok (.lrem, 1) := by decide +kernel
theorem dX6_drawOut_46 : decode cX6_drawOut 46 = .ok (.aload_n 0, 1) := by decide +kernel
theorem dX6_drawOut_47 : decode cX6_drawOut 47 = .ok (.getfield 19, 3) := by decide +kernel
theorem dX6_drawOut_50 : decode cX6_drawOut 50 = .ok (.getfield 341, 3) := by decide +kernel
theorem dX6_drawOut_53 : decode cX6_drawOut 53 = .ok (.i2l, 1) := by decide +kernel
theorem dX6_drawOut_54 : decode cX6_drawOut 54 = .ok (.lcmp, 1) := by decide +kernel
theorem dX6_drawOut_55 : decode cX6_drawOut 55 = .ok (.ifCond .ge 10, 3) := by decide +kernel
theorem dX6_drawOut_58 : decode cX6_drawOut 58 = .ok (.lload_n 3, 1) := by decide +kernel
theorem dX6_drawOut_59 : decode cX6_drawOut 59 = .ok (.lconst 1, 1) := by decide +kernel
theorem dX6_drawOut_60 : decode cX6_drawOut 60 = .ok (.iload 7, 2) := by decide +kernel
theorem dX6_drawOut_62 : decode cX6_drawOut 62 = .ok (.lshl, 1) := by decide +kernel
theorem dX6_drawOut_63 : decode cX6_drawOut 63 = .ok (.lor, 1) := by decide +kernel
theorem dX6_drawOut_64 : decode cX6_drawOut 64 = .ok (.lstore_n 3, 1) := by decide +kernel
theorem dX6_drawOut_65 : decode cX6_drawOut 65 = .ok (.iinc 7 1, 3) := by decide +kernel
theorem dX6_drawOut_68 : decode cX6_drawOut 68 = .ok (.goto (-60), 3) := by decide +kernel
theorem dX6_drawOut_71 : decode cX6_drawOut 71 = .ok (.lload_n 3, 1) := by decide +kernel
theorem dX6_drawOut_72 : decode cX6_drawOut 72 = .ok (.lreturn, 1) := by decide +kernel
theorem dX6_count_0 : decode cX6_count 0 = .ok (.iload_n 1, 1) := by decide +kernel
theorem dX6_count_1 : decode cX6_count 1 = .ok (.tableswitch 108 0 7 #[47, 55, 63, 71, 79, 87, 95, 103], 47) := by decide +kernel
theorem dX6_count_48 : decode cX6_count 48 = .ok (.aload_n 0, 1) := by decide +kernel
theorem dX6_count_49 : decode cX6_count 49 = .ok (.getfield 19, 3) := by decide +kernel
theorem dX6_count_52 : decode cX6_count 52 = .ok (.getfield 226, 3) := by decide +kernel
theorem dX6_count_55 : decode cX6_count 55 = .ok (.ireturn, 1) := by decide +kernel
theorem dX6_count_56 : decode cX6_count 56 = .ok (.aload_n 0, 1) := by decide +kernel
theorem dX6_count_57 : decode cX6_count 57 = .ok (.getfield 19, 3) := by decide +kernel
theorem dX6_count_60 : decode cX6_count 60 = .ok (.getfield 326, 3) := by decide +kernel
theorem dX6_count_63 : decode cX6_count 63 = .ok (.ireturn, 1) := by decide +kernel
theorem dX6_count_64 : decode cX6_count 64 = .ok (.aload_n 0, 1) := by decide +kernel
theorem dX6_count_65 : decode cX6_count 65 = .ok (.getfield 19, 3) := by decide +kernel
theorem dX6_count_68 : decode cX6_count 68 = .ok (.getfield 341, 3) := by decide +kernel
theorem dX6_count_71 : decode cX6_count 71 = .ok (.ireturn, 1) := by decide +kernel
theorem dX6_count_72 : decode cX6_count 72 = .ok (.aload_n 0, 1) := by decide +kernel
theorem dX6_count_73 : decode cX6_count 73 = .ok (.getfield 19, 3) := by decide +kernel
theorem dX6_count_76 : decode cX6_count 76 = .ok (.getfield 268, 3) := by decide +kernel
theorem dX6_count_79 : decode cX6_count 79 = .ok (.ireturn, 1) := by decide +kernel
theorem dX6_count_80 : decode cX6_count 80 = .ok (.aload_n 0, 1) := by decide +kernel
theorem dX6_count_81 : decode cX6_count 81 = .ok (.getfield 19, 3) := by decide +kernel
theorem dX6_count_84 : decode cX6_count 84 = .ok (.getfield 348, 3) := by decide +kernel
theorem dX6_count_87 : decode cX6_count 87 = .ok (.ireturn, 1) := by decide +kernel
theorem dX6_count_88 : decode cX6_count 88 = .ok (.aload_n 0, 1) := by decide +kernel
theorem dX6_count_89 : decode cX6_count 89 = .ok (.getfield 19, 3) := by decide +kernel
theorem dX6_count_92 : decode cX6_count 92 = .ok (.invokevirtual 87, 3) := by decide +kernel
theorem dX6_count_95 : decode cX6_count 95 = .ok (.ireturn, 1) := by decide +kernel
theorem dX6_count_96 : decode cX6_count 96 = .ok (.aload_n 0, 1) := by decide +kernel
theorem dX6_count_97 : decode cX6_count 97 = .ok (.getfield 10, 3) := by decide +kernel
theorem dX6_count_100 : decode cX6_count 100 = .ok (.getfield 72, 3) := by decide +kernel
theorem dX6_count_103 : decode cX6_count 103 = .ok (.ireturn, 1) := by decide +kernel
theorem dX6_count_104 : decode cX6_count 104 = .ok (.aload_n 0, 1) := by decide +kernel
theorem dX6_count_105 : decode cX6_count 105 = .ok (.invokevirtual 384, 3) := by decide +kernel
theorem dX6_count_108 : decode cX6_count 108 = .ok (.ireturn, 1) := by decide +kernel
theorem dX6_count_109 : decode cX6_count 109 = .ok (.iconst (-1), 1) := by decide +kernel
theorem dX6_count_110 : decode cX6_count 110 = .ok (.ireturn, 1) := by decide +kernel
theorem dX6_slotsThere_0 : decode cX6_slotsThere 0 = .ok (.iconst 0, 1) := by decide +kernel
theorem dX6_slotsThere_1 : decode cX6_slotsThere 1 = .ok (.istore_n 1, 1) := by decide +kernel
theorem dX6_slotsThere_2 : decode cX6_slotsThere 2 = .ok (.iconst 0, 1) := by decide +kernel
theorem dX6_slotsThere_3 : decode cX6_slotsThere 3 = .ok (.istore_n 2, 1) := by decide +kernel
theorem dX6_slotsThere_4 : decode cX6_slotsThere 4 = .ok (.iload_n 2, 1) := by decide +kernel
theorem dX6_slotsThere_5 : decode cX6_slotsThere 5 = .ok (.iconst 4, 1) := by decide +kernel
theorem dX6_slotsThere_6 : decode cX6_slotsThere 6 = .ok (.if_icmp .ge 24, 3) := by decide +kernel
theorem dX6_slotsThere_9 : decode cX6_slotsThere 9 = .ok (.aload_n 0, 1) := by decide +kernel
theorem dX6_slotsThere_10 : decode cX6_slotsThere 10 = .ok (.getfield 32, 3) := by decide +kernel
theorem dX6_slotsThere_13 : decode cX6_slotsThere 13 = .ok (.iload_n 2, 1) := by decide +kernel
theorem dX6_slotsThere_14 : decode cX6_slotsThere 14 = .ok (.aaload, 1) := by decide +kernel
theorem dX6_slotsThere_15 : decode cX6_slotsThere 15 = .ok (.getfield 281, 3) := by decide +kernel
theorem dX6_slotsThere_18 : decode cX6_slotsThere 18 = .ok (.ifCond .eq 6, 3) := by decide +kernel
theorem dX6_slotsThere_21 : decode cX6_slotsThere 21 = .ok (.iinc 1 1, 3) := by decide +kernel
theorem dX6_slotsThere_24 : decode cX6_slotsThere 24 = .ok (.iinc 2 1, 3) := by decide +kernel
theorem dX6_slotsThere_27 : decode cX6_slotsThere 27 = .ok (.goto (-23), 3) := by decide +kernel
theorem dX6_slotsThere_30 : decode cX6_slotsThere 30 = .ok (.iload_n 1, 1) := by decide +kernel
theorem dX6_slotsThere_31 : decode cX6_slotsThere 31 = .ok (.ireturn, 1) := by decide +kernel
theorem dX6_image_0 : decode cX6_image 0 = .ok (.iload_n 1, 1) := by decide +kernel
theorem dX6_image_1 : decode cX6_image 1 = .ok (.ifCond .lt 8, 3) := by decide +kernel
theorem dX6_image_4 : decode cX6_image 4 = .ok (.iload_n 1, 1) := by decide +kernel
theorem dX6_image_5 : decode cX6_image 5 = .ok (.iconst 3, 1) := by decide +kernel
theorem dX6_image_6 : decode cX6_image 6 = .ok (.if_icmp .lt 6, 3) := by decide +kernel
theorem dX6_image_9 : decode cX6_image 9 = .ok (.bipush (-2), 2) := by decide +kernel
theorem dX6_image_11 : decode cX6_image 11 = .ok (.ireturn, 1) := by decide +kernel
theorem dX6_image_12 : decode cX6_image 12 = .ok (.aload_n 0, 1) := by decide +kernel
theorem dX6_image_13 : decode cX6_image 13 = .ok (.getfield 26, 3) := by decide +kernel
theorem dX6_image_16 : decode cX6_image 16 = .ok (.iload_n 1, 1) := by decide +kernel
theorem dX6_image_17 : decode cX6_image 17 = .ok (.aaload, 1) := by decide +kernel
theorem dX6_image_18 : decode cX6_image 18 = .ok (.aload_n 0, 1) := by decide +kernel
theorem dX6_image_19 : decode cX6_image 19 = .ok (.getfield 19, 3) := by decide +kernel
theorem dX6_image_22 : decode cX6_image 22 = .ok (.invokevirtual 80, 3) := by decide +kernel
theorem dX6_image_25 : decode cX6_image 25 = .ok (.aload_n 0, 1) := by decide +kernel
theorem dX6_image_26 : decode cX6_image 26 = .ok (.getfield 26, 3) := by decide +kernel
theorem dX6_image_29 : decode cX6_image 29 = .ok (.iload_n 1, 1) := by decide +kernel
theorem dX6_image_30 : decode cX6_image 30 = .ok (.aaload, 1) := by decide +kernel
theorem dX6_image_31 : decode cX6_image 31 = .ok (.iconst 1, 1) := by decide +kernel
theorem dX6_image_32 : decode cX6_image 32 = .ok (.putfield 387, 3) := by decide +kernel
theorem dX6_image_35 : decode cX6_image 35 = .ok (.iconst 0, 1) := by decide +kernel
theorem dX6_image_36 : decode cX6_image 36 = .ok (.ireturn, 1) := by decide +kernel
theorem dX6_back_0 : decode cX6_back 0 = .ok (.iload_n 1, 1) := by decide +kernel
theorem dX6_back_1 : decode cX6_back 1 = .ok (.ifCond .lt 8, 3) := by decide +kernel
theorem dX6_back_4 : decode cX6_back 4 = .ok (.iload_n 1, 1) := by decide +kernel
theorem dX6_back_5 : decode cX6_back 5 = .ok (.iconst 3, 1) := by decide +kernel
theorem dX6_back_6 : decode cX6_back 6 = .ok (.if_icmp .lt 6, 3) := by decide +kernel
theorem dX6_back_9 : decode cX6_back 9 = .ok (.bipush (-2), 2) := by decide +kernel
theorem dX6_back_11 : decode cX6_back 11 = .ok (.ireturn, 1) := by decide +kernel
theorem dX6_back_12 : decode cX6_back 12 = .ok (.aload_n 0, 1) := by decide +kernel
theorem dX6_back_13 : decode cX6_back 13 = .ok (.getfield 26, 3) := by decide +kernel
theorem dX6_back_16 : decode cX6_back 16 = .ok (.iload_n 1, 1) := by decide +kernel
theorem dX6_back_17 : decode cX6_back 17 = .ok (.aaload, 1) := by decide +kernel
theorem dX6_back_18 : decode cX6_back 18 = .ok (.getfield 387, 3) := by decide +kernel
theorem dX6_back_21 : decode cX6_back 21 = .ok (.ifCond .ne 6, 3) := by decide +kernel
theorem dX6_back_24 : decode cX6_back 24 = .ok (.bipush (-6), 2) := by decide +kernel
theorem dX6_back_26 : decode cX6_back 26 = .ok (.ireturn, 1) := by decide +kernel
theorem dX6_back_27 : decode cX6_back 27 = .ok (.aload_n 0, 1) := by decide +kernel
theorem dX6_back_28 : decode cX6_back 28 = .ok (.getfield 19, 3) := by decide +kernel
theorem dX6_back_31 : decode cX6_back 31 = .ok (.aload_n 0, 1) := by decide +kernel
theorem dX6_back_32 : decode cX6_back 32 = .ok (.getfield 26, 3) := by decide +kernel
theorem dX6_back_35 : decode cX6_back 35 = .ok (.iload_n 1, 1) := by decide +kernel
theorem dX6_back_36 : decode cX6_back 36 = .ok (.aaload, 1) := by decide +kernel
theorem dX6_back_37 : decode cX6_back 37 = .ok (.invokevirtual 80, 3) := by decide +kernel
theorem dX6_back_40 : decode cX6_back 40 = .ok (.aload_n 0, 1) := by decide +kernel
theorem dX6_back_41 : decode cX6_back 41 = .ok (.invokevirtual 84, 3) := by decide +kernel
theorem dX6_back_44 : decode cX6_back 44 = .ok (.iconst 0, 1) := by decide +kernel
theorem dX6_back_45 : decode cX6_back 45 = .ok (.ireturn, 1) := by decide +kernel
theorem dX6_row_0 : decode cX6_row 0 = .ok (.iload_n 1, 1) := by decide +kernel
theorem dX6_row_1 : decode cX6_row 1 = .ok (.invokestatic 278, 3) := by decide +kernel
theorem dX6_row_4 : decode cX6_row 4 = .ok (.ifCond .eq 18, 3) := by decide +kernel
theorem dX6_row_7 : decode cX6_row 7 = .ok (.iload_n 2, 1) := by decide +kernel
theorem dX6_row_8 : decode cX6_row 8 = .ok (.ifCond .lt 14, 3) := by decide +kernel
theorem dX6_row_11 : decode cX6_row 11 = .ok (.iload_n 2, 1) := by decide +kernel
theorem dX6_row_12 : decode cX6_row 12 = .ok (.iconst 3, 1) := by decide +kernel
theorem dX6_row_13 : decode cX6_row 13 = .ok (.if_icmp .gt 9, 3) := by decide +kernel
theorem dX6_row_16 : decode cX6_row 16 = .ok (.iload_n 3, 1) := by decide +kernel
theorem dX6_row_17 : decode cX6_row 17 = .ok (.bipush 60, 2) := by decide +kernel
theorem dX6_row_19 : decode cX6_row 19 = .ok (.if_icmp .le 6, 3) := by decide +kernel
theorem dX6_row_22 : decode cX6_row 22 = .ok (.bipush (-2), 2) := by decide +kernel
theorem dX6_row_24 : decode cX6_row 24 = .ok (.ireturn, 1) := by decide +kernel
theorem dX6_row_25 : decode cX6_row 25 = .ok (.iload_n 3, 1) := by decide +kernel
theorem dX6_row_26 : decode cX6_row 26 = .ok (.ifCond .ge 6, 3) := by decide +kernel
theorem dX6_row_29 : decode cX6_row 29 = .ok (.bipush (-3), 2) := by decide +kernel
theorem dX6_row_31 : decode cX6_row 31 = .ok (.ireturn, 1) := by decide +kernel
theorem dX6_row_32 : decode cX6_row 32 = .ok (.aload_n 0, 1) := by decide +kernel
theorem dX6_row_33 : decode cX6_row 33 = .ok (.getfield 32, 3) := by decide +kernel
theorem dX6_row_36 : decode cX6_row 36 = .ok (.iload_n 1, 1) := by decide +kernel
theorem dX6_row_37 : decode cX6_row 37 = .ok (.aaload, 1) := by decide +kernel
theorem dX6_row_38 : decode cX6_row 38 = .ok (.iload_n 2, 1) := by decide +kernel
theorem dX6_row_39 : decode cX6_row 39 = .ok (.iload_n 3, 1) := by decide +kernel
theorem dX6_row_40 : decode cX6_row 40 = .ok (.invokevirtual 390, 3) := by decide +kernel
theorem dX6_row_43 : decode cX6_row 43 = .ok (.iconst 0, 1) := by decide +kernel
theorem dX6_row_44 : decode cX6_row 44 = .ok (.ireturn, 1) := by decide +kernel
theorem dX6_write_0 : decode cX6_write 0 = .ok (.iload_n 1, 1) := by decide +kernel
theorem dX6_write_1 : decode cX6_write 1 = .ok (.invokestatic 278, 3) := by decide +kernel
theorem dX6_write_4 : decode cX6_write 4 = .ok (.ifCond .ne 6, 3) := by decide +kernel
theorem dX6_write_7 : decode cX6_write 7 = .ok (.bipush (-2), 2) := by decide +kernel
theorem dX6_write_9 : decode cX6_write 9 = .ok (.ireturn, 1) := by decide +kernel
theorem dX6_write_10 : decode cX6_write 10 = .ok (.aload_n 0, 1) := by decide +kernel
theorem dX6_write_11 : decode cX6_write 11 = .ok (.getfield 32, 3) := by decide +kernel
theorem dX6_write_14 : decode cX6_write 14 = .ok (.iload_n 1, 1) := by decide +kernel
theorem dX6_write_15 : decode cX6_write 15 = .ok (.aaload, 1) := by decide +kernel
theorem dX6_write_16 : decode cX6_write 16 = .ok (.astore 5, 2) := by decide +kernel
theorem dX6_write_18 : decode cX6_write 18 = .ok (.aload 5, 2) := by decide +kernel
theorem dX6_write_20 : decode cX6_write 20 = .ok (.getfield 281, 3) := by decide +kernel
theorem dX6_write_23 : decode cX6_write 23 = .ok (.ifCond .ne 6, 3) := by decide +kernel
theorem dX6_write_26 : decode cX6_write 26 = .ok (.bipush (-6), 2) := by decide +kernel
theorem dX6_write_28 : decode cX6_write 28 = .ok (.ireturn, 1) := by decide +kernel
theorem dX6_write_29 : decode cX6_write 29 = .ok (.iload_n 2, 1) := by decide +kernel
theorem dX6_write_30 : decode cX6_write 30 = .ok (.ifCond .lt 12, 3) := by decide +kernel
theorem dX6_write_33 : decode cX6_write 33 = .ok (.iload_n 2, 1) := by decide +kernel
theorem dX6_write_34 : decode cX6_write 34 = .ok (.aload 5, 2) := by decide +kernel
theorem dX6_write_36 : decode cX6_write 36 = .ok (.getfield 284, 3) := by decide +kernel
theorem dX6_write_39 : decode cX6_write 39 = .ok (.if_icmp .lt 6, 3) := by decide +kernel
theorem dX6_write_42 : decode cX6_write 42 = .ok (.bipush (-7), 2) := by decide +kernel
theorem dX6_write_44 : decode cX6_write 44 = .ok (.ireturn, 1) := by decide +kernel
theorem dX6_write_45 : decode cX6_write 45 = .ok (.aload 5, 2) := by decide +kernel
theorem dX6_write_47 : decode cX6_write 47 = .ok (.iload_n 2, 1) := by decide +kernel
theorem dX6_write_48 : decode cX6_write 48 = .ok (.lload_n 3, 1) := by decide +kernel
theorem dX6_write_49 : decode cX6_write 49 = .ok (.invokevirtual 394, 3) := by decide +kernel
theorem dX6_write_52 : decode cX6_write 52 = .ok (.iconst 0, 1) := by decide +kernel
theorem dX6_write_53 : decode cX6_write 53 = .ok (.ireturn, 1) := by decide +kernel
theorem dX6_paste_0 : decode cX6_paste 0 = .ok (.iload_n 1, 1) := by decide +kernel
theorem dX6_paste_1 : decode cX6_paste 1 = .ok (.invokestatic 278, 3) := by decide +kernel
theorem dX6_paste_4 : decode cX6_paste 4 = .ok (.ifCond .eq 10, 3) := by decide +kernel
theorem dX6_paste_7 : decode cX6_paste 7 = .ok (.iload_n 3, 1) := by decide +kernel
theorem dX6_paste_8 : decode cX6_paste 8 = .ok (.invokestatic 278, 3) := by decide +kernel
theorem dX6_paste_11 : decode cX6_paste 11 = .ok (.ifCond .ne 6, 3) := by decide +kernel
theorem dX6_paste_14 : decode cX6_paste 14 = .ok (.bipush (-2), 2) := by decide +kernel
theorem dX6_paste_16 : decode cX6_paste 16 = .ok (.ireturn, 1) := by decide +kernel
theorem dX6_paste_17 : decode cX6_paste 17 = .ok (.aload_n 0, 1) := by decide +kernel
theorem dX6_paste_18 : decode cX6_paste 18 = .ok (.getfield 32, 3) := by decide +kernel
theorem dX6_paste_21 : decode cX6_paste 21 = .ok (.iload_n 1, 1) := by decide +kernel
theorem dX6_paste_22 : decode cX6_paste 22 = .ok (.aaload, 1) := by decide +kernel
theorem dX6_paste_23 : decode cX6_paste 23 = .ok (.astore 6, 2) := by decide +kernel
theorem dX6_paste_25 : decode cX6_paste 25 = .ok (.aload_n 0, 1) := by decide +kernel
theorem dX6_paste_26 : decode cX6_paste 26 = .ok (.getfield 32, 3) := by decide +kernel
theorem dX6_paste_29 : decode cX6_paste 29 = .ok (.iload_n 3, 1) := by decide +kernel
theorem dX6_paste_30 : decode cX6_paste 30 = .ok (.aaload, 1) := by decide +kernel
theorem dX6_paste_31 : decode cX6_paste 31 = .ok (.astore 7, 2) := by decide +kernel
theorem dX6_paste_33 : decode cX6_paste 33 = .ok (.aload 6, 2) := by decide +kernel
theorem dX6_paste_35 : decode cX6_paste 35 = .ok (.getfield 281, 3) := by decide +kernel
theorem dX6_paste_38 : decode cX6_paste 38 = .ok (.ifCond .eq 11, 3) := by decide +kernel
theorem dX6_paste_41 : decode cX6_paste 41 = .ok (.aload 7, 2) := by decide +kernel
theorem dX6_paste_43 : decode cX6_paste 43 = .ok (.getfield 281, 3) := by decide +kernel
theorem dX6_paste_46 : decode cX6_paste 46 = .ok (.ifCond .ne 6, 3) := by decide +kernel
theorem dX6_paste_49 : decode cX6_paste 49 = .ok (.bipush (-6), 2) := by decide +kernel
theorem dX6_paste_51 : decode cX6_paste 51 = .ok (.ireturn, 1) := by decide +kernel
theorem dX6_paste_52 : decode cX6_paste 52 = .ok (.aload 6, 2) := by decide +kernel
theorem dX6_paste_54 : decode cX6_paste 54 = .ok (.getfield 397, 3) := by decide +kernel
theorem dX6_paste_57 : decode cX6_paste 57 = .ok (.aload 7, 2) := by decide +kernel
theorem dX6_paste_59 : decode cX6_paste 59 = .ok (.getfield 397, 3) := by decide +kernel
theorem dX6_paste_62 : decode cX6_paste 62 = .ok (.if_icmp .eq 6, 3) := by decide +kernel
theorem dX6_paste_65 : decode cX6_paste 65 = .ok (.bipush (-8), 2) := by decide +kernel
theorem dX6_paste_67 : decode cX6_paste 67 = .ok (.ireturn, 1) := by decide +kernel
theorem dX6_paste_68 : decode cX6_paste 68 = .ok (.aload 6, 2) := by decide +kernel
theorem dX6_paste_70 : decode cX6_paste 70 = .ok (.iload_n 2, 1) := by decide +kernel
theorem dX6_paste_71 : decode cX6_paste 71 = .ok (.iload 5, 2) := by decide +kernel
theorem dX6_paste_73 : decode cX6_paste 73 = .ok (.invokevirtual 400, 3) := by decide +kernel
theorem dX6_paste_76 : decode cX6_paste 76 = .ok (.ifCond .eq 15, 3) := by decide +kernel
theorem dX6_paste_79 : decode cX6_paste 79 = .ok (.aload 7, 2) := by decide +kernel
theorem dX6_paste_81 : decode cX6_paste 81 = .ok (.iload 4, 2) := by decide +kernel
theorem dX6_paste_83 : decode cX6_paste 83 = .ok (.iload 5, 2) := by decide +kernel
theorem dX6_paste_85 : decode cX6_paste 85 = .ok (.invokevirtual 400, 3) := by decide +kernel
theorem dX6_paste_88 : decode cX6_paste 88 = .ok (.ifCond .ne 6, 3) := by decide +kernel
theorem dX6_paste_91 : decode cX6_paste 91 = .ok (.bipush (-7), 2) := by decide +kernel
theorem dX6_paste_93 : decode cX6_paste 93 = .ok (.ireturn, 1) := by decide +kernel
theorem dX6_paste_94 : decode cX6_paste 94 = .ok (.aload 6, 2) := by decide +kernel
theorem dX6_paste_96 : decode cX6_paste 96 = .ok (.getfield 403, 3) := by decide +kernel
theorem dX6_paste_99 : decode cX6_paste 99 = .ok (.iload_n 2, 1) := by decide +kernel
theorem dX6_paste_100 : decode cX6_paste 100 = .ok (.aload 7, 2) := by decide +kernel
theorem dX6_paste_102 : decode cX6_paste 102 = .ok (.getfield 403, 3) := by decide +kernel
theorem dX6_paste_105 : decode cX6_paste 105 = .ok (.iload 4, 2) := by decide +kernel
theorem dX6_paste_107 : decode cX6_paste 107 = .ok (.iload 5, 2) := by decide +kernel
theorem dX6_paste_109 : decode cX6_paste 109 = .ok (.invokestatic 407, 3) := by decide +kernel
theorem dX6_paste_112 : decode cX6_paste 112 = .ok (.iconst 0, 1) := by decide +kernel
theorem dX6_paste_113 : decode cX6_paste 113 = .ok (.ireturn, 1) := by decide +kernel
theorem dX6_hasCell_0 : decode cX6_hasCell 0 = .ok (.iload_n 1, 1) := by decide +kernel
theorem dX6_hasCell_1 : decode cX6_hasCell 1 = .ok (.ifCond .lt 18, 3) := by decide +kernel
theorem dX6_hasCell_4 : decode cX6_hasCell 4 = .ok (.iload_n 1, 1) := by decide +kernel
theorem dX6_hasCell_5 : decode cX6_hasCell 5 = .ok (.aload_n 0, 1) := by decide +kernel
theorem dX6_hasCell_6 : decode cX6_hasCell 6 = .ok (.getfield 19, 3) := by decide +kernel
theorem dX6_hasCell_9 : decode cX6_hasCell 9 = .ok (.getfield 226, 3) := by decide +kernel
theorem dX6_hasCell_12 : decode cX6_hasCell 12 = .ok (.if_icmp .ge 7, 3) := by decide +kernel
theorem dX6_hasCell_15 : decode cX6_hasCell 15 = .ok (.iconst 1, 1) := by decide +kernel
theorem dX6_hasCell_16 : decode cX6_hasCell 16 = .ok (.goto 4, 3) := by decide +kernel
theorem dX6_hasCell_19 : decode cX6_hasCell 19 = .ok (.iconst 0, 1) := by decide +kernel
theorem dX6_hasCell_20 : decode cX6_hasCell 20 = .ok (.ireturn, 1) := by decide +kernel
theorem dX6_hasTick_0 : decode cX6_hasTick 0 = .ok (.aload_n 0, 1) := by decide +kernel
theorem dX6_hasTick_1 : decode cX6_hasTick 1 = .ok (.getfield 19, 3) := by decide +kernel
theorem dX6_hasTick_4 : decode cX6_hasTick 4 = .ok (.invokevirtual 245, 3) := by decide +kernel
theorem dX6_hasTick_7 : decode cX6_hasTick 7 = .ok (.ifCond .eq 22, 3) := by decide +kernel
theorem dX6_hasTick_10 : decode cX6_hasTick 10 = .ok (.iload_n 1, 1) := by decide +kernel
theorem dX6_hasTick_11 : decode cX6_hasTick 11 = .ok (.ifCond .lt 18, 3) := by decide +kernel
theorem dX6_hasTick_14 : decode cX6_hasTick 14 = .ok (.iload_n 1, 1) := by decide +kernel
theorem dX6_hasTick_15 : decode cX6_hasTick 15 = .ok (.aload_n 0, 1) := by decide +kernel
theorem dX6_hasTick_16 : decode cX6_hasTick 16 = .ok (.getfield 19, 3) := by decide +kernel
theorem dX6_hasTick_19 : decode cX6_hasTick 19 = .ok (.invokevirtual 249, 3) := by decide +kernel
theorem dX6_hasTick_22 : decode cX6_hasTick 22 = .ok (.if_icmp .gt 7, 3) := by decide +kernel
theorem dX6_hasTick_25 : decode cX6_hasTick 25 = .ok (.iconst 1, 1) := by decide +kernel
theorem dX6_hasTick_26 : decode cX6_hasTick 26 = .ok (.goto 4, 3) := by decide +kernel
theorem dX6_hasTick_29 : decode cX6_hasTick 29 = .ok (.iconst 0, 1) := by decide +kernel
theorem dX6_hasTick_30 : decode cX6_hasTick 30 = .ok (.ireturn, 1) := by decide +kernel
theorem dX6_hasEvent_0 : decode cX6_hasEvent 0 = .ok (.iload_n 1, 1) := by decide +kernel
theorem dX6_hasEvent_1 : decode cX6_hasEvent 1 = .ok (.ifCond .lt 18, 3) := by decide +kernel
theorem dX6_hasEvent_4 : decode cX6_hasEvent 4 = .ok (.iload_n 1, 1) := by decide +kernel
theorem dX6_hasEvent_5 : decode cX6_hasEvent 5 = .ok (.aload_n 0, 1) := by decide +kernel
theorem dX6_hasEvent_6 : decode cX6_hasEvent 6 = .ok (.getfield 19, 3) := by decide +kernel
theorem dX6_hasEvent_9 : decode cX6_hasEvent 9 = .ok (.invokevirtual 249, 3) := by decide +kernel
theorem dX6_hasEvent_12 : decode cX6_hasEvent 12 = .ok (.if_icmp .ge 7, 3) := by decide +kernel
theorem dX6_hasEvent_15 : decode cX6_hasEvent 15 = .ok (.iconst 1, 1) := by decide +kernel
theorem dX6_hasEvent_16 : decode cX6_hasEvent 16 = .ok (.goto 4, 3) := by decide +kernel
theorem dX6_hasEvent_19 : decode cX6_hasEvent 19 = .ok (.iconst 0, 1) := by decide +kernel
theorem dX6_hasEvent_20 : decode cX6_hasEvent 20 = .ok (.ireturn, 1) := by decide +kernel
theorem dX6_isTold_0 : decode cX6_isTold 0 = .ok (.iload_n 1, 1) := by decide +kernel
theorem dX6_isTold_1 : decode cX6_isTold 1 = .ok (.ifCond .lt 18, 3) := by decide +kernel
theorem dX6_isTold_4 : decode cX6_isTold 4 = .ok (.iload_n 1, 1) := by decide +kernel
theorem dX6_isTold_5 : decode cX6_isTold 5 = .ok (.aload_n 0, 1) := by decide +kernel
theorem dX6_isTold_6 : decode cX6_isTold 6 = .ok (.getfield 19, 3) := by decide +kernel
theorem dX6_isTold_9 : decode cX6_isTold 9 = .ok (.getfield 268, 3) := by decide +kernel
theorem dX6_isTold_12 : decode cX6_isTold 12 = .ok (.if_icmp .ge 7, 3) := by decide +kernel
theorem dX6_isTold_15 : decode cX6_isTold 15 = .ok (.iconst 1, 1) := by decide +kernel
theorem dX6_isTold_16 : decode cX6_isTold 16 = .ok (.goto 4, 3) := by decide +kernel
theorem dX6_isTold_19 : decode cX6_isTold 19 = .ok (.iconst 0, 1) := by decide +kernel
theorem dX6_isTold_20 : decode cX6_isTold 20 = .ok (.ireturn, 1) := by decide +kernel
theorem dX6_hasLevel_0 : decode cX6_hasLevel 0 = .ok (.iload_n 0, 1) := by decide +kernel
theorem dX6_hasLevel_1 : decode cX6_hasLevel 1 = .ok (.ifCond .lt 12, 3) := by decide +kernel
theorem dX6_hasLevel_4 : decode cX6_hasLevel 4 = .ok (.iload_n 0, 1) := by decide +kernel
theorem dX6_hasLevel_5 : decode cX6_hasLevel 5 = .ok (.iconst 5, 1) := by decide +kernel
theorem dX6_hasLevel_6 : decode cX6_hasLevel 6 = .ok (.if_icmp .gt 7, 3) := by decide +kernel
theorem dX6_hasLevel_9 : decode cX6_hasLevel 9 = .ok (.iconst 1, 1) := by decide +kernel
theorem dX6_hasLevel_10 : decode cX6_hasLevel 10 = .ok (.goto 4, 3) := by decide +kernel
theorem dX6_hasLevel_13 : decode cX6_hasLevel 13 = .ok (.iconst 0, 1) := by decide +kernel
theorem dX6_hasLevel_14 : decode cX6_hasLevel 14 = .ok (.ireturn, 1) := by decide +kernel
theorem dX6_hasSlot_0 : decode cX6_hasSlot 0 = .ok (.iload_n 0, 1) := by decide +kernel
theorem dX6_hasSlot_1 : decode cX6_hasSlot 1 = .ok (.ifCond .lt 12, 3) := by decide +kernel
theorem dX6_hasSlot_4 : decode cX6_hasSlot 4 = .ok (.iload_n 0, 1) := by decide +kernel
theorem dX6_hasSlot_5 : decode cX6_hasSlot 5 = .ok (.iconst 4, 1) := by decide +kernel
theorem dX6_hasSlot_6 : decode cX6_hasSlot 6 = .ok (.if_icmp .ge 7, 3) := by decide +kernel
theorem dX6_hasSlot_9 : decode cX6_hasSlot 9 = .ok (.iconst 1, 1) := by decide +kernel
theorem dX6_hasSlot_10 : decode cX6_hasSlot 10 = .ok (.goto 4, 3) := by decide +kernel
theorem dX6_hasSlot_13 : decode cX6_hasSlot 13 = .ok (.iconst 0, 1) := by decide +kernel
theorem dX6_hasSlot_14 : decode cX6_hasSlot 14 = .ok (.ireturn, 1) := by decide +kernel
theorem dX6_isSeed_0 : decode cX6_isSeed 0 = .ok (.iload_n 0, 1) := by decide +kernel
theorem dX6_isSeed_1 : decode cX6_isSeed 1 = .ok (.ifCond .lt 14, 3) := by decide +kernel
theorem dX6_isSeed_4 : decode cX6_isSeed 4 = .ok (.iload_n 0, 1) := by decide +kernel
theorem dX6_isSeed_5 : decode cX6_isSeed 5 = .ok (.ldc_w 413, 3) := by decide +kernel
theorem dX6_isSeed_8 : decode cX6_isSeed 8 = .ok (.if_icmp .gt 7, 3) := by decide +kernel
theorem dX6_isSeed_11 : decode cX6_isSeed 11 = .ok (.iconst 1, 1) := by decide +kernel
theorem dX6_isSeed_12 : decode cX6_isSeed 12 = .ok (.goto 4, 3) := by decide +kernel
theorem dX6_isSeed_15 : decode cX6_isSeed 15 = .ok (.iconst 0, 1) := by decide +kernel
theorem dX6_isSeed_16 : decode cX6_isSeed 16 = .ok (.ireturn, 1) := by decide +kernel
theorem dX6_isUpTo_0 : decode cX6_isUpTo 0 = .ok (.lload_n 0, 1) := by decide +kernel
theorem dX6_isUpTo_1 : decode cX6_isUpTo 1 = .ok (.lconst 0, 1) := by decide +kernel
theorem dX6_isUpTo_2 : decode cX6_isUpTo 2 = .ok (.lcmp, 1) := by decide +kernel
theorem dX6_isUpTo_3 : decode cX6_isUpTo 3 = .ok (.ifCond .lt 14, 3) := by decide +kernel
theorem dX6_isUpTo_6 : decode cX6_isUpTo 6 = .ok (.lload_n 0, 1) := by decide +kernel
theorem dX6_isUpTo_7 : decode cX6_isUpTo 7 = .ok (.iload_n 2, 1) := by decide +kernel
theorem dX6_isUpTo_8 : decode cX6_isUpTo 8 = .ok (.i2l, 1) := by decide +kernel
theorem dX6_isUpTo_9 : decode cX6_isUpTo 9 = .ok (.lcmp, 1) := by decide +kernel
theorem dX6_isUpTo_10 : decode cX6_isUpTo 10 = .ok (.ifCond .gt 7, 3) := by decide +kernel
theorem dX6_isUpTo_13 : decode cX6_isUpTo 13 = .ok (.iconst 1, 1) := by decide +kernel
theorem dX6_isUpTo_14 : decode cX6_isUpTo 14 = .ok (.goto 4, 3) := by decide +kernel
theorem dX6_isUpTo_17 : decode cX6_isUpTo 17 = .ok (.iconst 0, 1) := by decide +kernel
theorem dX6_isUpTo_18 : decode cX6_isUpTo 18 = .ok (.ireturn, 1) := by decide +kernel
theorem dX6_isOut_0 : decode cX6_isOut 0 = .ok (.lload_n 0, 1) := by decide +kernel
theorem dX6_isOut_1 : decode cX6_isOut 1 = .ok (.iload_n 2, 1) := by decide +kernel
theorem dX6_isOut_2 : decode cX6_isOut 2 = .ok (.lshr, 1) := by decide +kernel
theorem dX6_isOut_3 : decode cX6_isOut 3 = .ok (.lconst 1, 1) := by decide +kernel
theorem dX6_isOut_4 : decode cX6_isOut 4 = .ok (.land, 1) := by decide +kernel
theorem dX6_isOut_5 : decode cX6_isOut 5 = .ok (.lconst 0, 1) := by decide +kernel
theorem dX6_isOut_6 : decode cX6_isOut 6 = .ok (.lcmp, 1) := by decide +kernel
theorem dX6_isOut_7 : decode cX6_isOut 7 = .ok (.ifCond .eq 7, 3) := by decide +kernel
theorem dX6_isOut_10 : decode cX6_isOut 10 = .ok (.iconst 1, 1) := by decide +kernel
theorem dX6_isOut_11 : decode cX6_isOut 11 = .ok (.goto 4, 3) := by decide +kernel
theorem dX6_isOut_14 : decode cX6_isOut 14 = .ok (.iconst 0, 1) := by decide +kernel
theorem dX6_isOut_15 : decode cX6_isOut 15 = .ok (.ireturn, 1) := by decide +kernel
theorem dX6_holds_0 : decode cX6_holds 0 = .ok (.iload_n 0, 1) := by decide +kernel
theorem dX6_holds_1 : decode cX6_holds 1 = .ok (.iload_n 1, 1) := by decide +kernel
theorem dX6_holds_2 : decode cX6_holds 2 = .ok (.ishr, 1) := by decide +kernel
theorem dX6_holds_3 : decode cX6_holds 3 = .ok (.iconst 1, 1) := by decide +kernel
theorem dX6_holds_4 : decode cX6_holds 4 = .ok (.iand, 1) := by decide +kernel
theorem dX6_holds_5 : decode cX6_holds 5 = .ok (.ifCond .eq 7, 3) := by decide +kernel
theorem dX6_holds_8 : decode cX6_holds 8 = .ok (.iconst 1, 1) := by decide +kernel
theorem dX6_holds_9 : decode cX6_holds 9 = .ok (.goto 4, 3) := by decide +kernel
theorem dX6_holds_12 : decode cX6_holds 12 = .ok (.iconst 0, 1) := by decide +kernel
theorem dX6_holds_13 : decode cX6_holds 13 = .ok (.ireturn, 1) := by decide +kernel
theorem dX6_copyAtLast_0 : decode cX6_copyAtLast 0 = .ok (.aload_n 0, 1) := by decide +kernel
theorem dX6_copyAtLast_1 : decode cX6_copyAtLast 1 = .ok (.aload_n 0, 1) := by decide +kernel
theorem dX6_copyAtLast_2 : decode cX6_copyAtLast 2 = .ok (.getfield 19, 3) := by decide +kernel
theorem dX6_copyAtLast_5 : decode cX6_copyAtLast 5 = .ok (.invokevirtual 249, 3) := by decide +kernel
theorem dX6_copyAtLast_8 : decode cX6_copyAtLast 8 = .ok (.invokevirtual 108, 3) := by decide +kernel
theorem dX6_copyAtLast_11 : decode cX6_copyAtLast 11 = .ok (.aload_n 0, 1) := by decide +kernel
theorem dX6_copyAtLast_12 : decode cX6_copyAtLast 12 = .ok (.getfield 39, 3) := by decide +kernel
theorem dX6_copyAtLast_15 : decode cX6_copyAtLast 15 = .ok (.iload_n 1, 1) := by decide +kernel
theorem dX6_copyAtLast_16 : decode cX6_copyAtLast 16 = .ok (.invokevirtual 199, 3) := by decide +kernel
theorem dX6_copyAtLast_19 : decode cX6_copyAtLast 19 = .ok (.areturn, 1) := by decide +kernel
theorem dX6_playAnew_0 : decode cX6_playAnew 0 = .ok (.aload_n 0, 1) := by decide +kernel
theorem dX6_playAnew_1 : decode cX6_playAnew 1 = .ok (.getfield 39, 3) := by decide +kernel
theorem dX6_playAnew_4 : decode cX6_playAnew 4 = .ok (.aload_n 0, 1) := by decide +kernel
theorem dX6_playAnew_5 : decode cX6_playAnew 5 = .ok (.getfield 19, 3) := by decide +kernel
theorem dX6_playAnew_8 : decode cX6_playAnew 8 = .ok (.getfield 226, 3) := by decide +kernel
theorem dX6_playAnew_11 : decode cX6_playAnew 11 = .ok (.aload_n 0, 1) := by decide +kernel
theorem dX6_playAnew_12 : decode cX6_playAnew 12 = .ok (.getfield 19, 3) := by decide +kernel
theorem dX6_playAnew_15 : decode cX6_playAnew 15 = .ok (.getfield 326, 3) := by decide +kernel
theorem dX6_playAnew_18 : decode cX6_playAnew 18 = .ok (.invokevirtual 414, 3) := by decide +kernel
theorem dX6_playAnew_21 : decode cX6_playAnew 21 = .ok (.return_, 1) := by decide +kernel
theorem dX6_playTo_0 : decode cX6_playTo 0 = .ok (.iload_n 1, 1) := by decide +kernel
theorem dX6_playTo_1 : decode cX6_playTo 1 = .ok (.aload_n 0, 1) := by decide +kernel
theorem dX6_playTo_2 : decode cX6_playTo 2 = .ok (.getfield 39, 3) := by decide +kernel
theorem dX6_playTo_5 : decode cX6_playTo 5 = .ok (.getfield 416, 3) := by decide +kernel
theorem dX6_playTo_8 : decode cX6_playTo 8 = .ok (.if_icmp .ge 7, 3) := by decide +kernel
theorem dX6_playTo_11 : decode cX6_playTo 11 = .ok (.aload_n 0, 1) := by decide +kernel
theorem dX6_playTo_12 : decode cX6_playTo 12 = .ok (.invokevirtual 84, 3) := by decide +kernel
theorem dX6_playTo_15 : decode cX6_playTo 15 = .ok (.aload_n 0, 1) := by decide +kernel
theorem dX6_playTo_16 : decode cX6_playTo 16 = .ok (.getfield 39, 3) := by decide +kernel
theorem dX6_playTo_19 : decode cX6_playTo 19 = .ok (.getfield 416, 3) := by decide +kernel
theorem dX6_playTo_22 : decode cX6_playTo 22 = .ok (.istore_n 2, 1) := by decide +kernel
theorem dX6_playTo_23 : decode cX6_playTo 23 = .ok (.iload_n 2, 1) := by decide +kernel
theorem dX6_playTo_24 : decode cX6_playTo 24 = .ok (.iload_n 1, 1) := by decide +kernel
theorem dX6_playTo_25 : decode cX6_playTo 25 = .ok (.if_icmp .ge 27, 3) := by decide +kernel
theorem dX6_playTo_28 : decode cX6_playTo 28 = .ok (.iload_n 2, 1) := by decide +kernel
theorem dX6_playTo_29 : decode cX6_playTo 29 = .ok (.bipush 60, 2) := by decide +kernel
theorem dX6_playTo_31 : decode cX6_playTo 31 = .ok (.if_icmp .ge 21, 3) := by decide +kernel
theorem dX6_playTo_34 : decode cX6_playTo 34 = .ok (.aload_n 0, 1) := by decide +kernel
theorem dX6_playTo_35 : decode cX6_playTo 35 = .ok (.getfield 39, 3) := by decide +kernel
theorem dX6_playTo_38 : decode cX6_playTo 38 = .ok (.aload_n 0, 1) := by decide +kernel
theorem dX6_playTo_39 : decode cX6_playTo 39 = .ok (.getfield 19, 3) := by decide +kernel
theorem dX6_playTo_42 : decode cX6_playTo 42 = .ok (.iload_n 2, 1) := by decide +kernel
theorem dX6_playTo_43 : decode cX6_playTo 43 = .ok (.invokevirtual 419, 3) := by decide +kernel
theorem dX6_playTo_46 : decode cX6_playTo 46 = .ok (.iinc 2 1, 3) := by decide +kernel
theorem dX6_playTo_49 : decode cX6_playTo 49 = .ok (.goto (-26), 3) := by decide +kernel
theorem dX6_playTo_52 : decode cX6_playTo 52 = .ok (.return_, 1) := by decide +kernel
theorem dX6_regionCells_0 : decode cX6_regionCells 0 = .ok (.lconst 1, 1) := by decide +kernel
theorem dX6_regionCells_1 : decode cX6_regionCells 1 = .ok (.iconst 1, 1) := by decide +kernel
theorem dX6_regionCells_2 : decode cX6_regionCells 2 = .ok (.iload_n 0, 1) := by decide +kernel
theorem dX6_regionCells_3 : decode cX6_regionCells 3 = .ok (.ishl, 1) := by decide +kernel
theorem dX6_regionCells_4 : decode cX6_regionCells 4 = .ok (.lshl, 1) := by decide +kernel
theorem dX6_regionCells_5 : decode cX6_regionCells 5 = .ok (.lconst 1, 1) := by decide +kernel
theorem dX6_regionCells_6 : decode cX6_regionCells 6 = .ok (.lsub, 1) := by decide +kernel
theorem dX6_regionCells_7 : decode cX6_regionCells 7 = .ok (.iload_n 1, 1) := by decide +kernel
theorem dX6_regionCells_8 : decode cX6_regionCells 8 = .ok (.iload_n 0, 1) := by decide +kernel
theorem dX6_regionCells_9 : decode cX6_regionCells 9 = .ok (.ishl, 1) := by decide +kernel
theorem dX6_regionCells_10 : decode cX6_regionCells 10 = .ok (.lshl, 1) := by decide +kernel
theorem dX6_regionCells_11 : decode cX6_regionCells 11 = .ok (.l2i, 1) := by decide +kernel
theorem dX6_regionCells_12 : decode cX6_regionCells 12 = .ok (.ireturn, 1) := by decide +kernel
theorem dX6_dirtyRegions_0 : decode cX6_dirtyRegions 0 = .ok (.iconst 0, 1) := by decide +kernel
theorem dX6_dirtyRegions_1 : decode cX6_dirtyRegions 1 = .ok (.istore_n 2, 1) := by decide +kernel
theorem dX6_dirtyRegions_2 : decode cX6_dirtyRegions 2 = .ok (.iconst 0, 1) := by decide +kernel
theorem dX6_dirtyRegions_3 : decode cX6_dirtyRegions 3 = .ok (.istore_n 3, 1) := by decide +kernel
theorem dX6_dirtyRegions_4 : decode cX6_dirtyRegions 4 = .ok (.iload_n 3, 1) := by decide +kernel
theorem dX6_dirtyRegions_5 : decode cX6_dirtyRegions 5 = .ok (.bipush 32, 2) := by decide +kernel
theorem dX6_dirtyRegions_7 : decode cX6_dirtyRegions 7 = .ok (.iload_n 0, 1) := by decide +kernel
theorem dX6_dirtyRegions_8 : decode cX6_dirtyRegions 8 = .ok (.ishr, 1) := by decide +kernel
theorem dX6_dirtyRegions_9 : decode cX6_dirtyRegions 9 = .ok (.if_icmp .ge 22, 3) := by decide +kernel
theorem dX6_dirtyRegions_12 : decode cX6_dirtyRegions 12 = .ok (.iload_n 1, 1) := by decide +kernel
theorem dX6_dirtyRegions_13 : decode cX6_dirtyRegions 13 = .ok (.iload_n 0, 1) := by decide +kernel
theorem dX6_dirtyRegions_14 : decode cX6_dirtyRegions 14 = .ok (.iload_n 3, 1) := by decide +kernel
theorem dX6_dirtyRegions_15 : decode cX6_dirtyRegions 15 = .ok (.invokestatic 150, 3) := by decide +kernel
theorem dX6_dirtyRegions_18 : decode cX6_dirtyRegions 18 = .ok (.iand, 1) := by decide +kernel
theorem dX6_dirtyRegions_19 : decode cX6_dirtyRegions 19 = .ok (.ifCond .eq 6, 3) := by decide +kernel
theorem dX6_dirtyRegions_22 : decode cX6_dirtyRegions 22 = .ok (.iinc 2 1, 3) := by decide +kernel
theorem dX6_dirtyRegions_25 : decode cX6_dirtyRegions 25 = .ok (.iinc 3 1, 3) := by decide +kernel
theorem dX6_dirtyRegions_28 : decode cX6_dirtyRegions 28 = .ok (.goto (-24), 3) := by decide +kernel
theorem dX6_dirtyRegions_31 : decode cX6_dirtyRegions 31 = .ok (.iload_n 2, 1) := by decide +kernel
theorem dX6_dirtyRegions_32 : decode cX6_dirtyRegions 32 = .ok (.ireturn, 1) := by decide +kernel
theorem dX6_factorial_0 : decode cX6_factorial 0 = .ok (.lconst 1, 1) := by decide +kernel
theorem dX6_factorial_1 : decode cX6_factorial 1 = .ok (.lstore_n 1, 1) := by decide +kernel
theorem dX6_factorial_2 : decode cX6_factorial 2 = .ok (.iconst 2, 1) := by decide +kernel
theorem dX6_factorial_3 : decode cX6_factorial 3 = .ok (.istore_n 3, 1) := by decide +kernel
theorem dX6_factorial_4 : decode cX6_factorial 4 = .ok (.iload_n 3, 1) := by decide +kernel
theorem dX6_factorial_5 : decode cX6_factorial 5 = .ok (.iload_n 0, 1) := by decide +kernel
theorem dX6_factorial_6 : decode cX6_factorial 6 = .ok (.if_icmp .gt 14, 3) := by decide +kernel
theorem dX6_factorial_9 : decode cX6_factorial 9 = .ok (.lload_n 1, 1) := by decide +kernel
theorem dX6_factorial_10 : decode cX6_factorial 10 = .ok (.iload_n 3, 1) := by decide +kernel
theorem dX6_factorial_11 : decode cX6_factorial 11 = .ok (.i2l, 1) := by decide +kernel
theorem dX6_factorial_12 : decode cX6_factorial 12 = .ok (.lmul, 1) := by decide +kernel
theorem dX6_factorial_13 : decode cX6_factorial 13 = .ok (.lstore_n 1, 1) := by decide +kernel
theorem dX6_factorial_14 : decode cX6_factorial 14 = .ok (.iinc 3 1, 3) := by decide +kernel
theorem dX6_factorial_17 : decode cX6_factorial 17 = .ok (.goto (-13), 3) := by decide +kernel
theorem dX6_factorial_20 : decode cX6_factorial 20 = .ok (.lload_n 1, 1) := by decide +kernel
theorem dX6_factorial_21 : decode cX6_factorial 21 = .ok (.lreturn, 1) := by decide +kernel
theorem dX6_power_0 : decode cX6_power 0 = .ok (.lconst 1, 1) := by decide +kernel
theorem dX6_power_1 : decode cX6_power 1 = .ok (.lstore_n 2, 1) := by decide +kernel
theorem dX6_power_2 : decode cX6_power 2 = .ok (.iconst 0, 1) := by decide +kernel
theorem dX6_power_3 : decode cX6_power 3 = .ok (.istore 4, 2) := by decide +kernel
theorem dX6_power_5 : decode cX6_power 5 = .ok (.iload 4, 2) := by decide +kernel
theorem dX6_power_7 : decode cX6_power 7 = .ok (.iload_n 1, 1) := by decide +kernel
theorem dX6_power_8 : decode cX6_power 8 = .ok (.if_icmp .ge 14, 3) := by decide +kernel
theorem dX6_power_11 : decode cX6_power 11 = .ok (.lload_n 2, 1) := by decide +kernel
theorem dX6_power_12 : decode cX6_power 12 = .ok (.iload_n 0, 1) := by decide +kernel
theorem dX6_power_13 : decode cX6_power 13 = .ok (.i2l, 1) := by decide +kernel
theorem dX6_power_14 : decode cX6_power 14 = .ok (.lmul, 1) := by decide +kernel
theorem dX6_power_15 : decode cX6_power 15 = .ok (.lstore_n 2, 1) := by decide +kernel
theorem dX6_power_16 : decode cX6_power 16 = .ok (.iinc 4 1, 3) := by decide +kernel
theorem dX6_power_19 : decode cX6_power 19 = .ok (.goto (-14), 3) := by decide +kernel
theorem dX6_power_22 : decode cX6_power 22 = .ok (.lload_n 2, 1) := by decide +kernel
theorem dX6_power_23 : decode cX6_power 23 = .ok (.lreturn, 1) := by decide +kernel
theorem dX6_lowest_0 : decode cX6_lowest 0 = .ok (.lload_n 0, 1) := by decide +kernel
theorem dX6_lowest_1 : decode cX6_lowest 1 = .ok (.invokestatic 423, 3) := by decide +kernel
theorem dX6_lowest_4 : decode cX6_lowest 4 = .ok (.lstore 5, 2) := by decide +kernel
theorem dX6_lowest_6 : decode cX6_lowest 6 = .ok (.lload_n 2, 1) := by decide +kernel
theorem dX6_lowest_7 : decode cX6_lowest 7 = .ok (.lstore 7, 2) := by decide +kernel
theorem dX6_lowest_9 : decode cX6_lowest 9 = .ok (.iconst 0, 1) := by decide +kernel
theorem dX6_lowest_10 : decode cX6_lowest 10 = .ok (.istore 9, 2) := by decide +kernel
theorem dX6_lowest_12 : decode cX6_lowest 12 = .ok (.iload 9, 2) := by decide +kernel
theorem dX6_lowest_14 : decode cX6_lowest 14 = .ok (.bipush 100, 2) := by decide +kernel
theorem dX6_lowest_16 : decode cX6_lowest 16 = .ok (.if_icmp .ge 31, 3) := by decide +kernel
theorem dX6_lowest_19 : decode cX6_lowest 19 = .ok (.lload 5, 2) := by decide +kernel
theorem dX6_lowest_21 : decode cX6_lowest 21 = .ok (.lconst 0, 1) := by decide +kernel
theorem dX6_lowest_22 : decode cX6_lowest 22 = .ok (.lcmp, 1) := by decide +kernel
theorem dX6_lowest_23 : decode cX6_lowest 23 = .ok (.ifCond .eq 24, 3) := by decide +kernel
theorem dX6_lowest_26 : decode cX6_lowest 26 = .ok (.lload 7, 2) := by decide +kernel
theorem dX6_lowest_28 : decode cX6_lowest 28 = .ok (.lload 5, 2) := by decide +kernel
theorem dX6_lowest_30 : decode cX6_lowest 30 = .ok (.lrem, 1) := by decide +kernel
theorem dX6_lowest_31 : decode cX6_lowest 31 = .ok (.lstore 10, 2) := by decide +kernel
theorem dX6_lowest_33 : decode cX6_lowest 33 = .ok (.lload 5, 2) := by decide +kernel
theorem dX6_lowest_35 : decode cX6_lowest 35 = .ok (.lstore 7, 2) := by decide +kernel
theorem dX6_lowest_37 : decode cX6_lowest 37 = .ok (.lload 10, 2) := by decide +kernel
theorem dX6_lowest_39 : decode cX6_lowest 39 = .ok (.lstore 5, 2) := by decide +kernel
theorem dX6_lowest_41 : decode cX6_lowest 41 = .ok (.iinc 9 1, 3) := by decide +kernel
theorem dX6_lowest_44 : decode cX6_lowest 44 = .ok (.goto (-32), 3) := by decide +kernel
theorem dX6_lowest_47 : decode cX6_lowest 47 = .ok (.lload 7, 2) := by decide +kernel
theorem dX6_lowest_49 : decode cX6_lowest 49 = .ok (.lconst 0, 1) := by decide +kernel
theorem dX6_lowest_50 : decode cX6_lowest 50 = .ok (.lcmp, 1) := by decide +kernel
theorem dX6_lowest_51 : decode cX6_lowest 51 = .ok (.ifCond .ne 5, 3) := by decide +kernel
theorem dX6_lowest_54 : decode cX6_lowest 54 = .ok (.lconst 0, 1) := by decide +kernel
theorem dX6_lowest_55 : decode cX6_lowest 55 = .ok (.lreturn, 1) := by decide +kernel
theorem dX6_lowest_56 : decode cX6_lowest 56 = .ok (.iload 4, 2) := by decide +kernel
theorem dX6_lowest_58 : decode cX6_lowest 58 = .ok (.ifCond .ne 10, 3) := by decide +kernel
theorem dX6_lowest_61 : decode cX6_lowest 61 = .ok (.lload_n 0, 1) := by decide +kernel
theorem dX6_lowest_62 : decode cX6_lowest 62 = .ok (.lload 7, 2) := by decide +kernel
theorem dX6_lowest_64 : decode cX6_lowest 64 = .ok (.ldiv, 1) := by decide +kernel
theorem dX6_lowest_65 : decode cX6_lowest 65 = .ok (.goto 7, 3) := by decide +kernel
theorem dX6_lowest_68 : decode cX6_lowest 68 = .ok (.lload_n 2, 1) := by decide +kernel
theorem dX6_lowest_69 : decode cX6_lowest 69 = .ok (.lload 7, 2) := by decide +kernel
theorem dX6_lowest_71 : decode cX6_lowest 71 = .ok (.ldiv, 1) := by decide +kernel
theorem dX6_lowest_72 : decode cX6_lowest 72 = .ok (.lreturn, 1) := by decide +kernel
theorem dX6_fits_0 : decode cX6_fits 0 = .ok (.iload_n 2, 1) := by decide +kernel
theorem dX6_fits_1 : decode cX6_fits 1 = .ok (.ifCond .ne 43, 3) := by decide +kernel
theorem dX6_fits_4 : decode cX6_fits 4 = .ok (.iload_n 1, 1) := by decide +kernel
theorem dX6_fits_5 : decode cX6_fits 5 = .ok (.bipush 6, 2) := by decide +kernel
theorem dX6_fits_7 : decode cX6_fits 7 = .ok (.if_icmp .ne 22, 3) := by decide +kernel
theorem dX6_fits_10 : decode cX6_fits 10 = .ok (.iload_n 3, 1) := by decide +kernel
theorem dX6_fits_11 : decode cX6_fits 11 = .ok (.iconst 1, 1) := by decide +kernel
theorem dX6_fits_12 : decode cX6_fits 12 = .ok (.if_icmp .lt 13, 3) := by decide +kernel
theorem dX6_fits_15 : decode cX6_fits 15 = .ok (.iload_n 3, 1) := by decide +kernel
theorem dX6_fits_16 : decode cX6_fits 16 = .ok (.bipush 32, 2) := by decide +kernel
theorem dX6_fits_18 : decode cX6_fits 18 = .ok (.if_icmp .gt 7, 3) := by decide +kernel
theorem dX6_fits_21 : decode cX6_fits 21 = .ok (.iconst 1, 1) := by decide +kernel
theorem dX6_fits_22 : decode cX6_fits 22 = .ok (.goto 21, 3) := by decide +kernel
theorem dX6_fits_25 : decode cX6_fits 25 = .ok (.iconst 0, 1) := by decide +kernel
theorem dX6_fits_26 : decode cX6_fits 26 = .ok (.goto 17, 3) := by decide +kernel
theorem dX6_fits_29 : decode cX6_fits 29 = .ok (.iload_n 3, 1) := by decide +kernel
theorem dX6_fits_30 : decode cX6_fits 30 = .ok (.ifCond .lt 12, 3) := by decide +kernel
theorem dX6_fits_33 : decode cX6_fits 33 = .ok (.iload_n 3, 1) := by decide +kernel
theorem dX6_fits_34 : decode cX6_fits 34 = .ok (.iload_n 0, 1) := by decide +kernel
theorem dX6_fits_35 : decode cX6_fits 35 = .ok (.if_icmp .ge 7, 3) := by decide +kernel
theorem dX6_fits_38 : decode cX6_fits 38 = .ok (.iconst 1, 1) := by decide +kernel
theorem dX6_fits_39 : decode cX6_fits 39 = .ok (.goto 4, 3) := by decide +kernel
theorem dX6_fits_42 : decode cX6_fits 42 = .ok (.iconst 0, 1) := by decide +kernel
theorem dX6_fits_43 : decode cX6_fits 43 = .ok (.ireturn, 1) := by decide +kernel
theorem dX6_fits_44 : decode cX6_fits 44 = .ok (.iload_n 2, 1) := by decide +kernel
theorem dX6_fits_45 : decode cX6_fits 45 = .ok (.iconst 1, 1) := by decide +kernel
theorem dX6_fits_46 : decode cX6_fits 46 = .ok (.if_icmp .ne 29, 3) := by decide +kernel
theorem dX6_fits_49 : decode cX6_fits 49 = .ok (.iload_n 1, 1) := by decide +kernel
theorem dX6_fits_50 : decode cX6_fits 50 = .ok (.iconst 2, 1) := by decide +kernel
theorem dX6_fits_51 : decode cX6_fits 51 = .ok (.if_icmp .ne 24, 3) := by decide +kernel
theorem dX6_fits_54 : decode cX6_fits 54 = .ok (.iload_n 3, 1) := by decide +kernel
theorem dX6_fits_55 : decode cX6_fits 55 = .ok (.ifCond .lt 18, 3) := by decide +kernel
theorem dX6_fits_58 : decode cX6_fits 58 = .ok (.iload_n 3, 1) := by decide +kernel
theorem dX6_fits_59 : decode cX6_fits 59 = .ok (.iload_n 0, 1) := by decide +kernel
theorem dX6_fits_60 : decode cX6_fits 60 = .ok (.if_icmp .ge 13, 3) := by decide +kernel
theorem dX6_fits_63 : decode cX6_fits 63 = .ok (.iload_n 3, 1) := by decide +kernel
theorem dX6_fits_64 : decode cX6_fits 64 = .ok (.iload 4, 2) := by decide +kernel
theorem dX6_fits_66 : decode cX6_fits 66 = .ok (.if_icmp .eq 7, 3) := by decide +kernel
theorem dX6_fits_69 : decode cX6_fits 69 = .ok (.iconst 1, 1) := by decide +kernel
theorem dX6_fits_70 : decode cX6_fits 70 = .ok (.goto 4, 3) := by decide +kernel
theorem dX6_fits_73 : decode cX6_fits 73 = .ok (.iconst 0, 1) := by decide +kernel
theorem dX6_fits_74 : decode cX6_fits 74 = .ok (.ireturn, 1) := by decide +kernel
theorem dX6_fits_75 : decode cX6_fits 75 = .ok (.iload_n 2, 1) := by decide +kernel
theorem dX6_fits_76 : decode cX6_fits 76 = .ok (.iconst 1, 1) := by decide +kernel
theorem dX6_fits_77 : decode cX6_fits 77 = .ok (.if_icmp .ne 25, 3) := by decide +kernel
theorem dX6_fits_80 : decode cX6_fits 80 = .ok (.iload_n 1, 1) := by decide +kernel
theorem dX6_fits_81 : decode cX6_fits 81 = .ok (.iconst 3, 1) := by decide +kernel
theorem dX6_fits_82 : decode cX6_fits 82 = .ok (.if_icmp .ne 20, 3) := by decide +kernel
theorem dX6_fits_85 : decode cX6_fits 85 = .ok (.iload_n 3, 1) := by decide +kernel
theorem dX6_fits_86 : decode cX6_fits 86 = .ok (.iload 4, 2) := by decide +kernel
theorem dX6_fits_88 : decode cX6_fits 88 = .ok (.if_icmp .lt 12, 3) := by decide +kernel
theorem dX6_fits_91 : decode cX6_fits 91 = .ok (.iload_n 3, 1) := by decide +kernel
theorem dX6_fits_92 : decode cX6_fits 92 = .ok (.iload_n 0, 1) := by decide +kernel
theorem dX6_fits_93 : decode cX6_fits 93 = .ok (.if_icmp .ge 7, 3) := by decide +kernel
theorem dX6_fits_96 : decode cX6_fits 96 = .ok (.iconst 1, 1) := by decide +kernel
theorem dX6_fits_97 : decode cX6_fits 97 = .ok (.goto 4, 3) := by decide +kernel
theorem dX6_fits_100 : decode cX6_fits 100 = .ok (.iconst 0, 1) := by decide +kernel
theorem dX6_fits_101 : decode cX6_fits 101 = .ok (.ireturn, 1) := by decide +kernel
theorem dX6_fits_102 : decode cX6_fits 102 = .ok (.iload_n 3, 1) := by decide +kernel
theorem dX6_fits_103 : decode cX6_fits 103 = .ok (.ifCond .lt 14, 3) := by decide +kernel
theorem dX6_fits_106 : decode cX6_fits 106 = .ok (.iload_n 3, 1) := by decide +kernel
theorem dX6_fits_107 : decode cX6_fits 107 = .ok (.sipush 255, 3) := by decide +kernel
theorem dX6_fits_110 : decode cX6_fits 110 = .ok (.if_icmp .gt 7, 3) := by decide +kernel
theorem dX6_fits_113 : decode cX6_fits 113 = .ok (.iconst 1, 1) := by decide +kernel
theorem dX6_fits_114 : decode cX6_fits 114 = .ok (.goto 4, 3) := by decide +kernel
theorem dX6_fits_117 : decode cX6_fits 117 = .ok (.iconst 0, 1) := by decide +kernel
theorem dX6_fits_118 : decode cX6_fits 118 = .ok (.ireturn, 1) := by decide +kernel
