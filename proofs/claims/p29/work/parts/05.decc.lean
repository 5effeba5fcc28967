theorem dX8_init_0 : decode cX8_init 0 = .ok (.aload_n 0, 1) := by decide +kernel
theorem dX8_init_1 : decode cX8_init 1 = .ok (.invokespecial 1, 3) := by decide +kernel
theorem dX8_init_4 : decode cX8_init 4 = .ok (.aload_n 0, 1) := by decide +kernel
theorem dX8_init_5 : decode cX8_init 5 = .ok (.new 7, 3) := by decide +kernel
theorem dX8_init_8 : decode cX8_init 8 = .ok (.dup, 1) := by decide +kernel
theorem dX8_init_9 : decode cX8_init 9 = .ok (.invokespecial 9, 3) := by decide +kernel
theorem dX8_init_12 : decode cX8_init 12 = .ok (.putfield 10, 3) := by decide +kernel
theorem dX8_init_15 : decode cX8_init 15 = .ok (.aload_n 0, 1) := by decide +kernel
theorem dX8_init_16 : decode cX8_init 16 = .ok (.new 16, 3) := by decide +kernel
theorem dX8_init_19 : decode cX8_init 19 = .ok (.dup, 1) := by decide +kernel
theorem dX8_init_20 : decode cX8_init 20 = .ok (.invokespecial 18, 3) := by decide +kernel
theorem dX8_init_23 : decode cX8_init 23 = .ok (.putfield 19, 3) := by decide +kernel
theorem dX8_init_26 : decode cX8_init 26 = .ok (.aload_n 0, 1) := by decide +kernel
theorem dX8_init_27 : decode cX8_init 27 = .ok (.iconst 3, 1) := by decide +kernel
theorem dX8_init_28 : decode cX8_init 28 = .ok (.anewarray 16, 3) := by decide +kernel
theorem dX8_init_31 : decode cX8_init 31 = .ok (.putfield 23, 3) := by decide +kernel
theorem dX8_init_34 : decode cX8_init 34 = .ok (.aload_n 0, 1) := by decide +kernel
theorem dX8_init_35 : decode cX8_init 35 = .ok (.iconst 3, 1) := by decide +kernel
theorem dX8_init_36 : decode cX8_init 36 = .ok (.newarray .boolean, 2) := by decide +kernel
theorem dX8_init_38 : decode cX8_init 38 = .ok (.putfield 27, 3) := by decide +kernel
theorem dX8_init_41 : decode cX8_init 41 = .ok (.aload_n 0, 1) := by decide +kernel
theorem dX8_init_42 : decode cX8_init 42 = .ok (.new 31, 3) := by decide +kernel
theorem dX8_init_45 : decode cX8_init 45 = .ok (.dup, 1) := by decide +kernel
theorem dX8_init_46 : decode cX8_init 46 = .ok (.invokespecial 33, 3) := by decide +kernel
theorem dX8_init_49 : decode cX8_init 49 = .ok (.putfield 34, 3) := by decide +kernel
theorem dX8_init_52 : decode cX8_init 52 = .ok (.return_, 1) := by decide +kernel
theorem dX8_feed_0 : decode cX8_feed 0 = .ok (.aload_n 0, 1) := by decide +kernel
theorem dX8_feed_1 : decode cX8_feed 1 = .ok (.getfield 10, 3) := by decide +kernel
theorem dX8_feed_4 : decode cX8_feed 4 = .ok (.bipush 20, 2) := by decide +kernel
theorem dX8_feed_6 : decode cX8_feed 6 = .ok (.invokevirtual 38, 3) := by decide +kernel
theorem dX8_feed_9 : decode cX8_feed 9 = .ok (.ifCond .ne 5, 3) := by decide +kernel
theorem dX8_feed_12 : decode cX8_feed 12 = .ok (.iconst (-1), 1) := by decide +kernel
theorem dX8_feed_13 : decode cX8_feed 13 = .ok (.ireturn, 1) := by decide +kernel
theorem dX8_feed_14 : decode cX8_feed 14 = .ok (.aload_n 0, 1) := by decide +kernel
theorem dX8_feed_15 : decode cX8_feed 15 = .ok (.getfield 10, 3) := by decide +kernel
theorem dX8_feed_18 : decode cX8_feed 18 = .ok (.iload_n 1, 1) := by decide +kernel
theorem dX8_feed_19 : decode cX8_feed 19 = .ok (.invokevirtual 42, 3) := by decide +kernel
theorem dX8_feed_22 : decode cX8_feed 22 = .ok (.aload_n 0, 1) := by decide +kernel
theorem dX8_feed_23 : decode cX8_feed 23 = .ok (.getfield 10, 3) := by decide +kernel
theorem dX8_feed_26 : decode cX8_feed 26 = .ok (.iload_n 2, 1) := by decide +kernel
theorem dX8_feed_27 : decode cX8_feed 27 = .ok (.invokevirtual 42, 3) := by decide +kernel
theorem dX8_feed_30 : decode cX8_feed 30 = .ok (.aload_n 0, 1) := by decide +kernel
theorem dX8_feed_31 : decode cX8_feed 31 = .ok (.getfield 10, 3) := by decide +kernel
theorem dX8_feed_34 : decode cX8_feed 34 = .ok (.iload_n 3, 1) := by decide +kernel
theorem dX8_feed_35 : decode cX8_feed 35 = .ok (.invokevirtual 42, 3) := by decide +kernel
theorem dX8_feed_38 : decode cX8_feed 38 = .ok (.aload_n 0, 1) := by decide +kernel
theorem dX8_feed_39 : decode cX8_feed 39 = .ok (.getfield 10, 3) := by decide +kernel
theorem dX8_feed_42 : decode cX8_feed 42 = .ok (.iload 4, 2) := by decide +kernel
theorem dX8_feed_44 : decode cX8_feed 44 = .ok (.invokevirtual 42, 3) := by decide +kernel
theorem dX8_feed_47 : decode cX8_feed 47 = .ok (.aload_n 0, 1) := by decide +kernel
theorem dX8_feed_48 : decode cX8_feed 48 = .ok (.getfield 10, 3) := by decide +kernel
theorem dX8_feed_51 : decode cX8_feed 51 = .ok (.iload 5, 2) := by decide +kernel
theorem dX8_feed_53 : decode cX8_feed 53 = .ok (.invokevirtual 42, 3) := by decide +kernel
theorem dX8_feed_56 : decode cX8_feed 56 = .ok (.aload_n 0, 1) := by decide +kernel
theorem dX8_feed_57 : decode cX8_feed 57 = .ok (.getfield 10, 3) := by decide +kernel
theorem dX8_feed_60 : decode cX8_feed 60 = .ok (.getfield 46, 3) := by decide +kernel
theorem dX8_feed_63 : decode cX8_feed 63 = .ok (.ireturn, 1) := by decide +kernel
theorem dX8_end_0 : decode cX8_end 0 = .ok (.iload_n 1, 1) := by decide +kernel
theorem dX8_end_1 : decode cX8_end 1 = .ok (.ifCond .lt 14, 3) := by decide +kernel
theorem dX8_end_4 : decode cX8_end 4 = .ok (.iload_n 1, 1) := by decide +kernel
theorem dX8_end_5 : decode cX8_end 5 = .ok (.aload_n 0, 1) := by decide +kernel
theorem dX8_end_6 : decode cX8_end 6 = .ok (.getfield 10, 3) := by decide +kernel
theorem dX8_end_9 : decode cX8_end 9 = .ok (.getfield 46, 3) := by decide +kernel
theorem dX8_end_12 : decode cX8_end 12 = .ok (.if_icmp .le 5, 3) := by decide +kernel
theorem dX8_end_15 : decode cX8_end 15 = .ok (.iconst (-1), 1) := by decide +kernel
theorem dX8_end_16 : decode cX8_end 16 = .ok (.ireturn, 1) := by decide +kernel
theorem dX8_end_17 : decode cX8_end 17 = .ok (.aload_n 0, 1) := by decide +kernel
theorem dX8_end_18 : decode cX8_end 18 = .ok (.getfield 10, 3) := by decide +kernel
theorem dX8_end_21 : decode cX8_end 21 = .ok (.iload_n 1, 1) := by decide +kernel
theorem dX8_end_22 : decode cX8_end 22 = .ok (.putfield 46, 3) := by decide +kernel
theorem dX8_end_25 : decode cX8_end 25 = .ok (.iload_n 1, 1) := by decide +kernel
theorem dX8_end_26 : decode cX8_end 26 = .ok (.ireturn, 1) := by decide +kernel
theorem dX8_keepers_0 : decode cX8_keepers 0 = .ok (.aload_n 0, 1) := by decide +kernel
theorem dX8_keepers_1 : decode cX8_keepers 1 = .ok (.getfield 10, 3) := by decide +kernel
theorem dX8_keepers_4 : decode cX8_keepers 4 = .ok (.invokevirtual 50, 3) := by decide +kernel
theorem dX8_keepers_7 : decode cX8_keepers 7 = .ok (.aload_n 0, 1) := by decide +kernel
theorem dX8_keepers_8 : decode cX8_keepers 8 = .ok (.getfield 10, 3) := by decide +kernel
theorem dX8_keepers_11 : decode cX8_keepers 11 = .ok (.getfield 53, 3) := by decide +kernel
theorem dX8_keepers_14 : decode cX8_keepers 14 = .ok (.ifCond .eq 5, 3) := by decide +kernel
theorem dX8_keepers_17 : decode cX8_keepers 17 = .ok (.iconst (-1), 1) := by decide +kernel
theorem dX8_keepers_18 : decode cX8_keepers 18 = .ok (.ireturn, 1) := by decide +kernel
theorem dX8_keepers_19 : decode cX8_keepers 19 = .ok (.aload_n 0, 1) := by decide +kernel
theorem dX8_keepers_20 : decode cX8_keepers 20 = .ok (.getfield 19, 3) := by decide +kernel
theorem dX8_keepers_23 : decode cX8_keepers 23 = .ok (.aload_n 0, 1) := by decide +kernel
theorem dX8_keepers_24 : decode cX8_keepers 24 = .ok (.getfield 10, 3) := by decide +kernel
theorem dX8_keepers_27 : decode cX8_keepers 27 = .ok (.invokevirtual 56, 3) := by decide +kernel
theorem dX8_keepers_30 : decode cX8_keepers 30 = .ok (.iconst 0, 1) := by decide +kernel
theorem dX8_keepers_31 : decode cX8_keepers 31 = .ok (.istore_n 1, 1) := by decide +kernel
theorem dX8_keepers_32 : decode cX8_keepers 32 = .ok (.iload_n 1, 1) := by decide +kernel
theorem dX8_keepers_33 : decode cX8_keepers 33 = .ok (.iconst 3, 1) := by decide +kernel
theorem dX8_keepers_34 : decode cX8_keepers 34 = .ok (.if_icmp .ge 16, 3) := by decide +kernel
theorem dX8_keepers_37 : decode cX8_keepers 37 = .ok (.aload_n 0, 1) := by decide +kernel
theorem dX8_keepers_38 : decode cX8_keepers 38 = .ok (.getfield 27, 3) := by decide +kernel
theorem dX8_keepers_41 : decode cX8_keepers 41 = .ok (.iload_n 1, 1) := by decide +kernel
theorem dX8_keepers_42 : decode cX8_keepers 42 = .ok (.iconst 0, 1) := by decide +kernel
theorem dX8_keepers_43 : decode cX8_keepers 43 = .ok (.bastore, 1) := by decide +kernel
theorem dX8_keepers_44 : decode cX8_keepers 44 = .ok (.iinc 1 1, 3) := by decide +kernel
theorem dX8_keepers_47 : decode cX8_keepers 47 = .ok (.goto (-15), 3) := by decide +kernel
theorem dX8_keepers_50 : decode cX8_keepers 50 = .ok (.aload_n 0, 1) := by decide +kernel
theorem dX8_keepers_51 : decode cX8_keepers 51 = .ok (.getfield 19, 3) := by decide +kernel
theorem dX8_keepers_54 : decode cX8_keepers 54 = .ok (.getfield 60, 3) := by decide +kernel
theorem dX8_keepers_57 : decode cX8_keepers 57 = .ok (.ireturn, 1) := by decide +kernel
theorem dX8_fault_0 : decode cX8_fault 0 = .ok (.iload_n 1, 1) := by decide +kernel
theorem dX8_fault_1 : decode cX8_fault 1 = .ok (.lookupswitch 43 #[(0, 27), (1, 35)], 27) := by decide +kernel
theorem dX8_fault_28 : decode cX8_fault 28 = .ok (.aload_n 0, 1) := by decide +kernel
theorem dX8_fault_29 : decode cX8_fault 29 = .ok (.getfield 10, 3) := by decide +kernel
theorem dX8_fault_32 : decode cX8_fault 32 = .ok (.getfield 53, 3) := by decide +kernel
theorem dX8_fault_35 : decode cX8_fault 35 = .ok (.ireturn, 1) := by decide +kernel
theorem dX8_fault_36 : decode cX8_fault 36 = .ok (.aload_n 0, 1) := by decide +kernel
theorem dX8_fault_37 : decode cX8_fault 37 = .ok (.getfield 10, 3) := by decide +kernel
theorem dX8_fault_40 : decode cX8_fault 40 = .ok (.getfield 63, 3) := by decide +kernel
theorem dX8_fault_43 : decode cX8_fault 43 = .ok (.ireturn, 1) := by decide +kernel
theorem dX8_fault_44 : decode cX8_fault 44 = .ok (.iconst (-1), 1) := by decide +kernel
theorem dX8_fault_45 : decode cX8_fault 45 = .ok (.ireturn, 1) := by decide +kernel
theorem dX8_ask_0 : decode cX8_ask 0 = .ok (.aload_n 0, 1) := by decide +kernel
theorem dX8_ask_1 : decode cX8_ask 1 = .ok (.getfield 19, 3) := by decide +kernel
theorem dX8_ask_4 : decode cX8_ask 4 = .ok (.iload_n 1, 1) := by decide +kernel
theorem dX8_ask_5 : decode cX8_ask 5 = .ok (.invokevirtual 66, 3) := by decide +kernel
theorem dX8_ask_8 : decode cX8_ask 8 = .ok (.ifCond .eq 14, 3) := by decide +kernel
theorem dX8_ask_11 : decode cX8_ask 11 = .ok (.aload_n 0, 1) := by decide +kernel
theorem dX8_ask_12 : decode cX8_ask 12 = .ok (.getfield 19, 3) := by decide +kernel
theorem dX8_ask_15 : decode cX8_ask 15 = .ok (.iload_n 1, 1) := by decide +kernel
theorem dX8_ask_16 : decode cX8_ask 16 = .ok (.invokevirtual 69, 3) := by decide +kernel
theorem dX8_ask_19 : decode cX8_ask 19 = .ok (.goto 4, 3) := by decide +kernel
theorem dX8_ask_22 : decode cX8_ask 22 = .ok (.iconst (-1), 1) := by decide +kernel
theorem dX8_ask_23 : decode cX8_ask 23 = .ok (.ireturn, 1) := by decide +kernel
theorem dX8_deliver_0 : decode cX8_deliver 0 = .ok (.aload_n 0, 1) := by decide +kernel
theorem dX8_deliver_1 : decode cX8_deliver 1 = .ok (.getfield 19, 3) := by decide +kernel
theorem dX8_deliver_4 : decode cX8_deliver 4 = .ok (.getfield 73, 3) := by decide +kernel
theorem dX8_deliver_7 : decode cX8_deliver 7 = .ok (.iload_n 1, 1) := by decide +kernel
theorem dX8_deliver_8 : decode cX8_deliver 8 = .ok (.invokevirtual 77, 3) := by decide +kernel
theorem dX8_deliver_11 : decode cX8_deliver 11 = .ok (.ifCond .eq 14, 3) := by decide +kernel
theorem dX8_deliver_14 : decode cX8_deliver 14 = .ok (.aload_n 0, 1) := by decide +kernel
theorem dX8_deliver_15 : decode cX8_deliver 15 = .ok (.getfield 19, 3) := by decide +kernel
theorem dX8_deliver_18 : decode cX8_deliver 18 = .ok (.iload_n 1, 1) := by decide +kernel
theorem dX8_deliver_19 : decode cX8_deliver 19 = .ok (.invokevirtual 82, 3) := by decide +kernel
theorem dX8_deliver_22 : decode cX8_deliver 22 = .ok (.goto 4, 3) := by decide +kernel
theorem dX8_deliver_25 : decode cX8_deliver 25 = .ok (.iconst (-1), 1) := by decide +kernel
theorem dX8_deliver_26 : decode cX8_deliver 26 = .ok (.ireturn, 1) := by decide +kernel
theorem dX8_drop_0 : decode cX8_drop 0 = .ok (.aload_n 0, 1) := by decide +kernel
theorem dX8_drop_1 : decode cX8_drop 1 = .ok (.getfield 19, 3) := by decide +kernel
theorem dX8_drop_4 : decode cX8_drop 4 = .ok (.getfield 73, 3) := by decide +kernel
theorem dX8_drop_7 : decode cX8_drop 7 = .ok (.iload_n 1, 1) := by decide +kernel
theorem dX8_drop_8 : decode cX8_drop 8 = .ok (.invokevirtual 77, 3) := by decide +kernel
theorem dX8_drop_11 : decode cX8_drop 11 = .ok (.ifCond .ne 5, 3) := by decide +kernel
theorem dX8_drop_14 : decode cX8_drop 14 = .ok (.iconst (-1), 1) := by decide +kernel
theorem dX8_drop_15 : decode cX8_drop 15 = .ok (.ireturn, 1) := by decide +kernel
theorem dX8_drop_16 : decode cX8_drop 16 = .ok (.aload_n 0, 1) := by decide +kernel
theorem dX8_drop_17 : decode cX8_drop 17 = .ok (.getfield 19, 3) := by decide +kernel
theorem dX8_drop_20 : decode cX8_drop 20 = .ok (.getfield 73, 3) := by decide +kernel
theorem dX8_drop_23 : decode cX8_drop 23 = .ok (.getfield 85, 3) := by decide +kernel
theorem dX8_drop_26 : decode cX8_drop 26 = .ok (.iload_n 1, 1) := by decide +kernel
theorem dX8_drop_27 : decode cX8_drop 27 = .ok (.aaload, 1) := by decide +kernel
theorem dX8_drop_28 : decode cX8_drop 28 = .ok (.getfield 89, 3) := by decide +kernel
theorem dX8_drop_31 : decode cX8_drop 31 = .ok (.istore_n 2, 1) := by decide +kernel
theorem dX8_drop_32 : decode cX8_drop 32 = .ok (.aload_n 0, 1) := by decide +kernel
theorem dX8_drop_33 : decode cX8_drop 33 = .ok (.getfield 19, 3) := by decide +kernel
theorem dX8_drop_36 : decode cX8_drop 36 = .ok (.getfield 73, 3) := by decide +kernel
theorem dX8_drop_39 : decode cX8_drop 39 = .ok (.getfield 85, 3) := by decide +kernel
theorem dX8_drop_42 : decode cX8_drop 42 = .ok (.iload_n 1, 1) := by decide +kernel
theorem dX8_drop_43 : decode cX8_drop 43 = .ok (.aaload, 1) := by decide +kernel
theorem dX8_drop_44 : decode cX8_drop 44 = .ok (.iconst (-1), 1) := by decide +kernel
theorem dX8_drop_45 : decode cX8_drop 45 = .ok (.putfield 89, 3) := by decide +kernel
theorem dX8_drop_48 : decode cX8_drop 48 = .ok (.iload_n 2, 1) := by decide +kernel
theorem dX8_drop_49 : decode cX8_drop 49 = .ok (.ireturn, 1) := by decide +kernel
theorem dX8_twice_0 : decode cX8_twice 0 = .ok (.aload_n 0, 1) := by decide +kernel
theorem dX8_twice_1 : decode cX8_twice 1 = .ok (.getfield 19, 3) := by decide +kernel
theorem dX8_twice_4 : decode cX8_twice 4 = .ok (.getfield 73, 3) := by decide +kernel
theorem dX8_twice_7 : decode cX8_twice 7 = .ok (.invokevirtual 94, 3) := by decide +kernel
theorem dX8_twice_10 : decode cX8_twice 10 = .ok (.istore_n 2, 1) := by decide +kernel
theorem dX8_twice_11 : decode cX8_twice 11 = .ok (.aload_n 0, 1) := by decide +kernel
theorem dX8_twice_12 : decode cX8_twice 12 = .ok (.getfield 19, 3) := by decide +kernel
theorem dX8_twice_15 : decode cX8_twice 15 = .ok (.getfield 73, 3) := by decide +kernel
theorem dX8_twice_18 : decode cX8_twice 18 = .ok (.iload_n 1, 1) := by decide +kernel
theorem dX8_twice_19 : decode cX8_twice 19 = .ok (.invokevirtual 77, 3) := by decide +kernel
theorem dX8_twice_22 : decode cX8_twice 22 = .ok (.ifCond .eq 8, 3) := by decide +kernel
theorem dX8_twice_25 : decode cX8_twice 25 = .ok (.iload_n 2, 1) := by decide +kernel
theorem dX8_twice_26 : decode cX8_twice 26 = .ok (.iconst (-1), 1) := by decide +kernel
theorem dX8_twice_27 : decode cX8_twice 27 = .ok (.if_icmp .ne 5, 3) := by decide +kernel
theorem dX8_twice_30 : decode cX8_twice 30 = .ok (.iconst (-1), 1) := by decide +kernel
theorem dX8_twice_31 : decode cX8_twice 31 = .ok (.ireturn, 1) := by decide +kernel
theorem dX8_twice_32 : decode cX8_twice 32 = .ok (.aload_n 0, 1) := by decide +kernel
theorem dX8_twice_33 : decode cX8_twice 33 = .ok (.getfield 19, 3) := by decide +kernel
theorem dX8_twice_36 : decode cX8_twice 36 = .ok (.getfield 73, 3) := by decide +kernel
theorem dX8_twice_39 : decode cX8_twice 39 = .ok (.getfield 85, 3) := by decide +kernel
theorem dX8_twice_42 : decode cX8_twice 42 = .ok (.iload_n 2, 1) := by decide +kernel
theorem dX8_twice_43 : decode cX8_twice 43 = .ok (.aaload, 1) := by decide +kernel
theorem dX8_twice_44 : decode cX8_twice 44 = .ok (.aload_n 0, 1) := by decide +kernel
theorem dX8_twice_45 : decode cX8_twice 45 = .ok (.getfield 19, 3) := by decide +kernel
theorem dX8_twice_48 : decode cX8_twice 48 = .ok (.getfield 73, 3) := by decide +kernel
theorem dX8_twice_51 : decode cX8_twice 51 = .ok (.getfield 85, 3) := by decide +kernel
theorem dX8_twice_54 : decode cX8_twice 54 = .ok (.iload_n 1, 1) := by decide +kernel
theorem dX8_twice_55 : decode cX8_twice 55 = .ok (.aaload, 1) := by decide +kernel
theorem dX8_twice_56 : decode cX8_twice 56 = .ok (.invokevirtual 98, 3) := by decide +kernel
theorem dX8_twice_59 : decode cX8_twice 59 = .ok (.iload_n 2, 1) := by decide +kernel
theorem dX8_twice_60 : decode cX8_twice 60 = .ok (.ireturn, 1) := by decide +kernel
theorem dX8_fall_0 : decode cX8_fall 0 = .ok (.aload_n 0, 1) := by decide +kernel
theorem dX8_fall_1 : decode cX8_fall 1 = .ok (.getfield 19, 3) := by decide +kernel
theorem dX8_fall_4 : decode cX8_fall 4 = .ok (.iload_n 1, 1) := by decide +kernel
theorem dX8_fall_5 : decode cX8_fall 5 = .ok (.invokevirtual 102, 3) := by decide +kernel
theorem dX8_fall_8 : decode cX8_fall 8 = .ok (.ifCond .ne 5, 3) := by decide +kernel
theorem dX8_fall_11 : decode cX8_fall 11 = .ok (.iconst 0, 1) := by decide +kernel
theorem dX8_fall_12 : decode cX8_fall 12 = .ok (.ireturn, 1) := by decide +kernel
theorem dX8_fall_13 : decode cX8_fall 13 = .ok (.aload_n 0, 1) := by decide +kernel
theorem dX8_fall_14 : decode cX8_fall 14 = .ok (.getfield 19, 3) := by decide +kernel
theorem dX8_fall_17 : decode cX8_fall 17 = .ok (.getfield 105, 3) := by decide +kernel
theorem dX8_fall_20 : decode cX8_fall 20 = .ok (.iload_n 1, 1) := by decide +kernel
theorem dX8_fall_21 : decode cX8_fall 21 = .ok (.aaload, 1) := by decide +kernel
theorem dX8_fall_22 : decode cX8_fall 22 = .ok (.invokevirtual 109, 3) := by decide +kernel
theorem dX8_fall_25 : decode cX8_fall 25 = .ok (.iconst 1, 1) := by decide +kernel
theorem dX8_fall_26 : decode cX8_fall 26 = .ok (.ireturn, 1) := by decide +kernel
theorem dX8_rise_0 : decode cX8_rise 0 = .ok (.aload_n 0, 1) := by decide +kernel
theorem dX8_rise_1 : decode cX8_rise 1 = .ok (.getfield 19, 3) := by decide +kernel
theorem dX8_rise_4 : decode cX8_rise 4 = .ok (.iload_n 1, 1) := by decide +kernel
theorem dX8_rise_5 : decode cX8_rise 5 = .ok (.invokevirtual 66, 3) := by decide +kernel
theorem dX8_rise_8 : decode cX8_rise 8 = .ok (.ifCond .eq 18, 3) := by decide +kernel
theorem dX8_rise_11 : decode cX8_rise 11 = .ok (.aload_n 0, 1) := by decide +kernel
theorem dX8_rise_12 : decode cX8_rise 12 = .ok (.getfield 19, 3) := by decide +kernel
theorem dX8_rise_15 : decode cX8_rise 15 = .ok (.getfield 105, 3) := by decide +kernel
theorem dX8_rise_18 : decode cX8_rise 18 = .ok (.iload_n 1, 1) := by decide +kernel
theorem dX8_rise_19 : decode cX8_rise 19 = .ok (.aaload, 1) := by decide +kernel
theorem dX8_rise_20 : decode cX8_rise 20 = .ok (.getfield 114, 3) := by decide +kernel
theorem dX8_rise_23 : decode cX8_rise 23 = .ok (.ifCond .ne 5, 3) := by decide +kernel
theorem dX8_rise_26 : decode cX8_rise 26 = .ok (.iconst 0, 1) := by decide +kernel
theorem dX8_rise_27 : decode cX8_rise 27 = .ok (.ireturn, 1) := by decide +kernel
theorem dX8_rise_28 : decode cX8_rise 28 = .ok (.aload_n 0, 1) := by decide +kernel
theorem dX8_rise_29 : decode cX8_rise 29 = .ok (.getfield 19, 3) := by decide +kernel
theorem dX8_rise_32 : decode cX8_rise 32 = .ok (.getfield 105, 3) := by decide +kernel
theorem dX8_rise_35 : decode cX8_rise 35 = .ok (.iload_n 1, 1) := by decide +kernel
theorem dX8_rise_36 : decode cX8_rise 36 = .ok (.aaload, 1) := by decide +kernel
theorem dX8_rise_37 : decode cX8_rise 37 = .ok (.iconst 0, 1) := by decide +kernel
theorem dX8_rise_38 : decode cX8_rise 38 = .ok (.putfield 114, 3) := by decide +kernel
theorem dX8_rise_41 : decode cX8_rise 41 = .ok (.iconst 1, 1) := by decide +kernel
theorem dX8_rise_42 : decode cX8_rise 42 = .ok (.ireturn, 1) := by decide +kernel
theorem dX8_command_0 : decode cX8_command 0 = .ok (.aload_n 0, 1) := by decide +kernel
theorem dX8_command_1 : decode cX8_command 1 = .ok (.getfield 19, 3) := by decide +kernel
theorem dX8_command_4 : decode cX8_command 4 = .ok (.iload_n 1, 1) := by decide +kernel
theorem dX8_command_5 : decode cX8_command 5 = .ok (.invokevirtual 118, 3) := by decide +kernel
theorem dX8_command_8 : decode cX8_command 8 = .ok (.ifCond .eq 15, 3) := by decide +kernel
theorem dX8_command_11 : decode cX8_command 11 = .ok (.iload_n 2, 1) := by decide +kernel
theorem dX8_command_12 : decode cX8_command 12 = .ok (.iload_n 3, 1) := by decide +kernel
theorem dX8_command_13 : decode cX8_command 13 = .ok (.iload 4, 2) := by decide +kernel
theorem dX8_command_15 : decode cX8_command 15 = .ok (.iload 5, 2) := by decide +kernel
theorem dX8_command_17 : decode cX8_command 17 = .ok (.invokestatic 121, 3) := by decide +kernel
theorem dX8_command_20 : decode cX8_command 20 = .ok (.ifCond .ne 5, 3) := by decide +kernel
theorem dX8_command_23 : decode cX8_command 23 = .ok (.iconst (-1), 1) := by decide +kernel
theorem dX8_command_24 : decode cX8_command 24 = .ok (.ireturn, 1) := by decide +kernel
theorem dX8_command_25 : decode cX8_command 25 = .ok (.aload_n 0, 1) := by decide +kernel
theorem dX8_command_26 : decode cX8_command 26 = .ok (.getfield 19, 3) := by decide +kernel
theorem dX8_command_29 : decode cX8_command 29 = .ok (.iload_n 1, 1) := by decide +kernel
theorem dX8_command_30 : decode cX8_command 30 = .ok (.iload_n 2, 1) := by decide +kernel
theorem dX8_command_31 : decode cX8_command 31 = .ok (.iload_n 3, 1) := by decide +kernel
theorem dX8_command_32 : decode cX8_command 32 = .ok (.iload 4, 2) := by decide +kernel
theorem dX8_command_34 : decode cX8_command 34 = .ok (.iload 5, 2) := by decide +kernel
theorem dX8_command_36 : decode cX8_command 36 = .ok (.iload 6, 2) := by decide +kernel
theorem dX8_command_38 : decode cX8_command 38 = .ok (.invokevirtual 125, 3) := by decide +kernel
theorem dX8_command_41 : decode cX8_command 41 = .ok (.ireturn, 1) := by decide +kernel
theorem dX8_append_0 : decode cX8_append 0 = .ok (.aload_n 0, 1) := by decide +kernel
theorem dX8_append_1 : decode cX8_append 1 = .ok (.getfield 19, 3) := by decide +kernel
theorem dX8_append_4 : decode cX8_append 4 = .ok (.iload_n 1, 1) := by decide +kernel
theorem dX8_append_5 : decode cX8_append 5 = .ok (.invokevirtual 118, 3) := by decide +kernel
theorem dX8_append_8 : decode cX8_append 8 = .ok (.ifCond .eq 19, 3) := by decide +kernel
theorem dX8_append_11 : decode cX8_append 11 = .ok (.aload_n 0, 1) := by decide +kernel
theorem dX8_append_12 : decode cX8_append 12 = .ok (.getfield 19, 3) := by decide +kernel
theorem dX8_append_15 : decode cX8_append 15 = .ok (.iload_n 2, 1) := by decide +kernel
theorem dX8_append_16 : decode cX8_append 16 = .ok (.invokevirtual 66, 3) := by decide +kernel
theorem dX8_append_19 : decode cX8_append 19 = .ok (.ifCond .eq 8, 3) := by decide +kernel
theorem dX8_append_22 : decode cX8_append 22 = .ok (.iload_n 1, 1) := by decide +kernel
theorem dX8_append_23 : decode cX8_append 23 = .ok (.iload_n 2, 1) := by decide +kernel
theorem dX8_append_24 : decode cX8_append 24 = .ok (.if_icmp .ne 5, 3) := by decide +kernel
theorem dX8_append_27 : decode cX8_append 27 = .ok (.iconst (-1), 1) := by decide +kernel
theorem dX8_append_28 : decode cX8_append 28 = .ok (.ireturn, 1) := by decide +kernel
theorem dX8_append_29 : decode cX8_append 29 = .ok (.aload_n 0, 1) := by decide +kernel
theorem dX8_append_30 : decode cX8_append 30 = .ok (.getfield 19, 3) := by decide +kernel
theorem dX8_append_33 : decode cX8_append 33 = .ok (.iload_n 1, 1) := by decide +kernel
theorem dX8_append_34 : decode cX8_append 34 = .ok (.iload_n 2, 1) := by decide +kernel
theorem dX8_append_35 : decode cX8_append 35 = .ok (.invokevirtual 129, 3) := by decide +kernel
theorem dX8_append_38 : decode cX8_append 38 = .ok (.ireturn, 1) := by decide +kernel
theorem dX8_fold_0 : decode cX8_fold 0 = .ok (.aload_n 0, 1) := by decide +kernel
theorem dX8_fold_1 : decode cX8_fold 1 = .ok (.getfield 19, 3) := by decide +kernel
theorem dX8_fold_4 : decode cX8_fold 4 = .ok (.iload_n 1, 1) := by decide +kernel
theorem dX8_fold_5 : decode cX8_fold 5 = .ok (.invokevirtual 102, 3) := by decide +kernel
theorem dX8_fold_8 : decode cX8_fold 8 = .ok (.ifCond .ne 5, 3) := by decide +kernel
theorem dX8_fold_11 : decode cX8_fold 11 = .ok (.iconst (-1), 1) := by decide +kernel
theorem dX8_fold_12 : decode cX8_fold 12 = .ok (.ireturn, 1) := by decide +kernel
theorem dX8_fold_13 : decode cX8_fold 13 = .ok (.aload_n 0, 1) := by decide +kernel
theorem dX8_fold_14 : decode cX8_fold 14 = .ok (.getfield 19, 3) := by decide +kernel
theorem dX8_fold_17 : decode cX8_fold 17 = .ok (.getfield 105, 3) := by decide +kernel
theorem dX8_fold_20 : decode cX8_fold 20 = .ok (.iload_n 1, 1) := by decide +kernel
theorem dX8_fold_21 : decode cX8_fold 21 = .ok (.aaload, 1) := by decide +kernel
theorem dX8_fold_22 : decode cX8_fold 22 = .ok (.astore_n 3, 1) := by decide +kernel
theorem dX8_fold_23 : decode cX8_fold 23 = .ok (.iload_n 2, 1) := by decide +kernel
theorem dX8_fold_24 : decode cX8_fold 24 = .ok (.aload_n 3, 1) := by decide +kernel
theorem dX8_fold_25 : decode cX8_fold 25 = .ok (.getfield 133, 3) := by decide +kernel
theorem dX8_fold_28 : decode cX8_fold 28 = .ok (.if_icmp .le 11, 3) := by decide +kernel
theorem dX8_fold_31 : decode cX8_fold 31 = .ok (.iload_n 2, 1) := by decide +kernel
theorem dX8_fold_32 : decode cX8_fold 32 = .ok (.aload_n 3, 1) := by decide +kernel
theorem dX8_fold_33 : decode cX8_fold 33 = .ok (.getfield 136, 3) := by decide +kernel
theorem dX8_fold_36 : decode cX8_fold 36 = .ok (.if_icmp .le 5, 3) := by decide +kernel
theorem dX8_fold_39 : decode cX8_fold 39 = .ok (.iconst (-1), 1) := by decide +kernel
theorem dX8_fold_40 : decode cX8_fold 40 = .ok (.ireturn, 1) := by decide +kernel
theorem dX8_fold_41 : decode cX8_fold 41 = .ok (.aload_n 3, 1) := by decide +kernel
theorem dX8_fold_42 : decode cX8_fold 42 = .ok (.iload_n 2, 1) := by decide +kernel
theorem dX8_fold_43 : decode cX8_fold 43 = .ok (.invokevirtual 139, 3) := by decide +kernel
theorem dX8_fold_46 : decode cX8_fold 46 = .ok (.aload_n 3, 1) := by decide +kernel
theorem dX8_fold_47 : decode cX8_fold 47 = .ok (.getfield 142, 3) := by decide +kernel
theorem dX8_fold_50 : decode cX8_fold 50 = .ok (.aload_n 3, 1) := by decide +kernel
theorem dX8_fold_51 : decode cX8_fold 51 = .ok (.getfield 133, 3) := by decide +kernel
theorem dX8_fold_54 : decode cX8_fold 54 = .ok (.isub, 1) := by decide +kernel
theorem dX8_fold_55 : decode cX8_fold 55 = .ok (.ireturn, 1) := by decide +kernel
theorem dX8_read_0 : decode cX8_read 0 = .ok (.aload_n 0, 1) := by decide +kernel
theorem dX8_read_1 : decode cX8_read 1 = .ok (.getfield 19, 3) := by decide +kernel
theorem dX8_read_4 : decode cX8_read 4 = .ok (.iload_n 1, 1) := by decide +kernel
theorem dX8_read_5 : decode cX8_read 5 = .ok (.invokevirtual 118, 3) := by decide +kernel
theorem dX8_read_8 : decode cX8_read 8 = .ok (.ifCond .eq 10, 3) := by decide +kernel
theorem dX8_read_11 : decode cX8_read 11 = .ok (.iload_n 2, 1) := by decide +kernel
theorem dX8_read_12 : decode cX8_read 12 = .ok (.invokestatic 145, 3) := by decide +kernel
theorem dX8_read_15 : decode cX8_read 15 = .ok (.ifCond .ne 5, 3) := by decide +kernel
theorem dX8_read_18 : decode cX8_read 18 = .ok (.iconst (-1), 1) := by decide +kernel
theorem dX8_read_19 : decode cX8_read 19 = .ok (.ireturn, 1) := by decide +kernel
theorem dX8_read_20 : decode cX8_read 20 = .ok (.aload_n 0, 1) := by decide +kernel
theorem dX8_read_21 : decode cX8_read 21 = .ok (.getfield 19, 3) := by decide +kernel
theorem dX8_read_24 : decode cX8_read 24 = .ok (.iload_n 1, 1) := by decide +kernel
theorem dX8_read_25 : decode cX8_read 25 = .ok (.iload_n 2, 1) := by decide +kernel
theorem dX8_read_26 : decode cX8_read 26 = .ok (.invokevirtual 148, 3) := by decide +kernel
theorem dX8_read_29 : decode cX8_read 29 = .ok (.ireturn, 1) := by decide +kernel
theorem dX8_good_0 : decode cX8_good 0 = .ok (.aload_n 0, 1) := by decide +kernel
theorem dX8_good_1 : decode cX8_good 1 = .ok (.getfield 19, 3) := by decide +kernel
theorem dX8_good_4 : decode cX8_good 4 = .ok (.getfield 151, 3) := by decide +kernel
theorem dX8_good_7 : decode cX8_good 7 = .ok (.iload_n 1, 1) := by decide +kernel
theorem dX8_good_8 : decode cX8_good 8 = .ok (.invokevirtual 155, 3) := by decide +kernel
theorem dX8_good_11 : decode cX8_good 11 = .ok (.ifCond .eq 25, 3) := by decide +kernel
theorem dX8_good_14 : decode cX8_good 14 = .ok (.aload_n 0, 1) := by decide +kernel
theorem dX8_good_15 : decode cX8_good 15 = .ok (.getfield 19, 3) := by decide +kernel
theorem dX8_good_18 : decode cX8_good 18 = .ok (.iload_n 1, 1) := by decide +kernel
theorem dX8_good_19 : decode cX8_good 19 = .ok (.invokevirtual 160, 3) := by decide +kernel
theorem dX8_good_22 : decode cX8_good 22 = .ok (.ifCond .eq 14, 3) := by decide +kernel
theorem dX8_good_25 : decode cX8_good 25 = .ok (.aload_n 0, 1) := by decide +kernel
theorem dX8_good_26 : decode cX8_good 26 = .ok (.getfield 19, 3) := by decide +kernel
theorem dX8_good_29 : decode cX8_good 29 = .ok (.iload_n 1, 1) := by decide +kernel
theorem dX8_good_30 : decode cX8_good 30 = .ok (.invokevirtual 163, 3) := by decide +kernel
theorem dX8_good_33 : decode cX8_good 33 = .ok (.goto 5, 3) := by decide +kernel
theorem dX8_good_36 : decode cX8_good 36 = .ok (.ldc 166, 2) := by decide +kernel
theorem dX8_good_38 : decode cX8_good 38 = .ok (.ireturn, 1) := by decide +kernel
theorem dX8_keeper_0 : decode cX8_keeper 0 = .ok (.aload_n 0, 1) := by decide +kernel
theorem dX8_keeper_1 : decode cX8_keeper 1 = .ok (.getfield 19, 3) := by decide +kernel
theorem dX8_keeper_4 : decode cX8_keeper 4 = .ok (.iload_n 1, 1) := by decide +kernel
theorem dX8_keeper_5 : decode cX8_keeper 5 = .ok (.invokevirtual 66, 3) := by decide +kernel
theorem dX8_keeper_8 : decode cX8_keeper 8 = .ok (.ifCond .eq 19, 3) := by decide +kernel
theorem dX8_keeper_11 : decode cX8_keeper 11 = .ok (.aload_n 0, 1) := by decide +kernel
theorem dX8_keeper_12 : decode cX8_keeper 12 = .ok (.getfield 19, 3) := by decide +kernel
theorem dX8_keeper_15 : decode cX8_keeper 15 = .ok (.getfield 105, 3) := by decide +kernel
theorem dX8_keeper_18 : decode cX8_keeper 18 = .ok (.iload_n 1, 1) := by decide +kernel
theorem dX8_keeper_19 : decode cX8_keeper 19 = .ok (.aaload, 1) := by decide +kernel
theorem dX8_keeper_20 : decode cX8_keeper 20 = .ok (.iload_n 2, 1) := by decide +kernel
theorem dX8_keeper_21 : decode cX8_keeper 21 = .ok (.invokevirtual 167, 3) := by decide +kernel
theorem dX8_keeper_24 : decode cX8_keeper 24 = .ok (.goto 5, 3) := by decide +kernel
theorem dX8_keeper_27 : decode cX8_keeper 27 = .ok (.bipush (-2), 2) := by decide +kernel
theorem dX8_keeper_29 : decode cX8_keeper 29 = .ok (.ireturn, 1) := by decide +kernel
theorem dX8_entry_0 : decode cX8_entry 0 = .ok (.aload_n 0, 1) := by decide +kernel
theorem dX8_entry_1 : decode cX8_entry 1 = .ok (.getfield 19, 3) := by decide +kernel
theorem dX8_entry_4 : decode cX8_entry 4 = .ok (.iload_n 1, 1) := by decide +kernel
theorem dX8_entry_5 : decode cX8_entry 5 = .ok (.invokevirtual 66, 3) := by decide +kernel
theorem dX8_entry_8 : decode cX8_entry 8 = .ok (.ifCond .eq 12, 3) := by decide +kernel
theorem dX8_entry_11 : decode cX8_entry 11 = .ok (.iload_n 3, 1) := by decide +kernel
theorem dX8_entry_12 : decode cX8_entry 12 = .ok (.ifCond .lt 8, 3) := by decide +kernel
theorem dX8_entry_15 : decode cX8_entry 15 = .ok (.iload_n 3, 1) := by decide +kernel
theorem dX8_entry_16 : decode cX8_entry 16 = .ok (.iconst 5, 1) := by decide +kernel
theorem dX8_entry_17 : decode cX8_entry 17 = .ok (.if_icmp .le 6, 3) := by decide +kernel
theorem dX8_entry_20 : decode cX8_entry 20 = .ok (.ldc 166, 2) := by decide +kernel
theorem dX8_entry_22 : decode cX8_entry 22 = .ok (.ireturn, 1) := by decide +kernel
theorem dX8_entry_23 : decode cX8_entry 23 = .ok (.aload_n 0, 1) := by decide +kernel
theorem dX8_entry_24 : decode cX8_entry 24 = .ok (.getfield 19, 3) := by decide +kernel
theorem dX8_entry_27 : decode cX8_entry 27 = .ok (.getfield 105, 3) := by decide +kernel
theorem dX8_entry_30 : decode cX8_entry 30 = .ok (.iload_n 1, 1) := by decide +kernel
theorem dX8_entry_31 : decode cX8_entry 31 = .ok (.aaload, 1) := by decide +kernel
theorem dX8_entry_32 : decode cX8_entry 32 = .ok (.iload_n 2, 1) := by decide +kernel
theorem dX8_entry_33 : decode cX8_entry 33 = .ok (.iload_n 3, 1) := by decide +kernel
theorem dX8_entry_34 : decode cX8_entry 34 = .ok (.invokevirtual 170, 3) := by decide +kernel
theorem dX8_entry_37 : decode cX8_entry 37 = .ok (.ireturn, 1) := by decide +kernel
theorem dX8_state_0 : decode cX8_state 0 = .ok (.aload_n 0, 1) := by decide +kernel
theorem dX8_state_1 : decode cX8_state 1 = .ok (.getfield 19, 3) := by decide +kernel
theorem dX8_state_4 : decode cX8_state 4 = .ok (.iload_n 1, 1) := by decide +kernel
theorem dX8_state_5 : decode cX8_state 5 = .ok (.invokevirtual 66, 3) := by decide +kernel
theorem dX8_state_8 : decode cX8_state 8 = .ok (.ifCond .eq 29, 3) := by decide +kernel
theorem dX8_state_11 : decode cX8_state 11 = .ok (.iload_n 2, 1) := by decide +kernel
theorem dX8_state_12 : decode cX8_state 12 = .ok (.invokestatic 145, 3) := by decide +kernel
theorem dX8_state_15 : decode cX8_state 15 = .ok (.ifCond .eq 22, 3) := by decide +kernel
theorem dX8_state_18 : decode cX8_state 18 = .ok (.aload_n 0, 1) := by decide +kernel
theorem dX8_state_19 : decode cX8_state 19 = .ok (.getfield 19, 3) := by decide +kernel
theorem dX8_state_22 : decode cX8_state 22 = .ok (.getfield 105, 3) := by decide +kernel
theorem dX8_state_25 : decode cX8_state 25 = .ok (.iload_n 1, 1) := by decide +kernel
theorem dX8_state_26 : decode cX8_state 26 = .ok (.aaload, 1) := by decide +kernel
theorem dX8_state_27 : decode cX8_state 27 = .ok (.getfield 173, 3) := by decide +kernel
theorem dX8_state_30 : decode cX8_state 30 = .ok (.iload_n 2, 1) := by decide +kernel
theorem dX8_state_31 : decode cX8_state 31 = .ok (.invokevirtual 177, 3) := by decide +kernel
theorem dX8_state_34 : decode cX8_state 34 = .ok (.goto 5, 3) := by decide +kernel
theorem dX8_state_37 : decode cX8_state 37 = .ok (.ldc 166, 2) := by decide +kernel
theorem dX8_state_39 : decode cX8_state 39 = .ok (.ireturn, 1) := by decide +kernel
theorem dX8_client_0 : decode cX8_client 0 = .ok (.aload_n 0, 1) := by decide +kernel
theorem dX8_client_1 : decode cX8_client 1 = .ok (.getfield 19, 3) := by decide +kernel
theorem dX8_client_4 : decode cX8_client 4 = .ok (.iload_n 1, 1) := by decide +kernel
theorem dX8_client_5 : decode cX8_client 5 = .ok (.invokevirtual 66, 3) := by decide +kernel
theorem dX8_client_8 : decode cX8_client 8 = .ok (.ifCond .eq 10, 3) := by decide +kernel
theorem dX8_client_11 : decode cX8_client 11 = .ok (.iload_n 2, 1) := by decide +kernel
theorem dX8_client_12 : decode cX8_client 12 = .ok (.invokestatic 182, 3) := by decide +kernel
theorem dX8_client_15 : decode cX8_client 15 = .ok (.ifCond .ne 6, 3) := by decide +kernel
theorem dX8_client_18 : decode cX8_client 18 = .ok (.ldc 166, 2) := by decide +kernel
theorem dX8_client_20 : decode cX8_client 20 = .ok (.ireturn, 1) := by decide +kernel
theorem dX8_client_21 : decode cX8_client 21 = .ok (.aload_n 0, 1) := by decide +kernel
theorem dX8_client_22 : decode cX8_client 22 = .ok (.getfield 19, 3) := by decide +kernel
theorem dX8_client_25 : decode cX8_client 25 = .ok (.getfield 105, 3) := by decide +kernel
theorem dX8_client_28 : decode cX8_client 28 = .ok (.iload_n 1, 1) := by decide +kernel
theorem dX8_client_29 : decode cX8_client 29 = .ok (.aaload, 1) := by decide +kernel
theorem dX8_client_30 : decode cX8_client 30 = .ok (.getfield 173, 3) := by decide +kernel
theorem dX8_client_33 : decode cX8_client 33 = .ok (.astore 4, 2) := by decide +kernel
theorem dX8_client_35 : decode cX8_client 35 = .ok (.iload_n 3, 1) := by decide +kernel
theorem dX8_client_36 : decode cX8_client 36 = .ok (.lookupswitch 42 #[(0, 28), (1, 35)], 28) := by decide +kernel
theorem dX8_client_64 : decode cX8_client 64 = .ok (.aload 4, 2) := by decide +kernel
theorem dX8_client_66 : decode cX8_client 66 = .ok (.iload_n 2, 1) := by decide +kernel
theorem dX8_client_67 : decode cX8_client 67 = .ok (.invokevirtual 185, 3) := by decide +kernel
theorem dX8_client_70 : decode cX8_client 70 = .ok (.ireturn, 1) := by decide +kernel
theorem dX8_client_71 : decode cX8_client 71 = .ok (.aload 4, 2) := by decide +kernel
theorem dX8_client_73 : decode cX8_client 73 = .ok (.iload_n 2, 1) := by decide +kernel
theorem dX8_client_74 : decode cX8_client 74 = .ok (.invokevirtual 188, 3) := by decide +kernel
theorem dX8_client_77 : decode cX8_client 77 = .ok (.ireturn, 1) := by decide +kernel
theorem dX8_client_78 : decode cX8_client 78 = .ok (.ldc 166, 2) := by decide +kernel
theorem dX8_client_80 : decode cX8_client 80 = .ok (.ireturn, 1) := by decide +kernel
theorem dX8_peer_0 : decode cX8_peer 0 = .ok (.aload_n 0, 1) := by decide +kernel
theorem dX8_peer_1 : decode cX8_peer 1 = .ok (.getfield 19, 3) := by decide +kernel
theorem dX8_peer_4 : decode cX8_peer 4 = .ok (.iload_n 1, 1) := by decide +kernel
theorem dX8_peer_5 : decode cX8_peer 5 = .ok (.invokevirtual 118, 3) := by decide +kernel
theorem dX8_peer_8 : decode cX8_peer 8 = .ok (.ifCond .eq 19, 3) := by decide +kernel
theorem dX8_peer_11 : decode cX8_peer 11 = .ok (.aload_n 0, 1) := by decide +kernel
theorem dX8_peer_12 : decode cX8_peer 12 = .ok (.getfield 19, 3) := by decide +kernel
theorem dX8_peer_15 : decode cX8_peer 15 = .ok (.iload_n 2, 1) := by decide +kernel
theorem dX8_peer_16 : decode cX8_peer 16 = .ok (.invokevirtual 66, 3) := by decide +kernel
theorem dX8_peer_19 : decode cX8_peer 19 = .ok (.ifCond .eq 8, 3) := by decide +kernel
theorem dX8_peer_22 : decode cX8_peer 22 = .ok (.iload_n 1, 1) := by decide +kernel
theorem dX8_peer_23 : decode cX8_peer 23 = .ok (.iload_n 2, 1) := by decide +kernel
theorem dX8_peer_24 : decode cX8_peer 24 = .ok (.if_icmp .ne 5, 3) := by decide +kernel
theorem dX8_peer_27 : decode cX8_peer 27 = .ok (.iconst (-1), 1) := by decide +kernel
theorem dX8_peer_28 : decode cX8_peer 28 = .ok (.ireturn, 1) := by decide +kernel
theorem dX8_peer_29 : decode cX8_peer 29 = .ok (.aload_n 0, 1) := by decide +kernel
theorem dX8_peer_30 : decode cX8_peer 30 = .ok (.getfield 19, 3) := by decide +kernel
theorem dX8_peer_33 : decode cX8_peer 33 = .ok (.getfield 105, 3) := by decide +kernel
theorem dX8_peer_36 : decode cX8_peer 36 = .ok (.iload_n 1, 1) := by decide +kernel
theorem dX8_peer_37 : decode cX8_peer 37 = .ok (.aaload, 1) := by decide +kernel
theorem dX8_peer_38 : decode cX8_peer 38 = .ok (.astore 4, 2) := by decide +kernel
theorem dX8_peer_40 : decode cX8_peer 40 = .ok (.iload_n 3, 1) := by decide +kernel
theorem dX8_peer_41 : decode cX8_peer 41 = .ok (.tableswitch 51 0 2 #[27, 35, 43], 27) := by decide +kernel
theorem dX8_peer_68 : decode cX8_peer 68 = .ok (.aload 4, 2) := by decide +kernel
theorem dX8_peer_70 : decode cX8_peer 70 = .ok (.getfield 191, 3) := by decide +kernel
theorem dX8_peer_73 : decode cX8_peer 73 = .ok (.iload_n 2, 1) := by decide +kernel
theorem dX8_peer_74 : decode cX8_peer 74 = .ok (.iaload, 1) := by decide +kernel
theorem dX8_peer_75 : decode cX8_peer 75 = .ok (.ireturn, 1) := by decide +kernel
theorem dX8_peer_76 : decode cX8_peer 76 = .ok (.aload 4, 2) := by decide +kernel
theorem dX8_peer_78 : decode cX8_peer 78 = .ok (.getfield 195, 3) := by decide +kernel
theorem dX8_peer_81 : decode cX8_peer 81 = .ok (.iload_n 2, 1) := by decide +kernel
theorem dX8_peer_82 : decode cX8_peer 82 = .ok (.iaload, 1) := by decide +kernel
theorem dX8_peer_83 : decode cX8_peer 83 = .ok (.ireturn, 1) := by decide +kernel
theorem dX8_peer_84 : decode cX8_peer 84 = .ok (.aload 4, 2) := by decide +kernel
theorem dX8_peer_86 : decode cX8_peer 86 = .ok (.getfield 198, 3) := by decide +kernel
theorem dX8_peer_89 : decode cX8_peer 89 = .ok (.iload_n 2, 1) := by decide +kernel
theorem dX8_peer_90 : decode cX8_peer 90 = .ok (.iaload, 1) := by decide +kernel
theorem dX8_peer_91 : decode cX8_peer 91 = .ok (.ireturn, 1) := by decide +kernel
theorem dX8_peer_92 : decode cX8_peer 92 = .ok (.iconst (-1), 1) := by decide +kernel
theorem dX8_peer_93 : decode cX8_peer 93 = .ok (.ireturn, 1) := by decide +kernel
theorem dX8_slot_0 : decode cX8_slot 0 = .ok (.aload_n 0, 1) := by decide +kernel
theorem dX8_slot_1 : decode cX8_slot 1 = .ok (.getfield 19, 3) := by decide +kernel
theorem dX8_slot_4 : decode cX8_slot 4 = .ok (.getfield 73, 3) := by decide +kernel
theorem dX8_slot_7 : decode cX8_slot 7 = .ok (.iload_n 1, 1) := by decide +kernel
theorem dX8_slot_8 : decode cX8_slot 8 = .ok (.invokevirtual 77, 3) := by decide +kernel
theorem dX8_slot_11 : decode cX8_slot 11 = .ok (.ifCond .eq 22, 3) := by decide +kernel
theorem dX8_slot_14 : decode cX8_slot 14 = .ok (.aload_n 0, 1) := by decide +kernel
theorem dX8_slot_15 : decode cX8_slot 15 = .ok (.getfield 19, 3) := by decide +kernel
theorem dX8_slot_18 : decode cX8_slot 18 = .ok (.getfield 73, 3) := by decide +kernel
theorem dX8_slot_21 : decode cX8_slot 21 = .ok (.getfield 85, 3) := by decide +kernel
theorem dX8_slot_24 : decode cX8_slot 24 = .ok (.iload_n 1, 1) := by decide +kernel
theorem dX8_slot_25 : decode cX8_slot 25 = .ok (.aaload, 1) := by decide +kernel
theorem dX8_slot_26 : decode cX8_slot 26 = .ok (.iload_n 2, 1) := by decide +kernel
theorem dX8_slot_27 : decode cX8_slot 27 = .ok (.invokevirtual 201, 3) := by decide +kernel
theorem dX8_slot_30 : decode cX8_slot 30 = .ok (.goto 4, 3) := by decide +kernel
theorem dX8_slot_33 : decode cX8_slot 33 = .ok (.iconst (-1), 1) := by decide +kernel
theorem dX8_slot_34 : decode cX8_slot 34 = .ok (.ireturn, 1) := by decide +kernel
theorem dX8_note_0 : decode cX8_note 0 = .ok (.iload_n 1, 1) := by decide +kernel
theorem dX8_note_1 : decode cX8_note 1 = .ok (.ifCond .lt 32, 3) := by decide +kernel
theorem dX8_note_4 : decode cX8_note 4 = .ok (.iload_n 2, 1) := by decide +kernel
theorem dX8_note_5 : decode cX8_note 5 = .ok (.iload_n 1, 1) := by decide +kernel
theorem dX8_note_6 : decode cX8_note 6 = .ok (.if_icmp .lt 27, 3) := by decide +kernel
theorem dX8_note_9 : decode cX8_note 9 = .ok (.iload_n 2, 1) := by decide +kernel
theorem dX8_note_10 : decode cX8_note 10 = .ok (.sipush 9999, 3) := by decide +kernel
theorem dX8_note_13 : decode cX8_note 13 = .ok (.if_icmp .gt 20, 3) := by decide +kernel
theorem dX8_note_16 : decode cX8_note 16 = .ok (.iload_n 3, 1) := by decide +kernel
theorem dX8_note_17 : decode cX8_note 17 = .ok (.invokestatic 202, 3) := by decide +kernel
theorem dX8_note_20 : decode cX8_note 20 = .ok (.ifCond .eq 13, 3) := by decide +kernel
theorem dX8_note_23 : decode cX8_note 23 = .ok (.aload_n 0, 1) := by decide +kernel
theorem dX8_note_24 : decode cX8_note 24 = .ok (.getfield 34, 3) := by decide +kernel
theorem dX8_note_27 : decode cX8_note 27 = .ok (.invokevirtual 205, 3) := by decide +kernel
theorem dX8_note_30 : decode cX8_note 30 = .ok (.ifCond .eq 5, 3) := by decide +kernel
theorem dX8_note_33 : decode cX8_note 33 = .ok (.iconst (-1), 1) := by decide +kernel
theorem dX8_note_34 : decode cX8_note 34 = .ok (.ireturn, 1) := by decide +kernel
theorem dX8_note_35 : decode cX8_note 35 = .ok (.aload_n 0, 1) := by decide +kernel
theorem dX8_note_36 : decode cX8_note 36 = .ok (.getfield 34, 3) := by decide +kernel
theorem dX8_note_39 : decode cX8_note 39 = .ok (.iload_n 1, 1) := by decide +kernel
theorem dX8_note_40 : decode cX8_note 40 = .ok (.iload_n 2, 1) := by decide +kernel
theorem dX8_note_41 : decode cX8_note 41 = .ok (.iload_n 3, 1) := by decide +kernel
theorem dX8_note_42 : decode cX8_note 42 = .ok (.iload 4, 2) := by decide +kernel
theorem dX8_note_44 : decode cX8_note 44 = .ok (.iload 5, 2) := by decide +kernel
theorem dX8_note_46 : decode cX8_note 46 = .ok (.invokevirtual 208, 3) := by decide +kernel
theorem dX8_note_49 : decode cX8_note 49 = .ok (.ireturn, 1) := by decide +kernel
theorem dX8_hush_0 : decode cX8_hush 0 = .ok (.aload_n 0, 1) := by decide +kernel
theorem dX8_hush_1 : decode cX8_hush 1 = .ok (.getfield 34, 3) := by decide +kernel
theorem dX8_hush_4 : decode cX8_hush 4 = .ok (.invokevirtual 212, 3) := by decide +kernel
theorem dX8_hush_7 : decode cX8_hush 7 = .ok (.ireturn, 1) := by decide +kernel
theorem dX8_judge_0 : decode cX8_judge 0 = .ok (.aload_n 0, 1) := by decide +kernel
theorem dX8_judge_1 : decode cX8_judge 1 = .ok (.getfield 34, 3) := by decide +kernel
theorem dX8_judge_4 : decode cX8_judge 4 = .ok (.invokevirtual 215, 3) := by decide +kernel
theorem dX8_judge_7 : decode cX8_judge 7 = .ok (.ifCond .eq 7, 3) := by decide +kernel
theorem dX8_judge_10 : decode cX8_judge 10 = .ok (.iconst 1, 1) := by decide +kernel
theorem dX8_judge_11 : decode cX8_judge 11 = .ok (.goto 4, 3) := by decide +kernel
theorem dX8_judge_14 : decode cX8_judge 14 = .ok (.iconst 0, 1) := by decide +kernel
theorem dX8_judge_15 : decode cX8_judge 15 = .ok (.ireturn, 1) := by decide +kernel
theorem dX8_order_0 : decode cX8_order 0 = .ok (.iload_n 1, 1) := by decide +kernel
theorem dX8_order_1 : decode cX8_order 1 = .ok (.ifCond .lt 24, 3) := by decide +kernel
theorem dX8_order_4 : decode cX8_order 4 = .ok (.iload_n 1, 1) := by decide +kernel
theorem dX8_order_5 : decode cX8_order 5 = .ok (.aload_n 0, 1) := by decide +kernel
theorem dX8_order_6 : decode cX8_order 6 = .ok (.getfield 34, 3) := by decide +kernel
theorem dX8_order_9 : decode cX8_order 9 = .ok (.getfield 218, 3) := by decide +kernel
theorem dX8_order_12 : decode cX8_order 12 = .ok (.if_icmp .ge 13, 3) := by decide +kernel
theorem dX8_order_15 : decode cX8_order 15 = .ok (.aload_n 0, 1) := by decide +kernel
theorem dX8_order_16 : decode cX8_order 16 = .ok (.getfield 34, 3) := by decide +kernel
theorem dX8_order_19 : decode cX8_order 19 = .ok (.invokevirtual 215, 3) := by decide +kernel
theorem dX8_order_22 : decode cX8_order 22 = .ok (.ifCond .ne 5, 3) := by decide +kernel
theorem dX8_order_25 : decode cX8_order 25 = .ok (.iconst (-1), 1) := by decide +kernel
theorem dX8_order_26 : decode cX8_order 26 = .ok (.ireturn, 1) := by decide +kernel
theorem dX8_order_27 : decode cX8_order 27 = .ok (.aload_n 0, 1) := by decide +kernel
theorem dX8_order_28 : decode cX8_order 28 = .ok (.getfield 34, 3) := by decide +kernel
theorem dX8_order_31 : decode cX8_order 31 = .ok (.getfield 221, 3) := by decide +kernel
theorem dX8_order_34 : decode cX8_order 34 = .ok (.iload_n 1, 1) := by decide +kernel
theorem dX8_order_35 : decode cX8_order 35 = .ok (.iaload, 1) := by decide +kernel
theorem dX8_order_36 : decode cX8_order 36 = .ok (.ireturn, 1) := by decide +kernel
theorem dX8_image_0 : decode cX8_image 0 = .ok (.iload_n 1, 1) := by decide +kernel
theorem dX8_image_1 : decode cX8_image 1 = .ok (.invokestatic 224, 3) := by decide +kernel
theorem dX8_image_4 : decode cX8_image 4 = .ok (.ifCond .ne 5, 3) := by decide +kernel
theorem dX8_image_7 : decode cX8_image 7 = .ok (.iconst (-1), 1) := by decide +kernel
theorem dX8_image_8 : decode cX8_image 8 = .ok (.ireturn, 1) := by decide +kernel
theorem dX8_image_9 : decode cX8_image 9 = .ok (.aload_n 0, 1) := by decide +kernel
theorem dX8_image_10 : decode cX8_image 10 = .ok (.getfield 23, 3) := by decide +kernel
theorem dX8_image_13 : decode cX8_image 13 = .ok (.iload_n 1, 1) := by decide +kernel
theorem dX8_image_14 : decode cX8_image 14 = .ok (.aaload, 1) := by decide +kernel
theorem dX8_image_15 : decode cX8_image 15 = .ok (.ifnonnull 16, 3) := by decide +kernel
theorem dX8_image_18 : decode cX8_image 18 = .ok (.aload_n 0, 1) := by decide +kernel
theorem dX8_image_19 : decode cX8_image 19 = .ok (.getfield 23, 3) := by decide +kernel
theorem dX8_image_22 : decode cX8_image 22 = .ok (.iload_n 1, 1) := by decide +kernel
theorem dX8_image_23 : decode cX8_image 23 = .ok (.new 16, 3) := by decide +kernel
theorem dX8_image_26 : decode cX8_image 26 = .ok (.dup, 1) := by decide +kernel
theorem dX8_image_27 : decode cX8_image 27 = .ok (.invokespecial 18, 3) := by decide +kernel
theorem dX8_image_30 : decode cX8_image 30 = .ok (.aastore, 1) := by decide +kernel
theorem dX8_image_31 : decode cX8_image 31 = .ok (.aload_n 0, 1) := by decide +kernel
theorem dX8_image_32 : decode cX8_image 32 = .ok (.getfield 23, 3) := by decide +kernel
theorem dX8_image_35 : decode cX8_image 35 = .ok (.iload_n 1, 1) := by decide +kernel
theorem dX8_image_36 : decode cX8_image 36 = .ok (.aaload, 1) := by decide +kernel
theorem dX8_image_37 : decode cX8_image 37 = .ok (.aload_n 0, 1) := by decide +kernel
theorem dX8_image_38 : decode cX8_image 38 = .ok (.getfield 19, 3) := by decide +kernel
theorem dX8_image_41 : decode cX8_image 41 = .ok (.invokevirtual 227, 3) := by decide +kernel
theorem dX8_image_44 : decode cX8_image 44 = .ok (.aload_n 0, 1) := by decide +kernel
theorem dX8_image_45 : decode cX8_image 45 = .ok (.getfield 27, 3) := by decide +kernel
theorem dX8_image_48 : decode cX8_image 48 = .ok (.iload_n 1, 1) := by decide +kernel
theorem dX8_image_49 : decode cX8_image 49 = .ok (.iconst 1, 1) := by decide +kernel
theorem dX8_image_50 : decode cX8_image 50 = .ok (.bastore, 1) := by decide +kernel
theorem dX8_image_51 : decode cX8_image 51 = .ok (.aload_n 0, 1) := by decide +kernel
theorem dX8_image_52 : decode cX8_image 52 = .ok (.getfield 19, 3) := by decide +kernel
theorem dX8_image_55 : decode cX8_image 55 = .ok (.getfield 73, 3) := by decide +kernel
theorem dX8_image_58 : decode cX8_image 58 = .ok (.invokevirtual 230, 3) := by decide +kernel
theorem dX8_image_61 : decode cX8_image 61 = .ok (.ireturn, 1) := by decide +kernel
theorem dX8_back_0 : decode cX8_back 0 = .ok (.iload_n 1, 1) := by decide +kernel
theorem dX8_back_1 : decode cX8_back 1 = .ok (.invokestatic 224, 3) := by decide +kernel
theorem dX8_back_4 : decode cX8_back 4 = .ok (.ifCond .eq 21, 3) := by decide +kernel
theorem dX8_back_7 : decode cX8_back 7 = .ok (.aload_n 0, 1) := by decide +kernel
theorem dX8_back_8 : decode cX8_back 8 = .ok (.getfield 27, 3) := by decide +kernel
theorem dX8_back_11 : decode cX8_back 11 = .ok (.iload_n 1, 1) := by decide +kernel
theorem dX8_back_12 : decode cX8_back 12 = .ok (.baload, 1) := by decide +kernel
theorem dX8_back_13 : decode cX8_back 13 = .ok (.ifCond .eq 12, 3) := by decide +kernel
theorem dX8_back_16 : decode cX8_back 16 = .ok (.aload_n 0, 1) := by decide +kernel
theorem dX8_back_17 : decode cX8_back 17 = .ok (.getfield 23, 3) := by decide +kernel
theorem dX8_back_20 : decode cX8_back 20 = .ok (.iload_n 1, 1) := by decide +kernel
theorem dX8_back_21 : decode cX8_back 21 = .ok (.aaload, 1) := by decide +kernel
theorem dX8_back_22 : decode cX8_back 22 = .ok (.ifnonnull 5, 3) := by decide +kernel
theorem dX8_back_25 : decode cX8_back 25 = .ok (.iconst (-1), 1) := by decide +kernel
theorem dX8_back_26 : decode cX8_back 26 = .ok (.ireturn, 1) := by decide +kernel
theorem dX8_back_27 : decode cX8_back 27 = .ok (.aload_n 0, 1) := by decide +kernel
theorem dX8_back_28 : decode cX8_back 28 = .ok (.getfield 19, 3) := by decide +kernel
theorem dX8_back_31 : decode cX8_back 31 = .ok (.aload_n 0, 1) := by decide +kernel
theorem dX8_back_32 : decode cX8_back 32 = .ok (.getfield 23, 3) := by decide +kernel
theorem dX8_back_35 : decode cX8_back 35 = .ok (.iload_n 1, 1) := by decide +kernel
theorem dX8_back_36 : decode cX8_back 36 = .ok (.aaload, 1) := by decide +kernel
theorem dX8_back_37 : decode cX8_back 37 = .ok (.invokevirtual 227, 3) := by decide +kernel
theorem dX8_back_40 : decode cX8_back 40 = .ok (.aload_n 0, 1) := by decide +kernel
theorem dX8_back_41 : decode cX8_back 41 = .ok (.getfield 19, 3) := by decide +kernel
theorem dX8_back_44 : decode cX8_back 44 = .ok (.getfield 73, 3) := by decide +kernel
theorem dX8_back_47 : decode cX8_back 47 = .ok (.invokevirtual 230, 3) := by decide +kernel
theorem dX8_back_50 : decode cX8_back 50 = .ok (.ireturn, 1) := by decide +kernel
theorem dX8_about_0 : decode cX8_about 0 = .ok (.iload_n 1, 1) := by decide +kernel
theorem dX8_about_1 : decode cX8_about 1 = .ok (.tableswitch 117 0 7 #[47, 55, 63, 71, 82, 93, 101, 109], 47) := by decide +kernel
theorem dX8_about_48 : decode cX8_about 48 = .ok (.aload_n 0, 1) := by decide +kernel
theorem dX8_about_49 : decode cX8_about 49 = .ok (.getfield 19, 3) := by decide +kernel
theorem dX8_about_52 : decode cX8_about 52 = .ok (.getfield 60, 3) := by decide +kernel
theorem dX8_about_55 : decode cX8_about 55 = .ok (.ireturn, 1) := by decide +kernel
theorem dX8_about_56 : decode cX8_about 56 = .ok (.aload_n 0, 1) := by decide +kernel
theorem dX8_about_57 : decode cX8_about 57 = .ok (.getfield 19, 3) := by decide +kernel
theorem dX8_about_60 : decode cX8_about 60 = .ok (.getfield 233, 3) := by decide +kernel
theorem dX8_about_63 : decode cX8_about 63 = .ok (.ireturn, 1) := by decide +kernel
theorem dX8_about_64 : decode cX8_about 64 = .ok (.aload_n 0, 1) := by decide +kernel
theorem dX8_about_65 : decode cX8_about 65 = .ok (.getfield 19, 3) := by decide +kernel
theorem dX8_about_68 : decode cX8_about 68 = .ok (.invokevirtual 236, 3) := by decide +kernel
theorem dX8_about_71 : decode cX8_about 71 = .ok (.ireturn, 1) := by decide +kernel
theorem dX8_about_72 : decode cX8_about 72 = .ok (.aload_n 0, 1) := by decide +kernel
theorem dX8_about_73 : decode cX8_about 73 = .ok (.getfield 19, 3) := by decide +kernel
theorem dX8_about_76 : decode cX8_about 76 = .ok (.getfield 73, 3) := by decide +kernel
theorem dX8_about_79 : decode cX8_about 79 = .ok (.invokevirtual 230, 3) := by decide +kernel
theorem dX8_about_82 : decode cX8_about 82 = .ok (.ireturn, 1) := by decide +kernel
theorem dX8_about_83 : decode cX8_about 83 = .ok (.aload_n 0, 1) := by decide +kernel
theorem dX8_about_84 : decode cX8_about 84 = .ok (.getfield 19, 3) := by decide +kernel
theorem dX8_about_87 : decode cX8_about 87 = .ok (.getfield 151, 3) := by decide +kernel
theorem dX8_about_90 : decode cX8_about 90 = .ok (.getfield 239, 3) := by decide +kernel
theorem dX8_about_93 : decode cX8_about 93 = .ok (.ireturn, 1) := by decide +kernel
theorem dX8_about_94 : decode cX8_about 94 = .ok (.aload_n 0, 1) := by decide +kernel
theorem dX8_about_95 : decode cX8_about 95 = .ok (.getfield 34, 3) := by decide +kernel
theorem dX8_about_98 : decode cX8_about 98 = .ok (.getfield 218, 3) := by decide +kernel
theorem dX8_about_101 : decode cX8_about 101 = .ok (.ireturn, 1) := by decide +kernel
theorem dX8_about_102 : decode cX8_about 102 = .ok (.aload_n 0, 1) := by decide +kernel
theorem dX8_about_103 : decode cX8_about 103 = .ok (.getfield 10, 3) := by decide +kernel
theorem dX8_about_106 : decode cX8_about 106 = .ok (.getfield 46, 3) := by decide +kernel
theorem dX8_about_109 : decode cX8_about 109 = .ok (.ireturn, 1) := by decide +kernel
theorem dX8_about_110 : decode cX8_about 110 = .ok (.aload_n 0, 1) := by decide +kernel
theorem dX8_about_111 : decode cX8_about 111 = .ok (.getfield 19, 3) := by decide +kernel
theorem dX8_about_114 : decode cX8_about 114 = .ok (.invokevirtual 240, 3) := by decide +kernel
theorem dX8_about_117 : decode cX8_about 117 = .ok (.ireturn, 1) := by decide +kernel
theorem dX8_about_118 : decode cX8_about 118 = .ok (.iconst (-1), 1) := by decide +kernel
theorem dX8_about_119 : decode cX8_about 119 = .ok (.ireturn, 1) := by decide +kernel
theorem dX8_canBe_0 : decode cX8_canBe 0 = .ok (.iload_n 0, 1) := by decide +kernel
theorem dX8_canBe_1 : decode cX8_canBe 1 = .ok (.invokestatic 182, 3) := by decide +kernel
theorem dX8_canBe_4 : decode cX8_canBe 4 = .ok (.ifCond .eq 32, 3) := by decide +kernel
theorem dX8_canBe_7 : decode cX8_canBe 7 = .ok (.iload_n 1, 1) := by decide +kernel
theorem dX8_canBe_8 : decode cX8_canBe 8 = .ok (.iconst 1, 1) := by decide +kernel
theorem dX8_canBe_9 : decode cX8_canBe 9 = .ok (.if_icmp .lt 27, 3) := by decide +kernel
theorem dX8_canBe_12 : decode cX8_canBe 12 = .ok (.iload_n 1, 1) := by decide +kernel
theorem dX8_canBe_13 : decode cX8_canBe 13 = .ok (.bipush 99, 2) := by decide +kernel
theorem dX8_canBe_15 : decode cX8_canBe 15 = .ok (.if_icmp .gt 21, 3) := by decide +kernel
theorem dX8_canBe_18 : decode cX8_canBe 18 = .ok (.iload_n 2, 1) := by decide +kernel
theorem dX8_canBe_19 : decode cX8_canBe 19 = .ok (.invokestatic 202, 3) := by decide +kernel
theorem dX8_canBe_22 : decode cX8_canBe 22 = .ok (.ifCond .eq 14, 3) := by decide +kernel
theorem dX8_canBe_25 : decode cX8_canBe 25 = .ok (.iload_n 3, 1) := by decide +kernel
theorem dX8_canBe_26 : decode cX8_canBe 26 = .ok (.invokestatic 145, 3) := by decide +kernel
theorem dX8_canBe_29 : decode cX8_canBe 29 = .ok (.ifCond .eq 7, 3) := by decide +kernel
theorem dX8_canBe_32 : decode cX8_canBe 32 = .ok (.iconst 1, 1) := by decide +kernel
theorem dX8_canBe_33 : decode cX8_canBe 33 = .ok (.goto 4, 3) := by decide +kernel
theorem dX8_canBe_36 : decode cX8_canBe 36 = .ok (.iconst 0, 1) := by decide +kernel
theorem dX8_canBe_37 : decode cX8_canBe 37 = .ok (.ireturn, 1) := by decide +kernel
theorem dX8_isClient_0 : decode cX8_isClient 0 = .ok (.iload_n 0, 1) := by decide +kernel
theorem dX8_isClient_1 : decode cX8_isClient 1 = .ok (.ifCond .lt 13, 3) := by decide +kernel
theorem dX8_isClient_4 : decode cX8_isClient 4 = .ok (.iload_n 0, 1) := by decide +kernel
theorem dX8_isClient_5 : decode cX8_isClient 5 = .ok (.bipush 6, 2) := by decide +kernel
theorem dX8_isClient_7 : decode cX8_isClient 7 = .ok (.if_icmp .ge 7, 3) := by decide +kernel
theorem dX8_isClient_10 : decode cX8_isClient 10 = .ok (.iconst 1, 1) := by decide +kernel
theorem dX8_isClient_11 : decode cX8_isClient 11 = .ok (.goto 4, 3) := by decide +kernel
theorem dX8_isClient_14 : decode cX8_isClient 14 = .ok (.iconst 0, 1) := by decide +kernel
theorem dX8_isClient_15 : decode cX8_isClient 15 = .ok (.ireturn, 1) := by decide +kernel
theorem dX8_isWhat_0 : decode cX8_isWhat 0 = .ok (.iload_n 0, 1) := by decide +kernel
theorem dX8_isWhat_1 : decode cX8_isWhat 1 = .ok (.ifCond .lt 12, 3) := by decide +kernel
theorem dX8_isWhat_4 : decode cX8_isWhat 4 = .ok (.iload_n 0, 1) := by decide +kernel
theorem dX8_isWhat_5 : decode cX8_isWhat 5 = .ok (.iconst 3, 1) := by decide +kernel
theorem dX8_isWhat_6 : decode cX8_isWhat 6 = .ok (.if_icmp .gt 7, 3) := by decide +kernel
theorem dX8_isWhat_9 : decode cX8_isWhat 9 = .ok (.iconst 1, 1) := by decide +kernel
theorem dX8_isWhat_10 : decode cX8_isWhat 10 = .ok (.goto 4, 3) := by decide +kernel
theorem dX8_isWhat_13 : decode cX8_isWhat 13 = .ok (.iconst 0, 1) := by decide +kernel
theorem dX8_isWhat_14 : decode cX8_isWhat 14 = .ok (.ireturn, 1) := by decide +kernel
theorem dX8_isCell_0 : decode cX8_isCell 0 = .ok (.iload_n 0, 1) := by decide +kernel
theorem dX8_isCell_1 : decode cX8_isCell 1 = .ok (.ifCond .lt 13, 3) := by decide +kernel
theorem dX8_isCell_4 : decode cX8_isCell 4 = .ok (.iload_n 0, 1) := by decide +kernel
theorem dX8_isCell_5 : decode cX8_isCell 5 = .ok (.bipush 8, 2) := by decide +kernel
theorem dX8_isCell_7 : decode cX8_isCell 7 = .ok (.if_icmp .ge 7, 3) := by decide +kernel
theorem dX8_isCell_10 : decode cX8_isCell 10 = .ok (.iconst 1, 1) := by decide +kernel
theorem dX8_isCell_11 : decode cX8_isCell 11 = .ok (.goto 4, 3) := by decide +kernel
theorem dX8_isCell_14 : decode cX8_isCell 14 = .ok (.iconst 0, 1) := by decide +kernel
theorem dX8_isCell_15 : decode cX8_isCell 15 = .ok (.ireturn, 1) := by decide +kernel
theorem dX8_isBox_0 : decode cX8_isBox 0 = .ok (.iload_n 0, 1) := by decide +kernel
theorem dX8_isBox_1 : decode cX8_isBox 1 = .ok (.ifCond .lt 12, 3) := by decide +kernel
theorem dX8_isBox_4 : decode cX8_isBox 4 = .ok (.iload_n 0, 1) := by decide +kernel
theorem dX8_isBox_5 : decode cX8_isBox 5 = .ok (.iconst 3, 1) := by decide +kernel
theorem dX8_isBox_6 : decode cX8_isBox 6 = .ok (.if_icmp .ge 7, 3) := by decide +kernel
theorem dX8_isBox_9 : decode cX8_isBox 9 = .ok (.iconst 1, 1) := by decide +kernel
theorem dX8_isBox_10 : decode cX8_isBox 10 = .ok (.goto 4, 3) := by decide +kernel
theorem dX8_isBox_13 : decode cX8_isBox 13 = .ok (.iconst 0, 1) := by decide +kernel
theorem dX8_isBox_14 : decode cX8_isBox 14 = .ok (.ireturn, 1) := by decide +kernel
theorem dX8_cellBehind_0 : decode cX8_cellBehind 0 = .ok (.iload_n 0, 1) := by decide +kernel
theorem dX8_cellBehind_1 : decode cX8_cellBehind 1 = .ok (.tableswitch 39 0 2 #[27, 29, 33], 27) := by decide +kernel
theorem dX8_cellBehind_28 : decode cX8_cellBehind 28 = .ok (.iload_n 2, 1) := by decide +kernel
theorem dX8_cellBehind_29 : decode cX8_cellBehind 29 = .ok (.ireturn, 1) := by decide +kernel
theorem dX8_cellBehind_30 : decode cX8_cellBehind 30 = .ok (.iload_n 1, 1) := by decide +kernel
theorem dX8_cellBehind_31 : decode cX8_cellBehind 31 = .ok (.iload_n 2, 1) := by decide +kernel
theorem dX8_cellBehind_32 : decode cX8_cellBehind 32 = .ok (.iadd, 1) := by decide +kernel
theorem dX8_cellBehind_33 : decode cX8_cellBehind 33 = .ok (.ireturn, 1) := by decide +kernel
theorem dX8_cellBehind_34 : decode cX8_cellBehind 34 = .ok (.iload_n 1, 1) := by decide +kernel
theorem dX8_cellBehind_35 : decode cX8_cellBehind 35 = .ok (.iload_n 2, 1) := by decide +kernel
theorem dX8_cellBehind_36 : decode cX8_cellBehind 36 = .ok (.invokestatic 243, 3) := by decide +kernel
theorem dX8_cellBehind_39 : decode cX8_cellBehind 39 = .ok (.ireturn, 1) := by decide +kernel
theorem dX8_cellBehind_40 : decode cX8_cellBehind 40 = .ok (.iload_n 1, 1) := by decide +kernel
theorem dX8_cellBehind_41 : decode cX8_cellBehind 41 = .ok (.ifCond .ne 7, 3) := by decide +kernel
theorem dX8_cellBehind_44 : decode cX8_cellBehind 44 = .ok (.iload_n 2, 1) := by decide +kernel
theorem dX8_cellBehind_45 : decode cX8_cellBehind 45 = .ok (.goto 4, 3) := by decide +kernel
theorem dX8_cellBehind_48 : decode cX8_cellBehind 48 = .ok (.iload_n 1, 1) := by decide +kernel
theorem dX8_cellBehind_49 : decode cX8_cellBehind 49 = .ok (.ireturn, 1) := by decide +kernel
theorem dX8_answerTo_0 : decode cX8_answerTo 0 = .ok (.iload_n 0, 1) := by decide +kernel
theorem dX8_answerTo_1 : decode cX8_answerTo 1 = .ok (.lookupswitch 39 #[(0, 27), (3, 29)], 27) := by decide +kernel
theorem dX8_answerTo_28 : decode cX8_answerTo 28 = .ok (.iload_n 1, 1) := by decide +kernel
theorem dX8_answerTo_29 : decode cX8_answerTo 29 = .ok (.ireturn, 1) := by decide +kernel
theorem dX8_answerTo_30 : decode cX8_answerTo 30 = .ok (.iload_n 1, 1) := by decide +kernel
theorem dX8_answerTo_31 : decode cX8_answerTo 31 = .ok (.ifCond .ne 7, 3) := by decide +kernel
theorem dX8_answerTo_34 : decode cX8_answerTo 34 = .ok (.iconst 1, 1) := by decide +kernel
theorem dX8_answerTo_35 : decode cX8_answerTo 35 = .ok (.goto 4, 3) := by decide +kernel
theorem dX8_answerTo_38 : decode cX8_answerTo 38 = .ok (.iconst 0, 1) := by decide +kernel
theorem dX8_answerTo_39 : decode cX8_answerTo 39 = .ok (.ireturn, 1) := by decide +kernel
theorem dX8_answerTo_40 : decode cX8_answerTo 40 = .ok (.iload_n 2, 1) := by decide +kernel
theorem dX8_answerTo_41 : decode cX8_answerTo 41 = .ok (.ireturn, 1) := by decide +kernel
theorem dJ6_bitCount_0f7a4_0 : decode cJ6_bitCount_0f7a4 0 = .ok (.iload_n 0, 1) := by decide +kernel
theorem dJ6_bitCount_0f7a4_1 : decode cJ6_bitCount_0f7a4 1 = .ok (.iload_n 0, 1) := by decide +kernel
theorem dJ6_bitCount_0f7a4_2 : decode cJ6_bitCount_0f7a4 2 = .ok (.iconst 1, 1) := by decide +kernel
theorem dJ6_bitCount_0f7a4_3 : decode cJ6_bitCount_0f7a4 3 = .ok (.iushr, 1) := by decide +kernel
theorem dJ6_bitCount_0f7a4_4 : decode cJ6_bitCount_0f7a4 4 = .ok (.ldc_w 265, 3) := by decide +kernel
theorem dJ6_bitCount_0f7a4_7 : decode cJ6_bitCount_0f7a4 7 = .ok (.iand, 1) := by decide +kernel
theorem dJ6_bitCount_0f7a4_8 : decode cJ6_bitCount_0f7a4 8 = .ok (.isub, 1) := by decide +kernel
theorem dJ6_bitCount_0f7a4_9 : decode cJ6_bitCount_0f7a4 9 = .ok (.istore_n 0, 1) := by decide +kernel
theorem dJ6_bitCount_0f7a4_10 : decode cJ6_bitCount_0f7a4 10 = .ok (.iload_n 0, 1) := by decide +kernel
theorem dJ6_bitCount_0f7a4_11 : decode cJ6_bitCount_0f7a4 11 = .ok (.ldc_w 266, 3) := by decide +kernel
theorem dJ6_bitCount_0f7a4_14 : decode cJ6_bitCount_0f7a4 14 = .ok (.iand, 1) := by decide +kernel
theorem dJ6_bitCount_0f7a4_15 : decode cJ6_bitCount_0f7a4 15 = .ok (.iload_n 0, 1) := by decide +kernel
theorem dJ6_bitCount_0f7a4_16 : decode cJ6_bitCount_0f7a4 16 = .ok (.iconst 2, 1) := by decide +kernel
theorem dJ6_bitCount_0f7a4_17 : decode cJ6_bitCount_0f7a4 17 = .ok (.iushr, 1) := by decide +kernel
theorem dJ6_bitCount_0f7a4_18 : decode cJ6_bitCount_0f7a4 18 = .ok (.ldc_w 266, 3) := by decide +kernel
theorem dJ6_bitCount_0f7a4_21 : decode cJ6_bitCount_0f7a4 21 = .ok (.iand, 1) := by decide +kernel
theorem dJ6_bitCount_0f7a4_22 : decode cJ6_bitCount_0f7a4 22 = .ok (.iadd, 1) := by decide +kernel
theorem dJ6_bitCount_0f7a4_23 : decode cJ6_bitCount_0f7a4 23 = .ok (.istore_n 0, 1) := by decide +kernel
theorem dJ6_bitCount_0f7a4_24 : decode cJ6_bitCount_0f7a4 24 = .ok (.iload_n 0, 1) := by decide +kernel
theorem dJ6_bitCount_0f7a4_25 : decode cJ6_bitCount_0f7a4 25 = .ok (.iload_n 0, 1) := by decide +kernel
theorem dJ6_bitCount_0f7a4_26 : decode cJ6_bitCount_0f7a4 26 = .ok (.iconst 4, 1) := by decide +kernel
theorem dJ6_bitCount_0f7a4_27 : decode cJ6_bitCount_0f7a4 27 = .ok (.iushr, 1) := by decide +kernel
theorem dJ6_bitCount_0f7a4_28 : decode cJ6_bitCount_0f7a4 28 = .ok (.iadd, 1) := by decide +kernel
theorem dJ6_bitCount_0f7a4_29 : decode cJ6_bitCount_0f7a4 29 = .ok (.ldc_w 267, 3) := by decide +kernel
theorem dJ6_bitCount_0f7a4_32 : decode cJ6_bitCount_0f7a4 32 = .ok (.iand, 1) := by decide +kernel
theorem dJ6_bitCount_0f7a4_33 : decode cJ6_bitCount_0f7a4 33 = .ok (.istore_n 0, 1) := by decide +kernel
theorem dJ6_bitCount_0f7a4_34 : decode cJ6_bitCount_0f7a4 34 = .ok (.iload_n 0, 1) := by decide +kernel
theorem dJ6_bitCount_0f7a4_35 : decode cJ6_bitCount_0f7a4 35 = .ok (.iload_n 0, 1) := by decide +kernel
theorem dJ6_bitCount_0f7a4_36 : decode cJ6_bitCount_0f7a4 36 = .ok (.bipush 8, 2) := by decide +kernel
theorem dJ6_bitCount_0f7a4_38 : decode cJ6_bitCount_0f7a4 38 = .ok (.iushr, 1) := by decide +kernel
theorem dJ6_bitCount_0f7a4_39 : decode cJ6_bitCount_0f7a4 39 = .ok (.iadd, 1) := by decide +kernel
theorem dJ6_bitCount_0f7a4_40 : decode cJ6_bitCount_0f7a4 40 = .ok (.istore_n 0, 1) := by decide +kernel
theorem dJ6_bitCount_0f7a4_41 : decode cJ6_bitCount_0f7a4 41 = .ok (.iload_n 0, 1) := by decide +kernel
theorem dJ6_bitCount_0f7a4_42 : decode cJ6_bitCount_0f7a4 42 = .ok (.iload_n 0, 1) := by decide +kernel
theorem dJ6_bitCount_0f7a4_43 : decode cJ6_bitCount_0f7a4 43 = .ok (.bipush 16, 2) := by decide +kernel
theorem dJ6_bitCount_0f7a4_45 : decode cJ6_bitCount_0f7a4 45 = .ok (.iushr, 1) := by decide +kernel
theorem dJ6_bitCount_0f7a4_46 : decode cJ6_bitCount_0f7a4 46 = .ok (.iadd, 1) := by decide +kernel
theorem dJ6_bitCount_0f7a4_47 : decode cJ6_bitCount_0f7a4 47 = .ok (.istore_n 0, 1) := by decide +kernel
theorem dJ6_bitCount_0f7a4_48 : decode cJ6_bitCount_0f7a4 48 = .ok (.iload_n 0, 1) := by decide +kernel
theorem dJ6_bitCount_0f7a4_49 : decode cJ6_bitCount_0f7a4 49 = .ok (.bipush 63, 2) := by decide +kernel
theorem dJ6_bitCount_0f7a4_51 : decode cJ6_bitCount_0f7a4 51 = .ok (.iand, 1) := by decide +kernel
theorem dJ6_bitCount_0f7a4_52 : decode cJ6_bitCount_0f7a4 52 = .ok (.ireturn, 1) := by decide +kernel
theorem dJ9_max_7cf53_0 : decode cJ9_max_7cf53 0 = .ok (.iload_n 0, 1) := by decide +kernel
theorem dJ9_max_7cf53_1 : decode cJ9_max_7cf53 1 = .ok (.iload_n 1, 1) := by decide +kernel
theorem dJ9_max_7cf53_2 : decode cJ9_max_7cf53 2 = .ok (.if_icmp .lt 7, 3) := by decide +kernel
theorem dJ9_max_7cf53_5 : decode cJ9_max_7cf53 5 = .ok (.iload_n 0, 1) := by decide +kernel
theorem dJ9_max_7cf53_6 : decode cJ9_max_7cf53 6 = .ok (.goto 4, 3) := by decide +kernel
theorem dJ9_max_7cf53_9 : decode cJ9_max_7cf53 9 = .ok (.iload_n 1, 1) := by decide +kernel
theorem dJ9_max_7cf53_10 : decode cJ9_max_7cf53 10 = .ok (.ireturn, 1) := by decide +kernel
theorem dJ9_min_7cf53_0 : decode cJ9_min_7cf53 0 = .ok (.iload_n 0, 1) := by decide +kernel
theorem dJ9_min_7cf53_1 : decode cJ9_min_7cf53 1 = .ok (.iload_n 1, 1) := by decide +kernel
theorem dJ9_min_7cf53_2 : decode cJ9_min_7cf53 2 = .ok (.if_icmp .gt 7, 3) := by decide +kernel
theorem dJ9_min_7cf53_5 : decode cJ9_min_7cf53 5 = .ok (.iload_n 0, 1) := by decide +kernel
theorem dJ9_min_7cf53_6 : decode cJ9_min_7cf53 6 = .ok (.goto 4, 3) := by decide +kernel
theorem dJ9_min_7cf53_9 : decode cJ9_min_7cf53 9 = .ok (.iload_n 1, 1) := by decide +kernel
theorem dJ9_min_7cf53_10 : decode cJ9_min_7cf53 10 = .ok (.ireturn, 1) := by decide +kernel
theorem dJ0_length_8abf5_0 : decode cJ0_length_8abf5 0 = .ok (.aload_n 0, 1) := by decide +kernel
theorem dJ0_length_8abf5_1 : decode cJ0_length_8abf5 1 = .ok (.getfield 9, 3) := by decide +kernel
theorem dJ0_length_8abf5_4 : decode cJ0_length_8abf5 4 = .ok (.arraylength, 1) := by decide +kernel
theorem dJ0_length_8abf5_5 : decode cJ0_length_8abf5 5 = .ok (.aload_n 0, 1) := by decide +kernel
theorem dJ0_length_8abf5_6 : decode cJ0_length_8abf5 6 = .ok (.invokevirtual 335, 3) := by decide +kernel
theorem dJ0_length_8abf5_9 : decode cJ0_length_8abf5 9 = .ok (.ishr, 1) := by decide +kernel
theorem dJ0_length_8abf5_10 : decode cJ0_length_8abf5 10 = .ok (.ireturn, 1) := by decide +kernel
theorem dJ0_charAt_5068e_0 : decode cJ0_charAt_5068e 0 = .ok (.aload_n 0, 1) := by decide +kernel
theorem dJ0_charAt_5068e_1 : decode cJ0_charAt_5068e 1 = .ok (.invokevirtual 492, 3) := by decide +kernel
theorem dJ0_charAt_5068e_4 : decode cJ0_charAt_5068e 4 = .ok (.ifCond .eq 12, 3) := by decide +kernel
theorem dJ0_charAt_5068e_7 : decode cJ0_charAt_5068e 7 = .ok (.aload_n 0, 1) := by decide +kernel
theorem dJ0_charAt_5068e_8 : decode cJ0_charAt_5068e 8 = .ok (.getfield 9, 3) := by decide +kernel
theorem dJ0_charAt_5068e_11 : decode cJ0_charAt_5068e 11 = .ok (.iload_n 1, 1) := by decide +kernel
theorem dJ0_charAt_5068e_12 : decode cJ0_charAt_5068e 12 = .ok (.invokestatic 495, 3) := by decide +kernel
theorem dJ0_charAt_5068e_15 : decode cJ0_charAt_5068e 15 = .ok (.ireturn, 1) := by decide +kernel
theorem dJ0_charAt_5068e_16 : decode cJ0_charAt_5068e 16 = .ok (.aload_n 0, 1) := by decide +kernel
theorem dJ0_charAt_5068e_17 : decode cJ0_charAt_5068e 17 = .ok (.getfield 9, 3) := by decide +kernel
theorem dJ0_charAt_5068e_20 : decode cJ0_charAt_5068e 20 = .ok (.iload_n 1, 1) := by decide +kernel
theorem dJ0_charAt_5068e_21 : decode cJ0_charAt_5068e 21 = .ok (.invokestatic 498, 3) := by decide +kernel
theorem dJ0_charAt_5068e_24 : decode cJ0_charAt_5068e 24 = .ok (.ireturn, 1) := by decide +kernel
theorem dJ0_coder_7d493_0 : decode cJ0_coder_7d493 0 = .ok (.getstatic 38, 3) := by decide +kernel
theorem dJ0_coder_7d493_3 : decode cJ0_coder_7d493 3 = .ok (.ifCond .eq 10, 3) := by decide +kernel
theorem dJ0_coder_7d493_6 : decode cJ0_coder_7d493 6 = .ok (.aload_n 0, 1) := by decide +kernel
theorem dJ0_coder_7d493_7 : decode cJ0_coder_7d493 7 = .ok (.getfield 15, 3) := by decide +kernel
theorem dJ0_coder_7d493_10 : decode cJ0_coder_7d493 10 = .ok (.goto 4, 3) := by decide +kernel
theorem dJ0_coder_7d493_13 : decode cJ0_coder_7d493 13 = .ok (.iconst 1, 1) := by decide +kernel
theorem dJ0_coder_7d493_14 : decode cJ0_coder_7d493 14 = .ok (.ireturn, 1) := by decide +kernel
theorem dJ0_isLatin1_aae02_0 : decode cJ0_isLatin1_aae02 0 = .ok (.getstatic 38, 3) := by decide +kernel
theorem dJ0_isLatin1_aae02_3 : decode cJ0_isLatin1_aae02 3 = .ok (.ifCond .eq 14, 3) := by decide +kernel
theorem dJ0_isLatin1_aae02_6 : decode cJ0_isLatin1_aae02 6 = .ok (.aload_n 0, 1) := by decide +kernel
theorem dJ0_isLatin1_aae02_7 : decode cJ0_isLatin1_aae02 7 = .ok (.getfield 15, 3) := by decide +kernel
theorem dJ0_isLatin1_aae02_10 : decode cJ0_isLatin1_aae02 10 = .ok (.ifCond .ne 7, 3) := by decide +kernel
theorem dJ0_isLatin1_aae02_13 : decode cJ0_isLatin1_aae02 13 = .ok (.iconst 1, 1) := by decide +kernel
theorem dJ0_isLatin1_aae02_14 : decode cJ0_isLatin1_aae02 14 = .ok (.goto 4, 3) := by decide +kernel
theorem dJ0_isLatin1_aae02_17 : decode cJ0_isLatin1_aae02 17 = .ok (.iconst 0, 1) := by decide +kernel
theorem dJ0_isLatin1_aae02_18 : decode cJ0_isLatin1_aae02 18 = .ok (.ireturn, 1) := by decide +kernel
theorem dJ0_checkIndex_df160_0 : decode cJ0_checkIndex_df160 0 = .ok (.iload_n 0, 1) := by decide +kernel
theorem dJ0_checkIndex_df160_1 : decode cJ0_checkIndex_df160 1 = .ok (.iload_n 1, 1) := by decide +kernel
theorem dJ0_checkIndex_df160_2 : decode cJ0_checkIndex_df160 2 = .ok (.getstatic 1053, 3) := by decide +kernel
theorem dJ0_checkIndex_df160_5 : decode cJ0_checkIndex_df160 5 = .ok (.invokestatic 1059, 3) := by decide +kernel
theorem dJ0_checkIndex_df160_8 : decode cJ0_checkIndex_df160 8 = .ok (.pop, 1) := by decide +kernel
theorem dJ0_checkIndex_df160_9 : decode cJ0_checkIndex_df160 9 = .ok (.return_, 1) := by decide +kernel
theorem dJ1_charAt_3b067_0 : decode cJ1_charAt_3b067 0 = .ok (.iload_n 1, 1) := by decide +kernel
theorem dJ1_charAt_3b067_1 : decode cJ1_charAt_3b067 1 = .ok (.aload_n 0, 1) := by decide +kernel
theorem dJ1_charAt_3b067_2 : decode cJ1_charAt_3b067 2 = .ok (.arraylength, 1) := by decide +kernel
theorem dJ1_charAt_3b067_3 : decode cJ1_charAt_3b067 3 = .ok (.invokestatic 9, 3) := by decide +kernel
theorem dJ1_charAt_3b067_6 : decode cJ1_charAt_3b067 6 = .ok (.aload_n 0, 1) := by decide +kernel
theorem dJ1_charAt_3b067_7 : decode cJ1_charAt_3b067 7 = .ok (.iload_n 1, 1) := by decide +kernel
theorem dJ1_charAt_3b067_8 : decode cJ1_charAt_3b067 8 = .ok (.baload, 1) := by decide +kernel
theorem dJ1_charAt_3b067_9 : decode cJ1_charAt_3b067 9 = .ok (.sipush 255, 3) := by decide +kernel
theorem dJ1_charAt_3b067_12 : decode cJ1_charAt_3b067 12 = .ok (.iand, 1) := by decide +kernel
theorem dJ1_charAt_3b067_13 : decode cJ1_charAt_3b067 13 = .ok (.i2c, 1) := by decide +kernel
theorem dJ1_charAt_3b067_14 : decode cJ1_charAt_3b067 14 = .ok (.ireturn, 1) := by decide +kernel
theorem dJ2_getChar_3b067_0 : decode cJ2_getChar_3b067 0 = .ok (.getstatic 44, 3) := by decide +kernel
theorem dJ2_getChar_3b067_3 : decode cJ2_getChar_3b067 3 = .ok (.ifCond .ne 25, 3) := by decide +kernel
theorem dJ2_getChar_3b067_6 : decode cJ2_getChar_3b067 6 = .ok (.iload_n 1, 1) := by decide +kernel
theorem dJ2_getChar_3b067_7 : decode cJ2_getChar_3b067 7 = .ok (.ifCond .lt 11, 3) := by decide +kernel
theorem dJ2_getChar_3b067_10 : decode cJ2_getChar_3b067 10 = .ok (.iload_n 1, 1) := by decide +kernel
theorem dJ2_getChar_3b067_11 : decode cJ2_getChar_3b067 11 = .ok (.aload_n 0, 1) := by decide +kernel
theorem dJ2_getChar_3b067_12 : decode cJ2_getChar_3b067 12 = .ok (.invokestatic 48, 3) := by decide +kernel
theorem dJ2_getChar_3b067_15 : decode cJ2_getChar_3b067 15 = .ok (.if_icmp .lt 13, 3) := by decide +kernel
theorem dJ2_getChar_3b067_18 : decode cJ2_getChar_3b067 18 = .ok (.new 52, 3) := by decide +kernel
theorem dJ2_getChar_3b067_21 : decode cJ2_getChar_3b067 21 = .ok (.dup, 1) := by decide +kernel
theorem dJ2_getChar_3b067_22 : decode cJ2_getChar_3b067 22 = .ok (.ldc 54, 2) := by decide +kernel
theorem dJ2_getChar_3b067_24 : decode cJ2_getChar_3b067 24 = .ok (.invokespecial 56, 3) := by decide +kernel
theorem dJ2_getChar_3b067_27 : decode cJ2_getChar_3b067 27 = .ok (.athrow, 1) := by decide +kernel
theorem dJ2_getChar_3b067_28 : decode cJ2_getChar_3b067 28 = .ok (.iload_n 1, 1) := by decide +kernel
theorem dJ2_getChar_3b067_29 : decode cJ2_getChar_3b067 29 = .ok (.iconst 1, 1) := by decide +kernel
theorem dJ2_getChar_3b067_30 : decode cJ2_getChar_3b067 30 = .ok (.ishl, 1) := by decide +kernel
theorem dJ2_getChar_3b067_31 : decode cJ2_getChar_3b067 31 = .ok (.istore_n 1, 1) := by decide +kernel
theorem dJ2_getChar_3b067_32 : decode cJ2_getChar_3b067 32 = .ok (.aload_n 0, 1) := by decide +kernel
theorem dJ2_getChar_3b067_33 : decode cJ2_getChar_3b067 33 = .ok (.iload_n 1, 1) := by decide +kernel
theorem dJ2_getChar_3b067_34 : decode cJ2_getChar_3b067 34 = .ok (.iinc 1 1, 3) := by decide +kernel
theorem dJ2_getChar_3b067_37 : decode cJ2_getChar_3b067 37 = .ok (.baload, 1) := by decide +kernel
theorem dJ2_getChar_3b067_38 : decode cJ2_getChar_3b067 38 = .ok (.sipush 255, 3) := by decide +kernel
theorem dJ2_getChar_3b067_41 : decode cJ2_getChar_3b067 41 = .ok (.iand, 1) := by decide +kernel
theorem dJ2_getChar_3b067_42 : decode cJ2_getChar_3b067 42 = .ok (.getstatic 59, 3) := by decide +kernel
theorem dJ2_getChar_3b067_45 : decode cJ2_getChar_3b067 45 = .ok (.ishl, 1) := by decide +kernel
theorem dJ2_getChar_3b067_46 : decode cJ2_getChar_3b067 46 = .ok (.aload_n 0, 1) := by decide +kernel
theorem dJ2_getChar_3b067_47 : decode cJ2_getChar_3b067 47 = .ok (.iload_n 1, 1) := by decide +kernel
theorem dJ2_getChar_3b067_48 : decode cJ2_getChar_3b067 48 = .ok (.baload, 1) := by decide +kernel
theorem dJ2_getChar_3b067_49 : decode cJ2_getChar_3b067 49 = .ok (.sipush 255, 3) := by decide +kernel
theorem dJ2_getChar_3b067_52 : decode cJ2_getChar_3b067 52 = .ok (.iand, 1) := by decide +kernel
theorem dJ2_getChar_3b067_53 : decode cJ2_getChar_3b067 53 = .ok (.getstatic 63, 3) := by decide +kernel
theorem dJ2_getChar_3b067_56 : decode cJ2_getChar_3b067 56 = .ok (.ishl, 1) := by decide +kernel
theorem dJ2_getChar_3b067_57 : decode cJ2_getChar_3b067 57 = .ok (.ior, 1) := by decide +kernel
theorem dJ2_getChar_3b067_58 : decode cJ2_getChar_3b067 58 = .ok (.i2c, 1) := by decide +kernel
theorem dJ2_getChar_3b067_59 : decode cJ2_getChar_3b067 59 = .ok (.ireturn, 1) := by decide +kernel
theorem dJ2_length_9d52b_0 : decode cJ2_length_9d52b 0 = .ok (.aload_n 0, 1) := by decide +kernel
theorem dJ2_length_9d52b_1 : decode cJ2_length_9d52b 1 = .ok (.arraylength, 1) := by decide +kernel
theorem dJ2_length_9d52b_2 : decode cJ2_length_9d52b 2 = .ok (.iconst 1, 1) := by decide +kernel
theorem dJ2_length_9d52b_3 : decode cJ2_length_9d52b 3 = .ok (.ishr, 1) := by decide +kernel
theorem dJ2_length_9d52b_4 : decode cJ2_length_9d52b 4 = .ok (.ireturn, 1) := by decide +kernel
theorem dJ2_charAt_3b067_0 : decode cJ2_charAt_3b067 0 = .ok (.iload_n 1, 1) := by decide +kernel
theorem dJ2_charAt_3b067_1 : decode cJ2_charAt_3b067 1 = .ok (.aload_n 0, 1) := by decide +kernel
theorem dJ2_charAt_3b067_2 : decode cJ2_charAt_3b067 2 = .ok (.invokestatic 67, 3) := by decide +kernel
theorem dJ2_charAt_3b067_5 : decode cJ2_charAt_3b067 5 = .ok (.aload_n 0, 1) := by decide +kernel
theorem dJ2_charAt_3b067_6 : decode cJ2_charAt_3b067 6 = .ok (.iload_n 1, 1) := by decide +kernel
theorem dJ2_charAt_3b067_7 : decode cJ2_charAt_3b067 7 = .ok (.invokestatic 71, 3) := by decide +kernel
theorem dJ2_charAt_3b067_10 : decode cJ2_charAt_3b067 10 = .ok (.ireturn, 1) := by decide +kernel
theorem dJ2_checkIndex_2214a_0 : decode cJ2_checkIndex_2214a 0 = .ok (.iload_n 0, 1) := by decide +kernel
theorem dJ2_checkIndex_2214a_1 : decode cJ2_checkIndex_2214a 1 = .ok (.aload_n 1, 1) := by decide +kernel
theorem dJ2_checkIndex_2214a_2 : decode cJ2_checkIndex_2214a 2 = .ok (.invokestatic 48, 3) := by decide +kernel
theorem dJ2_checkIndex_2214a_5 : decode cJ2_checkIndex_2214a 5 = .ok (.invokestatic 414, 3) := by decide +kernel
theorem dJ2_checkIndex_2214a_8 : decode cJ2_checkIndex_2214a 8 = .ok (.return_, 1) := by decide +kernel
theorem dJ3_checkIndex_8e157_0 : decode cJ3_checkIndex_8e157 0 = .ok (.iload_n 0, 1) := by decide +kernel
theorem dJ3_checkIndex_8e157_1 : decode cJ3_checkIndex_8e157 1 = .ok (.ifCond .lt 8, 3) := by decide +kernel
theorem dJ3_checkIndex_8e157_4 : decode cJ3_checkIndex_8e157 4 = .ok (.iload_n 0, 1) := by decide +kernel
theorem dJ3_checkIndex_8e157_5 : decode cJ3_checkIndex_8e157 5 = .ok (.iload_n 1, 1) := by decide +kernel
theorem dJ3_checkIndex_8e157_6 : decode cJ3_checkIndex_8e157 6 = .ok (.if_icmp .lt 10, 3) := by decide +kernel
theorem dJ3_checkIndex_8e157_9 : decode cJ3_checkIndex_8e157 9 = .ok (.aload_n 2, 1) := by decide +kernel
theorem dJ3_checkIndex_8e157_10 : decode cJ3_checkIndex_8e157 10 = .ok (.iload_n 0, 1) := by decide +kernel
theorem dJ3_checkIndex_8e157_11 : decode cJ3_checkIndex_8e157 11 = .ok (.iload_n 1, 1) := by decide +kernel
theorem dJ3_checkIndex_8e157_12 : decode cJ3_checkIndex_8e157 12 = .ok (.invokestatic 95, 3) := by decide +kernel
theorem dJ3_checkIndex_8e157_15 : decode cJ3_checkIndex_8e157 15 = .ok (.athrow, 1) := by decide +kernel
theorem dJ3_checkIndex_8e157_16 : decode cJ3_checkIndex_8e157 16 = .ok (.iload_n 0, 1) := by decide +kernel
theorem dJ3_checkIndex_8e157_17 : decode cJ3_checkIndex_8e157 17 = .ok (.ireturn, 1) := by decide +kernel
