theorem dX8_type_1 : decode cX8_type 1 = .ok (.invokestatic 84, 3) := by decide +kernel
theorem dX8_type_4 : decode cX8_type 4 = .ok (.ifCond .ne 14, 3) := by decide +kernel
theorem dX8_type_7 : decode cX8_type 7 = .ok (.iload_n 2, 1) := by decide +kernel
theorem dX8_type_8 : decode cX8_type 8 = .ok (.ifCond .lt 10, 3) := by decide +kernel
theorem dX8_type_11 : decode cX8_type 11 = .ok (.iload_n 2, 1) := by decide +kernel
theorem dX8_type_12 : decode cX8_type 12 = .ok (.sipush 255, 3) := by decide +kernel
theorem dX8_type_15 : decode cX8_type 15 = .ok (.if_icmp .le 6, 3) := by decide +kernel
theorem dX8_type_18 : decode cX8_type 18 = .ok (.bipush (-2), 2) := by decide +kernel
theorem dX8_type_20 : decode cX8_type 20 = .ok (.ireturn, 1) := by decide +kernel
theorem dX8_type_21 : decode cX8_type 21 = .ok (.aload_n 0, 1) := by decide +kernel
theorem dX8_type_22 : decode cX8_type 22 = .ok (.getfield 11, 3) := by decide +kernel
theorem dX8_type_25 : decode cX8_type 25 = .ok (.iload_n 1, 1) := by decide +kernel
theorem dX8_type_26 : decode cX8_type 26 = .ok (.aaload, 1) := by decide +kernel
theorem dX8_type_27 : decode cX8_type 27 = .ok (.iload_n 2, 1) := by decide +kernel
theorem dX8_type_28 : decode cX8_type 28 = .ok (.invokevirtual 88, 3) := by decide +kernel
theorem dX8_type_31 : decode cX8_type 31 = .ok (.ifCond .ne 6, 3) := by decide +kernel
theorem dX8_type_34 : decode cX8_type 34 = .ok (.bipush (-4), 2) := by decide +kernel
theorem dX8_type_36 : decode cX8_type 36 = .ok (.ireturn, 1) := by decide +kernel
theorem dX8_type_37 : decode cX8_type 37 = .ok (.aload_n 0, 1) := by decide +kernel
theorem dX8_type_38 : decode cX8_type 38 = .ok (.iconst 1, 1) := by decide +kernel
theorem dX8_type_39 : decode cX8_type 39 = .ok (.putfield 76, 3) := by decide +kernel
theorem dX8_type_42 : decode cX8_type 42 = .ok (.aload_n 0, 1) := by decide +kernel
theorem dX8_type_43 : decode cX8_type 43 = .ok (.getfield 11, 3) := by decide +kernel
theorem dX8_type_46 : decode cX8_type 46 = .ok (.iload_n 1, 1) := by decide +kernel
theorem dX8_type_47 : decode cX8_type 47 = .ok (.aaload, 1) := by decide +kernel
theorem dX8_type_48 : decode cX8_type 48 = .ok (.getfield 91, 3) := by decide +kernel
theorem dX8_type_51 : decode cX8_type 51 = .ok (.ireturn, 1) := by decide +kernel
theorem dX8_wipe_0 : decode cX8_wipe 0 = .ok (.iload_n 1, 1) := by decide +kernel
theorem dX8_wipe_1 : decode cX8_wipe 1 = .ok (.invokestatic 84, 3) := by decide +kernel
theorem dX8_wipe_4 : decode cX8_wipe 4 = .ok (.ifCond .eq 6, 3) := by decide +kernel
theorem dX8_wipe_7 : decode cX8_wipe 7 = .ok (.bipush (-2), 2) := by decide +kernel
theorem dX8_wipe_9 : decode cX8_wipe 9 = .ok (.ireturn, 1) := by decide +kernel
theorem dX8_wipe_10 : decode cX8_wipe 10 = .ok (.aload_n 0, 1) := by decide +kernel
theorem dX8_wipe_11 : decode cX8_wipe 11 = .ok (.getfield 11, 3) := by decide +kernel
theorem dX8_wipe_14 : decode cX8_wipe 14 = .ok (.iload_n 1, 1) := by decide +kernel
theorem dX8_wipe_15 : decode cX8_wipe 15 = .ok (.aaload, 1) := by decide +kernel
theorem dX8_wipe_16 : decode cX8_wipe 16 = .ok (.getfield 91, 3) := by decide +kernel
theorem dX8_wipe_19 : decode cX8_wipe 19 = .ok (.istore_n 2, 1) := by decide +kernel
theorem dX8_wipe_20 : decode cX8_wipe 20 = .ok (.aload_n 0, 1) := by decide +kernel
theorem dX8_wipe_21 : decode cX8_wipe 21 = .ok (.getfield 11, 3) := by decide +kernel
theorem dX8_wipe_24 : decode cX8_wipe 24 = .ok (.iload_n 1, 1) := by decide +kernel
theorem dX8_wipe_25 : decode cX8_wipe 25 = .ok (.aaload, 1) := by decide +kernel
theorem dX8_wipe_26 : decode cX8_wipe 26 = .ok (.iconst 0, 1) := by decide +kernel
theorem dX8_wipe_27 : decode cX8_wipe 27 = .ok (.putfield 91, 3) := by decide +kernel
theorem dX8_wipe_30 : decode cX8_wipe 30 = .ok (.aload_n 0, 1) := by decide +kernel
theorem dX8_wipe_31 : decode cX8_wipe 31 = .ok (.iconst 1, 1) := by decide +kernel
theorem dX8_wipe_32 : decode cX8_wipe 32 = .ok (.putfield 76, 3) := by decide +kernel
theorem dX8_wipe_35 : decode cX8_wipe 35 = .ok (.iload_n 2, 1) := by decide +kernel
theorem dX8_wipe_36 : decode cX8_wipe 36 = .ok (.ireturn, 1) := by decide +kernel
theorem dX8_undo_0 : decode cX8_undo 0 = .ok (.iload_n 1, 1) := by decide +kernel
theorem dX8_undo_1 : decode cX8_undo 1 = .ok (.invokestatic 84, 3) := by decide +kernel
theorem dX8_undo_4 : decode cX8_undo 4 = .ok (.ifCond .eq 6, 3) := by decide +kernel
theorem dX8_undo_7 : decode cX8_undo 7 = .ok (.bipush (-2), 2) := by decide +kernel
theorem dX8_undo_9 : decode cX8_undo 9 = .ok (.ireturn, 1) := by decide +kernel
theorem dX8_undo_10 : decode cX8_undo 10 = .ok (.aload_n 0, 1) := by decide +kernel
theorem dX8_undo_11 : decode cX8_undo 11 = .ok (.getfield 11, 3) := by decide +kernel
theorem dX8_undo_14 : decode cX8_undo 14 = .ok (.iload_n 1, 1) := by decide +kernel
theorem dX8_undo_15 : decode cX8_undo 15 = .ok (.aaload, 1) := by decide +kernel
theorem dX8_undo_16 : decode cX8_undo 16 = .ok (.getfield 91, 3) := by decide +kernel
theorem dX8_undo_19 : decode cX8_undo 19 = .ok (.ifCond .ne 6, 3) := by decide +kernel
theorem dX8_undo_22 : decode cX8_undo 22 = .ok (.bipush (-3), 2) := by decide +kernel
theorem dX8_undo_24 : decode cX8_undo 24 = .ok (.ireturn, 1) := by decide +kernel
theorem dX8_undo_25 : decode cX8_undo 25 = .ok (.aload_n 0, 1) := by decide +kernel
theorem dX8_undo_26 : decode cX8_undo 26 = .ok (.getfield 11, 3) := by decide +kernel
theorem dX8_undo_29 : decode cX8_undo 29 = .ok (.iload_n 1, 1) := by decide +kernel
theorem dX8_undo_30 : decode cX8_undo 30 = .ok (.aaload, 1) := by decide +kernel
theorem dX8_undo_31 : decode cX8_undo 31 = .ok (.dup, 1) := by decide +kernel
theorem dX8_undo_32 : decode cX8_undo 32 = .ok (.getfield 91, 3) := by decide +kernel
theorem dX8_undo_35 : decode cX8_undo 35 = .ok (.iconst 1, 1) := by decide +kernel
theorem dX8_undo_36 : decode cX8_undo 36 = .ok (.isub, 1) := by decide +kernel
theorem dX8_undo_37 : decode cX8_undo 37 = .ok (.putfield 91, 3) := by decide +kernel
theorem dX8_undo_40 : decode cX8_undo 40 = .ok (.aload_n 0, 1) := by decide +kernel
theorem dX8_undo_41 : decode cX8_undo 41 = .ok (.iconst 1, 1) := by decide +kernel
theorem dX8_undo_42 : decode cX8_undo 42 = .ok (.putfield 76, 3) := by decide +kernel
theorem dX8_undo_45 : decode cX8_undo 45 = .ok (.aload_n 0, 1) := by decide +kernel
theorem dX8_undo_46 : decode cX8_undo 46 = .ok (.getfield 11, 3) := by decide +kernel
theorem dX8_undo_49 : decode cX8_undo 49 = .ok (.iload_n 1, 1) := by decide +kernel
theorem dX8_undo_50 : decode cX8_undo 50 = .ok (.aaload, 1) := by decide +kernel
theorem dX8_undo_51 : decode cX8_undo 51 = .ok (.getfield 91, 3) := by decide +kernel
theorem dX8_undo_54 : decode cX8_undo 54 = .ok (.ireturn, 1) := by decide +kernel
theorem dX8_fault_0 : decode cX8_fault 0 = .ok (.iload_n 1, 1) := by decide +kernel
theorem dX8_fault_1 : decode cX8_fault 1 = .ok (.invokestatic 84, 3) := by decide +kernel
theorem dX8_fault_4 : decode cX8_fault 4 = .ok (.ifCond .eq 8, 3) := by decide +kernel
theorem dX8_fault_7 : decode cX8_fault 7 = .ok (.bipush (-2), 2) := by decide +kernel
theorem dX8_fault_9 : decode cX8_fault 9 = .ok (.goto 12, 3) := by decide +kernel
theorem dX8_fault_12 : decode cX8_fault 12 = .ok (.aload_n 0, 1) := by decide +kernel
theorem dX8_fault_13 : decode cX8_fault 13 = .ok (.getfield 11, 3) := by decide +kernel
theorem dX8_fault_16 : decode cX8_fault 16 = .ok (.iload_n 1, 1) := by decide +kernel
theorem dX8_fault_17 : decode cX8_fault 17 = .ok (.aaload, 1) := by decide +kernel
theorem dX8_fault_18 : decode cX8_fault 18 = .ok (.invokevirtual 94, 3) := by decide +kernel
theorem dX8_fault_21 : decode cX8_fault 21 = .ok (.ireturn, 1) := by decide +kernel
theorem dX8_rider_0 : decode cX8_rider 0 = .ok (.aload_n 0, 1) := by decide +kernel
theorem dX8_rider_1 : decode cX8_rider 1 = .ok (.invokevirtual 98, 3) := by decide +kernel
theorem dX8_rider_4 : decode cX8_rider 4 = .ok (.aload_n 0, 1) := by decide +kernel
theorem dX8_rider_5 : decode cX8_rider 5 = .ok (.iload_n 1, 1) := by decide +kernel
theorem dX8_rider_6 : decode cX8_rider 6 = .ok (.invokevirtual 101, 3) := by decide +kernel
theorem dX8_rider_9 : decode cX8_rider 9 = .ok (.ifCond .eq 6, 3) := by decide +kernel
theorem dX8_rider_12 : decode cX8_rider 12 = .ok (.bipush (-2), 2) := by decide +kernel
theorem dX8_rider_14 : decode cX8_rider 14 = .ok (.ireturn, 1) := by decide +kernel
theorem dX8_rider_15 : decode cX8_rider 15 = .ok (.iload_n 2, 1) := by decide +kernel
theorem dX8_rider_16 : decode cX8_rider 16 = .ok (.tableswitch 58 0 2 #[28, 38, 48], 28) := by decide +kernel
theorem dX8_rider_44 : decode cX8_rider 44 = .ok (.aload_n 0, 1) := by decide +kernel
theorem dX8_rider_45 : decode cX8_rider 45 = .ok (.getfield 24, 3) := by decide +kernel
theorem dX8_rider_48 : decode cX8_rider 48 = .ok (.getfield 104, 3) := by decide +kernel
theorem dX8_rider_51 : decode cX8_rider 51 = .ok (.iload_n 1, 1) := by decide +kernel
theorem dX8_rider_52 : decode cX8_rider 52 = .ok (.iaload, 1) := by decide +kernel
theorem dX8_rider_53 : decode cX8_rider 53 = .ok (.ireturn, 1) := by decide +kernel
theorem dX8_rider_54 : decode cX8_rider 54 = .ok (.aload_n 0, 1) := by decide +kernel
theorem dX8_rider_55 : decode cX8_rider 55 = .ok (.getfield 24, 3) := by decide +kernel
theorem dX8_rider_58 : decode cX8_rider 58 = .ok (.getfield 108, 3) := by decide +kernel
theorem dX8_rider_61 : decode cX8_rider 61 = .ok (.iload_n 1, 1) := by decide +kernel
theorem dX8_rider_62 : decode cX8_rider 62 = .ok (.iaload, 1) := by decide +kernel
theorem dX8_rider_63 : decode cX8_rider 63 = .ok (.ireturn, 1) := by decide +kernel
theorem dX8_rider_64 : decode cX8_rider 64 = .ok (.aload_n 0, 1) := by decide +kernel
theorem dX8_rider_65 : decode cX8_rider 65 = .ok (.getfield 24, 3) := by decide +kernel
theorem dX8_rider_68 : decode cX8_rider 68 = .ok (.getfield 111, 3) := by decide +kernel
theorem dX8_rider_71 : decode cX8_rider 71 = .ok (.iload_n 1, 1) := by decide +kernel
theorem dX8_rider_72 : decode cX8_rider 72 = .ok (.iaload, 1) := by decide +kernel
theorem dX8_rider_73 : decode cX8_rider 73 = .ok (.ireturn, 1) := by decide +kernel
theorem dX8_rider_74 : decode cX8_rider 74 = .ok (.bipush (-2), 2) := by decide +kernel
theorem dX8_rider_76 : decode cX8_rider 76 = .ok (.ireturn, 1) := by decide +kernel
theorem dX8_leaver_0 : decode cX8_leaver 0 = .ok (.aload_n 0, 1) := by decide +kernel
theorem dX8_leaver_1 : decode cX8_leaver 1 = .ok (.invokevirtual 98, 3) := by decide +kernel
theorem dX8_leaver_4 : decode cX8_leaver 4 = .ok (.aload_n 0, 1) := by decide +kernel
theorem dX8_leaver_5 : decode cX8_leaver 5 = .ok (.iload_n 1, 1) := by decide +kernel
theorem dX8_leaver_6 : decode cX8_leaver 6 = .ok (.invokevirtual 114, 3) := by decide +kernel
theorem dX8_leaver_9 : decode cX8_leaver 9 = .ok (.ifCond .eq 6, 3) := by decide +kernel
theorem dX8_leaver_12 : decode cX8_leaver 12 = .ok (.bipush (-2), 2) := by decide +kernel
theorem dX8_leaver_14 : decode cX8_leaver 14 = .ok (.ireturn, 1) := by decide +kernel
theorem dX8_leaver_15 : decode cX8_leaver 15 = .ok (.iload_n 2, 1) := by decide +kernel
theorem dX8_leaver_16 : decode cX8_leaver 16 = .ok (.lookupswitch 48 #[(0, 28), (1, 38)], 28) := by decide +kernel
theorem dX8_leaver_44 : decode cX8_leaver 44 = .ok (.aload_n 0, 1) := by decide +kernel
theorem dX8_leaver_45 : decode cX8_leaver 45 = .ok (.getfield 24, 3) := by decide +kernel
theorem dX8_leaver_48 : decode cX8_leaver 48 = .ok (.getfield 117, 3) := by decide +kernel
theorem dX8_leaver_51 : decode cX8_leaver 51 = .ok (.iload_n 1, 1) := by decide +kernel
theorem dX8_leaver_52 : decode cX8_leaver 52 = .ok (.iaload, 1) := by decide +kernel
theorem dX8_leaver_53 : decode cX8_leaver 53 = .ok (.ireturn, 1) := by decide +kernel
theorem dX8_leaver_54 : decode cX8_leaver 54 = .ok (.aload_n 0, 1) := by decide +kernel
theorem dX8_leaver_55 : decode cX8_leaver 55 = .ok (.getfield 24, 3) := by decide +kernel
theorem dX8_leaver_58 : decode cX8_leaver 58 = .ok (.getfield 120, 3) := by decide +kernel
theorem dX8_leaver_61 : decode cX8_leaver 61 = .ok (.iload_n 1, 1) := by decide +kernel
theorem dX8_leaver_62 : decode cX8_leaver 62 = .ok (.iaload, 1) := by decide +kernel
theorem dX8_leaver_63 : decode cX8_leaver 63 = .ok (.ireturn, 1) := by decide +kernel
theorem dX8_leaver_64 : decode cX8_leaver 64 = .ok (.bipush (-2), 2) := by decide +kernel
theorem dX8_leaver_66 : decode cX8_leaver 66 = .ok (.ireturn, 1) := by decide +kernel
theorem dX8_stop_0 : decode cX8_stop 0 = .ok (.iload_n 1, 1) := by decide +kernel
theorem dX8_stop_1 : decode cX8_stop 1 = .ok (.ifCond .lt 9, 3) := by decide +kernel
theorem dX8_stop_4 : decode cX8_stop 4 = .ok (.iload_n 1, 1) := by decide +kernel
theorem dX8_stop_5 : decode cX8_stop 5 = .ok (.bipush 20, 2) := by decide +kernel
theorem dX8_stop_7 : decode cX8_stop 7 = .ok (.if_icmp .lt 6, 3) := by decide +kernel
theorem dX8_stop_10 : decode cX8_stop 10 = .ok (.bipush (-2), 2) := by decide +kernel
theorem dX8_stop_12 : decode cX8_stop 12 = .ok (.ireturn, 1) := by decide +kernel
theorem dX8_stop_13 : decode cX8_stop 13 = .ok (.aload_n 0, 1) := by decide +kernel
theorem dX8_stop_14 : decode cX8_stop 14 = .ok (.invokevirtual 98, 3) := by decide +kernel
theorem dX8_stop_17 : decode cX8_stop 17 = .ok (.iload_n 1, 1) := by decide +kernel
theorem dX8_stop_18 : decode cX8_stop 18 = .ok (.aload_n 0, 1) := by decide +kernel
theorem dX8_stop_19 : decode cX8_stop 19 = .ok (.getfield 24, 3) := by decide +kernel
theorem dX8_stop_22 : decode cX8_stop 22 = .ok (.getfield 123, 3) := by decide +kernel
theorem dX8_stop_25 : decode cX8_stop 25 = .ok (.if_icmp .ge 15, 3) := by decide +kernel
theorem dX8_stop_28 : decode cX8_stop 28 = .ok (.aload_n 0, 1) := by decide +kernel
theorem dX8_stop_29 : decode cX8_stop 29 = .ok (.getfield 24, 3) := by decide +kernel
theorem dX8_stop_32 : decode cX8_stop 32 = .ok (.getfield 126, 3) := by decide +kernel
theorem dX8_stop_35 : decode cX8_stop 35 = .ok (.iload_n 1, 1) := by decide +kernel
theorem dX8_stop_36 : decode cX8_stop 36 = .ok (.iaload, 1) := by decide +kernel
theorem dX8_stop_37 : decode cX8_stop 37 = .ok (.goto 4, 3) := by decide +kernel
theorem dX8_stop_40 : decode cX8_stop 40 = .ok (.iconst (-1), 1) := by decide +kernel
theorem dX8_stop_41 : decode cX8_stop 41 = .ok (.ireturn, 1) := by decide +kernel
theorem dX8_set_0 : decode cX8_set 0 = .ok (.iload_n 1, 1) := by decide +kernel
theorem dX8_set_1 : decode cX8_set 1 = .ok (.ifCond .ne 32, 3) := by decide +kernel
theorem dX8_set_4 : decode cX8_set 4 = .ok (.iload_n 2, 1) := by decide +kernel
theorem dX8_set_5 : decode cX8_set 5 = .ok (.ifCond .lt 28, 3) := by decide +kernel
theorem dX8_set_8 : decode cX8_set 8 = .ok (.iload_n 2, 1) := by decide +kernel
theorem dX8_set_9 : decode cX8_set 9 = .ok (.bipush 8, 2) := by decide +kernel
theorem dX8_set_11 : decode cX8_set 11 = .ok (.if_icmp .gt 22, 3) := by decide +kernel
theorem dX8_set_14 : decode cX8_set 14 = .ok (.aload_n 0, 1) := by decide +kernel
theorem dX8_set_15 : decode cX8_set 15 = .ok (.getfield 24, 3) := by decide +kernel
theorem dX8_set_18 : decode cX8_set 18 = .ok (.getfield 129, 3) := by decide +kernel
theorem dX8_set_21 : decode cX8_set 21 = .ok (.istore_n 3, 1) := by decide +kernel
theorem dX8_set_22 : decode cX8_set 22 = .ok (.aload_n 0, 1) := by decide +kernel
theorem dX8_set_23 : decode cX8_set 23 = .ok (.getfield 24, 3) := by decide +kernel
theorem dX8_set_26 : decode cX8_set 26 = .ok (.iload_n 2, 1) := by decide +kernel
theorem dX8_set_27 : decode cX8_set 27 = .ok (.putfield 129, 3) := by decide +kernel
theorem dX8_set_30 : decode cX8_set 30 = .ok (.goto 41, 3) := by decide +kernel
theorem dX8_set_33 : decode cX8_set 33 = .ok (.iload_n 1, 1) := by decide +kernel
theorem dX8_set_34 : decode cX8_set 34 = .ok (.iconst 1, 1) := by decide +kernel
theorem dX8_set_35 : decode cX8_set 35 = .ok (.if_icmp .ne 33, 3) := by decide +kernel
theorem dX8_set_38 : decode cX8_set 38 = .ok (.iload_n 2, 1) := by decide +kernel
theorem dX8_set_39 : decode cX8_set 39 = .ok (.iconst 1, 1) := by decide +kernel
theorem dX8_set_40 : decode cX8_set 40 = .ok (.if_icmp .lt 28, 3) := by decide +kernel
theorem dX8_set_43 : decode cX8_set 43 = .ok (.iload_n 2, 1) := by decide +kernel
theorem dX8_set_44 : decode cX8_set 44 = .ok (.bipush 60, 2) := by decide +kernel
theorem dX8_set_46 : decode cX8_set 46 = .ok (.if_icmp .gt 22, 3) := by decide +kernel
theorem dX8_set_49 : decode cX8_set 49 = .ok (.aload_n 0, 1) := by decide +kernel
theorem dX8_set_50 : decode cX8_set 50 = .ok (.getfield 24, 3) := by decide +kernel
theorem dX8_set_53 : decode cX8_set 53 = .ok (.getfield 132, 3) := by decide +kernel
theorem dX8_set_56 : decode cX8_set 56 = .ok (.istore_n 3, 1) := by decide +kernel
theorem dX8_set_57 : decode cX8_set 57 = .ok (.aload_n 0, 1) := by decide +kernel
theorem dX8_set_58 : decode cX8_set 58 = .ok (.getfield 24, 3) := by decide +kernel
theorem dX8_set_61 : decode cX8_set 61 = .ok (.iload_n 2, 1) := by decide +kernel
theorem dX8_set_62 : decode cX8_set 62 = .ok (.putfield 132, 3) := by decide +kernel
theorem dX8_set_65 : decode cX8_set 65 = .ok (.goto 6, 3) := by decide +kernel
theorem dX8_set_68 : decode cX8_set 68 = .ok (.bipush (-2), 2) := by decide +kernel
theorem dX8_set_70 : decode cX8_set 70 = .ok (.ireturn, 1) := by decide +kernel
theorem dX8_set_71 : decode cX8_set 71 = .ok (.aload_n 0, 1) := by decide +kernel
theorem dX8_set_72 : decode cX8_set 72 = .ok (.iconst 1, 1) := by decide +kernel
theorem dX8_set_73 : decode cX8_set 73 = .ok (.putfield 76, 3) := by decide +kernel
theorem dX8_set_76 : decode cX8_set 76 = .ok (.iload_n 3, 1) := by decide +kernel
theorem dX8_set_77 : decode cX8_set 77 = .ok (.ireturn, 1) := by decide +kernel
theorem dX8_lift_0 : decode cX8_lift 0 = .ok (.iload_n 1, 1) := by decide +kernel
theorem dX8_lift_1 : decode cX8_lift 1 = .ok (.invokestatic 135, 3) := by decide +kernel
theorem dX8_lift_4 : decode cX8_lift 4 = .ok (.ifCond .ne 12, 3) := by decide +kernel
theorem dX8_lift_7 : decode cX8_lift 7 = .ok (.iload_n 2, 1) := by decide +kernel
theorem dX8_lift_8 : decode cX8_lift 8 = .ok (.ifCond .lt 8, 3) := by decide +kernel
theorem dX8_lift_11 : decode cX8_lift 11 = .ok (.iload_n 2, 1) := by decide +kernel
theorem dX8_lift_12 : decode cX8_lift 12 = .ok (.iconst 4, 1) := by decide +kernel
theorem dX8_lift_13 : decode cX8_lift 13 = .ok (.if_icmp .lt 6, 3) := by decide +kernel
theorem dX8_lift_16 : decode cX8_lift 16 = .ok (.bipush (-2), 2) := by decide +kernel
theorem dX8_lift_18 : decode cX8_lift 18 = .ok (.ireturn, 1) := by decide +kernel
theorem dX8_lift_19 : decode cX8_lift 19 = .ok (.aload_n 0, 1) := by decide +kernel
theorem dX8_lift_20 : decode cX8_lift 20 = .ok (.invokevirtual 98, 3) := by decide +kernel
theorem dX8_lift_23 : decode cX8_lift 23 = .ok (.aload_n 0, 1) := by decide +kernel
theorem dX8_lift_24 : decode cX8_lift 24 = .ok (.getfield 33, 3) := by decide +kernel
theorem dX8_lift_27 : decode cX8_lift 27 = .ok (.iload_n 1, 1) := by decide +kernel
theorem dX8_lift_28 : decode cX8_lift 28 = .ok (.iload_n 2, 1) := by decide +kernel
theorem dX8_lift_29 : decode cX8_lift 29 = .ok (.invokevirtual 138, 3) := by decide +kernel
theorem dX8_lift_32 : decode cX8_lift 32 = .ok (.ireturn, 1) := by decide +kernel
theorem dX8_ends_0 : decode cX8_ends 0 = .ok (.aload_n 0, 1) := by decide +kernel
theorem dX8_ends_1 : decode cX8_ends 1 = .ok (.invokevirtual 98, 3) := by decide +kernel
theorem dX8_ends_4 : decode cX8_ends 4 = .ok (.aload_n 0, 1) := by decide +kernel
theorem dX8_ends_5 : decode cX8_ends 5 = .ok (.getfield 33, 3) := by decide +kernel
theorem dX8_ends_8 : decode cX8_ends 8 = .ok (.invokevirtual 142, 3) := by decide +kernel
theorem dX8_ends_11 : decode cX8_ends 11 = .ok (.ireturn, 1) := by decide +kernel
theorem dX8_rides_0 : decode cX8_rides 0 = .ok (.aload_n 0, 1) := by decide +kernel
theorem dX8_rides_1 : decode cX8_rides 1 = .ok (.invokevirtual 98, 3) := by decide +kernel
theorem dX8_rides_4 : decode cX8_rides 4 = .ok (.aload_n 0, 1) := by decide +kernel
theorem dX8_rides_5 : decode cX8_rides 5 = .ok (.iload_n 1, 1) := by decide +kernel
theorem dX8_rides_6 : decode cX8_rides 6 = .ok (.invokevirtual 101, 3) := by decide +kernel
theorem dX8_rides_9 : decode cX8_rides 9 = .ok (.ifCond .eq 6, 3) := by decide +kernel
theorem dX8_rides_12 : decode cX8_rides 12 = .ok (.bipush (-2), 2) := by decide +kernel
theorem dX8_rides_14 : decode cX8_rides 14 = .ok (.ireturn, 1) := by decide +kernel
theorem dX8_rides_15 : decode cX8_rides 15 = .ok (.iload_n 2, 1) := by decide +kernel
theorem dX8_rides_16 : decode cX8_rides 16 = .ok (.tableswitch 55 0 2 #[28, 37, 46], 28) := by decide +kernel
theorem dX8_rides_44 : decode cX8_rides 44 = .ok (.aload_n 0, 1) := by decide +kernel
theorem dX8_rides_45 : decode cX8_rides 45 = .ok (.getfield 33, 3) := by decide +kernel
theorem dX8_rides_48 : decode cX8_rides 48 = .ok (.iload_n 1, 1) := by decide +kernel
theorem dX8_rides_49 : decode cX8_rides 49 = .ok (.invokevirtual 145, 3) := by decide +kernel
theorem dX8_rides_52 : decode cX8_rides 52 = .ok (.ireturn, 1) := by decide +kernel
theorem dX8_rides_53 : decode cX8_rides 53 = .ok (.aload_n 0, 1) := by decide +kernel
theorem dX8_rides_54 : decode cX8_rides 54 = .ok (.getfield 33, 3) := by decide +kernel
theorem dX8_rides_57 : decode cX8_rides 57 = .ok (.iload_n 1, 1) := by decide +kernel
theorem dX8_rides_58 : decode cX8_rides 58 = .ok (.invokevirtual 149, 3) := by decide +kernel
theorem dX8_rides_61 : decode cX8_rides 61 = .ok (.ireturn, 1) := by decide +kernel
theorem dX8_rides_62 : decode cX8_rides 62 = .ok (.aload_n 0, 1) := by decide +kernel
theorem dX8_rides_63 : decode cX8_rides 63 = .ok (.getfield 33, 3) := by decide +kernel
theorem dX8_rides_66 : decode cX8_rides 66 = .ok (.iload_n 1, 1) := by decide +kernel
theorem dX8_rides_67 : decode cX8_rides 67 = .ok (.invokevirtual 152, 3) := by decide +kernel
theorem dX8_rides_70 : decode cX8_rides 70 = .ok (.ireturn, 1) := by decide +kernel
theorem dX8_rides_71 : decode cX8_rides 71 = .ok (.bipush (-2), 2) := by decide +kernel
theorem dX8_rides_73 : decode cX8_rides 73 = .ok (.ireturn, 1) := by decide +kernel
theorem dX8_full_0 : decode cX8_full 0 = .ok (.iload_n 1, 1) := by decide +kernel
theorem dX8_full_1 : decode cX8_full 1 = .ok (.ifCond .lt 8, 3) := by decide +kernel
theorem dX8_full_4 : decode cX8_full 4 = .ok (.iload_n 1, 1) := by decide +kernel
theorem dX8_full_5 : decode cX8_full 5 = .ok (.iconst 1, 1) := by decide +kernel
theorem dX8_full_6 : decode cX8_full 6 = .ok (.if_icmp .le 6, 3) := by decide +kernel
theorem dX8_full_9 : decode cX8_full 9 = .ok (.bipush (-2), 2) := by decide +kernel
theorem dX8_full_11 : decode cX8_full 11 = .ok (.ireturn, 1) := by decide +kernel
theorem dX8_full_12 : decode cX8_full 12 = .ok (.aload_n 0, 1) := by decide +kernel
theorem dX8_full_13 : decode cX8_full 13 = .ok (.invokevirtual 98, 3) := by decide +kernel
theorem dX8_full_16 : decode cX8_full 16 = .ok (.iload_n 1, 1) := by decide +kernel
theorem dX8_full_17 : decode cX8_full 17 = .ok (.ifCond .ne 13, 3) := by decide +kernel
theorem dX8_full_20 : decode cX8_full 20 = .ok (.aload_n 0, 1) := by decide +kernel
theorem dX8_full_21 : decode cX8_full 21 = .ok (.getfield 33, 3) := by decide +kernel
theorem dX8_full_24 : decode cX8_full 24 = .ok (.invokevirtual 155, 3) := by decide +kernel
theorem dX8_full_27 : decode cX8_full 27 = .ok (.goto 10, 3) := by decide +kernel
theorem dX8_full_30 : decode cX8_full 30 = .ok (.aload_n 0, 1) := by decide +kernel
theorem dX8_full_31 : decode cX8_full 31 = .ok (.getfield 33, 3) := by decide +kernel
theorem dX8_full_34 : decode cX8_full 34 = .ok (.invokevirtual 158, 3) := by decide +kernel
theorem dX8_full_37 : decode cX8_full 37 = .ok (.ireturn, 1) := by decide +kernel
theorem dX8_arrived_0 : decode cX8_arrived 0 = .ok (.iload_n 1, 1) := by decide +kernel
theorem dX8_arrived_1 : decode cX8_arrived 1 = .ok (.invokestatic 135, 3) := by decide +kernel
theorem dX8_arrived_4 : decode cX8_arrived 4 = .ok (.ifCond .eq 6, 3) := by decide +kernel
theorem dX8_arrived_7 : decode cX8_arrived 7 = .ok (.bipush (-2), 2) := by decide +kernel
theorem dX8_arrived_9 : decode cX8_arrived 9 = .ok (.ireturn, 1) := by decide +kernel
theorem dX8_arrived_10 : decode cX8_arrived 10 = .ok (.aload_n 0, 1) := by decide +kernel
theorem dX8_arrived_11 : decode cX8_arrived 11 = .ok (.invokevirtual 98, 3) := by decide +kernel
theorem dX8_arrived_14 : decode cX8_arrived 14 = .ok (.aload_n 0, 1) := by decide +kernel
theorem dX8_arrived_15 : decode cX8_arrived 15 = .ok (.getfield 33, 3) := by decide +kernel
theorem dX8_arrived_18 : decode cX8_arrived 18 = .ok (.getfield 161, 3) := by decide +kernel
theorem dX8_arrived_21 : decode cX8_arrived 21 = .ok (.aload_n 0, 1) := by decide +kernel
theorem dX8_arrived_22 : decode cX8_arrived 22 = .ok (.getfield 33, 3) := by decide +kernel
theorem dX8_arrived_25 : decode cX8_arrived 25 = .ok (.iload_n 1, 1) := by decide +kernel
theorem dX8_arrived_26 : decode cX8_arrived 26 = .ok (.invokevirtual 164, 3) := by decide +kernel
theorem dX8_arrived_29 : decode cX8_arrived 29 = .ok (.iaload, 1) := by decide +kernel
theorem dX8_arrived_30 : decode cX8_arrived 30 = .ok (.ireturn, 1) := by decide +kernel
theorem dX8_knows_0 : decode cX8_knows 0 = .ok (.aload_n 0, 1) := by decide +kernel
theorem dX8_knows_1 : decode cX8_knows 1 = .ok (.invokevirtual 98, 3) := by decide +kernel
theorem dX8_knows_4 : decode cX8_knows 4 = .ok (.aload_n 0, 1) := by decide +kernel
theorem dX8_knows_5 : decode cX8_knows 5 = .ok (.iload_n 1, 1) := by decide +kernel
theorem dX8_knows_6 : decode cX8_knows 6 = .ok (.invokevirtual 101, 3) := by decide +kernel
theorem dX8_knows_9 : decode cX8_knows 9 = .ok (.ifCond .ne 12, 3) := by decide +kernel
theorem dX8_knows_12 : decode cX8_knows 12 = .ok (.iload_n 2, 1) := by decide +kernel
theorem dX8_knows_13 : decode cX8_knows 13 = .ok (.ifCond .lt 8, 3) := by decide +kernel
theorem dX8_knows_16 : decode cX8_knows 16 = .ok (.iload_n 2, 1) := by decide +kernel
theorem dX8_knows_17 : decode cX8_knows 17 = .ok (.iconst 1, 1) := by decide +kernel
theorem dX8_knows_18 : decode cX8_knows 18 = .ok (.if_icmp .le 6, 3) := by decide +kernel
theorem dX8_knows_21 : decode cX8_knows 21 = .ok (.bipush (-2), 2) := by decide +kernel
theorem dX8_knows_23 : decode cX8_knows 23 = .ok (.ireturn, 1) := by decide +kernel
theorem dX8_knows_24 : decode cX8_knows 24 = .ok (.iload_n 2, 1) := by decide +kernel
theorem dX8_knows_25 : decode cX8_knows 25 = .ok (.ifCond .ne 14, 3) := by decide +kernel
theorem dX8_knows_28 : decode cX8_knows 28 = .ok (.aload_n 0, 1) := by decide +kernel
theorem dX8_knows_29 : decode cX8_knows 29 = .ok (.getfield 33, 3) := by decide +kernel
theorem dX8_knows_32 : decode cX8_knows 32 = .ok (.iload_n 1, 1) := by decide +kernel
theorem dX8_knows_33 : decode cX8_knows 33 = .ok (.invokevirtual 167, 3) := by decide +kernel
theorem dX8_knows_36 : decode cX8_knows 36 = .ok (.goto 14, 3) := by decide +kernel
theorem dX8_knows_39 : decode cX8_knows 39 = .ok (.aload_n 0, 1) := by decide +kernel
theorem dX8_knows_40 : decode cX8_knows 40 = .ok (.getfield 33, 3) := by decide +kernel
theorem dX8_knows_43 : decode cX8_knows 43 = .ok (.invokevirtual 170, 3) := by decide +kernel
theorem dX8_knows_46 : decode cX8_knows 46 = .ok (.iload_n 1, 1) := by decide +kernel
theorem dX8_knows_47 : decode cX8_knows 47 = .ok (.invokestatic 174, 3) := by decide +kernel
theorem dX8_knows_50 : decode cX8_knows 50 = .ok (.ireturn, 1) := by decide +kernel
theorem dX8_more_0 : decode cX8_more 0 = .ok (.iload_n 1, 1) := by decide +kernel
theorem dX8_more_1 : decode cX8_more 1 = .ok (.iconst (-1), 1) := by decide +kernel
theorem dX8_more_2 : decode cX8_more 2 = .ok (.if_icmp .lt 8, 3) := by decide +kernel
theorem dX8_more_5 : decode cX8_more 5 = .ok (.iload_n 1, 1) := by decide +kernel
theorem dX8_more_6 : decode cX8_more 6 = .ok (.iconst 2, 1) := by decide +kernel
theorem dX8_more_7 : decode cX8_more 7 = .ok (.if_icmp .lt 6, 3) := by decide +kernel
theorem dX8_more_10 : decode cX8_more 10 = .ok (.bipush (-2), 2) := by decide +kernel
theorem dX8_more_12 : decode cX8_more 12 = .ok (.ireturn, 1) := by decide +kernel
theorem dX8_more_13 : decode cX8_more 13 = .ok (.aload_n 0, 1) := by decide +kernel
theorem dX8_more_14 : decode cX8_more 14 = .ok (.invokevirtual 98, 3) := by decide +kernel
theorem dX8_more_17 : decode cX8_more 17 = .ok (.aload_n 0, 1) := by decide +kernel
theorem dX8_more_18 : decode cX8_more 18 = .ok (.getfield 45, 3) := by decide +kernel
theorem dX8_more_21 : decode cX8_more 21 = .ok (.invokevirtual 178, 3) := by decide +kernel
theorem dX8_more_24 : decode cX8_more 24 = .ok (.aload_n 0, 1) := by decide +kernel
theorem dX8_more_25 : decode cX8_more 25 = .ok (.getfield 45, 3) := by decide +kernel
theorem dX8_more_28 : decode cX8_more 28 = .ok (.iload_n 1, 1) := by decide +kernel
theorem dX8_more_29 : decode cX8_more 29 = .ok (.invokevirtual 181, 3) := by decide +kernel
theorem dX8_more_32 : decode cX8_more 32 = .ok (.ireturn, 1) := by decide +kernel
theorem dX8_leave_0 : decode cX8_leave 0 = .ok (.aload_n 0, 1) := by decide +kernel
theorem dX8_leave_1 : decode cX8_leave 1 = .ok (.invokevirtual 98, 3) := by decide +kernel
theorem dX8_leave_4 : decode cX8_leave 4 = .ok (.aload_n 0, 1) := by decide +kernel
theorem dX8_leave_5 : decode cX8_leave 5 = .ok (.iload_n 1, 1) := by decide +kernel
theorem dX8_leave_6 : decode cX8_leave 6 = .ok (.invokevirtual 101, 3) := by decide +kernel
theorem dX8_leave_9 : decode cX8_leave 9 = .ok (.ifCond .ne 21, 3) := by decide +kernel
theorem dX8_leave_12 : decode cX8_leave 12 = .ok (.aload_n 0, 1) := by decide +kernel
theorem dX8_leave_13 : decode cX8_leave 13 = .ok (.iload_n 2, 1) := by decide +kernel
theorem dX8_leave_14 : decode cX8_leave 14 = .ok (.invokevirtual 114, 3) := by decide +kernel
theorem dX8_leave_17 : decode cX8_leave 17 = .ok (.ifCond .ne 13, 3) := by decide +kernel
theorem dX8_leave_20 : decode cX8_leave 20 = .ok (.iload_n 3, 1) := by decide +kernel
theorem dX8_leave_21 : decode cX8_leave 21 = .ok (.iconst (-1), 1) := by decide +kernel
theorem dX8_leave_22 : decode cX8_leave 22 = .ok (.if_icmp .lt 8, 3) := by decide +kernel
theorem dX8_leave_25 : decode cX8_leave 25 = .ok (.iload_n 3, 1) := by decide +kernel
theorem dX8_leave_26 : decode cX8_leave 26 = .ok (.iconst 2, 1) := by decide +kernel
theorem dX8_leave_27 : decode cX8_leave 27 = .ok (.if_icmp .lt 6, 3) := by decide +kernel
theorem dX8_leave_30 : decode cX8_leave 30 = .ok (.bipush (-2), 2) := by decide +kernel
theorem dX8_leave_32 : decode cX8_leave 32 = .ok (.ireturn, 1) := by decide +kernel
theorem dX8_leave_33 : decode cX8_leave 33 = .ok (.aload_n 0, 1) := by decide +kernel
theorem dX8_leave_34 : decode cX8_leave 34 = .ok (.getfield 45, 3) := by decide +kernel
theorem dX8_leave_37 : decode cX8_leave 37 = .ok (.iload_n 1, 1) := by decide +kernel
theorem dX8_leave_38 : decode cX8_leave 38 = .ok (.iload_n 2, 1) := by decide +kernel
theorem dX8_leave_39 : decode cX8_leave 39 = .ok (.invokevirtual 184, 3) := by decide +kernel
theorem dX8_leave_42 : decode cX8_leave 42 = .ok (.aload_n 0, 1) := by decide +kernel
theorem dX8_leave_43 : decode cX8_leave 43 = .ok (.getfield 45, 3) := by decide +kernel
theorem dX8_leave_46 : decode cX8_leave 46 = .ok (.iload_n 3, 1) := by decide +kernel
theorem dX8_leave_47 : decode cX8_leave 47 = .ok (.invokevirtual 188, 3) := by decide +kernel
theorem dX8_leave_50 : decode cX8_leave 50 = .ok (.ireturn, 1) := by decide +kernel
theorem dX8_seen_0 : decode cX8_seen 0 = .ok (.aload_n 0, 1) := by decide +kernel
theorem dX8_seen_1 : decode cX8_seen 1 = .ok (.getfield 59, 3) := by decide +kernel
theorem dX8_seen_4 : decode cX8_seen 4 = .ok (.iload_n 1, 1) := by decide +kernel
theorem dX8_seen_5 : decode cX8_seen 5 = .ok (.iload_n 2, 1) := by decide +kernel
theorem dX8_seen_6 : decode cX8_seen 6 = .ok (.invokevirtual 191, 3) := by decide +kernel
theorem dX8_seen_9 : decode cX8_seen 9 = .ok (.ifCond .ne 6, 3) := by decide +kernel
theorem dX8_seen_12 : decode cX8_seen 12 = .ok (.bipush (-2), 2) := by decide +kernel
theorem dX8_seen_14 : decode cX8_seen 14 = .ok (.ireturn, 1) := by decide +kernel
theorem dX8_seen_15 : decode cX8_seen 15 = .ok (.aload_n 0, 1) := by decide +kernel
theorem dX8_seen_16 : decode cX8_seen 16 = .ok (.getfield 59, 3) := by decide +kernel
theorem dX8_seen_19 : decode cX8_seen 19 = .ok (.iload_n 1, 1) := by decide +kernel
theorem dX8_seen_20 : decode cX8_seen 20 = .ok (.iload_n 2, 1) := by decide +kernel
theorem dX8_seen_21 : decode cX8_seen 21 = .ok (.invokevirtual 195, 3) := by decide +kernel
theorem dX8_seen_24 : decode cX8_seen 24 = .ok (.ifCond .eq 13, 3) := by decide +kernel
theorem dX8_seen_27 : decode cX8_seen 27 = .ok (.aload_n 0, 1) := by decide +kernel
theorem dX8_seen_28 : decode cX8_seen 28 = .ok (.getfield 59, 3) := by decide +kernel
theorem dX8_seen_31 : decode cX8_seen 31 = .ok (.getfield 198, 3) := by decide +kernel
theorem dX8_seen_34 : decode cX8_seen 34 = .ok (.goto 5, 3) := by decide +kernel
theorem dX8_seen_37 : decode cX8_seen 37 = .ok (.bipush (-4), 2) := by decide +kernel
theorem dX8_seen_39 : decode cX8_seen 39 = .ok (.ireturn, 1) := by decide +kernel
theorem dX8_forget_0 : decode cX8_forget 0 = .ok (.aload_n 0, 1) := by decide +kernel
theorem dX8_forget_1 : decode cX8_forget 1 = .ok (.getfield 59, 3) := by decide +kernel
theorem dX8_forget_4 : decode cX8_forget 4 = .ok (.getfield 198, 3) := by decide +kernel
theorem dX8_forget_7 : decode cX8_forget 7 = .ok (.istore_n 1, 1) := by decide +kernel
theorem dX8_forget_8 : decode cX8_forget 8 = .ok (.aload_n 0, 1) := by decide +kernel
theorem dX8_forget_9 : decode cX8_forget 9 = .ok (.getfield 59, 3) := by decide +kernel
theorem dX8_forget_12 : decode cX8_forget 12 = .ok (.iconst 0, 1) := by decide +kernel
theorem dX8_forget_13 : decode cX8_forget 13 = .ok (.putfield 198, 3) := by decide +kernel
theorem dX8_forget_16 : decode cX8_forget 16 = .ok (.iload_n 1, 1) := by decide +kernel
theorem dX8_forget_17 : decode cX8_forget 17 = .ok (.ireturn, 1) := by decide +kernel
theorem dX8_read_0 : decode cX8_read 0 = .ok (.iload_n 1, 1) := by decide +kernel
theorem dX8_read_1 : decode cX8_read 1 = .ok (.invokestatic 201, 3) := by decide +kernel
theorem dX8_read_4 : decode cX8_read 4 = .ok (.ifCond .eq 6, 3) := by decide +kernel
theorem dX8_read_7 : decode cX8_read 7 = .ok (.bipush (-2), 2) := by decide +kernel
theorem dX8_read_9 : decode cX8_read 9 = .ok (.ireturn, 1) := by decide +kernel
theorem dX8_read_10 : decode cX8_read 10 = .ok (.aload_n 0, 1) := by decide +kernel
theorem dX8_read_11 : decode cX8_read 11 = .ok (.getfield 17, 3) := by decide +kernel
theorem dX8_read_14 : decode cX8_read 14 = .ok (.iload_n 1, 1) := by decide +kernel
theorem dX8_read_15 : decode cX8_read 15 = .ok (.aaload, 1) := by decide +kernel
theorem dX8_read_16 : decode cX8_read 16 = .ok (.astore_n 2, 1) := by decide +kernel
theorem dX8_read_17 : decode cX8_read 17 = .ok (.aload_n 2, 1) := by decide +kernel
theorem dX8_read_18 : decode cX8_read 18 = .ok (.getfield 204, 3) := by decide +kernel
theorem dX8_read_21 : decode cX8_read 21 = .ok (.ifCond .eq 9, 3) := by decide +kernel
theorem dX8_read_24 : decode cX8_read 24 = .ok (.aload_n 0, 1) := by decide +kernel
theorem dX8_read_25 : decode cX8_read 25 = .ok (.iconst 1, 1) := by decide +kernel
theorem dX8_read_26 : decode cX8_read 26 = .ok (.invokevirtual 207, 3) := by decide +kernel
theorem dX8_read_29 : decode cX8_read 29 = .ok (.ireturn, 1) := by decide +kernel
theorem dX8_read_30 : decode cX8_read 30 = .ok (.iconst 0, 1) := by decide +kernel
theorem dX8_read_31 : decode cX8_read 31 = .ok (.istore_n 3, 1) := by decide +kernel
theorem dX8_read_32 : decode cX8_read 32 = .ok (.iconst 0, 1) := by decide +kernel
theorem dX8_read_33 : decode cX8_read 33 = .ok (.istore 4, 2) := by decide +kernel
theorem dX8_read_35 : decode cX8_read 35 = .ok (.iload 4, 2) := by decide +kernel
theorem dX8_read_37 : decode cX8_read 37 = .ok (.iconst 1, 1) := by decide +kernel
theorem dX8_read_38 : decode cX8_read 38 = .ok (.iadd, 1) := by decide +kernel
theorem dX8_read_39 : decode cX8_read 39 = .ok (.aload_n 2, 1) := by decide +kernel
theorem dX8_read_40 : decode cX8_read 40 = .ok (.getfield 210, 3) := by decide +kernel
theorem dX8_read_43 : decode cX8_read 43 = .ok (.if_icmp .ge 63, 3) := by decide +kernel
theorem dX8_read_46 : decode cX8_read 46 = .ok (.aload_n 2, 1) := by decide +kernel
theorem dX8_read_47 : decode cX8_read 47 = .ok (.getfield 211, 3) := by decide +kernel
theorem dX8_read_50 : decode cX8_read 50 = .ok (.iload 4, 2) := by decide +kernel
theorem dX8_read_52 : decode cX8_read 52 = .ok (.iaload, 1) := by decide +kernel
theorem dX8_read_53 : decode cX8_read 53 = .ok (.istore 5, 2) := by decide +kernel
theorem dX8_read_55 : decode cX8_read 55 = .ok (.aload_n 2, 1) := by decide +kernel
theorem dX8_read_56 : decode cX8_read 56 = .ok (.getfield 211, 3) := by decide +kernel
theorem dX8_read_59 : decode cX8_read 59 = .ok (.iload 4, 2) := by decide +kernel
theorem dX8_read_61 : decode cX8_read 61 = .ok (.iconst 1, 1) := by decide +kernel
theorem dX8_read_62 : decode cX8_read 62 = .ok (.iadd, 1) := by decide +kernel
theorem dX8_read_63 : decode cX8_read 63 = .ok (.iaload, 1) := by decide +kernel
theorem dX8_read_64 : decode cX8_read 64 = .ok (.istore 6, 2) := by decide +kernel
theorem dX8_read_66 : decode cX8_read 66 = .ok (.aload_n 0, 1) := by decide +kernel
theorem dX8_read_67 : decode cX8_read 67 = .ok (.getfield 59, 3) := by decide +kernel
theorem dX8_read_70 : decode cX8_read 70 = .ok (.iload 5, 2) := by decide +kernel
theorem dX8_read_72 : decode cX8_read 72 = .ok (.iload 6, 2) := by decide +kernel
theorem dX8_read_74 : decode cX8_read 74 = .ok (.invokevirtual 191, 3) := by decide +kernel
theorem dX8_read_77 : decode cX8_read 77 = .ok (.ifCond .eq 29, 3) := by decide +kernel
theorem dX8_read_80 : decode cX8_read 80 = .ok (.aload_n 0, 1) := by decide +kernel
theorem dX8_read_81 : decode cX8_read 81 = .ok (.getfield 59, 3) := by decide +kernel
theorem dX8_read_84 : decode cX8_read 84 = .ok (.iload 5, 2) := by decide +kernel
theorem dX8_read_86 : decode cX8_read 86 = .ok (.iload 6, 2) := by decide +kernel
theorem dX8_read_88 : decode cX8_read 88 = .ok (.invokevirtual 195, 3) := by decide +kernel
theorem dX8_read_91 : decode cX8_read 91 = .ok (.ifCond .ne 6, 3) := by decide +kernel
theorem dX8_read_94 : decode cX8_read 94 = .ok (.goto 12, 3) := by decide +kernel
theorem dX8_read_97 : decode cX8_read 97 = .ok (.iinc 3 1, 3) := by decide +kernel
theorem dX8_read_100 : decode cX8_read 100 = .ok (.iinc 4 2, 3) := by decide +kernel
theorem dX8_read_103 : decode cX8_read 103 = .ok (.goto (-68), 3) := by decide +kernel
theorem dX8_read_106 : decode cX8_read 106 = .ok (.iload_n 3, 1) := by decide +kernel
theorem dX8_read_107 : decode cX8_read 107 = .ok (.ireturn, 1) := by decide +kernel
theorem dX8_never_0 : decode cX8_never 0 = .ok (.aload_n 0, 1) := by decide +kernel
theorem dX8_never_1 : decode cX8_never 1 = .ok (.invokevirtual 98, 3) := by decide +kernel
theorem dX8_never_4 : decode cX8_never 4 = .ok (.aload_n 0, 1) := by decide +kernel
theorem dX8_never_5 : decode cX8_never 5 = .ok (.getfield 68, 3) := by decide +kernel
theorem dX8_never_8 : decode cX8_never 8 = .ok (.invokevirtual 214, 3) := by decide +kernel
theorem dX8_never_11 : decode cX8_never 11 = .ok (.ireturn, 1) := by decide +kernel
theorem dX8_who_0 : decode cX8_who 0 = .ok (.aload_n 0, 1) := by decide +kernel
theorem dX8_who_1 : decode cX8_who 1 = .ok (.invokevirtual 98, 3) := by decide +kernel
theorem dX8_who_4 : decode cX8_who 4 = .ok (.aload_n 0, 1) := by decide +kernel
theorem dX8_who_5 : decode cX8_who 5 = .ok (.iload_n 1, 1) := by decide +kernel
theorem dX8_who_6 : decode cX8_who 6 = .ok (.invokevirtual 114, 3) := by decide +kernel
theorem dX8_who_9 : decode cX8_who 9 = .ok (.ifCond .eq 8, 3) := by decide +kernel
theorem dX8_who_12 : decode cX8_who 12 = .ok (.bipush (-2), 2) := by decide +kernel
theorem dX8_who_14 : decode cX8_who 14 = .ok (.goto 11, 3) := by decide +kernel
theorem dX8_who_17 : decode cX8_who 17 = .ok (.aload_n 0, 1) := by decide +kernel
theorem dX8_who_18 : decode cX8_who 18 = .ok (.getfield 68, 3) := by decide +kernel
theorem dX8_who_21 : decode cX8_who 21 = .ok (.iload_n 1, 1) := by decide +kernel
theorem dX8_who_22 : decode cX8_who 22 = .ok (.invokevirtual 217, 3) := by decide +kernel
theorem dX8_who_25 : decode cX8_who 25 = .ok (.ireturn, 1) := by decide +kernel
theorem dX8_weigh_0 : decode cX8_weigh 0 = .ok (.aload_n 0, 1) := by decide +kernel
theorem dX8_weigh_1 : decode cX8_weigh 1 = .ok (.invokevirtual 98, 3) := by decide +kernel
theorem dX8_weigh_4 : decode cX8_weigh 4 = .ok (.aload_n 0, 1) := by decide +kernel
theorem dX8_weigh_5 : decode cX8_weigh 5 = .ok (.getfield 68, 3) := by decide +kernel
theorem dX8_weigh_8 : decode cX8_weigh 8 = .ok (.invokevirtual 220, 3) := by decide +kernel
theorem dX8_weigh_11 : decode cX8_weigh 11 = .ok (.ireturn, 1) := by decide +kernel
theorem dX8_maybe_0 : decode cX8_maybe 0 = .ok (.aload_n 0, 1) := by decide +kernel
theorem dX8_maybe_1 : decode cX8_maybe 1 = .ok (.invokevirtual 98, 3) := by decide +kernel
theorem dX8_maybe_4 : decode cX8_maybe 4 = .ok (.iload_n 1, 1) := by decide +kernel
theorem dX8_maybe_5 : decode cX8_maybe 5 = .ok (.ifCond .lt 35, 3) := by decide +kernel
theorem dX8_maybe_8 : decode cX8_maybe 8 = .ok (.iload_n 1, 1) := by decide +kernel
theorem dX8_maybe_9 : decode cX8_maybe 9 = .ok (.bipush 16, 2) := by decide +kernel
theorem dX8_maybe_11 : decode cX8_maybe 11 = .ok (.if_icmp .gt 29, 3) := by decide +kernel
theorem dX8_maybe_14 : decode cX8_maybe 14 = .ok (.aload_n 0, 1) := by decide +kernel
theorem dX8_maybe_15 : decode cX8_maybe 15 = .ok (.iload_n 2, 1) := by decide +kernel
theorem dX8_maybe_16 : decode cX8_maybe 16 = .ok (.invokevirtual 101, 3) := by decide +kernel
theorem dX8_maybe_19 : decode cX8_maybe 19 = .ok (.ifCond .ne 21, 3) := by decide +kernel
theorem dX8_maybe_22 : decode cX8_maybe 22 = .ok (.iload_n 3, 1) := by decide +kernel
theorem dX8_maybe_23 : decode cX8_maybe 23 = .ok (.invokestatic 135, 3) := by decide +kernel
theorem dX8_maybe_26 : decode cX8_maybe 26 = .ok (.ifCond .ne 14, 3) := by decide +kernel
theorem dX8_maybe_29 : decode cX8_maybe 29 = .ok (.iload 4, 2) := by decide +kernel
theorem dX8_maybe_31 : decode cX8_maybe 31 = .ok (.ifCond .lt 9, 3) := by decide +kernel
theorem dX8_maybe_34 : decode cX8_maybe 34 = .ok (.iload 4, 2) := by decide +kernel
theorem dX8_maybe_36 : decode cX8_maybe 36 = .ok (.iconst 1, 1) := by decide +kernel
theorem dX8_maybe_37 : decode cX8_maybe 37 = .ok (.if_icmp .le 7, 3) := by decide +kernel
theorem dX8_maybe_40 : decode cX8_maybe 40 = .ok (.ldc2_w 225, 3) := by decide +kernel
theorem dX8_maybe_43 : decode cX8_maybe 43 = .ok (.lreturn, 1) := by decide +kernel
theorem dX8_maybe_44 : decode cX8_maybe 44 = .ok (.aload_n 0, 1) := by decide +kernel
theorem dX8_maybe_45 : decode cX8_maybe 45 = .ok (.getfield 52, 3) := by decide +kernel
theorem dX8_maybe_48 : decode cX8_maybe 48 = .ok (.iload_n 1, 1) := by decide +kernel
theorem dX8_maybe_49 : decode cX8_maybe 49 = .ok (.iload_n 2, 1) := by decide +kernel
theorem dX8_maybe_50 : decode cX8_maybe 50 = .ok (.iload_n 3, 1) := by decide +kernel
theorem dX8_maybe_51 : decode cX8_maybe 51 = .ok (.invokevirtual 227, 3) := by decide +kernel
theorem dX8_maybe_54 : decode cX8_maybe 54 = .ok (.iload 4, 2) := by decide +kernel
theorem dX8_maybe_56 : decode cX8_maybe 56 = .ok (.ifCond .ne 13, 3) := by decide +kernel
theorem dX8_maybe_59 : decode cX8_maybe 59 = .ok (.aload_n 0, 1) := by decide +kernel
theorem dX8_maybe_60 : decode cX8_maybe 60 = .ok (.getfield 52, 3) := by decide +kernel
theorem dX8_maybe_63 : decode cX8_maybe 63 = .ok (.getfield 231, 3) := by decide +kernel
theorem dX8_maybe_66 : decode cX8_maybe 66 = .ok (.goto 10, 3) := by decide +kernel
theorem dX8_maybe_69 : decode cX8_maybe 69 = .ok (.aload_n 0, 1) := by decide +kernel
theorem dX8_maybe_70 : decode cX8_maybe 70 = .ok (.getfield 52, 3) := by decide +kernel
theorem dX8_maybe_73 : decode cX8_maybe 73 = .ok (.getfield 235, 3) := by decide +kernel
theorem dX8_maybe_76 : decode cX8_maybe 76 = .ok (.lreturn, 1) := by decide +kernel
theorem dX8_day_0 : decode cX8_day 0 = .ok (.iload_n 2, 1) := by decide +kernel
theorem dX8_day_1 : decode cX8_day 1 = .ok (.iconst 1, 1) := by decide +kernel
theorem dX8_day_2 : decode cX8_day 2 = .ok (.if_icmp .lt 18, 3) := by decide +kernel
theorem dX8_day_5 : decode cX8_day 5 = .ok (.iload_n 2, 1) := by decide +kernel
theorem dX8_day_6 : decode cX8_day 6 = .ok (.bipush 20, 2) := by decide +kernel
theorem dX8_day_8 : decode cX8_day 8 = .ok (.if_icmp .gt 12, 3) := by decide +kernel
theorem dX8_day_11 : decode cX8_day 11 = .ok (.iload_n 3, 1) := by decide +kernel
theorem dX8_day_12 : decode cX8_day 12 = .ok (.ifCond .lt 8, 3) := by decide +kernel
theorem dX8_day_15 : decode cX8_day 15 = .ok (.iload_n 3, 1) := by decide +kernel
theorem dX8_day_16 : decode cX8_day 16 = .ok (.iconst 1, 1) := by decide +kernel
theorem dX8_day_17 : decode cX8_day 17 = .ok (.if_icmp .le 6, 3) := by decide +kernel
theorem dX8_day_20 : decode cX8_day 20 = .ok (.bipush (-2), 2) := by decide +kernel
theorem dX8_day_22 : decode cX8_day 22 = .ok (.ireturn, 1) := by decide +kernel
theorem dX8_day_23 : decode cX8_day 23 = .ok (.aload_n 0, 1) := by decide +kernel
theorem dX8_day_24 : decode cX8_day 24 = .ok (.invokevirtual 98, 3) := by decide +kernel
theorem dX8_day_27 : decode cX8_day 27 = .ok (.aload_n 0, 1) := by decide +kernel
theorem dX8_day_28 : decode cX8_day 28 = .ok (.getfield 37, 3) := by decide +kernel
theorem dX8_day_31 : decode cX8_day 31 = .ok (.aload_n 0, 1) := by decide +kernel
theorem dX8_day_32 : decode cX8_day 32 = .ok (.getfield 24, 3) := by decide +kernel
theorem dX8_day_35 : decode cX8_day 35 = .ok (.invokevirtual 238, 3) := by decide +kernel
theorem dX8_day_38 : decode cX8_day 38 = .ok (.invokevirtual 241, 3) := by decide +kernel
theorem dX8_day_41 : decode cX8_day 41 = .ok (.iload_n 1, 1) := by decide +kernel
theorem dX8_day_42 : decode cX8_day 42 = .ok (.istore 4, 2) := by decide +kernel
theorem dX8_day_44 : decode cX8_day 44 = .ok (.iconst 0, 1) := by decide +kernel
theorem dX8_day_45 : decode cX8_day 45 = .ok (.istore 5, 2) := by decide +kernel
theorem dX8_day_47 : decode cX8_day 47 = .ok (.iload 5, 2) := by decide +kernel
theorem dX8_day_49 : decode cX8_day 49 = .ok (.iload_n 2, 1) := by decide +kernel
theorem dX8_day_50 : decode cX8_day 50 = .ok (.if_icmp .ge 35, 3) := by decide +kernel
theorem dX8_day_53 : decode cX8_day 53 = .ok (.ldc 244, 2) := by decide +kernel
theorem dX8_day_55 : decode cX8_day 55 = .ok (.iload 4, 2) := by decide +kernel
theorem dX8_day_57 : decode cX8_day 57 = .ok (.imul, 1) := by decide +kernel
theorem dX8_day_58 : decode cX8_day 58 = .ok (.sipush 12345, 3) := by decide +kernel
theorem dX8_day_61 : decode cX8_day 61 = .ok (.iadd, 1) := by decide +kernel
theorem dX8_day_62 : decode cX8_day 62 = .ok (.istore 4, 2) := by decide +kernel
theorem dX8_day_64 : decode cX8_day 64 = .ok (.aload_n 0, 1) := by decide +kernel
theorem dX8_day_65 : decode cX8_day 65 = .ok (.getfield 37, 3) := by decide +kernel
theorem dX8_day_68 : decode cX8_day 68 = .ok (.iload 4, 2) := by decide +kernel
theorem dX8_day_70 : decode cX8_day 70 = .ok (.bipush 16, 2) := by decide +kernel
theorem dX8_day_72 : decode cX8_day 72 = .ok (.iushr, 1) := by decide +kernel
theorem dX8_day_73 : decode cX8_day 73 = .ok (.bipush 10, 2) := by decide +kernel
theorem dX8_day_75 : decode cX8_day 75 = .ok (.irem, 1) := by decide +kernel
theorem dX8_day_76 : decode cX8_day 76 = .ok (.invokevirtual 245, 3) := by decide +kernel
theorem dX8_day_79 : decode cX8_day 79 = .ok (.iinc 5 1, 3) := by decide +kernel
theorem dX8_day_82 : decode cX8_day 82 = .ok (.goto (-35), 3) := by decide +kernel
theorem dX8_day_85 : decode cX8_day 85 = .ok (.iload_n 3, 1) := by decide +kernel
theorem dX8_day_86 : decode cX8_day 86 = .ok (.ifCond .ne 13, 3) := by decide +kernel
theorem dX8_day_89 : decode cX8_day 89 = .ok (.aload_n 0, 1) := by decide +kernel
theorem dX8_day_90 : decode cX8_day 90 = .ok (.getfield 37, 3) := by decide +kernel
theorem dX8_day_93 : decode cX8_day 93 = .ok (.invokevirtual 248, 3) := by decide +kernel
theorem dX8_day_96 : decode cX8_day 96 = .ok (.goto 10, 3) := by decide +kernel
theorem dX8_day_99 : decode cX8_day 99 = .ok (.aload_n 0, 1) := by decide +kernel
theorem dX8_day_100 : decode cX8_day 100 = .ok (.getfield 37, 3) := by decide +kernel
theorem dX8_day_103 : decode cX8_day 103 = .ok (.invokevirtual 142, 3) := by decide +kernel
theorem dX8_day_106 : decode cX8_day 106 = .ok (.ireturn, 1) := by decide +kernel
theorem dX8_sheet_0 : decode cX8_sheet 0 = .ok (.iload_n 1, 1) := by decide +kernel
theorem dX8_sheet_1 : decode cX8_sheet 1 = .ok (.invokestatic 201, 3) := by decide +kernel
theorem dX8_sheet_4 : decode cX8_sheet 4 = .ok (.ifCond .ne 16, 3) := by decide +kernel
theorem dX8_sheet_7 : decode cX8_sheet 7 = .ok (.iload_n 2, 1) := by decide +kernel
theorem dX8_sheet_8 : decode cX8_sheet 8 = .ok (.invokestatic 251, 3) := by decide +kernel
theorem dX8_sheet_11 : decode cX8_sheet 11 = .ok (.ifCond .ne 9, 3) := by decide +kernel
theorem dX8_sheet_14 : decode cX8_sheet 14 = .ok (.iload_n 3, 1) := by decide +kernel
theorem dX8_sheet_15 : decode cX8_sheet 15 = .ok (.bipush 60, 2) := by decide +kernel
theorem dX8_sheet_17 : decode cX8_sheet 17 = .ok (.if_icmp .le 6, 3) := by decide +kernel
theorem dX8_sheet_20 : decode cX8_sheet 20 = .ok (.bipush (-2), 2) := by decide +kernel
theorem dX8_sheet_22 : decode cX8_sheet 22 = .ok (.ireturn, 1) := by decide +kernel
theorem dX8_sheet_23 : decode cX8_sheet 23 = .ok (.iload_n 3, 1) := by decide +kernel
theorem dX8_sheet_24 : decode cX8_sheet 24 = .ok (.ifCond .ge 9, 3) := by decide +kernel
theorem dX8_sheet_27 : decode cX8_sheet 27 = .ok (.aload_n 0, 1) := by decide +kernel
theorem dX8_sheet_28 : decode cX8_sheet 28 = .ok (.iconst 5, 1) := by decide +kernel
theorem dX8_sheet_29 : decode cX8_sheet 29 = .ok (.invokevirtual 207, 3) := by decide +kernel
theorem dX8_sheet_32 : decode cX8_sheet 32 = .ok (.ireturn, 1) := by decide +kernel
theorem dX8_sheet_33 : decode cX8_sheet 33 = .ok (.aload_n 0, 1) := by decide +kernel
theorem dX8_sheet_34 : decode cX8_sheet 34 = .ok (.getfield 17, 3) := by decide +kernel
theorem dX8_sheet_37 : decode cX8_sheet 37 = .ok (.iload_n 1, 1) := by decide +kernel
theorem dX8_sheet_38 : decode cX8_sheet 38 = .ok (.aaload, 1) := by decide +kernel
theorem dX8_sheet_39 : decode cX8_sheet 39 = .ok (.iload_n 2, 1) := by decide +kernel
theorem dX8_sheet_40 : decode cX8_sheet 40 = .ok (.iload_n 3, 1) := by decide +kernel
theorem dX8_sheet_41 : decode cX8_sheet 41 = .ok (.invokevirtual 254, 3) := by decide +kernel
theorem dX8_sheet_44 : decode cX8_sheet 44 = .ok (.iload_n 3, 1) := by decide +kernel
theorem dX8_sheet_45 : decode cX8_sheet 45 = .ok (.ireturn, 1) := by decide +kernel
theorem dX8_lose_0 : decode cX8_lose 0 = .ok (.iload_n 1, 1) := by decide +kernel
theorem dX8_lose_1 : decode cX8_lose 1 = .ok (.invokestatic 201, 3) := by decide +kernel
theorem dX8_lose_4 : decode cX8_lose 4 = .ok (.ifCond .eq 6, 3) := by decide +kernel
theorem dX8_lose_7 : decode cX8_lose 7 = .ok (.bipush (-2), 2) := by decide +kernel
theorem dX8_lose_9 : decode cX8_lose 9 = .ok (.ireturn, 1) := by decide +kernel
theorem dX8_lose_10 : decode cX8_lose 10 = .ok (.aload_n 0, 1) := by decide +kernel
theorem dX8_lose_11 : decode cX8_lose 11 = .ok (.getfield 17, 3) := by decide +kernel
theorem dX8_lose_14 : decode cX8_lose 14 = .ok (.iload_n 1, 1) := by decide +kernel
theorem dX8_lose_15 : decode cX8_lose 15 = .ok (.aaload, 1) := by decide +kernel
theorem dX8_lose_16 : decode cX8_lose 16 = .ok (.getfield 204, 3) := by decide +kernel
theorem dX8_lose_19 : decode cX8_lose 19 = .ok (.ifCond .eq 9, 3) := by decide +kernel
theorem dX8_lose_22 : decode cX8_lose 22 = .ok (.aload_n 0, 1) := by decide +kernel
theorem dX8_lose_23 : decode cX8_lose 23 = .ok (.iconst 1, 1) := by decide +kernel
theorem dX8_lose_24 : decode cX8_lose 24 = .ok (.invokevirtual 207, 3) := by decide +kernel
theorem dX8_lose_27 : decode cX8_lose 27 = .ok (.ireturn, 1) := by decide +kernel
theorem dX8_lose_28 : decode cX8_lose 28 = .ok (.aload_n 0, 1) := by decide +kernel
theorem dX8_lose_29 : decode cX8_lose 29 = .ok (.getfield 17, 3) := by decide +kernel
theorem dX8_lose_32 : decode cX8_lose 32 = .ok (.iload_n 1, 1) := by decide +kernel
theorem dX8_lose_33 : decode cX8_lose 33 = .ok (.aaload, 1) := by decide +kernel
theorem dX8_lose_34 : decode cX8_lose 34 = .ok (.iconst 1, 1) := by decide +kernel
theorem dX8_lose_35 : decode cX8_lose 35 = .ok (.putfield 204, 3) := by decide +kernel
theorem dX8_lose_38 : decode cX8_lose 38 = .ok (.aload_n 0, 1) := by decide +kernel
theorem dX8_lose_39 : decode cX8_lose 39 = .ok (.getfield 17, 3) := by decide +kernel
theorem dX8_lose_42 : decode cX8_lose 42 = .ok (.iload_n 1, 1) := by decide +kernel
theorem dX8_lose_43 : decode cX8_lose 43 = .ok (.aaload, 1) := by decide +kernel
theorem dX8_lose_44 : decode cX8_lose 44 = .ok (.getfield 210, 3) := by decide +kernel
theorem dX8_lose_47 : decode cX8_lose 47 = .ok (.ireturn, 1) := by decide +kernel
theorem dX8_put_0 : decode cX8_put 0 = .ok (.iload_n 1, 1) := by decide +kernel
theorem dX8_put_1 : decode cX8_put 1 = .ok (.invokestatic 201, 3) := by decide +kernel
theorem dX8_put_4 : decode cX8_put 4 = .ok (.ifCond .ne 10, 3) := by decide +kernel
theorem dX8_put_7 : decode cX8_put 7 = .ok (.iload_n 2, 1) := by decide +kernel
theorem dX8_put_8 : decode cX8_put 8 = .ok (.invokestatic 251, 3) := by decide +kernel
theorem dX8_put_11 : decode cX8_put 11 = .ok (.ifCond .eq 6, 3) := by decide +kernel
theorem dX8_put_14 : decode cX8_put 14 = .ok (.bipush (-2), 2) := by decide +kernel
theorem dX8_put_16 : decode cX8_put 16 = .ok (.ireturn, 1) := by decide +kernel
theorem dX8_put_17 : decode cX8_put 17 = .ok (.aload_n 0, 1) := by decide +kernel
theorem dX8_put_18 : decode cX8_put 18 = .ok (.getfield 17, 3) := by decide +kernel
theorem dX8_put_21 : decode cX8_put 21 = .ok (.iload_n 1, 1) := by decide +kernel
theorem dX8_put_22 : decode cX8_put 22 = .ok (.aaload, 1) := by decide +kernel
theorem dX8_put_23 : decode cX8_put 23 = .ok (.iload_n 2, 1) := by decide +kernel
theorem dX8_put_24 : decode cX8_put 24 = .ok (.iload_n 3, 1) := by decide +kernel
theorem dX8_put_25 : decode cX8_put 25 = .ok (.invokevirtual 257, 3) := by decide +kernel
theorem dX8_put_28 : decode cX8_put 28 = .ok (.istore 5, 2) := by decide +kernel
theorem dX8_put_30 : decode cX8_put 30 = .ok (.iload 5, 2) := by decide +kernel
theorem dX8_put_32 : decode cX8_put 32 = .ok (.ifCond .eq 10, 3) := by decide +kernel
theorem dX8_put_35 : decode cX8_put 35 = .ok (.aload_n 0, 1) := by decide +kernel
theorem dX8_put_36 : decode cX8_put 36 = .ok (.iload 5, 2) := by decide +kernel
theorem dX8_put_38 : decode cX8_put 38 = .ok (.invokevirtual 207, 3) := by decide +kernel
theorem dX8_put_41 : decode cX8_put 41 = .ok (.ireturn, 1) := by decide +kernel
theorem dX8_put_42 : decode cX8_put 42 = .ok (.aload_n 0, 1) := by decide +kernel
theorem dX8_put_43 : decode cX8_put 43 = .ok (.getfield 17, 3) := by decide +kernel
theorem dX8_put_46 : decode cX8_put 46 = .ok (.iload_n 1, 1) := by decide +kernel
theorem dX8_put_47 : decode cX8_put 47 = .ok (.aaload, 1) := by decide +kernel
theorem dX8_put_48 : decode cX8_put 48 = .ok (.iload_n 3, 1) := by decide +kernel
theorem dX8_put_49 : decode cX8_put 49 = .ok (.iload 4, 2) := by decide +kernel
theorem dX8_put_51 : decode cX8_put 51 = .ok (.invokevirtual 260, 3) := by decide +kernel
theorem dX8_put_54 : decode cX8_put 54 = .ok (.iconst 1, 1) := by decide +kernel
theorem dX8_put_55 : decode cX8_put 55 = .ok (.ireturn, 1) := by decide +kernel
theorem dX8_get_0 : decode cX8_get 0 = .ok (.iload_n 1, 1) := by decide +kernel
theorem dX8_get_1 : decode cX8_get 1 = .ok (.invokestatic 201, 3) := by decide +kernel
theorem dX8_get_4 : decode cX8_get 4 = .ok (.ifCond .ne 10, 3) := by decide +kernel
theorem dX8_get_7 : decode cX8_get 7 = .ok (.iload_n 2, 1) := by decide +kernel
theorem dX8_get_8 : decode cX8_get 8 = .ok (.invokestatic 251, 3) := by decide +kernel
theorem dX8_get_11 : decode cX8_get 11 = .ok (.ifCond .eq 7, 3) := by decide +kernel
theorem dX8_get_14 : decode cX8_get 14 = .ok (.ldc_w 265, 3) := by decide +kernel
theorem dX8_get_17 : decode cX8_get 17 = .ok (.ireturn, 1) := by decide +kernel
theorem dX8_get_18 : decode cX8_get 18 = .ok (.aload_n 0, 1) := by decide +kernel
theorem dX8_get_19 : decode cX8_get 19 = .ok (.getfield 17, 3) := by decide +kernel
theorem dX8_get_22 : decode cX8_get 22 = .ok (.iload_n 1, 1) := by decide +kernel
theorem dX8_get_23 : decode cX8_get 23 = .ok (.aaload, 1) := by decide +kernel
theorem dX8_get_24 : decode cX8_get 24 = .ok (.iload_n 2, 1) := by decide +kernel
theorem dX8_get_25 : decode cX8_get 25 = .ok (.iload_n 3, 1) := by decide +kernel
theorem dX8_get_26 : decode cX8_get 26 = .ok (.invokevirtual 257, 3) := by decide +kernel
theorem dX8_get_29 : decode cX8_get 29 = .ok (.istore 4, 2) := by decide +kernel
theorem dX8_get_31 : decode cX8_get 31 = .ok (.iload 4, 2) := by decide +kernel
theorem dX8_get_33 : decode cX8_get 33 = .ok (.ifCond .eq 13, 3) := by decide +kernel
theorem dX8_get_36 : decode cX8_get 36 = .ok (.aload_n 0, 1) := by decide +kernel
theorem dX8_get_37 : decode cX8_get 37 = .ok (.iload 4, 2) := by decide +kernel
theorem dX8_get_39 : decode cX8_get 39 = .ok (.putfield 72, 3) := by decide +kernel
theorem dX8_get_42 : decode cX8_get 42 = .ok (.ldc_w 265, 3) := by decide +kernel
theorem dX8_get_45 : decode cX8_get 45 = .ok (.ireturn, 1) := by decide +kernel
theorem dX8_get_46 : decode cX8_get 46 = .ok (.aload_n 0, 1) := by decide +kernel
theorem dX8_get_47 : decode cX8_get 47 = .ok (.getfield 17, 3) := by decide +kernel
theorem dX8_get_50 : decode cX8_get 50 = .ok (.iload_n 1, 1) := by decide +kernel
theorem dX8_get_51 : decode cX8_get 51 = .ok (.aaload, 1) := by decide +kernel
theorem dX8_get_52 : decode cX8_get 52 = .ok (.getfield 211, 3) := by decide +kernel
theorem dX8_get_55 : decode cX8_get 55 = .ok (.iload_n 3, 1) := by decide +kernel
theorem dX8_get_56 : decode cX8_get 56 = .ok (.iaload, 1) := by decide +kernel
theorem dX8_get_57 : decode cX8_get 57 = .ok (.ireturn, 1) := by decide +kernel
theorem dX8_copy_0 : decode cX8_copy 0 = .ok (.iload_n 1, 1) := by decide +kernel
theorem dX8_copy_1 : decode cX8_copy 1 = .ok (.invokestatic 201, 3) := by decide +kernel
theorem dX8_copy_4 : decode cX8_copy 4 = .ok (.ifCond .ne 10, 3) := by decide +kernel
theorem dX8_copy_7 : decode cX8_copy 7 = .ok (.iload_n 3, 1) := by decide +kernel
theorem dX8_copy_8 : decode cX8_copy 8 = .ok (.invokestatic 201, 3) := by decide +kernel
theorem dX8_copy_11 : decode cX8_copy 11 = .ok (.ifCond .eq 6, 3) := by decide +kernel
theorem dX8_copy_14 : decode cX8_copy 14 = .ok (.bipush (-2), 2) := by decide +kernel
theorem dX8_copy_16 : decode cX8_copy 16 = .ok (.ireturn, 1) := by decide +kernel
theorem dX8_copy_17 : decode cX8_copy 17 = .ok (.aload_n 0, 1) := by decide +kernel
theorem dX8_copy_18 : decode cX8_copy 18 = .ok (.getfield 17, 3) := by decide +kernel
theorem dX8_copy_21 : decode cX8_copy 21 = .ok (.iload_n 1, 1) := by decide +kernel
theorem dX8_copy_22 : decode cX8_copy 22 = .ok (.aaload, 1) := by decide +kernel
theorem dX8_copy_23 : decode cX8_copy 23 = .ok (.astore 6, 2) := by decide +kernel
theorem dX8_copy_25 : decode cX8_copy 25 = .ok (.aload_n 0, 1) := by decide +kernel
theorem dX8_copy_26 : decode cX8_copy 26 = .ok (.getfield 17, 3) := by decide +kernel
theorem dX8_copy_29 : decode cX8_copy 29 = .ok (.iload_n 3, 1) := by decide +kernel
theorem dX8_copy_30 : decode cX8_copy 30 = .ok (.aaload, 1) := by decide +kernel
theorem dX8_copy_31 : decode cX8_copy 31 = .ok (.astore 7, 2) := by decide +kernel
theorem dX8_copy_33 : decode cX8_copy 33 = .ok (.aload 6, 2) := by decide +kernel
theorem dX8_copy_35 : decode cX8_copy 35 = .ok (.getfield 204, 3) := by decide +kernel
theorem dX8_copy_38 : decode cX8_copy 38 = .ok (.ifCond .ne 11, 3) := by decide +kernel
theorem dX8_copy_41 : decode cX8_copy 41 = .ok (.aload 7, 2) := by decide +kernel
theorem dX8_copy_43 : decode cX8_copy 43 = .ok (.getfield 204, 3) := by decide +kernel
theorem dX8_copy_46 : decode cX8_copy 46 = .ok (.ifCond .eq 9, 3) := by decide +kernel
theorem dX8_copy_49 : decode cX8_copy 49 = .ok (.aload_n 0, 1) := by decide +kernel
theorem dX8_copy_50 : decode cX8_copy 50 = .ok (.iconst 1, 1) := by decide +kernel
theorem dX8_copy_51 : decode cX8_copy 51 = .ok (.invokevirtual 207, 3) := by decide +kernel
theorem dX8_copy_54 : decode cX8_copy 54 = .ok (.ireturn, 1) := by decide +kernel
theorem dX8_copy_55 : decode cX8_copy 55 = .ok (.aload 6, 2) := by decide +kernel
theorem dX8_copy_57 : decode cX8_copy 57 = .ok (.getfield 266, 3) := by decide +kernel
theorem dX8_copy_60 : decode cX8_copy 60 = .ok (.aload 7, 2) := by decide +kernel
theorem dX8_copy_62 : decode cX8_copy 62 = .ok (.getfield 266, 3) := by decide +kernel
theorem dX8_copy_65 : decode cX8_copy 65 = .ok (.if_icmp .eq 9, 3) := by decide +kernel
theorem dX8_copy_68 : decode cX8_copy 68 = .ok (.aload_n 0, 1) := by decide +kernel
theorem dX8_copy_69 : decode cX8_copy 69 = .ok (.iconst 4, 1) := by decide +kernel
theorem dX8_copy_70 : decode cX8_copy 70 = .ok (.invokevirtual 207, 3) := by decide +kernel
theorem dX8_copy_73 : decode cX8_copy 73 = .ok (.ireturn, 1) := by decide +kernel
theorem dX8_copy_74 : decode cX8_copy 74 = .ok (.aload 6, 2) := by decide +kernel
theorem dX8_copy_76 : decode cX8_copy 76 = .ok (.iload_n 2, 1) := by decide +kernel
theorem dX8_copy_77 : decode cX8_copy 77 = .ok (.iload 5, 2) := by decide +kernel
theorem dX8_copy_79 : decode cX8_copy 79 = .ok (.invokevirtual 269, 3) := by decide +kernel
theorem dX8_copy_82 : decode cX8_copy 82 = .ok (.ifCond .eq 15, 3) := by decide +kernel
theorem dX8_copy_85 : decode cX8_copy 85 = .ok (.aload 7, 2) := by decide +kernel
theorem dX8_copy_87 : decode cX8_copy 87 = .ok (.iload 4, 2) := by decide +kernel
theorem dX8_copy_89 : decode cX8_copy 89 = .ok (.iload 5, 2) := by decide +kernel
theorem dX8_copy_91 : decode cX8_copy 91 = .ok (.invokevirtual 269, 3) := by decide +kernel
theorem dX8_copy_94 : decode cX8_copy 94 = .ok (.ifCond .ne 9, 3) := by decide +kernel
theorem dX8_copy_97 : decode cX8_copy 97 = .ok (.aload_n 0, 1) := by decide +kernel
theorem dX8_copy_98 : decode cX8_copy 98 = .ok (.iconst 2, 1) := by decide +kernel
theorem dX8_copy_99 : decode cX8_copy 99 = .ok (.invokevirtual 207, 3) := by decide +kernel
theorem dX8_copy_102 : decode cX8_copy 102 = .ok (.ireturn, 1) := by decide +kernel
theorem dX8_copy_103 : decode cX8_copy 103 = .ok (.aload 6, 2) := by decide +kernel
theorem dX8_copy_105 : decode cX8_copy 105 = .ok (.getfield 211, 3) := by decide +kernel
theorem dX8_copy_108 : decode cX8_copy 108 = .ok (.iload_n 2, 1) := by decide +kernel
theorem dX8_copy_109 : decode cX8_copy 109 = .ok (.aload 7, 2) := by decide +kernel
theorem dX8_copy_111 : decode cX8_copy 111 = .ok (.getfield 211, 3) := by decide +kernel
theorem dX8_copy_114 : decode cX8_copy 114 = .ok (.iload 4, 2) := by decide +kernel
theorem dX8_copy_116 : decode cX8_copy 116 = .ok (.iload 5, 2) := by decide +kernel
theorem dX8_copy_118 : decode cX8_copy 118 = .ok (.invokestatic 272, 3) := by decide +kernel
theorem dX8_copy_121 : decode cX8_copy 121 = .ok (.iconst 1, 1) := by decide +kernel
theorem dX8_copy_122 : decode cX8_copy 122 = .ok (.ireturn, 1) := by decide +kernel
theorem dX8_write_0 : decode cX8_write 0 = .ok (.iload_n 1, 1) := by decide +kernel
theorem dX8_write_1 : decode cX8_write 1 = .ok (.ifCond .lt 15, 3) := by decide +kernel
theorem dX8_write_4 : decode cX8_write 4 = .ok (.iload_n 1, 1) := by decide +kernel
theorem dX8_write_5 : decode cX8_write 5 = .ok (.iconst 4, 1) := by decide +kernel
theorem dX8_write_6 : decode cX8_write 6 = .ok (.if_icmp .ge 10, 3) := by decide +kernel
theorem dX8_write_9 : decode cX8_write 9 = .ok (.iload_n 2, 1) := by decide +kernel
theorem dX8_write_10 : decode cX8_write 10 = .ok (.invokestatic 201, 3) := by decide +kernel
theorem dX8_write_13 : decode cX8_write 13 = .ok (.ifCond .eq 6, 3) := by decide +kernel
theorem dX8_write_16 : decode cX8_write 16 = .ok (.bipush (-2), 2) := by decide +kernel
theorem dX8_write_18 : decode cX8_write 18 = .ok (.ireturn, 1) := by decide +kernel
theorem dX8_write_19 : decode cX8_write 19 = .ok (.aload_n 0, 1) := by decide +kernel
theorem dX8_write_20 : decode cX8_write 20 = .ok (.getfield 17, 3) := by decide +kernel
theorem dX8_write_23 : decode cX8_write 23 = .ok (.iload_n 2, 1) := by decide +kernel
theorem dX8_write_24 : decode cX8_write 24 = .ok (.aaload, 1) := by decide +kernel
theorem dX8_write_25 : decode cX8_write 25 = .ok (.astore_n 3, 1) := by decide +kernel
theorem dX8_write_26 : decode cX8_write 26 = .ok (.aload_n 3, 1) := by decide +kernel
theorem dX8_write_27 : decode cX8_write 27 = .ok (.getfield 204, 3) := by decide +kernel
theorem dX8_write_30 : decode cX8_write 30 = .ok (.ifCond .eq 9, 3) := by decide +kernel
theorem dX8_write_33 : decode cX8_write 33 = .ok (.aload_n 0, 1) := by decide +kernel
theorem dX8_write_34 : decode cX8_write 34 = .ok (.iconst 1, 1) := by decide +kernel
theorem dX8_write_35 : decode cX8_write 35 = .ok (.invokevirtual 207, 3) := by decide +kernel
theorem dX8_write_38 : decode cX8_write 38 = .ok (.ireturn, 1) := by decide +kernel
theorem dX8_write_39 : decode cX8_write 39 = .ok (.aload_n 0, 1) := by decide +kernel
theorem dX8_write_40 : decode cX8_write 40 = .ok (.invokevirtual 98, 3) := by decide +kernel
theorem dX8_write_43 : decode cX8_write 43 = .ok (.iconst 0, 1) := by decide +kernel
theorem dX8_write_44 : decode cX8_write 44 = .ok (.istore 4, 2) := by decide +kernel
theorem dX8_write_46 : decode cX8_write 46 = .ok (.iload 4, 2) := by decide +kernel
theorem dX8_write_48 : decode cX8_write 48 = .ok (.aload_n 3, 1) := by decide +kernel
theorem dX8_write_49 : decode cX8_write 49 = .ok (.getfield 210, 3) := by decide +kernel
theorem dX8_write_52 : decode cX8_write 52 = .ok (.if_icmp .ge 25, 3) := by decide +kernel
theorem dX8_write_55 : decode cX8_write 55 = .ok (.aload_n 3, 1) := by decide +kernel
theorem dX8_write_56 : decode cX8_write 56 = .ok (.iload 4, 2) := by decide +kernel
theorem dX8_write_58 : decode cX8_write 58 = .ok (.aload_n 0, 1) := by decide +kernel
theorem dX8_write_59 : decode cX8_write 59 = .ok (.getfield 33, 3) := by decide +kernel
theorem dX8_write_62 : decode cX8_write 62 = .ok (.iload 4, 2) := by decide +kernel
theorem dX8_write_64 : decode cX8_write 64 = .ok (.iload_n 1, 1) := by decide +kernel
theorem dX8_write_65 : decode cX8_write 65 = .ok (.invokevirtual 138, 3) := by decide +kernel
theorem dX8_write_68 : decode cX8_write 68 = .ok (.invokevirtual 260, 3) := by decide +kernel
theorem dX8_write_71 : decode cX8_write 71 = .ok (.iinc 4 1, 3) := by decide +kernel
theorem dX8_write_74 : decode cX8_write 74 = .ok (.goto (-28), 3) := by decide +kernel
theorem dX8_write_77 : decode cX8_write 77 = .ok (.aload_n 3, 1) := by decide +kernel
theorem dX8_write_78 : decode cX8_write 78 = .ok (.getfield 210, 3) := by decide +kernel
theorem dX8_write_81 : decode cX8_write 81 = .ok (.ireturn, 1) := by decide +kernel
theorem dX8_count_0 : decode cX8_count 0 = .ok (.iload_n 1, 1) := by decide +kernel
theorem dX8_count_1 : decode cX8_count 1 = .ok (.ifCond .lt 9, 3) := by decide +kernel
theorem dX8_count_4 : decode cX8_count 4 = .ok (.iload_n 1, 1) := by decide +kernel
theorem dX8_count_5 : decode cX8_count 5 = .ok (.bipush 9, 2) := by decide +kernel
theorem dX8_count_7 : decode cX8_count 7 = .ok (.if_icmp .lt 6, 3) := by decide +kernel
theorem dX8_count_10 : decode cX8_count 10 = .ok (.bipush (-2), 2) := by decide +kernel
theorem dX8_count_12 : decode cX8_count 12 = .ok (.ireturn, 1) := by decide +kernel
theorem dX8_count_13 : decode cX8_count 13 = .ok (.aload_n 0, 1) := by decide +kernel
theorem dX8_count_14 : decode cX8_count 14 = .ok (.invokevirtual 98, 3) := by decide +kernel
theorem dX8_count_17 : decode cX8_count 17 = .ok (.iload_n 1, 1) := by decide +kernel
theorem dX8_count_18 : decode cX8_count 18 = .ok (.tableswitch 95 0 8 #[50, 58, 66, 95, 95, 95, 74, 82, 90], 50) := by decide +kernel
theorem dX8_count_68 : decode cX8_count 68 = .ok (.aload_n 0, 1) := by decide +kernel
theorem dX8_count_69 : decode cX8_count 69 = .ok (.getfield 24, 3) := by decide +kernel
theorem dX8_count_72 : decode cX8_count 72 = .ok (.getfield 278, 3) := by decide +kernel
theorem dX8_count_75 : decode cX8_count 75 = .ok (.ireturn, 1) := by decide +kernel
theorem dX8_count_76 : decode cX8_count 76 = .ok (.aload_n 0, 1) := by decide +kernel
theorem dX8_count_77 : decode cX8_count 77 = .ok (.getfield 24, 3) := by decide +kernel
theorem dX8_count_80 : decode cX8_count 80 = .ok (.getfield 281, 3) := by decide +kernel
theorem dX8_count_83 : decode cX8_count 83 = .ok (.ireturn, 1) := by decide +kernel
theorem dX8_count_84 : decode cX8_count 84 = .ok (.aload_n 0, 1) := by decide +kernel
theorem dX8_count_85 : decode cX8_count 85 = .ok (.getfield 24, 3) := by decide +kernel
theorem dX8_count_88 : decode cX8_count 88 = .ok (.getfield 123, 3) := by decide +kernel
theorem dX8_count_91 : decode cX8_count 91 = .ok (.ireturn, 1) := by decide +kernel
theorem dX8_count_92 : decode cX8_count 92 = .ok (.aload_n 0, 1) := by decide +kernel
theorem dX8_count_93 : decode cX8_count 93 = .ok (.getfield 33, 3) := by decide +kernel
theorem dX8_count_96 : decode cX8_count 96 = .ok (.invokevirtual 248, 3) := by decide +kernel
theorem dX8_count_99 : decode cX8_count 99 = .ok (.ireturn, 1) := by decide +kernel
theorem dX8_count_100 : decode cX8_count 100 = .ok (.aload_n 0, 1) := by decide +kernel
theorem dX8_count_101 : decode cX8_count 101 = .ok (.getfield 59, 3) := by decide +kernel
theorem dX8_count_104 : decode cX8_count 104 = .ok (.getfield 198, 3) := by decide +kernel
theorem dX8_count_107 : decode cX8_count 107 = .ok (.ireturn, 1) := by decide +kernel
theorem dX8_count_108 : decode cX8_count 108 = .ok (.aload_n 0, 1) := by decide +kernel
theorem dX8_count_109 : decode cX8_count 109 = .ok (.getfield 72, 3) := by decide +kernel
theorem dX8_count_112 : decode cX8_count 112 = .ok (.ireturn, 1) := by decide +kernel
theorem dX8_count_113 : decode cX8_count 113 = .ok (.aload_n 0, 1) := by decide +kernel
theorem dX8_count_114 : decode cX8_count 114 = .ok (.getfield 11, 3) := by decide +kernel
theorem dX8_count_117 : decode cX8_count 117 = .ok (.iload_n 1, 1) := by decide +kernel
theorem dX8_count_118 : decode cX8_count 118 = .ok (.iconst 3, 1) := by decide +kernel
theorem dX8_count_119 : decode cX8_count 119 = .ok (.isub, 1) := by decide +kernel
theorem dX8_count_120 : decode cX8_count 120 = .ok (.aaload, 1) := by decide +kernel
theorem dX8_count_121 : decode cX8_count 121 = .ok (.getfield 91, 3) := by decide +kernel
theorem dX8_count_124 : decode cX8_count 124 = .ok (.ireturn, 1) := by decide +kernel
theorem dX8_digest_0 : decode cX8_digest 0 = .ok (.ldc2_w 284, 3) := by decide +kernel
theorem dX8_digest_3 : decode cX8_digest 3 = .ok (.lstore_n 1, 1) := by decide +kernel
theorem dX8_digest_4 : decode cX8_digest 4 = .ok (.iconst 0, 1) := by decide +kernel
theorem dX8_digest_5 : decode cX8_digest 5 = .ok (.istore_n 3, 1) := by decide +kernel
theorem dX8_digest_6 : decode cX8_digest 6 = .ok (.iload_n 3, 1) := by decide +kernel
theorem dX8_digest_7 : decode cX8_digest 7 = .ok (.bipush 8, 2) := by decide +kernel
theorem dX8_digest_9 : decode cX8_digest 9 = .ok (.if_icmp .ge 20, 3) := by decide +kernel
theorem dX8_digest_12 : decode cX8_digest 12 = .ok (.lload_n 1, 1) := by decide +kernel
theorem dX8_digest_13 : decode cX8_digest 13 = .ok (.aload_n 0, 1) := by decide +kernel
theorem dX8_digest_14 : decode cX8_digest 14 = .ok (.iload_n 3, 1) := by decide +kernel
theorem dX8_digest_15 : decode cX8_digest 15 = .ok (.invokevirtual 286, 3) := by decide +kernel
theorem dX8_digest_18 : decode cX8_digest 18 = .ok (.i2l, 1) := by decide +kernel
theorem dX8_digest_19 : decode cX8_digest 19 = .ok (.invokestatic 289, 3) := by decide +kernel
theorem dX8_digest_22 : decode cX8_digest 22 = .ok (.lstore_n 1, 1) := by decide +kernel
theorem dX8_digest_23 : decode cX8_digest 23 = .ok (.iinc 3 1, 3) := by decide +kernel
theorem dX8_digest_26 : decode cX8_digest 26 = .ok (.goto (-20), 3) := by decide +kernel
theorem dX8_digest_29 : decode cX8_digest 29 = .ok (.iconst 0, 1) := by decide +kernel
theorem dX8_digest_30 : decode cX8_digest 30 = .ok (.istore_n 3, 1) := by decide +kernel
theorem dX8_digest_31 : decode cX8_digest 31 = .ok (.iload_n 3, 1) := by decide +kernel
theorem dX8_digest_32 : decode cX8_digest 32 = .ok (.iconst 3, 1) := by decide +kernel
theorem dX8_digest_33 : decode cX8_digest 33 = .ok (.if_icmp .ge 20, 3) := by decide +kernel
theorem dX8_digest_36 : decode cX8_digest 36 = .ok (.lload_n 1, 1) := by decide +kernel
theorem dX8_digest_37 : decode cX8_digest 37 = .ok (.aload_n 0, 1) := by decide +kernel
theorem dX8_digest_38 : decode cX8_digest 38 = .ok (.iload_n 3, 1) := by decide +kernel
theorem dX8_digest_39 : decode cX8_digest 39 = .ok (.invokevirtual 293, 3) := by decide +kernel
theorem dX8_digest_42 : decode cX8_digest 42 = .ok (.i2l, 1) := by decide +kernel
theorem dX8_digest_43 : decode cX8_digest 43 = .ok (.invokestatic 289, 3) := by decide +kernel
theorem dX8_digest_46 : decode cX8_digest 46 = .ok (.lstore_n 1, 1) := by decide +kernel
theorem dX8_digest_47 : decode cX8_digest 47 = .ok (.iinc 3 1, 3) := by decide +kernel
theorem dX8_digest_50 : decode cX8_digest 50 = .ok (.goto (-19), 3) := by decide +kernel
theorem dX8_digest_53 : decode cX8_digest 53 = .ok (.aload_n 0, 1) := by decide +kernel
theorem dX8_digest_54 : decode cX8_digest 54 = .ok (.aload_n 0, 1) := by decide +kernel
theorem dX8_digest_55 : decode cX8_digest 55 = .ok (.aload_n 0, 1) := by decide +kernel
theorem dX8_digest_56 : decode cX8_digest 56 = .ok (.lload_n 1, 1) := by decide +kernel
theorem dX8_digest_57 : decode cX8_digest 57 = .ok (.invokevirtual 296, 3) := by decide +kernel
theorem dX8_digest_60 : decode cX8_digest 60 = .ok (.invokevirtual 300, 3) := by decide +kernel
theorem dX8_digest_63 : decode cX8_digest 63 = .ok (.invokevirtual 303, 3) := by decide +kernel
theorem dX8_digest_66 : decode cX8_digest 66 = .ok (.lstore_n 1, 1) := by decide +kernel
theorem dX8_digest_67 : decode cX8_digest 67 = .ok (.aload_n 0, 1) := by decide +kernel
theorem dX8_digest_68 : decode cX8_digest 68 = .ok (.lload_n 1, 1) := by decide +kernel
theorem dX8_digest_69 : decode cX8_digest 69 = .ok (.invokevirtual 306, 3) := by decide +kernel
theorem dX8_digest_72 : decode cX8_digest 72 = .ok (.lstore_n 1, 1) := by decide +kernel
theorem dX8_digest_73 : decode cX8_digest 73 = .ok (.lload_n 1, 1) := by decide +kernel
theorem dX8_digest_74 : decode cX8_digest 74 = .ok (.aload_n 0, 1) := by decide +kernel
theorem dX8_digest_75 : decode cX8_digest 75 = .ok (.invokevirtual 309, 3) := by decide +kernel
theorem dX8_digest_78 : decode cX8_digest 78 = .ok (.i2l, 1) := by decide +kernel
theorem dX8_digest_79 : decode cX8_digest 79 = .ok (.invokestatic 289, 3) := by decide +kernel
theorem dX8_digest_82 : decode cX8_digest 82 = .ok (.lstore_n 1, 1) := by decide +kernel
theorem dX8_digest_83 : decode cX8_digest 83 = .ok (.lload_n 1, 1) := by decide +kernel
theorem dX8_digest_84 : decode cX8_digest 84 = .ok (.aload_n 0, 1) := by decide +kernel
theorem dX8_digest_85 : decode cX8_digest 85 = .ok (.iconst 0, 1) := by decide +kernel
theorem dX8_digest_86 : decode cX8_digest 86 = .ok (.invokevirtual 312, 3) := by decide +kernel
theorem dX8_digest_89 : decode cX8_digest 89 = .ok (.i2l, 1) := by decide +kernel
theorem dX8_digest_90 : decode cX8_digest 90 = .ok (.invokestatic 289, 3) := by decide +kernel
theorem dX8_digest_93 : decode cX8_digest 93 = .ok (.aload_n 0, 1) := by decide +kernel
theorem dX8_digest_94 : decode cX8_digest 94 = .ok (.iconst 1, 1) := by decide +kernel
theorem dX8_digest_95 : decode cX8_digest 95 = .ok (.invokevirtual 312, 3) := by decide +kernel
theorem dX8_digest_98 : decode cX8_digest 98 = .ok (.i2l, 1) := by decide +kernel
theorem dX8_digest_99 : decode cX8_digest 99 = .ok (.invokestatic 289, 3) := by decide +kernel
theorem dX8_digest_102 : decode cX8_digest 102 = .ok (.lstore_n 1, 1) := by decide +kernel
theorem dX8_digest_103 : decode cX8_digest 103 = .ok (.lload_n 1, 1) := by decide +kernel
theorem dX8_digest_104 : decode cX8_digest 104 = .ok (.aload_n 0, 1) := by decide +kernel
theorem dX8_digest_105 : decode cX8_digest 105 = .ok (.iconst (-1), 1) := by decide +kernel
theorem dX8_digest_106 : decode cX8_digest 106 = .ok (.invokevirtual 315, 3) := by decide +kernel
theorem dX8_digest_109 : decode cX8_digest 109 = .ok (.i2l, 1) := by decide +kernel
theorem dX8_digest_110 : decode cX8_digest 110 = .ok (.invokestatic 289, 3) := by decide +kernel
theorem dX8_digest_113 : decode cX8_digest 113 = .ok (.aload_n 0, 1) := by decide +kernel
theorem dX8_digest_114 : decode cX8_digest 114 = .ok (.iconst 0, 1) := by decide +kernel
theorem dX8_digest_115 : decode cX8_digest 115 = .ok (.invokevirtual 315, 3) := by decide +kernel
theorem dX8_digest_118 : decode cX8_digest 118 = .ok (.i2l, 1) := by decide +kernel
theorem dX8_digest_119 : decode cX8_digest 119 = .ok (.invokestatic 289, 3) := by decide +kernel
theorem dX8_digest_122 : decode cX8_digest 122 = .ok (.lstore_n 1, 1) := by decide +kernel
theorem dX8_digest_123 : decode cX8_digest 123 = .ok (.lload_n 1, 1) := by decide +kernel
theorem dX8_digest_124 : decode cX8_digest 124 = .ok (.aload_n 0, 1) := by decide +kernel
theorem dX8_digest_125 : decode cX8_digest 125 = .ok (.invokevirtual 318, 3) := by decide +kernel
theorem dX8_digest_128 : decode cX8_digest 128 = .ok (.i2l, 1) := by decide +kernel
theorem dX8_digest_129 : decode cX8_digest 129 = .ok (.invokestatic 289, 3) := by decide +kernel
theorem dX8_digest_132 : decode cX8_digest 132 = .ok (.aload_n 0, 1) := by decide +kernel
theorem dX8_digest_133 : decode cX8_digest 133 = .ok (.invokevirtual 321, 3) := by decide +kernel
theorem dX8_digest_136 : decode cX8_digest 136 = .ok (.i2l, 1) := by decide +kernel
theorem dX8_digest_137 : decode cX8_digest 137 = .ok (.invokestatic 289, 3) := by decide +kernel
theorem dX8_digest_140 : decode cX8_digest 140 = .ok (.lstore_n 1, 1) := by decide +kernel
theorem dX8_digest_141 : decode cX8_digest 141 = .ok (.lload_n 1, 1) := by decide +kernel
theorem dX8_digest_142 : decode cX8_digest 142 = .ok (.aload_n 0, 1) := by decide +kernel
theorem dX8_digest_143 : decode cX8_digest 143 = .ok (.iconst 0, 1) := by decide +kernel
theorem dX8_digest_144 : decode cX8_digest 144 = .ok (.iconst 0, 1) := by decide +kernel
theorem dX8_digest_145 : decode cX8_digest 145 = .ok (.iconst (-1), 1) := by decide +kernel
theorem dX8_digest_146 : decode cX8_digest 146 = .ok (.invokevirtual 324, 3) := by decide +kernel
theorem dX8_digest_149 : decode cX8_digest 149 = .ok (.i2l, 1) := by decide +kernel
theorem dX8_digest_150 : decode cX8_digest 150 = .ok (.invokestatic 289, 3) := by decide +kernel
theorem dX8_digest_153 : decode cX8_digest 153 = .ok (.aload_n 0, 1) := by decide +kernel
theorem dX8_digest_154 : decode cX8_digest 154 = .ok (.iconst 0, 1) := by decide +kernel
theorem dX8_digest_155 : decode cX8_digest 155 = .ok (.iconst 0, 1) := by decide +kernel
theorem dX8_digest_156 : decode cX8_digest 156 = .ok (.iconst 0, 1) := by decide +kernel
theorem dX8_digest_157 : decode cX8_digest 157 = .ok (.invokevirtual 324, 3) := by decide +kernel
theorem dX8_digest_160 : decode cX8_digest 160 = .ok (.i2l, 1) := by decide +kernel
theorem dX8_digest_161 : decode cX8_digest 161 = .ok (.invokestatic 289, 3) := by decide +kernel
theorem dX8_digest_164 : decode cX8_digest 164 = .ok (.lstore_n 1, 1) := by decide +kernel
theorem dX8_digest_165 : decode cX8_digest 165 = .ok (.lload_n 1, 1) := by decide +kernel
theorem dX8_digest_166 : decode cX8_digest 166 = .ok (.aload_n 0, 1) := by decide +kernel
theorem dX8_digest_167 : decode cX8_digest 167 = .ok (.iconst 5, 1) := by decide +kernel
theorem dX8_digest_168 : decode cX8_digest 168 = .ok (.iconst 0, 1) := by decide +kernel
theorem dX8_digest_169 : decode cX8_digest 169 = .ok (.bipush 20, 2) := by decide +kernel
theorem dX8_digest_171 : decode cX8_digest 171 = .ok (.iconst 0, 1) := by decide +kernel
theorem dX8_digest_172 : decode cX8_digest 172 = .ok (.invokevirtual 328, 3) := by decide +kernel
theorem dX8_digest_175 : decode cX8_digest 175 = .ok (.invokestatic 289, 3) := by decide +kernel
theorem dX8_digest_178 : decode cX8_digest 178 = .ok (.aload_n 0, 1) := by decide +kernel
theorem dX8_digest_179 : decode cX8_digest 179 = .ok (.iconst 5, 1) := by decide +kernel
theorem dX8_digest_180 : decode cX8_digest 180 = .ok (.iconst 0, 1) := by decide +kernel
theorem dX8_digest_181 : decode cX8_digest 181 = .ok (.bipush 20, 2) := by decide +kernel
theorem dX8_digest_183 : decode cX8_digest 183 = .ok (.iconst 1, 1) := by decide +kernel
theorem dX8_digest_184 : decode cX8_digest 184 = .ok (.invokevirtual 328, 3) := by decide +kernel
theorem dX8_digest_187 : decode cX8_digest 187 = .ok (.invokestatic 289, 3) := by decide +kernel
theorem dX8_digest_190 : decode cX8_digest 190 = .ok (.lstore_n 1, 1) := by decide +kernel
theorem dX8_digest_191 : decode cX8_digest 191 = .ok (.lload_n 1, 1) := by decide +kernel
theorem dX8_digest_192 : decode cX8_digest 192 = .ok (.aload_n 0, 1) := by decide +kernel
theorem dX8_digest_193 : decode cX8_digest 193 = .ok (.bipush 7, 2) := by decide +kernel
theorem dX8_digest_195 : decode cX8_digest 195 = .ok (.bipush 12, 2) := by decide +kernel
theorem dX8_digest_197 : decode cX8_digest 197 = .ok (.iconst 0, 1) := by decide +kernel
theorem dX8_digest_198 : decode cX8_digest 198 = .ok (.invokevirtual 332, 3) := by decide +kernel
theorem dX8_digest_201 : decode cX8_digest 201 = .ok (.i2l, 1) := by decide +kernel
theorem dX8_digest_202 : decode cX8_digest 202 = .ok (.invokestatic 289, 3) := by decide +kernel
theorem dX8_digest_205 : decode cX8_digest 205 = .ok (.aload_n 0, 1) := by decide +kernel
theorem dX8_digest_206 : decode cX8_digest 206 = .ok (.bipush 7, 2) := by decide +kernel
theorem dX8_digest_208 : decode cX8_digest 208 = .ok (.bipush 12, 2) := by decide +kernel
theorem dX8_digest_210 : decode cX8_digest 210 = .ok (.iconst 1, 1) := by decide +kernel
theorem dX8_digest_211 : decode cX8_digest 211 = .ok (.invokevirtual 332, 3) := by decide +kernel
theorem dX8_digest_214 : decode cX8_digest 214 = .ok (.i2l, 1) := by decide +kernel
theorem dX8_digest_215 : decode cX8_digest 215 = .ok (.invokestatic 289, 3) := by decide +kernel
theorem dX8_digest_218 : decode cX8_digest 218 = .ok (.lreturn, 1) := by decide +kernel
theorem dX8_mix_0 : decode cX8_mix 0 = .ok (.ldc2_w 335, 3) := by decide +kernel
theorem dX8_mix_3 : decode cX8_mix 3 = .ok (.lload_n 0, 1) := by decide +kernel
theorem dX8_mix_4 : decode cX8_mix 4 = .ok (.lmul, 1) := by decide +kernel
theorem dX8_mix_5 : decode cX8_mix 5 = .ok (.lload_n 2, 1) := by decide +kernel
theorem dX8_mix_6 : decode cX8_mix 6 = .ok (.ladd, 1) := by decide +kernel
theorem dX8_mix_7 : decode cX8_mix 7 = .ok (.lreturn, 1) := by decide +kernel
theorem dX8_mixRiders_0 : decode cX8_mixRiders 0 = .ok (.iconst 0, 1) := by decide +kernel
theorem dX8_mixRiders_1 : decode cX8_mixRiders 1 = .ok (.istore_n 3, 1) := by decide +kernel
theorem dX8_mixRiders_2 : decode cX8_mixRiders 2 = .ok (.iload_n 3, 1) := by decide +kernel
theorem dX8_mixRiders_3 : decode cX8_mixRiders 3 = .ok (.aload_n 0, 1) := by decide +kernel
theorem dX8_mixRiders_4 : decode cX8_mixRiders 4 = .ok (.getfield 24, 3) := by decide +kernel
theorem dX8_mixRiders_7 : decode cX8_mixRiders 7 = .ok (.getfield 278, 3) := by decide +kernel
theorem dX8_mixRiders_10 : decode cX8_mixRiders 10 = .ok (.if_icmp .ge 87, 3) := by decide +kernel
theorem dX8_mixRiders_13 : decode cX8_mixRiders 13 = .ok (.iconst 0, 1) := by decide +kernel
theorem dX8_mixRiders_14 : decode cX8_mixRiders 14 = .ok (.istore 4, 2) := by decide +kernel
theorem dX8_mixRiders_16 : decode cX8_mixRiders 16 = .ok (.iload 4, 2) := by decide +kernel
theorem dX8_mixRiders_18 : decode cX8_mixRiders 18 = .ok (.iconst 3, 1) := by decide +kernel
theorem dX8_mixRiders_19 : decode cX8_mixRiders 19 = .ok (.if_icmp .ge 22, 3) := by decide +kernel
theorem dX8_mixRiders_22 : decode cX8_mixRiders 22 = .ok (.lload_n 1, 1) := by decide +kernel
theorem dX8_mixRiders_23 : decode cX8_mixRiders 23 = .ok (.aload_n 0, 1) := by decide +kernel
theorem dX8_mixRiders_24 : decode cX8_mixRiders 24 = .ok (.iload_n 3, 1) := by decide +kernel
theorem dX8_mixRiders_25 : decode cX8_mixRiders 25 = .ok (.iload 4, 2) := by decide +kernel
theorem dX8_mixRiders_27 : decode cX8_mixRiders 27 = .ok (.invokevirtual 337, 3) := by decide +kernel
theorem dX8_mixRiders_30 : decode cX8_mixRiders 30 = .ok (.i2l, 1) := by decide +kernel
theorem dX8_mixRiders_31 : decode cX8_mixRiders 31 = .ok (.invokestatic 289, 3) := by decide +kernel
theorem dX8_mixRiders_34 : decode cX8_mixRiders 34 = .ok (.lstore_n 1, 1) := by decide +kernel
theorem dX8_mixRiders_35 : decode cX8_mixRiders 35 = .ok (.iinc 4 1, 3) := by decide +kernel
theorem dX8_mixRiders_38 : decode cX8_mixRiders 38 = .ok (.goto (-22), 3) := by decide +kernel
theorem dX8_mixRiders_41 : decode cX8_mixRiders 41 = .ok (.iconst 0, 1) := by decide +kernel
theorem dX8_mixRiders_42 : decode cX8_mixRiders 42 = .ok (.istore 4, 2) := by decide +kernel
theorem dX8_mixRiders_44 : decode cX8_mixRiders 44 = .ok (.iload 4, 2) := by decide +kernel
theorem dX8_mixRiders_46 : decode cX8_mixRiders 46 = .ok (.iconst 3, 1) := by decide +kernel
theorem dX8_mixRiders_47 : decode cX8_mixRiders 47 = .ok (.if_icmp .ge 22, 3) := by decide +kernel
theorem dX8_mixRiders_50 : decode cX8_mixRiders 50 = .ok (.lload_n 1, 1) := by decide +kernel
theorem dX8_mixRiders_51 : decode cX8_mixRiders 51 = .ok (.aload_n 0, 1) := by decide +kernel
theorem dX8_mixRiders_52 : decode cX8_mixRiders 52 = .ok (.iload_n 3, 1) := by decide +kernel
theorem dX8_mixRiders_53 : decode cX8_mixRiders 53 = .ok (.iload 4, 2) := by decide +kernel
theorem dX8_mixRiders_55 : decode cX8_mixRiders 55 = .ok (.invokevirtual 340, 3) := by decide +kernel
theorem dX8_mixRiders_58 : decode cX8_mixRiders 58 = .ok (.i2l, 1) := by decide +kernel
theorem dX8_mixRiders_59 : decode cX8_mixRiders 59 = .ok (.invokestatic 289, 3) := by decide +kernel
theorem dX8_mixRiders_62 : decode cX8_mixRiders 62 = .ok (.lstore_n 1, 1) := by decide +kernel
theorem dX8_mixRiders_63 : decode cX8_mixRiders 63 = .ok (.iinc 4 1, 3) := by decide +kernel
theorem dX8_mixRiders_66 : decode cX8_mixRiders 66 = .ok (.goto (-22), 3) := by decide +kernel
theorem dX8_mixRiders_69 : decode cX8_mixRiders 69 = .ok (.lload_n 1, 1) := by decide +kernel
theorem dX8_mixRiders_70 : decode cX8_mixRiders 70 = .ok (.aload_n 0, 1) := by decide +kernel
theorem dX8_mixRiders_71 : decode cX8_mixRiders 71 = .ok (.iload_n 3, 1) := by decide +kernel
theorem dX8_mixRiders_72 : decode cX8_mixRiders 72 = .ok (.iconst 0, 1) := by decide +kernel
theorem dX8_mixRiders_73 : decode cX8_mixRiders 73 = .ok (.invokevirtual 343, 3) := by decide +kernel
theorem dX8_mixRiders_76 : decode cX8_mixRiders 76 = .ok (.i2l, 1) := by decide +kernel
theorem dX8_mixRiders_77 : decode cX8_mixRiders 77 = .ok (.invokestatic 289, 3) := by decide +kernel
theorem dX8_mixRiders_80 : decode cX8_mixRiders 80 = .ok (.aload_n 0, 1) := by decide +kernel
theorem dX8_mixRiders_81 : decode cX8_mixRiders 81 = .ok (.iload_n 3, 1) := by decide +kernel
theorem dX8_mixRiders_82 : decode cX8_mixRiders 82 = .ok (.iconst 1, 1) := by decide +kernel
theorem dX8_mixRiders_83 : decode cX8_mixRiders 83 = .ok (.invokevirtual 343, 3) := by decide +kernel
theorem dX8_mixRiders_86 : decode cX8_mixRiders 86 = .ok (.i2l, 1) := by decide +kernel
theorem dX8_mixRiders_87 : decode cX8_mixRiders 87 = .ok (.invokestatic 289, 3) := by decide +kernel
theorem dX8_mixRiders_90 : decode cX8_mixRiders 90 = .ok (.lstore_n 1, 1) := by decide +kernel
theorem dX8_mixRiders_91 : decode cX8_mixRiders 91 = .ok (.iinc 3 1, 3) := by decide +kernel
theorem dX8_mixRiders_94 : decode cX8_mixRiders 94 = .ok (.goto (-92), 3) := by decide +kernel
theorem dX8_mixRiders_97 : decode cX8_mixRiders 97 = .ok (.lload_n 1, 1) := by decide +kernel
theorem dX8_mixRiders_98 : decode cX8_mixRiders 98 = .ok (.lreturn, 1) := by decide +kernel
theorem dX8_mixLeavers_0 : decode cX8_mixLeavers 0 = .ok (.iconst 0, 1) := by decide +kernel
theorem dX8_mixLeavers_1 : decode cX8_mixLeavers 1 = .ok (.istore_n 3, 1) := by decide +kernel
theorem dX8_mixLeavers_2 : decode cX8_mixLeavers 2 = .ok (.iload_n 3, 1) := by decide +kernel
theorem dX8_mixLeavers_3 : decode cX8_mixLeavers 3 = .ok (.aload_n 0, 1) := by decide +kernel
theorem dX8_mixLeavers_4 : decode cX8_mixLeavers 4 = .ok (.getfield 24, 3) := by decide +kernel
theorem dX8_mixLeavers_7 : decode cX8_mixLeavers 7 = .ok (.getfield 281, 3) := by decide +kernel
theorem dX8_mixLeavers_10 : decode cX8_mixLeavers 10 = .ok (.if_icmp .ge 42, 3) := by decide +kernel
theorem dX8_mixLeavers_13 : decode cX8_mixLeavers 13 = .ok (.lload_n 1, 1) := by decide +kernel
theorem dX8_mixLeavers_14 : decode cX8_mixLeavers 14 = .ok (.aload_n 0, 1) := by decide +kernel
theorem dX8_mixLeavers_15 : decode cX8_mixLeavers 15 = .ok (.iload_n 3, 1) := by decide +kernel
theorem dX8_mixLeavers_16 : decode cX8_mixLeavers 16 = .ok (.iconst 0, 1) := by decide +kernel
theorem dX8_mixLeavers_17 : decode cX8_mixLeavers 17 = .ok (.invokevirtual 346, 3) := by decide +kernel
theorem dX8_mixLeavers_20 : decode cX8_mixLeavers 20 = .ok (.i2l, 1) := by decide +kernel
theorem dX8_mixLeavers_21 : decode cX8_mixLeavers 21 = .ok (.invokestatic 289, 3) := by decide +kernel
theorem dX8_mixLeavers_24 : decode cX8_mixLeavers 24 = .ok (.aload_n 0, 1) := by decide +kernel
theorem dX8_mixLeavers_25 : decode cX8_mixLeavers 25 = .ok (.iload_n 3, 1) := by decide +kernel
theorem dX8_mixLeavers_26 : decode cX8_mixLeavers 26 = .ok (.iconst 1, 1) := by decide +kernel
theorem dX8_mixLeavers_27 : decode cX8_mixLeavers 27 = .ok (.invokevirtual 346, 3) := by decide +kernel
theorem dX8_mixLeavers_30 : decode cX8_mixLeavers 30 = .ok (.i2l, 1) := by decide +kernel
theorem dX8_mixLeavers_31 : decode cX8_mixLeavers 31 = .ok (.invokestatic 289, 3) := by decide +kernel
theorem dX8_mixLeavers_34 : decode cX8_mixLeavers 34 = .ok (.lstore_n 1, 1) := by decide +kernel
theorem dX8_mixLeavers_35 : decode cX8_mixLeavers 35 = .ok (.lload_n 1, 1) := by decide +kernel
theorem dX8_mixLeavers_36 : decode cX8_mixLeavers 36 = .ok (.aload_n 0, 1) := by decide +kernel
theorem dX8_mixLeavers_37 : decode cX8_mixLeavers 37 = .ok (.iload_n 3, 1) := by decide +kernel
theorem dX8_mixLeavers_38 : decode cX8_mixLeavers 38 = .ok (.invokevirtual 349, 3) := by decide +kernel
theorem dX8_mixLeavers_41 : decode cX8_mixLeavers 41 = .ok (.i2l, 1) := by decide +kernel
theorem dX8_mixLeavers_42 : decode cX8_mixLeavers 42 = .ok (.invokestatic 289, 3) := by decide +kernel
theorem dX8_mixLeavers_45 : decode cX8_mixLeavers 45 = .ok (.lstore_n 1, 1) := by decide +kernel
theorem dX8_mixLeavers_46 : decode cX8_mixLeavers 46 = .ok (.iinc 3 1, 3) := by decide +kernel
theorem dX8_mixLeavers_49 : decode cX8_mixLeavers 49 = .ok (.goto (-47), 3) := by decide +kernel
theorem dX8_mixLeavers_52 : decode cX8_mixLeavers 52 = .ok (.lload_n 1, 1) := by decide +kernel
theorem dX8_mixLeavers_53 : decode cX8_mixLeavers 53 = .ok (.lreturn, 1) := by decide +kernel
theorem dX8_mixStops_0 : decode cX8_mixStops 0 = .ok (.iconst 0, 1) := by decide +kernel
theorem dX8_mixStops_1 : decode cX8_mixStops 1 = .ok (.istore_n 3, 1) := by decide +kernel
theorem dX8_mixStops_2 : decode cX8_mixStops 2 = .ok (.iload_n 3, 1) := by decide +kernel
theorem dX8_mixStops_3 : decode cX8_mixStops 3 = .ok (.aload_n 0, 1) := by decide +kernel
theorem dX8_mixStops_4 : decode cX8_mixStops 4 = .ok (.getfield 24, 3) := by decide +kernel
theorem dX8_mixStops_7 : decode cX8_mixStops 7 = .ok (.getfield 123, 3) := by decide +kernel
theorem dX8_mixStops_10 : decode cX8_mixStops 10 = .ok (.if_icmp .ge 20, 3) := by decide +kernel
theorem dX8_mixStops_13 : decode cX8_mixStops 13 = .ok (.lload_n 1, 1) := by decide +kernel
theorem dX8_mixStops_14 : decode cX8_mixStops 14 = .ok (.aload_n 0, 1) := by decide +kernel
theorem dX8_mixStops_15 : decode cX8_mixStops 15 = .ok (.iload_n 3, 1) := by decide +kernel
theorem dX8_mixStops_16 : decode cX8_mixStops 16 = .ok (.invokevirtual 352, 3) := by decide +kernel
theorem dX8_mixStops_19 : decode cX8_mixStops 19 = .ok (.i2l, 1) := by decide +kernel
theorem dX8_mixStops_20 : decode cX8_mixStops 20 = .ok (.invokestatic 289, 3) := by decide +kernel
theorem dX8_mixStops_23 : decode cX8_mixStops 23 = .ok (.lstore_n 1, 1) := by decide +kernel
theorem dX8_mixStops_24 : decode cX8_mixStops 24 = .ok (.iinc 3 1, 3) := by decide +kernel
theorem dX8_mixStops_27 : decode cX8_mixStops 27 = .ok (.goto (-25), 3) := by decide +kernel
theorem dX8_mixStops_30 : decode cX8_mixStops 30 = .ok (.lload_n 1, 1) := by decide +kernel
theorem dX8_mixStops_31 : decode cX8_mixStops 31 = .ok (.lreturn, 1) := by decide +kernel
theorem dX8_mixSteps_0 : decode cX8_mixSteps 0 = .ok (.getstatic 355, 3) := by decide +kernel
theorem dX8_mixSteps_3 : decode cX8_mixSteps 3 = .ok (.astore_n 3, 1) := by decide +kernel
theorem dX8_mixSteps_4 : decode cX8_mixSteps 4 = .ok (.aload_n 3, 1) := by decide +kernel
theorem dX8_mixSteps_5 : decode cX8_mixSteps 5 = .ok (.arraylength, 1) := by decide +kernel
theorem dX8_mixSteps_6 : decode cX8_mixSteps 6 = .ok (.istore 4, 2) := by decide +kernel
theorem dX8_mixSteps_8 : decode cX8_mixSteps 8 = .ok (.iconst 0, 1) := by decide +kernel
theorem dX8_mixSteps_9 : decode cX8_mixSteps 9 = .ok (.istore 5, 2) := by decide +kernel
theorem dX8_mixSteps_11 : decode cX8_mixSteps 11 = .ok (.iload 5, 2) := by decide +kernel
theorem dX8_mixSteps_13 : decode cX8_mixSteps 13 = .ok (.iload 4, 2) := by decide +kernel
theorem dX8_mixSteps_15 : decode cX8_mixSteps 15 = .ok (.if_icmp .ge 56, 3) := by decide +kernel
theorem dX8_mixSteps_18 : decode cX8_mixSteps 18 = .ok (.aload_n 3, 1) := by decide +kernel
theorem dX8_mixSteps_19 : decode cX8_mixSteps 19 = .ok (.iload 5, 2) := by decide +kernel
theorem dX8_mixSteps_21 : decode cX8_mixSteps 21 = .ok (.iaload, 1) := by decide +kernel
theorem dX8_mixSteps_22 : decode cX8_mixSteps 22 = .ok (.istore 6, 2) := by decide +kernel
theorem dX8_mixSteps_24 : decode cX8_mixSteps 24 = .ok (.iconst 0, 1) := by decide +kernel
theorem dX8_mixSteps_25 : decode cX8_mixSteps 25 = .ok (.istore 7, 2) := by decide +kernel
theorem dX8_mixSteps_27 : decode cX8_mixSteps 27 = .ok (.iload 7, 2) := by decide +kernel
theorem dX8_mixSteps_29 : decode cX8_mixSteps 29 = .ok (.iconst 4, 1) := by decide +kernel
theorem dX8_mixSteps_30 : decode cX8_mixSteps 30 = .ok (.if_icmp .ge 23, 3) := by decide +kernel
theorem dX8_mixSteps_33 : decode cX8_mixSteps 33 = .ok (.lload_n 1, 1) := by decide +kernel
theorem dX8_mixSteps_34 : decode cX8_mixSteps 34 = .ok (.aload_n 0, 1) := by decide +kernel
theorem dX8_mixSteps_35 : decode cX8_mixSteps 35 = .ok (.iload 6, 2) := by decide +kernel
theorem dX8_mixSteps_37 : decode cX8_mixSteps 37 = .ok (.iload 7, 2) := by decide +kernel
theorem dX8_mixSteps_39 : decode cX8_mixSteps 39 = .ok (.invokevirtual 358, 3) := by decide +kernel
theorem dX8_mixSteps_42 : decode cX8_mixSteps 42 = .ok (.i2l, 1) := by decide +kernel
theorem dX8_mixSteps_43 : decode cX8_mixSteps 43 = .ok (.invokestatic 289, 3) := by decide +kernel
theorem dX8_mixSteps_46 : decode cX8_mixSteps 46 = .ok (.lstore_n 1, 1) := by decide +kernel
theorem dX8_mixSteps_47 : decode cX8_mixSteps 47 = .ok (.iinc 7 1, 3) := by decide +kernel
theorem dX8_mixSteps_50 : decode cX8_mixSteps 50 = .ok (.goto (-23), 3) := by decide +kernel
theorem dX8_mixSteps_53 : decode cX8_mixSteps 53 = .ok (.lload_n 1, 1) := by decide +kernel
theorem dX8_mixSteps_54 : decode cX8_mixSteps 54 = .ok (.aload_n 0, 1) := by decide +kernel
theorem dX8_mixSteps_55 : decode cX8_mixSteps 55 = .ok (.iload 6, 2) := by decide +kernel
theorem dX8_mixSteps_57 : decode cX8_mixSteps 57 = .ok (.invokevirtual 361, 3) := by decide +kernel
theorem dX8_mixSteps_60 : decode cX8_mixSteps 60 = .ok (.i2l, 1) := by decide +kernel
theorem dX8_mixSteps_61 : decode cX8_mixSteps 61 = .ok (.invokestatic 289, 3) := by decide +kernel
theorem dX8_mixSteps_64 : decode cX8_mixSteps 64 = .ok (.lstore_n 1, 1) := by decide +kernel
theorem dX8_mixSteps_65 : decode cX8_mixSteps 65 = .ok (.iinc 5 1, 3) := by decide +kernel
theorem dX8_mixSteps_68 : decode cX8_mixSteps 68 = .ok (.goto (-57), 3) := by decide +kernel
theorem dX8_mixSteps_71 : decode cX8_mixSteps 71 = .ok (.lload_n 1, 1) := by decide +kernel
theorem dX8_mixSteps_72 : decode cX8_mixSteps 72 = .ok (.lreturn, 1) := by decide +kernel
theorem dX8_freshen_0 : decode cX8_freshen 0 = .ok (.aload_n 0, 1) := by decide +kernel
theorem dX8_freshen_1 : decode cX8_freshen 1 = .ok (.getfield 76, 3) := by decide +kernel
theorem dX8_freshen_4 : decode cX8_freshen 4 = .ok (.ifCond .ne 4, 3) := by decide +kernel
theorem dX8_freshen_7 : decode cX8_freshen 7 = .ok (.return_, 1) := by decide +kernel
theorem dX8_freshen_8 : decode cX8_freshen 8 = .ok (.aload_n 0, 1) := by decide +kernel
theorem dX8_freshen_9 : decode cX8_freshen 9 = .ok (.iconst 0, 1) := by decide +kernel
theorem dX8_freshen_10 : decode cX8_freshen 10 = .ok (.putfield 76, 3) := by decide +kernel
theorem dX8_freshen_13 : decode cX8_freshen 13 = .ok (.aload_n 0, 1) := by decide +kernel
theorem dX8_freshen_14 : decode cX8_freshen 14 = .ok (.getfield 24, 3) := by decide +kernel
theorem dX8_freshen_17 : decode cX8_freshen 17 = .ok (.aload_n 0, 1) := by decide +kernel
theorem dX8_freshen_18 : decode cX8_freshen 18 = .ok (.getfield 11, 3) := by decide +kernel
theorem dX8_freshen_21 : decode cX8_freshen 21 = .ok (.iconst 0, 1) := by decide +kernel
theorem dX8_freshen_22 : decode cX8_freshen 22 = .ok (.aaload, 1) := by decide +kernel
theorem dX8_freshen_23 : decode cX8_freshen 23 = .ok (.invokevirtual 363, 3) := by decide +kernel
theorem dX8_freshen_26 : decode cX8_freshen 26 = .ok (.aload_n 0, 1) := by decide +kernel
theorem dX8_freshen_27 : decode cX8_freshen 27 = .ok (.getfield 24, 3) := by decide +kernel
theorem dX8_freshen_30 : decode cX8_freshen 30 = .ok (.aload_n 0, 1) := by decide +kernel
theorem dX8_freshen_31 : decode cX8_freshen 31 = .ok (.getfield 11, 3) := by decide +kernel
theorem dX8_freshen_34 : decode cX8_freshen 34 = .ok (.iconst 1, 1) := by decide +kernel
theorem dX8_freshen_35 : decode cX8_freshen 35 = .ok (.aaload, 1) := by decide +kernel
theorem dX8_freshen_36 : decode cX8_freshen 36 = .ok (.invokevirtual 367, 3) := by decide +kernel
theorem dX8_freshen_39 : decode cX8_freshen 39 = .ok (.aload_n 0, 1) := by decide +kernel
theorem dX8_freshen_40 : decode cX8_freshen 40 = .ok (.getfield 24, 3) := by decide +kernel
theorem dX8_freshen_43 : decode cX8_freshen 43 = .ok (.aload_n 0, 1) := by decide +kernel
theorem dX8_freshen_44 : decode cX8_freshen 44 = .ok (.getfield 11, 3) := by decide +kernel
theorem dX8_freshen_47 : decode cX8_freshen 47 = .ok (.iconst 2, 1) := by decide +kernel
theorem dX8_freshen_48 : decode cX8_freshen 48 = .ok (.aaload, 1) := by decide +kernel
theorem dX8_freshen_49 : decode cX8_freshen 49 = .ok (.invokevirtual 370, 3) := by decide +kernel
theorem dX8_freshen_52 : decode cX8_freshen 52 = .ok (.aload_n 0, 1) := by decide +kernel
theorem dX8_freshen_53 : decode cX8_freshen 53 = .ok (.getfield 33, 3) := by decide +kernel
theorem dX8_freshen_56 : decode cX8_freshen 56 = .ok (.aload_n 0, 1) := by decide +kernel
theorem dX8_freshen_57 : decode cX8_freshen 57 = .ok (.getfield 24, 3) := by decide +kernel
theorem dX8_freshen_60 : decode cX8_freshen 60 = .ok (.invokevirtual 238, 3) := by decide +kernel
theorem dX8_freshen_63 : decode cX8_freshen 63 = .ok (.invokevirtual 241, 3) := by decide +kernel
theorem dX8_freshen_66 : decode cX8_freshen 66 = .ok (.aload_n 0, 1) := by decide +kernel
theorem dX8_freshen_67 : decode cX8_freshen 67 = .ok (.getfield 33, 3) := by decide +kernel
theorem dX8_freshen_70 : decode cX8_freshen 70 = .ok (.iconst (-1), 1) := by decide +kernel
theorem dX8_freshen_71 : decode cX8_freshen 71 = .ok (.iconst (-1), 1) := by decide +kernel
theorem dX8_freshen_72 : decode cX8_freshen 72 = .ok (.invokevirtual 373, 3) := by decide +kernel
theorem dX8_freshen_75 : decode cX8_freshen 75 = .ok (.aload_n 0, 1) := by decide +kernel
theorem dX8_freshen_76 : decode cX8_freshen 76 = .ok (.getfield 45, 3) := by decide +kernel
theorem dX8_freshen_79 : decode cX8_freshen 79 = .ok (.invokevirtual 376, 3) := by decide +kernel
theorem dX8_freshen_82 : decode cX8_freshen 82 = .ok (.aload_n 0, 1) := by decide +kernel
theorem dX8_freshen_83 : decode cX8_freshen 83 = .ok (.getfield 52, 3) := by decide +kernel
theorem dX8_freshen_86 : decode cX8_freshen 86 = .ok (.invokevirtual 379, 3) := by decide +kernel
theorem dX8_freshen_89 : decode cX8_freshen 89 = .ok (.return_, 1) := by decide +kernel
theorem dX8_find_0 : decode cX8_find 0 = .ok (.aload_n 0, 1) := by decide +kernel
theorem dX8_find_1 : decode cX8_find 1 = .ok (.iload_n 1, 1) := by decide +kernel
theorem dX8_find_2 : decode cX8_find 2 = .ok (.putfield 72, 3) := by decide +kernel
theorem dX8_find_5 : decode cX8_find 5 = .ok (.bipush (-10), 2) := by decide +kernel
theorem dX8_find_7 : decode cX8_find 7 = .ok (.iload_n 1, 1) := by decide +kernel
theorem dX8_find_8 : decode cX8_find 8 = .ok (.isub, 1) := by decide +kernel
theorem dX8_find_9 : decode cX8_find 9 = .ok (.ireturn, 1) := by decide +kernel
theorem dX8_noSuchText_0 : decode cX8_noSuchText 0 = .ok (.iload_n 0, 1) := by decide +kernel
theorem dX8_noSuchText_1 : decode cX8_noSuchText 1 = .ok (.ifCond .lt 8, 3) := by decide +kernel
theorem dX8_noSuchText_4 : decode cX8_noSuchText 4 = .ok (.iload_n 0, 1) := by decide +kernel
theorem dX8_noSuchText_5 : decode cX8_noSuchText 5 = .ok (.iconst 3, 1) := by decide +kernel
theorem dX8_noSuchText_6 : decode cX8_noSuchText 6 = .ok (.if_icmp .lt 7, 3) := by decide +kernel
theorem dX8_noSuchText_9 : decode cX8_noSuchText 9 = .ok (.iconst 1, 1) := by decide +kernel
theorem dX8_noSuchText_10 : decode cX8_noSuchText 10 = .ok (.goto 4, 3) := by decide +kernel
theorem dX8_noSuchText_13 : decode cX8_noSuchText 13 = .ok (.iconst 0, 1) := by decide +kernel
theorem dX8_noSuchText_14 : decode cX8_noSuchText 14 = .ok (.ireturn, 1) := by decide +kernel
theorem dX8_noSuchRider_0 : decode cX8_noSuchRider 0 = .ok (.iload_n 1, 1) := by decide +kernel
theorem dX8_noSuchRider_1 : decode cX8_noSuchRider 1 = .ok (.ifCond .lt 14, 3) := by decide +kernel
theorem dX8_noSuchRider_4 : decode cX8_noSuchRider 4 = .ok (.iload_n 1, 1) := by decide +kernel
theorem dX8_noSuchRider_5 : decode cX8_noSuchRider 5 = .ok (.aload_n 0, 1) := by decide +kernel
theorem dX8_noSuchRider_6 : decode cX8_noSuchRider 6 = .ok (.getfield 24, 3) := by decide +kernel
theorem dX8_noSuchRider_9 : decode cX8_noSuchRider 9 = .ok (.getfield 278, 3) := by decide +kernel
theorem dX8_noSuchRider_12 : decode cX8_noSuchRider 12 = .ok (.if_icmp .lt 7, 3) := by decide +kernel
theorem dX8_noSuchRider_15 : decode cX8_noSuchRider 15 = .ok (.iconst 1, 1) := by decide +kernel
theorem dX8_noSuchRider_16 : decode cX8_noSuchRider 16 = .ok (.goto 4, 3) := by decide +kernel
theorem dX8_noSuchRider_19 : decode cX8_noSuchRider 19 = .ok (.iconst 0, 1) := by decide +kernel
theorem dX8_noSuchRider_20 : decode cX8_noSuchRider 20 = .ok (.ireturn, 1) := by decide +kernel
theorem dX8_noSuchLeaver_0 : decode cX8_noSuchLeaver 0 = .ok (.iload_n 1, 1) := by decide +kernel
theorem dX8_noSuchLeaver_1 : decode cX8_noSuchLeaver 1 = .ok (.ifCond .lt 14, 3) := by decide +kernel
theorem dX8_noSuchLeaver_4 : decode cX8_noSuchLeaver 4 = .ok (.iload_n 1, 1) := by decide +kernel
theorem dX8_noSuchLeaver_5 : decode cX8_noSuchLeaver 5 = .ok (.aload_n 0, 1) := by decide +kernel
theorem dX8_noSuchLeaver_6 : decode cX8_noSuchLeaver 6 = .ok (.getfield 24, 3) := by decide +kernel
theorem dX8_noSuchLeaver_9 : decode cX8_noSuchLeaver 9 = .ok (.getfield 281, 3) := by decide +kernel
theorem dX8_noSuchLeaver_12 : decode cX8_noSuchLeaver 12 = .ok (.if_icmp .lt 7, 3) := by decide +kernel
theorem dX8_noSuchLeaver_15 : decode cX8_noSuchLeaver 15 = .ok (.iconst 1, 1) := by decide +kernel
theorem dX8_noSuchLeaver_16 : decode cX8_noSuchLeaver 16 = .ok (.goto 4, 3) := by decide +kernel
theorem dX8_noSuchLeaver_19 : decode cX8_noSuchLeaver 19 = .ok (.iconst 0, 1) := by decide +kernel
theorem dX8_noSuchLeaver_20 : decode cX8_noSuchLeaver 20 = .ok (.ireturn, 1) := by decide +kernel
theorem dX8_noSuchStep_0 : decode cX8_noSuchStep 0 = .ok (.iload_n 0, 1) := by decide +kernel
theorem dX8_noSuchStep_1 : decode cX8_noSuchStep 1 = .ok (.ifCond .lt 10, 3) := by decide +kernel
theorem dX8_noSuchStep_4 : decode cX8_noSuchStep 4 = .ok (.iload_n 0, 1) := by decide +kernel
theorem dX8_noSuchStep_5 : decode cX8_noSuchStep 5 = .ok (.sipush 255, 3) := by decide +kernel
theorem dX8_noSuchStep_8 : decode cX8_noSuchStep 8 = .ok (.if_icmp .le 7, 3) := by decide +kernel
theorem dX8_noSuchStep_11 : decode cX8_noSuchStep 11 = .ok (.iconst 1, 1) := by decide +kernel
theorem dX8_noSuchStep_12 : decode cX8_noSuchStep 12 = .ok (.goto 4, 3) := by decide +kernel
theorem dX8_noSuchStep_15 : decode cX8_noSuchStep 15 = .ok (.iconst 0, 1) := by decide +kernel
theorem dX8_noSuchStep_16 : decode cX8_noSuchStep 16 = .ok (.ireturn, 1) := by decide +kernel
theorem dX8_noSuchSheet_0 : decode cX8_noSuchSheet 0 = .ok (.iload_n 0, 1) := by decide +kernel
theorem dX8_noSuchSheet_1 : decode cX8_noSuchSheet 1 = .ok (.ifCond .lt 8, 3) := by decide +kernel
theorem dX8_noSuchSheet_4 : decode cX8_noSuchSheet 4 = .ok (.iload_n 0, 1) := by decide +kernel
theorem dX8_noSuchSheet_5 : decode cX8_noSuchSheet 5 = .ok (.iconst 4, 1) := by decide +kernel
theorem dX8_noSuchSheet_6 : decode cX8_noSuchSheet 6 = .ok (.if_icmp .lt 7, 3) := by decide +kernel
theorem dX8_noSuchSheet_9 : decode cX8_noSuchSheet 9 = .ok (.iconst 1, 1) := by decide +kernel
theorem dX8_noSuchSheet_10 : decode cX8_noSuchSheet 10 = .ok (.goto 4, 3) := by decide +kernel
theorem dX8_noSuchSheet_13 : decode cX8_noSuchSheet 13 = .ok (.iconst 0, 1) := by decide +kernel
theorem dX8_noSuchSheet_14 : decode cX8_noSuchSheet 14 = .ok (.ireturn, 1) := by decide +kernel
theorem dX8_noSuchForm_0 : decode cX8_noSuchForm 0 = .ok (.iload_n 0, 1) := by decide +kernel
theorem dX8_noSuchForm_1 : decode cX8_noSuchForm 1 = .ok (.ifCond .lt 8, 3) := by decide +kernel
theorem dX8_noSuchForm_4 : decode cX8_noSuchForm 4 = .ok (.iload_n 0, 1) := by decide +kernel
theorem dX8_noSuchForm_5 : decode cX8_noSuchForm 5 = .ok (.iconst 3, 1) := by decide +kernel
theorem dX8_noSuchForm_6 : decode cX8_noSuchForm 6 = .ok (.if_icmp .lt 7, 3) := by decide +kernel
theorem dX8_noSuchForm_9 : decode cX8_noSuchForm 9 = .ok (.iconst 1, 1) := by decide +kernel
theorem dX8_noSuchForm_10 : decode cX8_noSuchForm 10 = .ok (.goto 4, 3) := by decide +kernel
theorem dX8_noSuchForm_13 : decode cX8_noSuchForm 13 = .ok (.iconst 0, 1) := by decide +kernel
theorem dX8_noSuchForm_14 : decode cX8_noSuchForm 14 = .ok (.ireturn, 1) := by decide +kernel
theorem dX8_has_0 : decode cX8_has 0 = .ok (.iload_n 0, 1) := by decide +kernel
theorem dX8_has_1 : decode cX8_has 1 = .ok (.iload_n 1, 1) := by decide +kernel
theorem dX8_has_2 : decode cX8_has 2 = .ok (.ishr, 1) := by decide +kernel
theorem dX8_has_3 : decode cX8_has 3 = .ok (.iconst 1, 1) := by decide +kernel
theorem dX8_has_4 : decode cX8_has 4 = .ok (.iand, 1) := by decide +kernel
theorem dX8_has_5 : decode cX8_has 5 = .ok (.ifCond .eq 7, 3) := by decide +kernel
theorem dX8_has_8 : decode cX8_has 8 = .ok (.iconst 1, 1) := by decide +kernel
theorem dX8_has_9 : decode cX8_has 9 = .ok (.goto 4, 3) := by decide +kernel
theorem dX8_has_12 : decode cX8_has 12 = .ok (.iconst 0, 1) := by decide +kernel
theorem dX8_has_13 : decode cX8_has 13 = .ok (.ireturn, 1) := by decide +kernel
theorem dX8_byteOf_0 : decode cX8_byteOf 0 = .ok (.lload_n 0, 1) := by decide +kernel
theorem dX8_byteOf_1 : decode cX8_byteOf 1 = .ok (.bipush 8, 2) := by decide +kernel
theorem dX8_byteOf_3 : decode cX8_byteOf 3 = .ok (.iload_n 2, 1) := by decide +kernel
theorem dX8_byteOf_4 : decode cX8_byteOf 4 = .ok (.imul, 1) := by decide +kernel
theorem dX8_byteOf_5 : decode cX8_byteOf 5 = .ok (.lushr, 1) := by decide +kernel
theorem dX8_byteOf_6 : decode cX8_byteOf 6 = .ok (.l2i, 1) := by decide +kernel
theorem dX8_byteOf_7 : decode cX8_byteOf 7 = .ok (.sipush 255, 3) := by decide +kernel
theorem dX8_byteOf_10 : decode cX8_byteOf 10 = .ok (.iand, 1) := by decide +kernel
theorem dX8_byteOf_11 : decode cX8_byteOf 11 = .ok (.ireturn, 1) := by decide +kernel
theorem dX9_init_0 : decode cX9_init 0 = .ok (.aload_n 0, 1) := by decide +kernel
theorem dX9_init_1 : decode cX9_init 1 = .ok (.invokespecial 1, 3) := by decide +kernel
theorem dX9_init_4 : decode cX9_init 4 = .ok (.aload_n 0, 1) := by decide +kernel
theorem dX9_init_5 : decode cX9_init 5 = .ok (.iconst 3, 1) := by decide +kernel
theorem dX9_init_6 : decode cX9_init 6 = .ok (.newarray .int, 2) := by decide +kernel
theorem dX9_init_8 : decode cX9_init 8 = .ok (.putfield 7, 3) := by decide +kernel
theorem dX9_init_11 : decode cX9_init 11 = .ok (.aload_n 0, 1) := by decide +kernel
theorem dX9_init_12 : decode cX9_init 12 = .ok (.bipush 93, 2) := by decide +kernel
theorem dX9_init_14 : decode cX9_init 14 = .ok (.newarray .int, 2) := by decide +kernel
theorem dX9_init_16 : decode cX9_init 16 = .ok (.putfield 13, 3) := by decide +kernel
theorem dX9_init_19 : decode cX9_init 19 = .ok (.aload_n 0, 1) := by decide +kernel
theorem dX9_init_20 : decode cX9_init 20 = .ok (.bipush 9, 2) := by decide +kernel
theorem dX9_init_22 : decode cX9_init 22 = .ok (.newarray .int, 2) := by decide +kernel
theorem dX9_init_24 : decode cX9_init 24 = .ok (.putfield 16, 3) := by decide +kernel
theorem dX9_init_27 : decode cX9_init 27 = .ok (.aload_n 0, 1) := by decide +kernel
theorem dX9_init_28 : decode cX9_init 28 = .ok (.bipush 9, 2) := by decide +kernel
theorem dX9_init_30 : decode cX9_init 30 = .ok (.newarray .int, 2) := by decide +kernel
theorem dX9_init_32 : decode cX9_init 32 = .ok (.putfield 19, 3) := by decide +kernel
theorem dX9_init_35 : decode cX9_init 35 = .ok (.aload_n 0, 1) := by decide +kernel
theorem dX9_init_36 : decode cX9_init 36 = .ok (.bipush 9, 2) := by decide +kernel
theorem dX9_init_38 : decode cX9_init 38 = .ok (.newarray .int, 2) := by decide +kernel
theorem dX9_init_40 : decode cX9_init 40 = .ok (.putfield 22, 3) := by decide +kernel
theorem dX9_init_43 : decode cX9_init 43 = .ok (.aload_n 0, 1) := by decide +kernel
theorem dX9_init_44 : decode cX9_init 44 = .ok (.bipush 9, 2) := by decide +kernel
theorem dX9_init_46 : decode cX9_init 46 = .ok (.newarray .int, 2) := by decide +kernel
theorem dX9_init_48 : decode cX9_init 48 = .ok (.putfield 25, 3) := by decide +kernel
theorem dX9_init_51 : decode cX9_init 51 = .ok (.aload_n 0, 1) := by decide +kernel
theorem dX9_init_52 : decode cX9_init 52 = .ok (.bipush 9, 2) := by decide +kernel
theorem dX9_init_54 : decode cX9_init 54 = .ok (.newarray .int, 2) := by decide +kernel
theorem dX9_init_56 : decode cX9_init 56 = .ok (.putfield 28, 3) := by decide +kernel
theorem dX9_init_59 : decode cX9_init 59 = .ok (.aload_n 0, 1) := by decide +kernel
theorem dX9_init_60 : decode cX9_init 60 = .ok (.bipush 20, 2) := by decide +kernel
theorem dX9_init_62 : decode cX9_init 62 = .ok (.newarray .int, 2) := by decide +kernel
theorem dX9_init_64 : decode cX9_init 64 = .ok (.putfield 31, 3) := by decide +kernel
theorem dX9_init_67 : decode cX9_init 67 = .ok (.aload_n 0, 1) := by decide +kernel
theorem dX9_init_68 : decode cX9_init 68 = .ok (.bipush 22, 2) := by decide +kernel
theorem dX9_init_70 : decode cX9_init 70 = .ok (.newarray .int, 2) := by decide +kernel
theorem dX9_init_72 : decode cX9_init 72 = .ok (.putfield 34, 3) := by decide +kernel
theorem dX9_init_75 : decode cX9_init 75 = .ok (.aload_n 0, 1) := by decide +kernel
theorem dX9_init_76 : decode cX9_init 76 = .ok (.sipush 256, 3) := by decide +kernel
theorem dX9_init_79 : decode cX9_init 79 = .ok (.newarray .int, 2) := by decide +kernel
theorem dX9_init_81 : decode cX9_init 81 = .ok (.putfield 37, 3) := by decide +kernel
theorem dX9_init_84 : decode cX9_init 84 = .ok (.aload_n 0, 1) := by decide +kernel
theorem dX9_init_85 : decode cX9_init 85 = .ok (.sipush 256, 3) := by decide +kernel
theorem dX9_init_88 : decode cX9_init 88 = .ok (.newarray .int, 2) := by decide +kernel
theorem dX9_init_90 : decode cX9_init 90 = .ok (.putfield 40, 3) := by decide +kernel
theorem dX9_init_93 : decode cX9_init 93 = .ok (.aload_n 0, 1) := by decide +kernel
theorem dX9_init_94 : decode cX9_init 94 = .ok (.sipush 256, 3) := by decide +kernel
theorem dX9_init_97 : decode cX9_init 97 = .ok (.newarray .int, 2) := by decide +kernel
theorem dX9_init_99 : decode cX9_init 99 = .ok (.putfield 43, 3) := by decide +kernel
theorem dX9_init_102 : decode cX9_init 102 = .ok (.aload_n 0, 1) := by decide +kernel
theorem dX9_init_103 : decode cX9_init 103 = .ok (.sipush 256, 3) := by decide +kernel
theorem dX9_init_106 : decode cX9_init 106 = .ok (.newarray .int, 2) := by decide +kernel
theorem dX9_init_108 : decode cX9_init 108 = .ok (.putfield 46, 3) := by decide +kernel
theorem dX9_init_111 : decode cX9_init 111 = .ok (.aload_n 0, 1) := by decide +kernel
theorem dX9_init_112 : decode cX9_init 112 = .ok (.bipush 8, 2) := by decide +kernel
theorem dX9_init_114 : decode cX9_init 114 = .ok (.newarray .int, 2) := by decide +kernel
theorem dX9_init_116 : decode cX9_init 116 = .ok (.putfield 49, 3) := by decide +kernel
theorem dX9_init_119 : decode cX9_init 119 = .ok (.aload_n 0, 1) := by decide +kernel
theorem dX9_init_120 : decode cX9_init 120 = .ok (.bipush 8, 2) := by decide +kernel
theorem dX9_init_122 : decode cX9_init 122 = .ok (.newarray .int, 2) := by decide +kernel
theorem dX9_init_124 : decode cX9_init 124 = .ok (.putfield 52, 3) := by decide +kernel
theorem dX9_init_127 : decode cX9_init 127 = .ok (.aload_n 0, 1) := by decide +kernel
theorem dX9_init_128 : decode cX9_init 128 = .ok (.bipush 8, 2) := by decide +kernel
theorem dX9_init_130 : decode cX9_init 130 = .ok (.newarray .int, 2) := by decide +kernel
theorem dX9_init_132 : decode cX9_init 132 = .ok (.putfield 55, 3) := by decide +kernel
theorem dX9_init_135 : decode cX9_init 135 = .ok (.aload_n 0, 1) := by decide +kernel
theorem dX9_init_136 : decode cX9_init 136 = .ok (.bipush 8, 2) := by decide +kernel
theorem dX9_init_138 : decode cX9_init 138 = .ok (.newarray .int, 2) := by decide +kernel
theorem dX9_init_140 : decode cX9_init 140 = .ok (.putfield 58, 3) := by decide +kernel
theorem dX9_init_143 : decode cX9_init 143 = .ok (.aload_n 0, 1) := by decide +kernel
theorem dX9_init_144 : decode cX9_init 144 = .ok (.bipush 8, 2) := by decide +kernel
theorem dX9_init_146 : decode cX9_init 146 = .ok (.newarray .int, 2) := by decide +kernel
theorem dX9_init_148 : decode cX9_init 148 = .ok (.putfield 61, 3) := by decide +kernel
theorem dX9_init_151 : decode cX9_init 151 = .ok (.aload_n 0, 1) := by decide +kernel
theorem dX9_init_152 : decode cX9_init 152 = .ok (.iconst 2, 1) := by decide +kernel
theorem dX9_init_153 : decode cX9_init 153 = .ok (.newarray .int, 2) := by decide +kernel
theorem dX9_init_155 : decode cX9_init 155 = .ok (.putfield 64, 3) := by decide +kernel
theorem dX9_init_158 : decode cX9_init 158 = .ok (.aload_n 0, 1) := by decide +kernel
theorem dX9_init_159 : decode cX9_init 159 = .ok (.bipush 8, 2) := by decide +kernel
theorem dX9_init_161 : decode cX9_init 161 = .ok (.newarray .int, 2) := by decide +kernel
theorem dX9_init_163 : decode cX9_init 163 = .ok (.putfield 67, 3) := by decide +kernel
theorem dX9_init_166 : decode cX9_init 166 = .ok (.aload_n 0, 1) := by decide +kernel
theorem dX9_init_167 : decode cX9_init 167 = .ok (.bipush 8, 2) := by decide +kernel
theorem dX9_init_169 : decode cX9_init 169 = .ok (.newarray .int, 2) := by decide +kernel
theorem dX9_init_171 : decode cX9_init 171 = .ok (.putfield 70, 3) := by decide +kernel
theorem dX9_init_174 : decode cX9_init 174 = .ok (.aload_n 0, 1) := by decide +kernel
theorem dX9_init_175 : decode cX9_init 175 = .ok (.sipush 800, 3) := by decide +kernel
theorem dX9_init_178 : decode cX9_init 178 = .ok (.newarray .int, 2) := by decide +kernel
theorem dX9_init_180 : decode cX9_init 180 = .ok (.putfield 73, 3) := by decide +kernel
theorem dX9_init_183 : decode cX9_init 183 = .ok (.aload_n 0, 1) := by decide +kernel
theorem dX9_init_184 : decode cX9_init 184 = .ok (.iconst 4, 1) := by decide +kernel
theorem dX9_init_185 : decode cX9_init 185 = .ok (.newarray .boolean, 2) := by decide +kernel
theorem dX9_init_187 : decode cX9_init 187 = .ok (.putfield 76, 3) := by decide +kernel
theorem dX9_init_190 : decode cX9_init 190 = .ok (.aload_n 0, 1) := by decide +kernel
theorem dX9_init_191 : decode cX9_init 191 = .ok (.iconst 4, 1) := by decide +kernel
theorem dX9_init_192 : decode cX9_init 192 = .ok (.newarray .int, 2) := by decide +kernel
theorem dX9_init_194 : decode cX9_init 194 = .ok (.putfield 80, 3) := by decide +kernel
theorem dX9_init_197 : decode cX9_init 197 = .ok (.aload_n 0, 1) := by decide +kernel
theorem dX9_init_198 : decode cX9_init 198 = .ok (.iconst 4, 1) := by decide +kernel
theorem dX9_init_199 : decode cX9_init 199 = .ok (.newarray .int, 2) := by decide +kernel
theorem dX9_init_201 : decode cX9_init 201 = .ok (.putfield 83, 3) := by decide +kernel
theorem dX9_init_204 : decode cX9_init 204 = .ok (.aload_n 0, 1) := by decide +kernel
theorem dX9_init_205 : decode cX9_init 205 = .ok (.sipush 240, 3) := by decide +kernel
theorem dX9_init_208 : decode cX9_init 208 = .ok (.newarray .int, 2) := by decide +kernel
theorem dX9_init_210 : decode cX9_init 210 = .ok (.putfield 86, 3) := by decide +kernel
theorem dX9_init_213 : decode cX9_init 213 = .ok (.aload_n 0, 1) := by decide +kernel
theorem dX9_init_214 : decode cX9_init 214 = .ok (.bipush 60, 2) := by decide +kernel
theorem dX9_init_216 : decode cX9_init 216 = .ok (.newarray .int, 2) := by decide +kernel
theorem dX9_init_218 : decode cX9_init 218 = .ok (.putfield 89, 3) := by decide +kernel
theorem dX9_init_221 : decode cX9_init 221 = .ok (.aload_n 0, 1) := by decide +kernel
theorem dX9_init_222 : decode cX9_init 222 = .ok (.iconst 4, 1) := by decide +kernel
theorem dX9_init_223 : decode cX9_init 223 = .ok (.putfield 92, 3) := by decide +kernel
theorem dX9_init_226 : decode cX9_init 226 = .ok (.aload_n 0, 1) := by decide +kernel
theorem dX9_init_227 : decode cX9_init 227 = .ok (.bipush 20, 2) := by decide +kernel
theorem dX9_init_229 : decode cX9_init 229 = .ok (.putfield 96, 3) := by decide +kernel
theorem dX9_init_232 : decode cX9_init 232 = .ok (.return_, 1) := by decide +kernel
theorem dX9_in_0 : decode cX9_in 0 = .ok (.iload_n 0, 1) := by decide +kernel
theorem dX9_in_1 : decode cX9_in 1 = .ok (.iload_n 1, 1) := by decide +kernel
theorem dX9_in_2 : decode cX9_in 2 = .ok (.if_icmp .lt 12, 3) := by decide +kernel
theorem dX9_in_5 : decode cX9_in 5 = .ok (.iload_n 0, 1) := by decide +kernel
theorem dX9_in_6 : decode cX9_in 6 = .ok (.iload_n 2, 1) := by decide +kernel
theorem dX9_in_7 : decode cX9_in 7 = .ok (.if_icmp .gt 7, 3) := by decide +kernel
theorem dX9_in_10 : decode cX9_in 10 = .ok (.iconst 1, 1) := by decide +kernel
theorem dX9_in_11 : decode cX9_in 11 = .ok (.goto 4, 3) := by decide +kernel
theorem dX9_in_14 : decode cX9_in 14 = .ok (.iconst 0, 1) := by decide +kernel
theorem dX9_in_15 : decode cX9_in 15 = .ok (.ireturn, 1) := by decide +kernel
theorem dX9_isIn_0 : decode cX9_isIn 0 = .ok (.iload_n 0, 1) := by decide +kernel
theorem dX9_isIn_1 : decode cX9_isIn 1 = .ok (.iload_n 1, 1) := by decide +kernel
theorem dX9_isIn_2 : decode cX9_isIn 2 = .ok (.ishr, 1) := by decide +kernel
theorem dX9_isIn_3 : decode cX9_isIn 3 = .ok (.iconst 1, 1) := by decide +kernel
theorem dX9_isIn_4 : decode cX9_isIn 4 = .ok (.iand, 1) := by decide +kernel
theorem dX9_isIn_5 : decode cX9_isIn 5 = .ok (.iconst 1, 1) := by decide +kernel
theorem dX9_isIn_6 : decode cX9_isIn 6 = .ok (.if_icmp .ne 7, 3) := by decide +kernel
theorem dX9_isIn_9 : decode cX9_isIn 9 = .ok (.iconst 1, 1) := by decide +kernel
theorem dX9_isIn_10 : decode cX9_isIn 10 = .ok (.goto 4, 3) := by decide +kernel
theorem dX9_isIn_13 : decode cX9_isIn 13 = .ok (.iconst 0, 1) := by decide +kernel
theorem dX9_isIn_14 : decode cX9_isIn 14 = .ok (.ireturn, 1) := by decide +kernel
theorem dX9_no_0 : decode cX9_no 0 = .ok (.ldc2_w 99, 3) := by decide +kernel
theorem dX9_no_3 : decode cX9_no 3 = .ok (.iload_n 0, 1) := by decide +kernel
theorem dX9_no_4 : decode cX9_no 4 = .ok (.i2l, 1) := by decide +kernel
theorem dX9_no_5 : decode cX9_no 5 = .ok (.lsub, 1) := by decide +kernel
theorem dX9_no_6 : decode cX9_no 6 = .ok (.lreturn, 1) := by decide +kernel
theorem dX9_lowest_0 : decode cX9_lowest 0 = .ok (.lload_n 0, 1) := by decide +kernel
theorem dX9_lowest_1 : decode cX9_lowest 1 = .ok (.lstore 5, 2) := by decide +kernel
theorem dX9_lowest_3 : decode cX9_lowest 3 = .ok (.lload_n 2, 1) := by decide +kernel
theorem dX9_lowest_4 : decode cX9_lowest 4 = .ok (.lstore 7, 2) := by decide +kernel
theorem dX9_lowest_6 : decode cX9_lowest 6 = .ok (.lload 7, 2) := by decide +kernel
theorem dX9_lowest_8 : decode cX9_lowest 8 = .ok (.lconst 0, 1) := by decide +kernel
theorem dX9_lowest_9 : decode cX9_lowest 9 = .ok (.lcmp, 1) := by decide +kernel
theorem dX9_lowest_10 : decode cX9_lowest 10 = .ok (.ifCond .eq 21, 3) := by decide +kernel
theorem dX9_lowest_13 : decode cX9_lowest 13 = .ok (.lload 5, 2) := by decide +kernel
theorem dX9_lowest_15 : decode cX9_lowest 15 = .ok (.lload 7, 2) := by decide +kernel
theorem dX9_lowest_17 : decode cX9_lowest 17 = .ok (.lrem, 1) := by decide +kernel
theorem dX9_lowest_18 : decode cX9_lowest 18 = .ok (.lstore 9, 2) := by decide +kernel
theorem dX9_lowest_20 : decode cX9_lowest 20 = .ok (.lload 7, 2) := by decide +kernel
theorem dX9_lowest_22 : decode cX9_lowest 22 = .ok (.lstore 5, 2) := by decide +kernel
theorem dX9_lowest_24 : decode cX9_lowest 24 = .ok (.lload 9, 2) := by decide +kernel
theorem dX9_lowest_26 : decode cX9_lowest 26 = .ok (.lstore 7, 2) := by decide +kernel
theorem dX9_lowest_28 : decode cX9_lowest 28 = .ok (.goto (-22), 3) := by decide +kernel
theorem dX9_lowest_31 : decode cX9_lowest 31 = .ok (.iload 4, 2) := by decide +kernel
theorem dX9_lowest_33 : decode cX9_lowest 33 = .ok (.ifCond .ne 10, 3) := by decide +kernel
theorem dX9_lowest_36 : decode cX9_lowest 36 = .ok (.lload_n 0, 1) := by decide +kernel
theorem dX9_lowest_37 : decode cX9_lowest 37 = .ok (.lload 5, 2) := by decide +kernel
theorem dX9_lowest_39 : decode cX9_lowest 39 = .ok (.ldiv, 1) := by decide +kernel
theorem dX9_lowest_40 : decode cX9_lowest 40 = .ok (.goto 7, 3) := by decide +kernel
theorem dX9_lowest_43 : decode cX9_lowest 43 = .ok (.lload_n 2, 1) := by decide +kernel
theorem dX9_lowest_44 : decode cX9_lowest 44 = .ok (.lload 5, 2) := by decide +kernel
theorem dX9_lowest_46 : decode cX9_lowest 46 = .ok (.ldiv, 1) := by decide +kernel
theorem dX9_lowest_47 : decode cX9_lowest 47 = .ok (.lreturn, 1) := by decide +kernel
theorem dX9_isText_0 : decode cX9_isText 0 = .ok (.iload_n 0, 1) := by decide +kernel
theorem dX9_isText_1 : decode cX9_isText 1 = .ok (.iconst 0, 1) := by decide +kernel
theorem dX9_isText_2 : decode cX9_isText 2 = .ok (.iconst 2, 1) := by decide +kernel
theorem dX9_isText_3 : decode cX9_isText 3 = .ok (.invokestatic 101, 3) := by decide +kernel
theorem dX9_isText_6 : decode cX9_isText 6 = .ok (.ireturn, 1) := by decide +kernel
theorem dX9_isSteps_0 : decode cX9_isSteps 0 = .ok (.iload_n 0, 1) := by decide +kernel
theorem dX9_isSteps_1 : decode cX9_isSteps 1 = .ok (.iconst 0, 1) := by decide +kernel
theorem dX9_isSteps_2 : decode cX9_isSteps 2 = .ok (.sipush 255, 3) := by decide +kernel
theorem dX9_isSteps_5 : decode cX9_isSteps 5 = .ok (.invokestatic 101, 3) := by decide +kernel
theorem dX9_isSteps_8 : decode cX9_isSteps 8 = .ok (.ireturn, 1) := by decide +kernel
theorem dX9_type_0 : decode cX9_type 0 = .ok (.iload_n 1, 1) := by decide +kernel
theorem dX9_type_1 : decode cX9_type 1 = .ok (.invokestatic 105, 3) := by decide +kernel
theorem dX9_type_4 : decode cX9_type 4 = .ok (.ifCond .eq 14, 3) := by decide +kernel
theorem dX9_type_7 : decode cX9_type 7 = .ok (.iload_n 2, 1) := by decide +kernel
theorem dX9_type_8 : decode cX9_type 8 = .ok (.iconst 0, 1) := by decide +kernel
theorem dX9_type_9 : decode cX9_type 9 = .ok (.sipush 255, 3) := by decide +kernel
theorem dX9_type_12 : decode cX9_type 12 = .ok (.invokestatic 101, 3) := by decide +kernel
theorem dX9_type_15 : decode cX9_type 15 = .ok (.ifCond .ne 6, 3) := by decide +kernel
theorem dX9_type_18 : decode cX9_type 18 = .ok (.bipush (-2), 2) := by decide +kernel
theorem dX9_type_20 : decode cX9_type 20 = .ok (.ireturn, 1) := by decide +kernel
theorem dX9_type_21 : decode cX9_type 21 = .ok (.aload_n 0, 1) := by decide +kernel
theorem dX9_type_22 : decode cX9_type 22 = .ok (.getfield 7, 3) := by decide +kernel
theorem dX9_type_25 : decode cX9_type 25 = .ok (.iload_n 1, 1) := by decide +kernel
theorem dX9_type_26 : decode cX9_type 26 = .ok (.iaload, 1) := by decide +kernel
theorem dX9_type_27 : decode cX9_type 27 = .ok (.iload_n 1, 1) := by decide +kernel
theorem dX9_type_28 : decode cX9_type 28 = .ok (.iconst 2, 1) := by decide +kernel
theorem dX9_type_29 : decode cX9_type 29 = .ok (.if_icmp .ne 8, 3) := by decide +kernel
theorem dX9_type_32 : decode cX9_type 32 = .ok (.bipush 20, 2) := by decide +kernel
theorem dX9_type_34 : decode cX9_type 34 = .ok (.goto 5, 3) := by decide +kernel
theorem dX9_type_37 : decode cX9_type 37 = .ok (.bipush 31, 2) := by decide +kernel
theorem dX9_type_39 : decode cX9_type 39 = .ok (.if_icmp .ne 6, 3) := by decide +kernel
theorem dX9_type_42 : decode cX9_type 42 = .ok (.bipush (-4), 2) := by decide +kernel
theorem dX9_type_44 : decode cX9_type 44 = .ok (.ireturn, 1) := by decide +kernel
theorem dX9_type_45 : decode cX9_type 45 = .ok (.aload_n 0, 1) := by decide +kernel
theorem dX9_type_46 : decode cX9_type 46 = .ok (.getfield 13, 3) := by decide +kernel
theorem dX9_type_49 : decode cX9_type 49 = .ok (.bipush 31, 2) := by decide +kernel
theorem dX9_type_51 : decode cX9_type 51 = .ok (.iload_n 1, 1) := by decide +kernel
theorem dX9_type_52 : decode cX9_type 52 = .ok (.imul, 1) := by decide +kernel
theorem dX9_type_53 : decode cX9_type 53 = .ok (.aload_n 0, 1) := by decide +kernel
theorem dX9_type_54 : decode cX9_type 54 = .ok (.getfield 7, 3) := by decide +kernel
theorem dX9_type_57 : decode cX9_type 57 = .ok (.iload_n 1, 1) := by decide +kernel
theorem dX9_type_58 : decode cX9_type 58 = .ok (.iaload, 1) := by decide +kernel
theorem dX9_type_59 : decode cX9_type 59 = .ok (.iadd, 1) := by decide +kernel
theorem dX9_type_60 : decode cX9_type 60 = .ok (.iload_n 2, 1) := by decide +kernel
theorem dX9_type_61 : decode cX9_type 61 = .ok (.iastore, 1) := by decide +kernel
theorem dX9_type_62 : decode cX9_type 62 = .ok (.aload_n 0, 1) := by decide +kernel
theorem dX9_type_63 : decode cX9_type 63 = .ok (.getfield 7, 3) := by decide +kernel
theorem dX9_type_66 : decode cX9_type 66 = .ok (.iload_n 1, 1) := by decide +kernel
theorem dX9_type_67 : decode cX9_type 67 = .ok (.dup2, 1) := by decide +kernel
theorem dX9_type_68 : decode cX9_type 68 = .ok (.iaload, 1) := by decide +kernel
theorem dX9_type_69 : decode cX9_type 69 = .ok (.iconst 1, 1) := by decide +kernel
theorem dX9_type_70 : decode cX9_type 70 = .ok (.iadd, 1) := by decide +kernel
theorem dX9_type_71 : decode cX9_type 71 = .ok (.iastore, 1) := by decide +kernel
theorem dX9_type_72 : decode cX9_type 72 = .ok (.aload_n 0, 1) := by decide +kernel
theorem dX9_type_73 : decode cX9_type 73 = .ok (.getfield 7, 3) := by decide +kernel
theorem dX9_type_76 : decode cX9_type 76 = .ok (.iload_n 1, 1) := by decide +kernel
theorem dX9_type_77 : decode cX9_type 77 = .ok (.iaload, 1) := by decide +kernel
theorem dX9_type_78 : decode cX9_type 78 = .ok (.ireturn, 1) := by decide +kernel
theorem dX9_wipe_0 : decode cX9_wipe 0 = .ok (.iload_n 1, 1) := by decide +kernel
theorem dX9_wipe_1 : decode cX9_wipe 1 = .ok (.invokestatic 105, 3) := by decide +kernel
theorem dX9_wipe_4 : decode cX9_wipe 4 = .ok (.ifCond .ne 6, 3) := by decide +kernel
theorem dX9_wipe_7 : decode cX9_wipe 7 = .ok (.bipush (-2), 2) := by decide +kernel
theorem dX9_wipe_9 : decode cX9_wipe 9 = .ok (.ireturn, 1) := by decide +kernel
theorem dX9_wipe_10 : decode cX9_wipe 10 = .ok (.aload_n 0, 1) := by decide +kernel
theorem dX9_wipe_11 : decode cX9_wipe 11 = .ok (.getfield 7, 3) := by decide +kernel
theorem dX9_wipe_14 : decode cX9_wipe 14 = .ok (.iload_n 1, 1) := by decide +kernel
theorem dX9_wipe_15 : decode cX9_wipe 15 = .ok (.iaload, 1) := by decide +kernel
theorem dX9_wipe_16 : decode cX9_wipe 16 = .ok (.istore_n 2, 1) := by decide +kernel
theorem dX9_wipe_17 : decode cX9_wipe 17 = .ok (.aload_n 0, 1) := by decide +kernel
theorem dX9_wipe_18 : decode cX9_wipe 18 = .ok (.getfield 7, 3) := by decide +kernel
theorem dX9_wipe_21 : decode cX9_wipe 21 = .ok (.iload_n 1, 1) := by decide +kernel
theorem dX9_wipe_22 : decode cX9_wipe 22 = .ok (.iconst 0, 1) := by decide +kernel
theorem dX9_wipe_23 : decode cX9_wipe 23 = .ok (.iastore, 1) := by decide +kernel
theorem dX9_wipe_24 : decode cX9_wipe 24 = .ok (.iload_n 2, 1) := by decide +kernel
theorem dX9_wipe_25 : decode cX9_wipe 25 = .ok (.ireturn, 1) := by decide +kernel
theorem dX9_undo_0 : decode cX9_undo 0 = .ok (.iload_n 1, 1) := by decide +kernel
theorem dX9_undo_1 : decode cX9_undo 1 = .ok (.invokestatic 105, 3) := by decide +kernel
theorem dX9_undo_4 : decode cX9_undo 4 = .ok (.ifCond .ne 6, 3) := by decide +kernel
theorem dX9_undo_7 : decode cX9_undo 7 = .ok (.bipush (-2), 2) := by decide +kernel
theorem dX9_undo_9 : decode cX9_undo 9 = .ok (.ireturn, 1) := by decide +kernel
theorem dX9_undo_10 : decode cX9_undo 10 = .ok (.aload_n 0, 1) := by decide +kernel
theorem dX9_undo_11 : decode cX9_undo 11 = .ok (.getfield 7, 3) := by decide +kernel
theorem dX9_undo_14 : decode cX9_undo 14 = .ok (.iload_n 1, 1) := by decide +kernel
theorem dX9_undo_15 : decode cX9_undo 15 = .ok (.iaload, 1) := by decide +kernel
theorem dX9_undo_16 : decode cX9_undo 16 = .ok (.ifCond .ne 6, 3) := by decide +kernel
theorem dX9_undo_19 : decode cX9_undo 19 = .ok (.bipush (-3), 2) := by decide +kernel
theorem dX9_undo_21 : decode cX9_undo 21 = .ok (.ireturn, 1) := by decide +kernel
theorem dX9_undo_22 : decode cX9_undo 22 = .ok (.aload_n 0, 1) := by decide +kernel
theorem dX9_undo_23 : decode cX9_undo 23 = .ok (.getfield 7, 3) := by decide +kernel
theorem dX9_undo_26 : decode cX9_undo 26 = .ok (.iload_n 1, 1) := by decide +kernel
theorem dX9_undo_27 : decode cX9_undo 27 = .ok (.dup2, 1) := by decide +kernel
theorem dX9_undo_28 : decode cX9_undo 28 = .ok (.iaload, 1) := by decide +kernel
theorem dX9_undo_29 : decode cX9_undo 29 = .ok (.iconst 1, 1) := by decide +kernel
theorem dX9_undo_30 : decode cX9_undo 30 = .ok (.isub, 1) := by decide +kernel
theorem dX9_undo_31 : decode cX9_undo 31 = .ok (.iastore, 1) := by decide +kernel
theorem dX9_undo_32 : decode cX9_undo 32 = .ok (.aload_n 0, 1) := by decide +kernel
theorem dX9_undo_33 : decode cX9_undo 33 = .ok (.getfield 7, 3) := by decide +kernel
theorem dX9_undo_36 : decode cX9_undo 36 = .ok (.iload_n 1, 1) := by decide +kernel
theorem dX9_undo_37 : decode cX9_undo 37 = .ok (.iaload, 1) := by decide +kernel
theorem dX9_undo_38 : decode cX9_undo 38 = .ok (.ireturn, 1) := by decide +kernel
theorem dX9_byteAt_0 : decode cX9_byteAt 0 = .ok (.iload_n 2, 1) := by decide +kernel
theorem dX9_byteAt_1 : decode cX9_byteAt 1 = .ok (.aload_n 0, 1) := by decide +kernel
theorem dX9_byteAt_2 : decode cX9_byteAt 2 = .ok (.getfield 7, 3) := by decide +kernel
theorem dX9_byteAt_5 : decode cX9_byteAt 5 = .ok (.iload_n 1, 1) := by decide +kernel
theorem dX9_byteAt_6 : decode cX9_byteAt 6 = .ok (.iaload, 1) := by decide +kernel
theorem dX9_byteAt_7 : decode cX9_byteAt 7 = .ok (.if_icmp .ge 17, 3) := by decide +kernel
theorem dX9_byteAt_10 : decode cX9_byteAt 10 = .ok (.aload_n 0, 1) := by decide +kernel
theorem dX9_byteAt_11 : decode cX9_byteAt 11 = .ok (.getfield 13, 3) := by decide +kernel
theorem dX9_byteAt_14 : decode cX9_byteAt 14 = .ok (.bipush 31, 2) := by decide +kernel
theorem dX9_byteAt_16 : decode cX9_byteAt 16 = .ok (.iload_n 1, 1) := by decide +kernel
theorem dX9_byteAt_17 : decode cX9_byteAt 17 = .ok (.imul, 1) := by decide +kernel
theorem dX9_byteAt_18 : decode cX9_byteAt 18 = .ok (.iload_n 2, 1) := by decide +kernel
theorem dX9_byteAt_19 : decode cX9_byteAt 19 = .ok (.iadd, 1) := by decide +kernel
theorem dX9_byteAt_20 : decode cX9_byteAt 20 = .ok (.iaload, 1) := by decide +kernel
theorem dX9_byteAt_21 : decode cX9_byteAt 21 = .ok (.goto 4, 3) := by decide +kernel
theorem dX9_byteAt_24 : decode cX9_byteAt 24 = .ok (.iconst (-1), 1) := by decide +kernel
theorem dX9_byteAt_25 : decode cX9_byteAt 25 = .ok (.ireturn, 1) := by decide +kernel
theorem dX9_figureAt_0 : decode cX9_figureAt 0 = .ok (.aload_n 0, 1) := by decide +kernel
theorem dX9_figureAt_1 : decode cX9_figureAt 1 = .ok (.iload_n 1, 1) := by decide +kernel
theorem dX9_figureAt_2 : decode cX9_figureAt 2 = .ok (.iload_n 2, 1) := by decide +kernel
theorem dX9_figureAt_3 : decode cX9_figureAt 3 = .ok (.invokevirtual 109, 3) := by decide +kernel
theorem dX9_figureAt_6 : decode cX9_figureAt 6 = .ok (.bipush 48, 2) := by decide +kernel
theorem dX9_figureAt_8 : decode cX9_figureAt 8 = .ok (.isub, 1) := by decide +kernel
theorem dX9_figureAt_9 : decode cX9_figureAt 9 = .ok (.istore 5, 2) := by decide +kernel
theorem dX9_figureAt_11 : decode cX9_figureAt 11 = .ok (.iload 5, 2) := by decide +kernel
theorem dX9_figureAt_13 : decode cX9_figureAt 13 = .ok (.iload_n 3, 1) := by decide +kernel
theorem dX9_figureAt_14 : decode cX9_figureAt 14 = .ok (.iload 4, 2) := by decide +kernel
theorem dX9_figureAt_16 : decode cX9_figureAt 16 = .ok (.invokestatic 101, 3) := by decide +kernel
theorem dX9_figureAt_19 : decode cX9_figureAt 19 = .ok (.ifCond .eq 8, 3) := by decide +kernel
theorem dX9_figureAt_22 : decode cX9_figureAt 22 = .ok (.iload 5, 2) := by decide +kernel
theorem dX9_figureAt_24 : decode cX9_figureAt 24 = .ok (.goto 4, 3) := by decide +kernel
theorem dX9_figureAt_27 : decode cX9_figureAt 27 = .ok (.iconst (-1), 1) := by decide +kernel
theorem dX9_figureAt_28 : decode cX9_figureAt 28 = .ok (.ireturn, 1) := by decide +kernel
theorem dX9_readsOne_0 : decode cX9_readsOne 0 = .ok (.aload_n 0, 1) := by decide +kernel
theorem dX9_readsOne_1 : decode cX9_readsOne 1 = .ok (.iload_n 1, 1) := by decide +kernel
theorem dX9_readsOne_2 : decode cX9_readsOne 2 = .ok (.iload_n 3, 1) := by decide +kernel
theorem dX9_readsOne_3 : decode cX9_readsOne 3 = .ok (.iload_n 1, 1) := by decide +kernel
theorem dX9_readsOne_4 : decode cX9_readsOne 4 = .ok (.ifCond .ne 7, 3) := by decide +kernel
theorem dX9_readsOne_7 : decode cX9_readsOne 7 = .ok (.iconst 1, 1) := by decide +kernel
theorem dX9_readsOne_8 : decode cX9_readsOne 8 = .ok (.goto 4, 3) := by decide +kernel
theorem dX9_readsOne_11 : decode cX9_readsOne 11 = .ok (.iconst 0, 1) := by decide +kernel
theorem dX9_readsOne_12 : decode cX9_readsOne 12 = .ok (.bipush 9, 2) := by decide +kernel
theorem dX9_readsOne_14 : decode cX9_readsOne 14 = .ok (.invokevirtual 113, 3) := by decide +kernel
theorem dX9_readsOne_17 : decode cX9_readsOne 17 = .ok (.istore 4, 2) := by decide +kernel
theorem dX9_readsOne_19 : decode cX9_readsOne 19 = .ok (.aload_n 0, 1) := by decide +kernel
theorem dX9_readsOne_20 : decode cX9_readsOne 20 = .ok (.iload_n 1, 1) := by decide +kernel
theorem dX9_readsOne_21 : decode cX9_readsOne 21 = .ok (.iload_n 3, 1) := by decide +kernel
theorem dX9_readsOne_22 : decode cX9_readsOne 22 = .ok (.iconst 1, 1) := by decide +kernel
theorem dX9_readsOne_23 : decode cX9_readsOne 23 = .ok (.iadd, 1) := by decide +kernel
theorem dX9_readsOne_24 : decode cX9_readsOne 24 = .ok (.iconst 0, 1) := by decide +kernel
theorem dX9_readsOne_25 : decode cX9_readsOne 25 = .ok (.bipush 9, 2) := by decide +kernel
theorem dX9_readsOne_27 : decode cX9_readsOne 27 = .ok (.invokevirtual 113, 3) := by decide +kernel
theorem dX9_readsOne_30 : decode cX9_readsOne 30 = .ok (.istore 5, 2) := by decide +kernel
theorem dX9_readsOne_32 : decode cX9_readsOne 32 = .ok (.aload_n 0, 1) := by decide +kernel
theorem dX9_readsOne_33 : decode cX9_readsOne 33 = .ok (.iload_n 1, 1) := by decide +kernel
theorem dX9_readsOne_34 : decode cX9_readsOne 34 = .ok (.iload_n 3, 1) := by decide +kernel
theorem dX9_readsOne_35 : decode cX9_readsOne 35 = .ok (.iconst 2, 1) := by decide +kernel
theorem dX9_readsOne_36 : decode cX9_readsOne 36 = .ok (.iadd, 1) := by decide +kernel
theorem dX9_readsOne_37 : decode cX9_readsOne 37 = .ok (.iconst 0, 1) := by decide +kernel
theorem dX9_readsOne_38 : decode cX9_readsOne 38 = .ok (.iload_n 1, 1) := by decide +kernel
theorem dX9_readsOne_39 : decode cX9_readsOne 39 = .ok (.ifCond .ne 8, 3) := by decide +kernel
theorem dX9_readsOne_42 : decode cX9_readsOne 42 = .ok (.bipush 9, 2) := by decide +kernel
theorem dX9_readsOne_44 : decode cX9_readsOne 44 = .ok (.goto 5, 3) := by decide +kernel
theorem dX9_readsOne_47 : decode cX9_readsOne 47 = .ok (.bipush 7, 2) := by decide +kernel
theorem dX9_readsOne_49 : decode cX9_readsOne 49 = .ok (.invokevirtual 113, 3) := by decide +kernel
theorem dX9_readsOne_52 : decode cX9_readsOne 52 = .ok (.istore 6, 2) := by decide +kernel
theorem dX9_readsOne_54 : decode cX9_readsOne 54 = .ok (.iload 4, 2) := by decide +kernel
theorem dX9_readsOne_56 : decode cX9_readsOne 56 = .ok (.iconst (-1), 1) := by decide +kernel
theorem dX9_readsOne_57 : decode cX9_readsOne 57 = .ok (.if_icmp .ne 5, 3) := by decide +kernel
theorem dX9_readsOne_60 : decode cX9_readsOne 60 = .ok (.iconst 0, 1) := by decide +kernel
theorem dX9_readsOne_61 : decode cX9_readsOne 61 = .ok (.ireturn, 1) := by decide +kernel
theorem dX9_readsOne_62 : decode cX9_readsOne 62 = .ok (.iload 5, 2) := by decide +kernel
theorem dX9_readsOne_64 : decode cX9_readsOne 64 = .ok (.iconst (-1), 1) := by decide +kernel
theorem dX9_readsOne_65 : decode cX9_readsOne 65 = .ok (.if_icmp .ne 5, 3) := by decide +kernel
theorem dX9_readsOne_68 : decode cX9_readsOne 68 = .ok (.iconst 1, 1) := by decide +kernel
theorem dX9_readsOne_69 : decode cX9_readsOne 69 = .ok (.ireturn, 1) := by decide +kernel
theorem dX9_readsOne_70 : decode cX9_readsOne 70 = .ok (.iload 6, 2) := by decide +kernel
theorem dX9_readsOne_72 : decode cX9_readsOne 72 = .ok (.iconst (-1), 1) := by decide +kernel
theorem dX9_readsOne_73 : decode cX9_readsOne 73 = .ok (.if_icmp .ne 5, 3) := by decide +kernel
theorem dX9_readsOne_76 : decode cX9_readsOne 76 = .ok (.iconst 2, 1) := by decide +kernel
theorem dX9_readsOne_77 : decode cX9_readsOne 77 = .ok (.ireturn, 1) := by decide +kernel
theorem dX9_readsOne_78 : decode cX9_readsOne 78 = .ok (.iload_n 1, 1) := by decide +kernel
theorem dX9_readsOne_79 : decode cX9_readsOne 79 = .ok (.ifCond .ne 30, 3) := by decide +kernel
theorem dX9_readsOne_82 : decode cX9_readsOne 82 = .ok (.aload_n 0, 1) := by decide +kernel
theorem dX9_readsOne_83 : decode cX9_readsOne 83 = .ok (.getfield 16, 3) := by decide +kernel
theorem dX9_readsOne_86 : decode cX9_readsOne 86 = .ok (.iload_n 2, 1) := by decide +kernel
theorem dX9_readsOne_87 : decode cX9_readsOne 87 = .ok (.iload 4, 2) := by decide +kernel
theorem dX9_readsOne_89 : decode cX9_readsOne 89 = .ok (.iastore, 1) := by decide +kernel
theorem dX9_readsOne_90 : decode cX9_readsOne 90 = .ok (.aload_n 0, 1) := by decide +kernel
theorem dX9_readsOne_91 : decode cX9_readsOne 91 = .ok (.getfield 19, 3) := by decide +kernel
theorem dX9_readsOne_94 : decode cX9_readsOne 94 = .ok (.iload_n 2, 1) := by decide +kernel
theorem dX9_readsOne_95 : decode cX9_readsOne 95 = .ok (.iload 5, 2) := by decide +kernel
theorem dX9_readsOne_97 : decode cX9_readsOne 97 = .ok (.iastore, 1) := by decide +kernel
theorem dX9_readsOne_98 : decode cX9_readsOne 98 = .ok (.aload_n 0, 1) := by decide +kernel
theorem dX9_readsOne_99 : decode cX9_readsOne 99 = .ok (.getfield 22, 3) := by decide +kernel
theorem dX9_readsOne_102 : decode cX9_readsOne 102 = .ok (.iload_n 2, 1) := by decide +kernel
theorem dX9_readsOne_103 : decode cX9_readsOne 103 = .ok (.iload 6, 2) := by decide +kernel
theorem dX9_readsOne_105 : decode cX9_readsOne 105 = .ok (.iastore, 1) := by decide +kernel
theorem dX9_readsOne_106 : decode cX9_readsOne 106 = .ok (.goto 25, 3) := by decide +kernel
theorem dX9_readsOne_109 : decode cX9_readsOne 109 = .ok (.aload_n 0, 1) := by decide +kernel
theorem dX9_readsOne_110 : decode cX9_readsOne 110 = .ok (.getfield 25, 3) := by decide +kernel
theorem dX9_readsOne_113 : decode cX9_readsOne 113 = .ok (.iload_n 2, 1) := by decide +kernel
theorem dX9_readsOne_114 : decode cX9_readsOne 114 = .ok (.bipush 10, 2) := by decide +kernel
theorem dX9_readsOne_116 : decode cX9_readsOne 116 = .ok (.iload 4, 2) := by decide +kernel
theorem dX9_readsOne_118 : decode cX9_readsOne 118 = .ok (.imul, 1) := by decide +kernel
theorem dX9_readsOne_119 : decode cX9_readsOne 119 = .ok (.iload 5, 2) := by decide +kernel
theorem dX9_readsOne_121 : decode cX9_readsOne 121 = .ok (.iadd, 1) := by decide +kernel
theorem dX9_readsOne_122 : decode cX9_readsOne 122 = .ok (.iastore, 1) := by decide +kernel
theorem dX9_readsOne_123 : decode cX9_readsOne 123 = .ok (.aload_n 0, 1) := by decide +kernel
theorem dX9_readsOne_124 : decode cX9_readsOne 124 = .ok (.getfield 28, 3) := by decide +kernel
theorem dX9_readsOne_127 : decode cX9_readsOne 127 = .ok (.iload_n 2, 1) := by decide +kernel
theorem dX9_readsOne_128 : decode cX9_readsOne 128 = .ok (.iload 6, 2) := by decide +kernel
theorem dX9_readsOne_130 : decode cX9_readsOne 130 = .ok (.iastore, 1) := by decide +kernel
theorem dX9_readsOne_131 : decode cX9_readsOne 131 = .ok (.iconst 3, 1) := by decide +kernel
theorem dX9_readsOne_132 : decode cX9_readsOne 132 = .ok (.ireturn, 1) := by decide +kernel
theorem dX9_readsParts_0 : decode cX9_readsParts 0 = .ok (.iconst 0, 1) := by decide +kernel
theorem dX9_readsParts_1 : decode cX9_readsParts 1 = .ok (.istore_n 2, 1) := by decide +kernel
theorem dX9_readsParts_2 : decode cX9_readsParts 2 = .ok (.iconst 0, 1) := by decide +kernel
theorem dX9_readsParts_3 : decode cX9_readsParts 3 = .ok (.istore_n 3, 1) := by decide +kernel
theorem dX9_readsParts_4 : decode cX9_readsParts 4 = .ok (.aload_n 0, 1) := by decide +kernel
theorem dX9_readsParts_5 : decode cX9_readsParts 5 = .ok (.iload_n 1, 1) := by decide +kernel
theorem dX9_readsParts_6 : decode cX9_readsParts 6 = .ok (.ifCond .ne 7, 3) := by decide +kernel
theorem dX9_readsParts_9 : decode cX9_readsParts 9 = .ok (.iconst 0, 1) := by decide +kernel
theorem dX9_readsParts_10 : decode cX9_readsParts 10 = .ok (.goto 7, 3) := by decide +kernel
theorem dX9_readsParts_13 : decode cX9_readsParts 13 = .ok (.aload_n 0, 1) := by decide +kernel
theorem dX9_readsParts_14 : decode cX9_readsParts 14 = .ok (.getfield 117, 3) := by decide +kernel
theorem dX9_readsParts_17 : decode cX9_readsParts 17 = .ok (.putfield 117, 3) := by decide +kernel
theorem dX9_readsParts_20 : decode cX9_readsParts 20 = .ok (.aload_n 0, 1) := by decide +kernel
theorem dX9_readsParts_21 : decode cX9_readsParts 21 = .ok (.iload_n 1, 1) := by decide +kernel
theorem dX9_readsParts_22 : decode cX9_readsParts 22 = .ok (.iconst 1, 1) := by decide +kernel
theorem dX9_readsParts_23 : decode cX9_readsParts 23 = .ok (.if_icmp .ne 7, 3) := by decide +kernel
theorem dX9_readsParts_26 : decode cX9_readsParts 26 = .ok (.iconst 0, 1) := by decide +kernel
theorem dX9_readsParts_27 : decode cX9_readsParts 27 = .ok (.goto 7, 3) := by decide +kernel
theorem dX9_readsParts_30 : decode cX9_readsParts 30 = .ok (.aload_n 0, 1) := by decide +kernel
theorem dX9_readsParts_31 : decode cX9_readsParts 31 = .ok (.getfield 120, 3) := by decide +kernel
theorem dX9_readsParts_34 : decode cX9_readsParts 34 = .ok (.putfield 120, 3) := by decide +kernel
theorem dX9_readsParts_37 : decode cX9_readsParts 37 = .ok (.iload_n 3, 1) := by decide +kernel
theorem dX9_readsParts_38 : decode cX9_readsParts 38 = .ok (.aload_n 0, 1) := by decide +kernel
theorem dX9_readsParts_39 : decode cX9_readsParts 39 = .ok (.getfield 7, 3) := by decide +kernel
theorem dX9_readsParts_42 : decode cX9_readsParts 42 = .ok (.iload_n 1, 1) := by decide +kernel
theorem dX9_readsParts_43 : decode cX9_readsParts 43 = .ok (.iaload, 1) := by decide +kernel
theorem dX9_readsParts_44 : decode cX9_readsParts 44 = .ok (.if_icmp .lt 7, 3) := by decide +kernel
theorem dX9_readsParts_47 : decode cX9_readsParts 47 = .ok (.iload_n 3, 1) := by decide +kernel
theorem dX9_readsParts_48 : decode cX9_readsParts 48 = .ok (.ifCond .le 103, 3) := by decide +kernel
theorem dX9_readsParts_51 : decode cX9_readsParts 51 = .ok (.iload_n 2, 1) := by decide +kernel
theorem dX9_readsParts_52 : decode cX9_readsParts 52 = .ok (.bipush 8, 2) := by decide +kernel
theorem dX9_readsParts_54 : decode cX9_readsParts 54 = .ok (.if_icmp .ne 7, 3) := by decide +kernel
theorem dX9_readsParts_57 : decode cX9_readsParts 57 = .ok (.iconst 0, 1) := by decide +kernel
theorem dX9_readsParts_58 : decode cX9_readsParts 58 = .ok (.goto 10, 3) := by decide +kernel
theorem dX9_readsParts_61 : decode cX9_readsParts 61 = .ok (.aload_n 0, 1) := by decide +kernel
theorem dX9_readsParts_62 : decode cX9_readsParts 62 = .ok (.iload_n 1, 1) := by decide +kernel
theorem dX9_readsParts_63 : decode cX9_readsParts 63 = .ok (.iload_n 2, 1) := by decide +kernel
theorem dX9_readsParts_64 : decode cX9_readsParts 64 = .ok (.iload_n 3, 1) := by decide +kernel
theorem dX9_readsParts_65 : decode cX9_readsParts 65 = .ok (.invokevirtual 123, 3) := by decide +kernel
theorem dX9_readsParts_68 : decode cX9_readsParts 68 = .ok (.istore 4, 2) := by decide +kernel
theorem dX9_readsParts_70 : decode cX9_readsParts 70 = .ok (.iload 4, 2) := by decide +kernel
theorem dX9_readsParts_72 : decode cX9_readsParts 72 = .ok (.iconst 3, 1) := by decide +kernel
theorem dX9_readsParts_73 : decode cX9_readsParts 73 = .ok (.if_icmp .ge 8, 3) := by decide +kernel
theorem dX9_readsParts_76 : decode cX9_readsParts 76 = .ok (.iload_n 3, 1) := by decide +kernel
theorem dX9_readsParts_77 : decode cX9_readsParts 77 = .ok (.iload 4, 2) := by decide +kernel
theorem dX9_readsParts_79 : decode cX9_readsParts 79 = .ok (.iadd, 1) := by decide +kernel
theorem dX9_readsParts_80 : decode cX9_readsParts 80 = .ok (.ireturn, 1) := by decide +kernel
theorem dX9_readsParts_81 : decode cX9_readsParts 81 = .ok (.iinc 2 1, 3) := by decide +kernel
theorem dX9_readsParts_84 : decode cX9_readsParts 84 = .ok (.iinc 3 3, 3) := by decide +kernel
theorem dX9_readsParts_87 : decode cX9_readsParts 87 = .ok (.iload_n 3, 1) := by decide +kernel
theorem dX9_readsParts_88 : decode cX9_readsParts 88 = .ok (.aload_n 0, 1) := by decide +kernel
theorem dX9_readsParts_89 : decode cX9_readsParts 89 = .ok (.getfield 7, 3) := by decide +kernel
theorem dX9_readsParts_92 : decode cX9_readsParts 92 = .ok (.iload_n 1, 1) := by decide +kernel
theorem dX9_readsParts_93 : decode cX9_readsParts 93 = .ok (.iaload, 1) := by decide +kernel
theorem dX9_readsParts_94 : decode cX9_readsParts 94 = .ok (.if_icmp .ne 38, 3) := by decide +kernel
theorem dX9_readsParts_97 : decode cX9_readsParts 97 = .ok (.aload_n 0, 1) := by decide +kernel
theorem dX9_readsParts_98 : decode cX9_readsParts 98 = .ok (.iload_n 1, 1) := by decide +kernel
theorem dX9_readsParts_99 : decode cX9_readsParts 99 = .ok (.ifCond .ne 7, 3) := by decide +kernel
theorem dX9_readsParts_102 : decode cX9_readsParts 102 = .ok (.iload_n 2, 1) := by decide +kernel
theorem dX9_readsParts_103 : decode cX9_readsParts 103 = .ok (.goto 7, 3) := by decide +kernel
theorem dX9_readsParts_106 : decode cX9_readsParts 106 = .ok (.aload_n 0, 1) := by decide +kernel
theorem dX9_readsParts_107 : decode cX9_readsParts 107 = .ok (.getfield 117, 3) := by decide +kernel
theorem dX9_readsParts_110 : decode cX9_readsParts 110 = .ok (.putfield 117, 3) := by decide +kernel
theorem dX9_readsParts_113 : decode cX9_readsParts 113 = .ok (.aload_n 0, 1) := by decide +kernel
theorem dX9_readsParts_114 : decode cX9_readsParts 114 = .ok (.iload_n 1, 1) := by decide +kernel
theorem dX9_readsParts_115 : decode cX9_readsParts 115 = .ok (.iconst 1, 1) := by decide +kernel
theorem dX9_readsParts_116 : decode cX9_readsParts 116 = .ok (.if_icmp .ne 7, 3) := by decide +kernel
theorem dX9_readsParts_119 : decode cX9_readsParts 119 = .ok (.iload_n 2, 1) := by decide +kernel
theorem dX9_readsParts_120 : decode cX9_readsParts 120 = .ok (.goto 7, 3) := by decide +kernel
theorem dX9_readsParts_123 : decode cX9_readsParts 123 = .ok (.aload_n 0, 1) := by decide +kernel
theorem dX9_readsParts_124 : decode cX9_readsParts 124 = .ok (.getfield 120, 3) := by decide +kernel
theorem dX9_readsParts_127 : decode cX9_readsParts 127 = .ok (.putfield 120, 3) := by decide +kernel
theorem dX9_readsParts_130 : decode cX9_readsParts 130 = .ok (.iconst (-1), 1) := by decide +kernel
theorem dX9_readsParts_131 : decode cX9_readsParts 131 = .ok (.ireturn, 1) := by decide +kernel
theorem dX9_readsParts_132 : decode cX9_readsParts 132 = .ok (.aload_n 0, 1) := by decide +kernel
theorem dX9_readsParts_133 : decode cX9_readsParts 133 = .ok (.iload_n 1, 1) := by decide +kernel
theorem dX9_readsParts_134 : decode cX9_readsParts 134 = .ok (.iload_n 3, 1) := by decide +kernel
theorem dX9_readsParts_135 : decode cX9_readsParts 135 = .ok (.invokevirtual 109, 3) := by decide +kernel
theorem dX9_readsParts_138 : decode cX9_readsParts 138 = .ok (.bipush 59, 2) := by decide +kernel
theorem dX9_readsParts_140 : decode cX9_readsParts 140 = .ok (.if_icmp .eq 5, 3) := by decide +kernel
theorem dX9_readsParts_143 : decode cX9_readsParts 143 = .ok (.iload_n 3, 1) := by decide +kernel
theorem dX9_readsParts_144 : decode cX9_readsParts 144 = .ok (.ireturn, 1) := by decide +kernel
theorem dX9_readsParts_145 : decode cX9_readsParts 145 = .ok (.iinc 3 1, 3) := by decide +kernel
theorem dX9_readsParts_148 : decode cX9_readsParts 148 = .ok (.goto (-111), 3) := by decide +kernel
theorem dX9_readsParts_151 : decode cX9_readsParts 151 = .ok (.iconst (-1), 1) := by decide +kernel
theorem dX9_readsParts_152 : decode cX9_readsParts 152 = .ok (.ireturn, 1) := by decide +kernel
theorem dX9_readsStops_0 : decode cX9_readsStops 0 = .ok (.aload_n 0, 1) := by decide +kernel
theorem dX9_readsStops_1 : decode cX9_readsStops 1 = .ok (.iconst 0, 1) := by decide +kernel
theorem dX9_readsStops_2 : decode cX9_readsStops 2 = .ok (.putfield 127, 3) := by decide +kernel
theorem dX9_readsStops_5 : decode cX9_readsStops 5 = .ok (.iconst 0, 1) := by decide +kernel
theorem dX9_readsStops_6 : decode cX9_readsStops 6 = .ok (.istore_n 1, 1) := by decide +kernel
theorem dX9_readsStops_7 : decode cX9_readsStops 7 = .ok (.iload_n 1, 1) := by decide +kernel
theorem dX9_readsStops_8 : decode cX9_readsStops 8 = .ok (.aload_n 0, 1) := by decide +kernel
theorem dX9_readsStops_9 : decode cX9_readsStops 9 = .ok (.getfield 7, 3) := by decide +kernel
theorem dX9_readsStops_12 : decode cX9_readsStops 12 = .ok (.iconst 2, 1) := by decide +kernel
theorem dX9_readsStops_13 : decode cX9_readsStops 13 = .ok (.iaload, 1) := by decide +kernel
theorem dX9_readsStops_14 : decode cX9_readsStops 14 = .ok (.if_icmp .ge 33, 3) := by decide +kernel
theorem dX9_readsStops_17 : decode cX9_readsStops 17 = .ok (.aload_n 0, 1) := by decide +kernel
theorem dX9_readsStops_18 : decode cX9_readsStops 18 = .ok (.iconst 2, 1) := by decide +kernel
theorem dX9_readsStops_19 : decode cX9_readsStops 19 = .ok (.iload_n 1, 1) := by decide +kernel
theorem dX9_readsStops_20 : decode cX9_readsStops 20 = .ok (.iconst 0, 1) := by decide +kernel
theorem dX9_readsStops_21 : decode cX9_readsStops 21 = .ok (.bipush 9, 2) := by decide +kernel
theorem dX9_readsStops_23 : decode cX9_readsStops 23 = .ok (.invokevirtual 113, 3) := by decide +kernel
theorem dX9_readsStops_26 : decode cX9_readsStops 26 = .ok (.istore_n 2, 1) := by decide +kernel
theorem dX9_readsStops_27 : decode cX9_readsStops 27 = .ok (.iload_n 2, 1) := by decide +kernel
theorem dX9_readsStops_28 : decode cX9_readsStops 28 = .ok (.iconst (-1), 1) := by decide +kernel
theorem dX9_readsStops_29 : decode cX9_readsStops 29 = .ok (.if_icmp .ne 5, 3) := by decide +kernel
theorem dX9_readsStops_32 : decode cX9_readsStops 32 = .ok (.iload_n 1, 1) := by decide +kernel
theorem dX9_readsStops_33 : decode cX9_readsStops 33 = .ok (.ireturn, 1) := by decide +kernel
theorem dX9_readsStops_34 : decode cX9_readsStops 34 = .ok (.aload_n 0, 1) := by decide +kernel
theorem dX9_readsStops_35 : decode cX9_readsStops 35 = .ok (.getfield 31, 3) := by decide +kernel
theorem dX9_readsStops_38 : decode cX9_readsStops 38 = .ok (.iload_n 1, 1) := by decide +kernel
theorem dX9_readsStops_39 : decode cX9_readsStops 39 = .ok (.iload_n 2, 1) := by decide +kernel
theorem dX9_readsStops_40 : decode cX9_readsStops 40 = .ok (.iastore, 1) := by decide +kernel
theorem dX9_readsStops_41 : decode cX9_readsStops 41 = .ok (.iinc 1 1, 3) := by decide +kernel
theorem dX9_readsStops_44 : decode cX9_readsStops 44 = .ok (.goto (-37), 3) := by decide +kernel
theorem dX9_readsStops_47 : decode cX9_readsStops 47 = .ok (.aload_n 0, 1) := by decide +kernel
theorem dX9_readsStops_48 : decode cX9_readsStops 48 = .ok (.aload_n 0, 1) := by decide +kernel
theorem dX9_readsStops_49 : decode cX9_readsStops 49 = .ok (.getfield 7, 3) := by decide +kernel
theorem dX9_readsStops_52 : decode cX9_readsStops 52 = .ok (.iconst 2, 1) := by decide +kernel
theorem dX9_readsStops_53 : decode cX9_readsStops 53 = .ok (.iaload, 1) := by decide +kernel
theorem dX9_readsStops_54 : decode cX9_readsStops 54 = .ok (.putfield 127, 3) := by decide +kernel
theorem dX9_readsStops_57 : decode cX9_readsStops 57 = .ok (.iconst (-1), 1) := by decide +kernel
theorem dX9_readsStops_58 : decode cX9_readsStops 58 = .ok (.ireturn, 1) := by decide +kernel
theorem dX9_faultOf_0 : decode cX9_faultOf 0 = .ok (.aload_n 0, 1) := by decide +kernel
theorem dX9_faultOf_1 : decode cX9_faultOf 1 = .ok (.iconst 0, 1) := by decide +kernel
theorem dX9_faultOf_2 : decode cX9_faultOf 2 = .ok (.invokevirtual 130, 3) := by decide +kernel
theorem dX9_faultOf_5 : decode cX9_faultOf 5 = .ok (.istore_n 2, 1) := by decide +kernel
theorem dX9_faultOf_6 : decode cX9_faultOf 6 = .ok (.aload_n 0, 1) := by decide +kernel
theorem dX9_faultOf_7 : decode cX9_faultOf 7 = .ok (.iconst 1, 1) := by decide +kernel
theorem dX9_faultOf_8 : decode cX9_faultOf 8 = .ok (.invokevirtual 130, 3) := by decide +kernel
theorem dX9_faultOf_11 : decode cX9_faultOf 11 = .ok (.istore_n 3, 1) := by decide +kernel
theorem dX9_faultOf_12 : decode cX9_faultOf 12 = .ok (.aload_n 0, 1) := by decide +kernel
theorem dX9_faultOf_13 : decode cX9_faultOf 13 = .ok (.invokevirtual 134, 3) := by decide +kernel
theorem dX9_faultOf_16 : decode cX9_faultOf 16 = .ok (.istore 4, 2) := by decide +kernel
theorem dX9_faultOf_18 : decode cX9_faultOf 18 = .ok (.iload_n 1, 1) := by decide +kernel
theorem dX9_faultOf_19 : decode cX9_faultOf 19 = .ok (.ifCond .ne 7, 3) := by decide +kernel
theorem dX9_faultOf_22 : decode cX9_faultOf 22 = .ok (.iload_n 2, 1) := by decide +kernel
theorem dX9_faultOf_23 : decode cX9_faultOf 23 = .ok (.goto 14, 3) := by decide +kernel
theorem dX9_faultOf_26 : decode cX9_faultOf 26 = .ok (.iload_n 1, 1) := by decide +kernel
theorem dX9_faultOf_27 : decode cX9_faultOf 27 = .ok (.iconst 1, 1) := by decide +kernel
theorem dX9_faultOf_28 : decode cX9_faultOf 28 = .ok (.if_icmp .ne 7, 3) := by decide +kernel
theorem dX9_faultOf_31 : decode cX9_faultOf 31 = .ok (.iload_n 3, 1) := by decide +kernel
theorem dX9_faultOf_32 : decode cX9_faultOf 32 = .ok (.goto 5, 3) := by decide +kernel
theorem dX9_faultOf_35 : decode cX9_faultOf 35 = .ok (.iload 4, 2) := by decide +kernel
theorem dX9_faultOf_37 : decode cX9_faultOf 37 = .ok (.ireturn, 1) := by decide +kernel
theorem dX9_reads_0 : decode cX9_reads 0 = .ok (.aload_n 0, 1) := by decide +kernel
theorem dX9_reads_1 : decode cX9_reads 1 = .ok (.iconst 0, 1) := by decide +kernel
theorem dX9_reads_2 : decode cX9_reads 2 = .ok (.invokevirtual 138, 3) := by decide +kernel
theorem dX9_reads_5 : decode cX9_reads 5 = .ok (.istore_n 1, 1) := by decide +kernel
theorem dX9_reads_6 : decode cX9_reads 6 = .ok (.return_, 1) := by decide +kernel
theorem dX9_fault_0 : decode cX9_fault 0 = .ok (.iload_n 1, 1) := by decide +kernel
theorem dX9_fault_1 : decode cX9_fault 1 = .ok (.invokestatic 105, 3) := by decide +kernel
theorem dX9_fault_4 : decode cX9_fault 4 = .ok (.ifCond .eq 11, 3) := by decide +kernel
theorem dX9_fault_7 : decode cX9_fault 7 = .ok (.aload_n 0, 1) := by decide +kernel
theorem dX9_fault_8 : decode cX9_fault 8 = .ok (.iload_n 1, 1) := by decide +kernel
theorem dX9_fault_9 : decode cX9_fault 9 = .ok (.invokevirtual 138, 3) := by decide +kernel
theorem dX9_fault_12 : decode cX9_fault 12 = .ok (.goto 5, 3) := by decide +kernel
theorem dX9_fault_15 : decode cX9_fault 15 = .ok (.bipush (-2), 2) := by decide +kernel
theorem dX9_fault_17 : decode cX9_fault 17 = .ok (.ireturn, 1) := by decide +kernel
theorem dX9_isRider_0 : decode cX9_isRider 0 = .ok (.aload_n 0, 1) := by decide +kernel
theorem dX9_isRider_1 : decode cX9_isRider 1 = .ok (.invokevirtual 141, 3) := by decide +kernel
theorem dX9_isRider_4 : decode cX9_isRider 4 = .ok (.iload_n 1, 1) := by decide +kernel
theorem dX9_isRider_5 : decode cX9_isRider 5 = .ok (.iconst 0, 1) := by decide +kernel
theorem dX9_isRider_6 : decode cX9_isRider 6 = .ok (.aload_n 0, 1) := by decide +kernel
theorem dX9_isRider_7 : decode cX9_isRider 7 = .ok (.getfield 117, 3) := by decide +kernel
theorem dX9_isRider_10 : decode cX9_isRider 10 = .ok (.iconst 1, 1) := by decide +kernel
theorem dX9_isRider_11 : decode cX9_isRider 11 = .ok (.isub, 1) := by decide +kernel
theorem dX9_isRider_12 : decode cX9_isRider 12 = .ok (.invokestatic 101, 3) := by decide +kernel
theorem dX9_isRider_15 : decode cX9_isRider 15 = .ok (.ireturn, 1) := by decide +kernel
theorem dX9_isLeaver_0 : decode cX9_isLeaver 0 = .ok (.aload_n 0, 1) := by decide +kernel
theorem dX9_isLeaver_1 : decode cX9_isLeaver 1 = .ok (.invokevirtual 141, 3) := by decide +kernel
theorem dX9_isLeaver_4 : decode cX9_isLeaver 4 = .ok (.iload_n 1, 1) := by decide +kernel
theorem dX9_isLeaver_5 : decode cX9_isLeaver 5 = .ok (.iconst 0, 1) := by decide +kernel
theorem dX9_isLeaver_6 : decode cX9_isLeaver 6 = .ok (.aload_n 0, 1) := by decide +kernel
theorem dX9_isLeaver_7 : decode cX9_isLeaver 7 = .ok (.getfield 120, 3) := by decide +kernel
theorem dX9_isLeaver_10 : decode cX9_isLeaver 10 = .ok (.iconst 1, 1) := by decide +kernel
theorem dX9_isLeaver_11 : decode cX9_isLeaver 11 = .ok (.isub, 1) := by decide +kernel
theorem dX9_isLeaver_12 : decode cX9_isLeaver 12 = .ok (.invokestatic 101, 3) := by decide +kernel
theorem dX9_isLeaver_15 : decode cX9_isLeaver 15 = .ok (.ireturn, 1) := by decide +kernel
theorem dX9_riderOf_0 : decode cX9_riderOf 0 = .ok (.iload_n 2, 1) := by decide +kernel
theorem dX9_riderOf_1 : decode cX9_riderOf 1 = .ok (.ifCond .ne 12, 3) := by decide +kernel
theorem dX9_riderOf_4 : decode cX9_riderOf 4 = .ok (.aload_n 0, 1) := by decide +kernel
theorem dX9_riderOf_5 : decode cX9_riderOf 5 = .ok (.getfield 16, 3) := by decide +kernel
theorem dX9_riderOf_8 : decode cX9_riderOf 8 = .ok (.iload_n 1, 1) := by decide +kernel
theorem dX9_riderOf_9 : decode cX9_riderOf 9 = .ok (.iaload, 1) := by decide +kernel
theorem dX9_riderOf_10 : decode cX9_riderOf 10 = .ok (.goto 23, 3) := by decide +kernel
theorem dX9_riderOf_13 : decode cX9_riderOf 13 = .ok (.iload_n 2, 1) := by decide +kernel
theorem dX9_riderOf_14 : decode cX9_riderOf 14 = .ok (.iconst 1, 1) := by decide +kernel
theorem dX9_riderOf_15 : decode cX9_riderOf 15 = .ok (.if_icmp .ne 12, 3) := by decide +kernel
theorem dX9_riderOf_18 : decode cX9_riderOf 18 = .ok (.aload_n 0, 1) := by decide +kernel
theorem dX9_riderOf_19 : decode cX9_riderOf 19 = .ok (.getfield 19, 3) := by decide +kernel
theorem dX9_riderOf_22 : decode cX9_riderOf 22 = .ok (.iload_n 1, 1) := by decide +kernel
theorem dX9_riderOf_23 : decode cX9_riderOf 23 = .ok (.iaload, 1) := by decide +kernel
theorem dX9_riderOf_24 : decode cX9_riderOf 24 = .ok (.goto 9, 3) := by decide +kernel
theorem dX9_riderOf_27 : decode cX9_riderOf 27 = .ok (.aload_n 0, 1) := by decide +kernel
theorem dX9_riderOf_28 : decode cX9_riderOf 28 = .ok (.getfield 22, 3) := by decide +kernel
theorem dX9_riderOf_31 : decode cX9_riderOf 31 = .ok (.iload_n 1, 1) := by decide +kernel
theorem dX9_riderOf_32 : decode cX9_riderOf 32 = .ok (.iaload, 1) := by decide +kernel
theorem dX9_riderOf_33 : decode cX9_riderOf 33 = .ok (.ireturn, 1) := by decide +kernel
theorem dX9_rider_0 : decode cX9_rider 0 = .ok (.aload_n 0, 1) := by decide +kernel
theorem dX9_rider_1 : decode cX9_rider 1 = .ok (.iload_n 1, 1) := by decide +kernel
theorem dX9_rider_2 : decode cX9_rider 2 = .ok (.invokevirtual 144, 3) := by decide +kernel
theorem dX9_rider_5 : decode cX9_rider 5 = .ok (.ifCond .eq 21, 3) := by decide +kernel
theorem dX9_rider_8 : decode cX9_rider 8 = .ok (.iload_n 2, 1) := by decide +kernel
theorem dX9_rider_9 : decode cX9_rider 9 = .ok (.iconst 0, 1) := by decide +kernel
theorem dX9_rider_10 : decode cX9_rider 10 = .ok (.iconst 2, 1) := by decide +kernel
theorem dX9_rider_11 : decode cX9_rider 11 = .ok (.invokestatic 101, 3) := by decide +kernel
theorem dX9_rider_14 : decode cX9_rider 14 = .ok (.ifCond .eq 12, 3) := by decide +kernel
theorem dX9_rider_17 : decode cX9_rider 17 = .ok (.aload_n 0, 1) := by decide +kernel
theorem dX9_rider_18 : decode cX9_rider 18 = .ok (.iload_n 1, 1) := by decide +kernel
theorem dX9_rider_19 : decode cX9_rider 19 = .ok (.iload_n 2, 1) := by decide +kernel
theorem dX9_rider_20 : decode cX9_rider 20 = .ok (.invokevirtual 147, 3) := by decide +kernel
theorem dX9_rider_23 : decode cX9_rider 23 = .ok (.goto 5, 3) := by decide +kernel
theorem dX9_rider_26 : decode cX9_rider 26 = .ok (.bipush (-2), 2) := by decide +kernel
theorem dX9_rider_28 : decode cX9_rider 28 = .ok (.ireturn, 1) := by decide +kernel
theorem dX9_leaver_0 : decode cX9_leaver 0 = .ok (.aload_n 0, 1) := by decide +kernel
theorem dX9_leaver_1 : decode cX9_leaver 1 = .ok (.iload_n 1, 1) := by decide +kernel
theorem dX9_leaver_2 : decode cX9_leaver 2 = .ok (.invokevirtual 150, 3) := by decide +kernel
theorem dX9_leaver_5 : decode cX9_leaver 5 = .ok (.ifCond .eq 34, 3) := by decide +kernel
theorem dX9_leaver_8 : decode cX9_leaver 8 = .ok (.iload_n 2, 1) := by decide +kernel
theorem dX9_leaver_9 : decode cX9_leaver 9 = .ok (.iconst 0, 1) := by decide +kernel
theorem dX9_leaver_10 : decode cX9_leaver 10 = .ok (.iconst 1, 1) := by decide +kernel
theorem dX9_leaver_11 : decode cX9_leaver 11 = .ok (.invokestatic 101, 3) := by decide +kernel
theorem dX9_leaver_14 : decode cX9_leaver 14 = .ok (.ifCond .eq 25, 3) := by decide +kernel
theorem dX9_leaver_17 : decode cX9_leaver 17 = .ok (.iload_n 2, 1) := by decide +kernel
theorem dX9_leaver_18 : decode cX9_leaver 18 = .ok (.ifCond .ne 12, 3) := by decide +kernel
theorem dX9_leaver_21 : decode cX9_leaver 21 = .ok (.aload_n 0, 1) := by decide +kernel
theorem dX9_leaver_22 : decode cX9_leaver 22 = .ok (.getfield 25, 3) := by decide +kernel
theorem dX9_leaver_25 : decode cX9_leaver 25 = .ok (.iload_n 1, 1) := by decide +kernel
theorem dX9_leaver_26 : decode cX9_leaver 26 = .ok (.iaload, 1) := by decide +kernel
theorem dX9_leaver_27 : decode cX9_leaver 27 = .ok (.goto 14, 3) := by decide +kernel
theorem dX9_leaver_30 : decode cX9_leaver 30 = .ok (.aload_n 0, 1) := by decide +kernel
theorem dX9_leaver_31 : decode cX9_leaver 31 = .ok (.getfield 28, 3) := by decide +kernel
theorem dX9_leaver_34 : decode cX9_leaver 34 = .ok (.iload_n 1, 1) := by decide +kernel
theorem dX9_leaver_35 : decode cX9_leaver 35 = .ok (.iaload, 1) := by decide +kernel
theorem dX9_leaver_36 : decode cX9_leaver 36 = .ok (.goto 5, 3) := by decide +kernel
theorem dX9_leaver_39 : decode cX9_leaver 39 = .ok (.bipush (-2), 2) := by decide +kernel
theorem dX9_leaver_41 : decode cX9_leaver 41 = .ok (.ireturn, 1) := by decide +kernel
theorem dX9_stopOf_0 : decode cX9_stopOf 0 = .ok (.aload_n 0, 1) := by decide +kernel
theorem dX9_stopOf_1 : decode cX9_stopOf 1 = .ok (.invokevirtual 141, 3) := by decide +kernel
theorem dX9_stopOf_4 : decode cX9_stopOf 4 = .ok (.iload_n 1, 1) := by decide +kernel
theorem dX9_stopOf_5 : decode cX9_stopOf 5 = .ok (.aload_n 0, 1) := by decide +kernel
theorem dX9_stopOf_6 : decode cX9_stopOf 6 = .ok (.getfield 127, 3) := by decide +kernel
theorem dX9_stopOf_9 : decode cX9_stopOf 9 = .ok (.if_icmp .ge 12, 3) := by decide +kernel
theorem dX9_stopOf_12 : decode cX9_stopOf 12 = .ok (.aload_n 0, 1) := by decide +kernel
theorem dX9_stopOf_13 : decode cX9_stopOf 13 = .ok (.getfield 31, 3) := by decide +kernel
theorem dX9_stopOf_16 : decode cX9_stopOf 16 = .ok (.iload_n 1, 1) := by decide +kernel
theorem dX9_stopOf_17 : decode cX9_stopOf 17 = .ok (.iaload, 1) := by decide +kernel
theorem dX9_stopOf_18 : decode cX9_stopOf 18 = .ok (.goto 4, 3) := by decide +kernel
theorem dX9_stopOf_21 : decode cX9_stopOf 21 = .ok (.iconst (-1), 1) := by decide +kernel
theorem dX9_stopOf_22 : decode cX9_stopOf 22 = .ok (.ireturn, 1) := by decide +kernel
theorem dX9_stop_0 : decode cX9_stop 0 = .ok (.iload_n 1, 1) := by decide +kernel
theorem dX9_stop_1 : decode cX9_stop 1 = .ok (.iconst 0, 1) := by decide +kernel
theorem dX9_stop_2 : decode cX9_stop 2 = .ok (.bipush 19, 2) := by decide +kernel
theorem dX9_stop_4 : decode cX9_stop 4 = .ok (.invokestatic 101, 3) := by decide +kernel
theorem dX9_stop_7 : decode cX9_stop 7 = .ok (.ifCond .eq 11, 3) := by decide +kernel
theorem dX9_stop_10 : decode cX9_stop 10 = .ok (.aload_n 0, 1) := by decide +kernel
theorem dX9_stop_11 : decode cX9_stop 11 = .ok (.iload_n 1, 1) := by decide +kernel
theorem dX9_stop_12 : decode cX9_stop 12 = .ok (.invokevirtual 153, 3) := by decide +kernel
theorem dX9_stop_15 : decode cX9_stop 15 = .ok (.goto 5, 3) := by decide +kernel
theorem dX9_stop_18 : decode cX9_stop 18 = .ok (.bipush (-2), 2) := by decide +kernel
theorem dX9_stop_20 : decode cX9_stop 20 = .ok (.ireturn, 1) := by decide +kernel
theorem dX9_set_0 : decode cX9_set 0 = .ok (.iload_n 1, 1) := by decide +kernel
theorem dX9_set_1 : decode cX9_set 1 = .ok (.iconst 0, 1) := by decide +kernel
theorem dX9_set_2 : decode cX9_set 2 = .ok (.iconst 1, 1) := by decide +kernel
theorem dX9_set_3 : decode cX9_set 3 = .ok (.invokestatic 101, 3) := by decide +kernel
theorem dX9_set_6 : decode cX9_set 6 = .ok (.ifCond .eq 22, 3) := by decide +kernel
theorem dX9_set_9 : decode cX9_set 9 = .ok (.iload_n 2, 1) := by decide +kernel
theorem dX9_set_10 : decode cX9_set 10 = .ok (.iload_n 1, 1) := by decide +kernel
theorem dX9_set_11 : decode cX9_set 11 = .ok (.iload_n 1, 1) := by decide +kernel
theorem dX9_set_12 : decode cX9_set 12 = .ok (.ifCond .ne 8, 3) := by decide +kernel
theorem dX9_set_15 : decode cX9_set 15 = .ok (.bipush 8, 2) := by decide +kernel
theorem dX9_set_17 : decode cX9_set 17 = .ok (.goto 5, 3) := by decide +kernel
theorem dX9_set_20 : decode cX9_set 20 = .ok (.bipush 60, 2) := by decide +kernel
theorem dX9_set_22 : decode cX9_set 22 = .ok (.invokestatic 101, 3) := by decide +kernel
theorem dX9_set_25 : decode cX9_set 25 = .ok (.ifCond .ne 6, 3) := by decide +kernel
theorem dX9_set_28 : decode cX9_set 28 = .ok (.bipush (-2), 2) := by decide +kernel
theorem dX9_set_30 : decode cX9_set 30 = .ok (.ireturn, 1) := by decide +kernel
theorem dX9_set_31 : decode cX9_set 31 = .ok (.iload_n 1, 1) := by decide +kernel
theorem dX9_set_32 : decode cX9_set 32 = .ok (.ifCond .ne 10, 3) := by decide +kernel
theorem dX9_set_35 : decode cX9_set 35 = .ok (.aload_n 0, 1) := by decide +kernel
theorem dX9_set_36 : decode cX9_set 36 = .ok (.getfield 92, 3) := by decide +kernel
theorem dX9_set_39 : decode cX9_set 39 = .ok (.goto 7, 3) := by decide +kernel
theorem dX9_set_42 : decode cX9_set 42 = .ok (.aload_n 0, 1) := by decide +kernel
theorem dX9_set_43 : decode cX9_set 43 = .ok (.getfield 96, 3) := by decide +kernel
theorem dX9_set_46 : decode cX9_set 46 = .ok (.istore_n 3, 1) := by decide +kernel
theorem dX9_set_47 : decode cX9_set 47 = .ok (.aload_n 0, 1) := by decide +kernel
theorem dX9_set_48 : decode cX9_set 48 = .ok (.iload_n 1, 1) := by decide +kernel
theorem dX9_set_49 : decode cX9_set 49 = .ok (.ifCond .ne 7, 3) := by decide +kernel
theorem dX9_set_52 : decode cX9_set 52 = .ok (.iload_n 2, 1) := by decide +kernel
theorem dX9_set_53 : decode cX9_set 53 = .ok (.goto 7, 3) := by decide +kernel
theorem dX9_set_56 : decode cX9_set 56 = .ok (.aload_n 0, 1) := by decide +kernel
theorem dX9_set_57 : decode cX9_set 57 = .ok (.getfield 92, 3) := by decide +kernel
theorem dX9_set_60 : decode cX9_set 60 = .ok (.putfield 92, 3) := by decide +kernel
theorem dX9_set_63 : decode cX9_set 63 = .ok (.aload_n 0, 1) := by decide +kernel
theorem dX9_set_64 : decode cX9_set 64 = .ok (.iload_n 1, 1) := by decide +kernel
theorem dX9_set_65 : decode cX9_set 65 = .ok (.iconst 1, 1) := by decide +kernel
theorem dX9_set_66 : decode cX9_set 66 = .ok (.if_icmp .ne 7, 3) := by decide +kernel
theorem dX9_set_69 : decode cX9_set 69 = .ok (.iload_n 2, 1) := by decide +kernel
theorem dX9_set_70 : decode cX9_set 70 = .ok (.goto 7, 3) := by decide +kernel
theorem dX9_set_73 : decode cX9_set 73 = .ok (.aload_n 0, 1) := by decide +kernel
theorem dX9_set_74 : decode cX9_set 74 = .ok (.getfield 96, 3) := by decide +kernel
theorem dX9_set_77 : decode cX9_set 77 = .ok (.putfield 96, 3) := by decide +kernel
theorem dX9_set_80 : decode cX9_set 80 = .ok (.iload_n 3, 1) := by decide +kernel
theorem dX9_set_81 : decode cX9_set 81 = .ok (.ireturn, 1) := by decide +kernel
theorem dX9_load_0 : decode cX9_load 0 = .ok (.iconst 0, 1) := by decide +kernel
theorem dX9_load_1 : decode cX9_load 1 = .ok (.istore_n 1, 1) := by decide +kernel
theorem dX9_load_2 : decode cX9_load 2 = .ok (.iconst 0, 1) := by decide +kernel
theorem dX9_load_3 : decode cX9_load 3 = .ok (.istore_n 2, 1) := by decide +kernel
theorem dX9_load_4 : decode cX9_load 4 = .ok (.iload_n 2, 1) := by decide +kernel
theorem dX9_load_5 : decode cX9_load 5 = .ok (.bipush 8, 2) := by decide +kernel
theorem dX9_load_7 : decode cX9_load 7 = .ok (.if_icmp .ge 64, 3) := by decide +kernel
theorem dX9_load_10 : decode cX9_load 10 = .ok (.iload_n 1, 1) := by decide +kernel
theorem dX9_load_11 : decode cX9_load 11 = .ok (.aload_n 0, 1) := by decide +kernel
theorem dX9_load_12 : decode cX9_load 12 = .ok (.getfield 156, 3) := by decide +kernel
theorem dX9_load_15 : decode cX9_load 15 = .ok (.iload_n 2, 1) := by decide +kernel
theorem dX9_load_16 : decode cX9_load 16 = .ok (.invokestatic 159, 3) := by decide +kernel
theorem dX9_load_19 : decode cX9_load 19 = .ok (.ifCond .eq 12, 3) := by decide +kernel
theorem dX9_load_22 : decode cX9_load 22 = .ok (.aload_n 0, 1) := by decide +kernel
theorem dX9_load_23 : decode cX9_load 23 = .ok (.getfield 16, 3) := by decide +kernel
theorem dX9_load_26 : decode cX9_load 26 = .ok (.iload_n 2, 1) := by decide +kernel
theorem dX9_load_27 : decode cX9_load 27 = .ok (.iaload, 1) := by decide +kernel
theorem dX9_load_28 : decode cX9_load 28 = .ok (.goto 4, 3) := by decide +kernel
theorem dX9_load_31 : decode cX9_load 31 = .ok (.iconst 0, 1) := by decide +kernel
theorem dX9_load_32 : decode cX9_load 32 = .ok (.iadd, 1) := by decide +kernel
theorem dX9_load_33 : decode cX9_load 33 = .ok (.istore_n 1, 1) := by decide +kernel
theorem dX9_load_34 : decode cX9_load 34 = .ok (.iload_n 1, 1) := by decide +kernel
theorem dX9_load_35 : decode cX9_load 35 = .ok (.aload_n 0, 1) := by decide +kernel
theorem dX9_load_36 : decode cX9_load 36 = .ok (.getfield 163, 3) := by decide +kernel
theorem dX9_load_39 : decode cX9_load 39 = .ok (.iload_n 2, 1) := by decide +kernel
theorem dX9_load_40 : decode cX9_load 40 = .ok (.invokestatic 159, 3) := by decide +kernel
theorem dX9_load_43 : decode cX9_load 43 = .ok (.ifCond .eq 19, 3) := by decide +kernel
theorem dX9_load_46 : decode cX9_load 46 = .ok (.aload_n 0, 1) := by decide +kernel
theorem dX9_load_47 : decode cX9_load 47 = .ok (.getfield 16, 3) := by decide +kernel
theorem dX9_load_50 : decode cX9_load 50 = .ok (.aload_n 0, 1) := by decide +kernel
theorem dX9_load_51 : decode cX9_load 51 = .ok (.getfield 28, 3) := by decide +kernel
theorem dX9_load_54 : decode cX9_load 54 = .ok (.iload_n 2, 1) := by decide +kernel
theorem dX9_load_55 : decode cX9_load 55 = .ok (.iaload, 1) := by decide +kernel
theorem dX9_load_56 : decode cX9_load 56 = .ok (.iaload, 1) := by decide +kernel
theorem dX9_load_57 : decode cX9_load 57 = .ok (.iconst 2, 1) := by decide +kernel
theorem dX9_load_58 : decode cX9_load 58 = .ok (.idiv, 1) := by decide +kernel
theorem dX9_load_59 : decode cX9_load 59 = .ok (.goto 4, 3) := by decide +kernel
theorem dX9_load_62 : decode cX9_load 62 = .ok (.iconst 0, 1) := by decide +kernel
theorem dX9_load_63 : decode cX9_load 63 = .ok (.iadd, 1) := by decide +kernel
theorem dX9_load_64 : decode cX9_load 64 = .ok (.istore_n 1, 1) := by decide +kernel
theorem dX9_load_65 : decode cX9_load 65 = .ok (.iinc 2 1, 3) := by decide +kernel
theorem dX9_load_68 : decode cX9_load 68 = .ok (.goto (-64), 3) := by decide +kernel
theorem dX9_load_71 : decode cX9_load 71 = .ok (.iload_n 1, 1) := by decide +kernel
theorem dX9_load_72 : decode cX9_load 72 = .ok (.ireturn, 1) := by decide +kernel
theorem dX9_notes_0 : decode cX9_notes 0 = .ok (.aload_n 0, 1) := by decide +kernel
theorem dX9_notes_1 : decode cX9_notes 1 = .ok (.getfield 37, 3) := by decide +kernel
theorem dX9_notes_4 : decode cX9_notes 4 = .ok (.aload_n 0, 1) := by decide +kernel
theorem dX9_notes_5 : decode cX9_notes 5 = .ok (.getfield 166, 3) := by decide +kernel
theorem dX9_notes_8 : decode cX9_notes 8 = .ok (.aload_n 0, 1) := by decide +kernel
theorem dX9_notes_9 : decode cX9_notes 9 = .ok (.getfield 169, 3) := by decide +kernel
theorem dX9_notes_12 : decode cX9_notes 12 = .ok (.iastore, 1) := by decide +kernel
theorem dX9_notes_13 : decode cX9_notes 13 = .ok (.aload_n 0, 1) := by decide +kernel
theorem dX9_notes_14 : decode cX9_notes 14 = .ok (.getfield 40, 3) := by decide +kernel
theorem dX9_notes_17 : decode cX9_notes 17 = .ok (.aload_n 0, 1) := by decide +kernel
theorem dX9_notes_18 : decode cX9_notes 18 = .ok (.getfield 166, 3) := by decide +kernel
theorem dX9_notes_21 : decode cX9_notes 21 = .ok (.aload_n 0, 1) := by decide +kernel
theorem dX9_notes_22 : decode cX9_notes 22 = .ok (.invokevirtual 172, 3) := by decide +kernel
theorem dX9_notes_25 : decode cX9_notes 25 = .ok (.iastore, 1) := by decide +kernel
theorem dX9_notes_26 : decode cX9_notes 26 = .ok (.aload_n 0, 1) := by decide +kernel
theorem dX9_notes_27 : decode cX9_notes 27 = .ok (.getfield 43, 3) := by decide +kernel
theorem dX9_notes_30 : decode cX9_notes 30 = .ok (.aload_n 0, 1) := by decide +kernel
theorem dX9_notes_31 : decode cX9_notes 31 = .ok (.getfield 166, 3) := by decide +kernel
theorem dX9_notes_34 : decode cX9_notes 34 = .ok (.aload_n 0, 1) := by decide +kernel
theorem dX9_notes_35 : decode cX9_notes 35 = .ok (.getfield 156, 3) := by decide +kernel
theorem dX9_notes_38 : decode cX9_notes 38 = .ok (.iastore, 1) := by decide +kernel
theorem dX9_notes_39 : decode cX9_notes 39 = .ok (.aload_n 0, 1) := by decide +kernel
theorem dX9_notes_40 : decode cX9_notes 40 = .ok (.getfield 46, 3) := by decide +kernel
theorem dX9_notes_43 : decode cX9_notes 43 = .ok (.aload_n 0, 1) := by decide +kernel
theorem dX9_notes_44 : decode cX9_notes 44 = .ok (.getfield 166, 3) := by decide +kernel
theorem dX9_notes_47 : decode cX9_notes 47 = .ok (.aload_n 0, 1) := by decide +kernel
theorem dX9_notes_48 : decode cX9_notes 48 = .ok (.getfield 163, 3) := by decide +kernel
theorem dX9_notes_51 : decode cX9_notes 51 = .ok (.iastore, 1) := by decide +kernel
theorem dX9_notes_52 : decode cX9_notes 52 = .ok (.iconst 0, 1) := by decide +kernel
theorem dX9_notes_53 : decode cX9_notes 53 = .ok (.istore_n 1, 1) := by decide +kernel
theorem dX9_notes_54 : decode cX9_notes 54 = .ok (.iconst 0, 1) := by decide +kernel
theorem dX9_notes_55 : decode cX9_notes 55 = .ok (.istore_n 2, 1) := by decide +kernel
theorem dX9_notes_56 : decode cX9_notes 56 = .ok (.iload_n 2, 1) := by decide +kernel
theorem dX9_notes_57 : decode cX9_notes 57 = .ok (.aload_n 0, 1) := by decide +kernel
theorem dX9_notes_58 : decode cX9_notes 58 = .ok (.getfield 117, 3) := by decide +kernel
theorem dX9_notes_61 : decode cX9_notes 61 = .ok (.if_icmp .ge 76, 3) := by decide +kernel
theorem dX9_notes_64 : decode cX9_notes 64 = .ok (.aload_n 0, 1) := by decide +kernel
theorem dX9_notes_65 : decode cX9_notes 65 = .ok (.getfield 58, 3) := by decide +kernel
theorem dX9_notes_68 : decode cX9_notes 68 = .ok (.iload_n 2, 1) := by decide +kernel
theorem dX9_notes_69 : decode cX9_notes 69 = .ok (.dup2, 1) := by decide +kernel
theorem dX9_notes_70 : decode cX9_notes 70 = .ok (.iaload, 1) := by decide +kernel
theorem dX9_notes_71 : decode cX9_notes 71 = .ok (.aload_n 0, 1) := by decide +kernel
theorem dX9_notes_72 : decode cX9_notes 72 = .ok (.getfield 156, 3) := by decide +kernel
theorem dX9_notes_75 : decode cX9_notes 75 = .ok (.iload_n 2, 1) := by decide +kernel
theorem dX9_notes_76 : decode cX9_notes 76 = .ok (.invokestatic 159, 3) := by decide +kernel
theorem dX9_notes_79 : decode cX9_notes 79 = .ok (.ifCond .eq 10, 3) := by decide +kernel
theorem dX9_notes_82 : decode cX9_notes 82 = .ok (.aload_n 0, 1) := by decide +kernel
theorem dX9_notes_83 : decode cX9_notes 83 = .ok (.getfield 163, 3) := by decide +kernel
theorem dX9_notes_86 : decode cX9_notes 86 = .ok (.goto 4, 3) := by decide +kernel
theorem dX9_notes_89 : decode cX9_notes 89 = .ok (.iconst 0, 1) := by decide +kernel
theorem dX9_notes_90 : decode cX9_notes 90 = .ok (.ior, 1) := by decide +kernel
theorem dX9_notes_91 : decode cX9_notes 91 = .ok (.iastore, 1) := by decide +kernel
theorem dX9_notes_92 : decode cX9_notes 92 = .ok (.aload_n 0, 1) := by decide +kernel
theorem dX9_notes_93 : decode cX9_notes 93 = .ok (.getfield 61, 3) := by decide +kernel
theorem dX9_notes_96 : decode cX9_notes 96 = .ok (.iload_n 2, 1) := by decide +kernel
theorem dX9_notes_97 : decode cX9_notes 97 = .ok (.dup2, 1) := by decide +kernel
theorem dX9_notes_98 : decode cX9_notes 98 = .ok (.iaload, 1) := by decide +kernel
theorem dX9_notes_99 : decode cX9_notes 99 = .ok (.aload_n 0, 1) := by decide +kernel
theorem dX9_notes_100 : decode cX9_notes 100 = .ok (.getfield 58, 3) := by decide +kernel
theorem dX9_notes_103 : decode cX9_notes 103 = .ok (.iload_n 2, 1) := by decide +kernel
theorem dX9_notes_104 : decode cX9_notes 104 = .ok (.iaload, 1) := by decide +kernel
theorem dX9_notes_105 : decode cX9_notes 105 = .ok (.ior, 1) := by decide +kernel
theorem dX9_notes_106 : decode cX9_notes 106 = .ok (.iastore, 1) := by decide +kernel
theorem dX9_notes_107 : decode cX9_notes 107 = .ok (.iload_n 1, 1) := by decide +kernel
theorem dX9_notes_108 : decode cX9_notes 108 = .ok (.aload_n 0, 1) := by decide +kernel
theorem dX9_notes_109 : decode cX9_notes 109 = .ok (.getfield 156, 3) := by decide +kernel
theorem dX9_notes_112 : decode cX9_notes 112 = .ok (.iload_n 2, 1) := by decide +kernel
theorem dX9_notes_113 : decode cX9_notes 113 = .ok (.invokestatic 159, 3) := by decide +kernel
theorem dX9_notes_116 : decode cX9_notes 116 = .ok (.ifCond .eq 12, 3) := by decide +kernel
theorem dX9_notes_119 : decode cX9_notes 119 = .ok (.aload_n 0, 1) := by decide +kernel
theorem dX9_notes_120 : decode cX9_notes 120 = .ok (.getfield 61, 3) := by decide +kernel
theorem dX9_notes_123 : decode cX9_notes 123 = .ok (.iload_n 2, 1) := by decide +kernel
theorem dX9_notes_124 : decode cX9_notes 124 = .ok (.iaload, 1) := by decide +kernel
theorem dX9_notes_125 : decode cX9_notes 125 = .ok (.goto 4, 3) := by decide +kernel
theorem dX9_notes_128 : decode cX9_notes 128 = .ok (.iconst 0, 1) := by decide +kernel
theorem dX9_notes_129 : decode cX9_notes 129 = .ok (.ior, 1) := by decide +kernel
theorem dX9_notes_130 : decode cX9_notes 130 = .ok (.istore_n 1, 1) := by decide +kernel
theorem dX9_notes_131 : decode cX9_notes 131 = .ok (.iinc 2 1, 3) := by decide +kernel
theorem dX9_notes_134 : decode cX9_notes 134 = .ok (.goto (-78), 3) := by decide +kernel
theorem dX9_notes_137 : decode cX9_notes 137 = .ok (.iconst 0, 1) := by decide +kernel
theorem dX9_notes_138 : decode cX9_notes 138 = .ok (.istore_n 2, 1) := by decide +kernel
theorem dX9_notes_139 : decode cX9_notes 139 = .ok (.iload_n 2, 1) := by decide +kernel
theorem dX9_notes_140 : decode cX9_notes 140 = .ok (.aload_n 0, 1) := by decide +kernel
theorem dX9_notes_141 : decode cX9_notes 141 = .ok (.getfield 117, 3) := by decide +kernel
theorem dX9_notes_144 : decode cX9_notes 144 = .ok (.if_icmp .ge 34, 3) := by decide +kernel
theorem dX9_notes_147 : decode cX9_notes 147 = .ok (.aload_n 0, 1) := by decide +kernel
theorem dX9_notes_148 : decode cX9_notes 148 = .ok (.getfield 61, 3) := by decide +kernel
theorem dX9_notes_151 : decode cX9_notes 151 = .ok (.iload_n 2, 1) := by decide +kernel
theorem dX9_notes_152 : decode cX9_notes 152 = .ok (.dup2, 1) := by decide +kernel
theorem dX9_notes_153 : decode cX9_notes 153 = .ok (.iaload, 1) := by decide +kernel
theorem dX9_notes_154 : decode cX9_notes 154 = .ok (.aload_n 0, 1) := by decide +kernel
theorem dX9_notes_155 : decode cX9_notes 155 = .ok (.getfield 156, 3) := by decide +kernel
theorem dX9_notes_158 : decode cX9_notes 158 = .ok (.iload_n 2, 1) := by decide +kernel
theorem dX9_notes_159 : decode cX9_notes 159 = .ok (.invokestatic 159, 3) := by decide +kernel
theorem dX9_notes_162 : decode cX9_notes 162 = .ok (.ifCond .eq 7, 3) := by decide +kernel
theorem dX9_notes_165 : decode cX9_notes 165 = .ok (.iload_n 1, 1) := by decide +kernel
theorem dX9_notes_166 : decode cX9_notes 166 = .ok (.goto 4, 3) := by decide +kernel
theorem dX9_notes_169 : decode cX9_notes 169 = .ok (.iconst 0, 1) := by decide +kernel
theorem dX9_notes_170 : decode cX9_notes 170 = .ok (.ior, 1) := by decide +kernel
theorem dX9_notes_171 : decode cX9_notes 171 = .ok (.iastore, 1) := by decide +kernel
theorem dX9_notes_172 : decode cX9_notes 172 = .ok (.iinc 2 1, 3) := by decide +kernel
theorem dX9_notes_175 : decode cX9_notes 175 = .ok (.goto (-36), 3) := by decide +kernel
theorem dX9_notes_178 : decode cX9_notes 178 = .ok (.return_, 1) := by decide +kernel
theorem dX9_isWaiting_0 : decode cX9_isWaiting 0 = .ok (.aload_n 0, 1) := by decide +kernel
theorem dX9_isWaiting_1 : decode cX9_isWaiting 1 = .ok (.getfield 175, 3) := by decide +kernel
theorem dX9_isWaiting_4 : decode cX9_isWaiting 4 = .ok (.iload_n 1, 1) := by decide +kernel
theorem dX9_isWaiting_5 : decode cX9_isWaiting 5 = .ok (.invokestatic 159, 3) := by decide +kernel
theorem dX9_isWaiting_8 : decode cX9_isWaiting 8 = .ok (.ifCond .eq 44, 3) := by decide +kernel
theorem dX9_isWaiting_11 : decode cX9_isWaiting 11 = .ok (.aload_n 0, 1) := by decide +kernel
theorem dX9_isWaiting_12 : decode cX9_isWaiting 12 = .ok (.getfield 28, 3) := by decide +kernel
theorem dX9_isWaiting_15 : decode cX9_isWaiting 15 = .ok (.iload_n 1, 1) := by decide +kernel
theorem dX9_isWaiting_16 : decode cX9_isWaiting 16 = .ok (.iaload, 1) := by decide +kernel
theorem dX9_isWaiting_17 : decode cX9_isWaiting 17 = .ok (.aload_n 0, 1) := by decide +kernel
theorem dX9_isWaiting_18 : decode cX9_isWaiting 18 = .ok (.getfield 117, 3) := by decide +kernel
theorem dX9_isWaiting_21 : decode cX9_isWaiting 21 = .ok (.if_icmp .ge 31, 3) := by decide +kernel
theorem dX9_isWaiting_24 : decode cX9_isWaiting 24 = .ok (.aload_n 0, 1) := by decide +kernel
theorem dX9_isWaiting_25 : decode cX9_isWaiting 25 = .ok (.getfield 25, 3) := by decide +kernel
theorem dX9_isWaiting_28 : decode cX9_isWaiting 28 = .ok (.iload_n 1, 1) := by decide +kernel
theorem dX9_isWaiting_29 : decode cX9_isWaiting 29 = .ok (.iaload, 1) := by decide +kernel
theorem dX9_isWaiting_30 : decode cX9_isWaiting 30 = .ok (.aload_n 0, 1) := by decide +kernel
theorem dX9_isWaiting_31 : decode cX9_isWaiting 31 = .ok (.getfield 166, 3) := by decide +kernel
theorem dX9_isWaiting_34 : decode cX9_isWaiting 34 = .ok (.if_icmp .gt 18, 3) := by decide +kernel
theorem dX9_isWaiting_37 : decode cX9_isWaiting 37 = .ok (.aload_n 0, 1) := by decide +kernel
theorem dX9_isWaiting_38 : decode cX9_isWaiting 38 = .ok (.getfield 178, 3) := by decide +kernel
theorem dX9_isWaiting_41 : decode cX9_isWaiting 41 = .ok (.iload_n 1, 1) := by decide +kernel
theorem dX9_isWaiting_42 : decode cX9_isWaiting 42 = .ok (.invokestatic 159, 3) := by decide +kernel
theorem dX9_isWaiting_45 : decode cX9_isWaiting 45 = .ok (.ifCond .ne 7, 3) := by decide +kernel
theorem dX9_isWaiting_48 : decode cX9_isWaiting 48 = .ok (.iconst 1, 1) := by decide +kernel
theorem dX9_isWaiting_49 : decode cX9_isWaiting 49 = .ok (.goto 4, 3) := by decide +kernel
theorem dX9_isWaiting_52 : decode cX9_isWaiting 52 = .ok (.iconst 0, 1) := by decide +kernel
theorem dX9_isWaiting_53 : decode cX9_isWaiting 53 = .ok (.ireturn, 1) := by decide +kernel
theorem dX9_waiting_0 : decode cX9_waiting 0 = .ok (.iconst 0, 1) := by decide +kernel
theorem dX9_waiting_1 : decode cX9_waiting 1 = .ok (.istore_n 1, 1) := by decide +kernel
theorem dX9_waiting_2 : decode cX9_waiting 2 = .ok (.iconst 0, 1) := by decide +kernel
theorem dX9_waiting_3 : decode cX9_waiting 3 = .ok (.istore_n 2, 1) := by decide +kernel
theorem dX9_waiting_4 : decode cX9_waiting 4 = .ok (.iload_n 2, 1) := by decide +kernel
theorem dX9_waiting_5 : decode cX9_waiting 5 = .ok (.aload_n 0, 1) := by decide +kernel
theorem dX9_waiting_6 : decode cX9_waiting 6 = .ok (.getfield 120, 3) := by decide +kernel
theorem dX9_waiting_9 : decode cX9_waiting 9 = .ok (.if_icmp .ge 27, 3) := by decide +kernel
theorem dX9_waiting_12 : decode cX9_waiting 12 = .ok (.iload_n 1, 1) := by decide +kernel
theorem dX9_waiting_13 : decode cX9_waiting 13 = .ok (.aload_n 0, 1) := by decide +kernel
theorem dX9_waiting_14 : decode cX9_waiting 14 = .ok (.iload_n 2, 1) := by decide +kernel
theorem dX9_waiting_15 : decode cX9_waiting 15 = .ok (.invokevirtual 181, 3) := by decide +kernel
theorem dX9_waiting_18 : decode cX9_waiting 18 = .ok (.ifCond .eq 9, 3) := by decide +kernel
theorem dX9_waiting_21 : decode cX9_waiting 21 = .ok (.iconst 1, 1) := by decide +kernel
theorem dX9_waiting_22 : decode cX9_waiting 22 = .ok (.iload_n 2, 1) := by decide +kernel
theorem dX9_waiting_23 : decode cX9_waiting 23 = .ok (.ishl, 1) := by decide +kernel
theorem dX9_waiting_24 : decode cX9_waiting 24 = .ok (.goto 4, 3) := by decide +kernel
theorem dX9_waiting_27 : decode cX9_waiting 27 = .ok (.iconst 0, 1) := by decide +kernel
theorem dX9_waiting_28 : decode cX9_waiting 28 = .ok (.ior, 1) := by decide +kernel
theorem dX9_waiting_29 : decode cX9_waiting 29 = .ok (.istore_n 1, 1) := by decide +kernel
theorem dX9_waiting_30 : decode cX9_waiting 30 = .ok (.iinc 2 1, 3) := by decide +kernel
theorem dX9_waiting_33 : decode cX9_waiting 33 = .ok (.goto (-29), 3) := by decide +kernel
theorem dX9_waiting_36 : decode cX9_waiting 36 = .ok (.iload_n 1, 1) := by decide +kernel
theorem dX9_waiting_37 : decode cX9_waiting 37 = .ok (.ireturn, 1) := by decide +kernel
theorem dX9_haltsHalf_0 : decode cX9_haltsHalf 0 = .ok (.aload_n 0, 1) := by decide +kernel
theorem dX9_haltsHalf_1 : decode cX9_haltsHalf 1 = .ok (.dup, 1) := by decide +kernel
theorem dX9_haltsHalf_2 : decode cX9_haltsHalf 2 = .ok (.getfield 166, 3) := by decide +kernel
theorem dX9_haltsHalf_5 : decode cX9_haltsHalf 5 = .ok (.iconst 1, 1) := by decide +kernel
theorem dX9_haltsHalf_6 : decode cX9_haltsHalf 6 = .ok (.iadd, 1) := by decide +kernel
theorem dX9_haltsHalf_7 : decode cX9_haltsHalf 7 = .ok (.putfield 166, 3) := by decide +kernel
theorem dX9_haltsHalf_10 : decode cX9_haltsHalf 10 = .ok (.aload_n 0, 1) := by decide +kernel
theorem dX9_haltsHalf_11 : decode cX9_haltsHalf 11 = .ok (.iconst 2, 1) := by decide +kernel
theorem dX9_haltsHalf_12 : decode cX9_haltsHalf 12 = .ok (.aload_n 0, 1) := by decide +kernel
theorem dX9_haltsHalf_13 : decode cX9_haltsHalf 13 = .ok (.getfield 92, 3) := by decide +kernel
theorem dX9_haltsHalf_16 : decode cX9_haltsHalf 16 = .ok (.imul, 1) := by decide +kernel
theorem dX9_haltsHalf_17 : decode cX9_haltsHalf 17 = .ok (.iconst 1, 1) := by decide +kernel
theorem dX9_haltsHalf_18 : decode cX9_haltsHalf 18 = .ok (.iadd, 1) := by decide +kernel
theorem dX9_haltsHalf_19 : decode cX9_haltsHalf 19 = .ok (.putfield 169, 3) := by decide +kernel
theorem dX9_haltsHalf_22 : decode cX9_haltsHalf 22 = .ok (.iconst 0, 1) := by decide +kernel
theorem dX9_haltsHalf_23 : decode cX9_haltsHalf 23 = .ok (.istore_n 2, 1) := by decide +kernel
theorem dX9_haltsHalf_24 : decode cX9_haltsHalf 24 = .ok (.iload_n 2, 1) := by decide +kernel
theorem dX9_haltsHalf_25 : decode cX9_haltsHalf 25 = .ok (.aload_n 0, 1) := by decide +kernel
theorem dX9_haltsHalf_26 : decode cX9_haltsHalf 26 = .ok (.getfield 120, 3) := by decide +kernel
theorem dX9_haltsHalf_29 : decode cX9_haltsHalf 29 = .ok (.if_icmp .ge 66, 3) := by decide +kernel
theorem dX9_haltsHalf_32 : decode cX9_haltsHalf 32 = .ok (.iload_n 1, 1) := by decide +kernel
theorem dX9_haltsHalf_33 : decode cX9_haltsHalf 33 = .ok (.iload_n 2, 1) := by decide +kernel
theorem dX9_haltsHalf_34 : decode cX9_haltsHalf 34 = .ok (.invokestatic 159, 3) := by decide +kernel
theorem dX9_haltsHalf_37 : decode cX9_haltsHalf 37 = .ok (.ifCond .eq 52, 3) := by decide +kernel
theorem dX9_haltsHalf_40 : decode cX9_haltsHalf 40 = .ok (.aload_n 0, 1) := by decide +kernel
theorem dX9_haltsHalf_41 : decode cX9_haltsHalf 41 = .ok (.invokevirtual 172, 3) := by decide +kernel
theorem dX9_haltsHalf_44 : decode cX9_haltsHalf 44 = .ok (.aload_n 0, 1) := by decide +kernel
theorem dX9_haltsHalf_45 : decode cX9_haltsHalf 45 = .ok (.getfield 16, 3) := by decide +kernel
theorem dX9_haltsHalf_48 : decode cX9_haltsHalf 48 = .ok (.aload_n 0, 1) := by decide +kernel
theorem dX9_haltsHalf_49 : decode cX9_haltsHalf 49 = .ok (.getfield 28, 3) := by decide +kernel
theorem dX9_haltsHalf_52 : decode cX9_haltsHalf 52 = .ok (.iload_n 2, 1) := by decide +kernel
theorem dX9_haltsHalf_53 : decode cX9_haltsHalf 53 = .ok (.iaload, 1) := by decide +kernel
theorem dX9_haltsHalf_54 : decode cX9_haltsHalf 54 = .ok (.iaload, 1) := by decide +kernel
theorem dX9_haltsHalf_55 : decode cX9_haltsHalf 55 = .ok (.iconst 2, 1) := by decide +kernel
theorem dX9_haltsHalf_56 : decode cX9_haltsHalf 56 = .ok (.idiv, 1) := by decide +kernel
theorem dX9_haltsHalf_57 : decode cX9_haltsHalf 57 = .ok (.iadd, 1) := by decide +kernel
theorem dX9_haltsHalf_58 : decode cX9_haltsHalf 58 = .ok (.aload_n 0, 1) := by decide +kernel
theorem dX9_haltsHalf_59 : decode cX9_haltsHalf 59 = .ok (.getfield 96, 3) := by decide +kernel
theorem dX9_haltsHalf_62 : decode cX9_haltsHalf 62 = .ok (.if_icmp .gt 27, 3) := by decide +kernel
theorem dX9_haltsHalf_65 : decode cX9_haltsHalf 65 = .ok (.aload_n 0, 1) := by decide +kernel
theorem dX9_haltsHalf_66 : decode cX9_haltsHalf 66 = .ok (.dup, 1) := by decide +kernel
theorem dX9_haltsHalf_67 : decode cX9_haltsHalf 67 = .ok (.getfield 163, 3) := by decide +kernel
theorem dX9_haltsHalf_70 : decode cX9_haltsHalf 70 = .ok (.iconst 1, 1) := by decide +kernel
theorem dX9_haltsHalf_71 : decode cX9_haltsHalf 71 = .ok (.iload_n 2, 1) := by decide +kernel
theorem dX9_haltsHalf_72 : decode cX9_haltsHalf 72 = .ok (.ishl, 1) := by decide +kernel
theorem dX9_haltsHalf_73 : decode cX9_haltsHalf 73 = .ok (.ior, 1) := by decide +kernel
theorem dX9_haltsHalf_74 : decode cX9_haltsHalf 74 = .ok (.putfield 163, 3) := by decide +kernel
theorem dX9_haltsHalf_77 : decode cX9_haltsHalf 77 = .ok (.aload_n 0, 1) := by decide +kernel
theorem dX9_haltsHalf_78 : decode cX9_haltsHalf 78 = .ok (.dup, 1) := by decide +kernel
theorem dX9_haltsHalf_79 : decode cX9_haltsHalf 79 = .ok (.getfield 178, 3) := by decide +kernel
theorem dX9_haltsHalf_82 : decode cX9_haltsHalf 82 = .ok (.iconst 1, 1) := by decide +kernel
theorem dX9_haltsHalf_83 : decode cX9_haltsHalf 83 = .ok (.iload_n 2, 1) := by decide +kernel
theorem dX9_haltsHalf_84 : decode cX9_haltsHalf 84 = .ok (.ishl, 1) := by decide +kernel
theorem dX9_haltsHalf_85 : decode cX9_haltsHalf 85 = .ok (.ior, 1) := by decide +kernel
theorem dX9_haltsHalf_86 : decode cX9_haltsHalf 86 = .ok (.putfield 178, 3) := by decide +kernel
theorem dX9_haltsHalf_89 : decode cX9_haltsHalf 89 = .ok (.iinc 2 1, 3) := by decide +kernel
theorem dX9_haltsHalf_92 : decode cX9_haltsHalf 92 = .ok (.goto (-68), 3) := by decide +kernel
theorem dX9_haltsHalf_95 : decode cX9_haltsHalf 95 = .ok (.aload_n 0, 1) := by decide +kernel
theorem dX9_haltsHalf_96 : decode cX9_haltsHalf 96 = .ok (.invokevirtual 184, 3) := by decide +kernel
theorem dX9_haltsHalf_99 : decode cX9_haltsHalf 99 = .ok (.return_, 1) := by decide +kernel
theorem dX9_haltsAt_0 : decode cX9_haltsAt 0 = .ok (.aload_n 0, 1) := by decide +kernel
theorem dX9_haltsAt_1 : decode cX9_haltsAt 1 = .ok (.dup, 1) := by decide +kernel
theorem dX9_haltsAt_2 : decode cX9_haltsAt 2 = .ok (.getfield 166, 3) := by decide +kernel
theorem dX9_haltsAt_5 : decode cX9_haltsAt 5 = .ok (.iconst 1, 1) := by decide +kernel
theorem dX9_haltsAt_6 : decode cX9_haltsAt 6 = .ok (.iadd, 1) := by decide +kernel
theorem dX9_haltsAt_7 : decode cX9_haltsAt 7 = .ok (.putfield 166, 3) := by decide +kernel
theorem dX9_haltsAt_10 : decode cX9_haltsAt 10 = .ok (.aload_n 0, 1) := by decide +kernel
theorem dX9_haltsAt_11 : decode cX9_haltsAt 11 = .ok (.iconst 2, 1) := by decide +kernel
theorem dX9_haltsAt_12 : decode cX9_haltsAt 12 = .ok (.iload_n 1, 1) := by decide +kernel
theorem dX9_haltsAt_13 : decode cX9_haltsAt 13 = .ok (.imul, 1) := by decide +kernel
theorem dX9_haltsAt_14 : decode cX9_haltsAt 14 = .ok (.putfield 169, 3) := by decide +kernel
theorem dX9_haltsAt_17 : decode cX9_haltsAt 17 = .ok (.aload_n 0, 1) := by decide +kernel
theorem dX9_haltsAt_18 : decode cX9_haltsAt 18 = .ok (.iload_n 1, 1) := by decide +kernel
theorem dX9_haltsAt_19 : decode cX9_haltsAt 19 = .ok (.ifCond .ne 7, 3) := by decide +kernel
theorem dX9_haltsAt_22 : decode cX9_haltsAt 22 = .ok (.iconst 0, 1) := by decide +kernel
theorem dX9_haltsAt_23 : decode cX9_haltsAt 23 = .ok (.goto 7, 3) := by decide +kernel
theorem dX9_haltsAt_26 : decode cX9_haltsAt 26 = .ok (.aload_n 0, 1) := by decide +kernel
theorem dX9_haltsAt_27 : decode cX9_haltsAt 27 = .ok (.getfield 163, 3) := by decide +kernel
theorem dX9_haltsAt_30 : decode cX9_haltsAt 30 = .ok (.putfield 163, 3) := by decide +kernel
theorem dX9_haltsAt_33 : decode cX9_haltsAt 33 = .ok (.iconst 0, 1) := by decide +kernel
theorem dX9_haltsAt_34 : decode cX9_haltsAt 34 = .ok (.istore_n 2, 1) := by decide +kernel
theorem dX9_haltsAt_35 : decode cX9_haltsAt 35 = .ok (.iload_n 2, 1) := by decide +kernel
theorem dX9_haltsAt_36 : decode cX9_haltsAt 36 = .ok (.aload_n 0, 1) := by decide +kernel
theorem dX9_haltsAt_37 : decode cX9_haltsAt 37 = .ok (.getfield 117, 3) := by decide +kernel
theorem dX9_haltsAt_40 : decode cX9_haltsAt 40 = .ok (.if_icmp .ge 54, 3) := by decide +kernel
theorem dX9_haltsAt_43 : decode cX9_haltsAt 43 = .ok (.aload_n 0, 1) := by decide +kernel
theorem dX9_haltsAt_44 : decode cX9_haltsAt 44 = .ok (.getfield 156, 3) := by decide +kernel
theorem dX9_haltsAt_47 : decode cX9_haltsAt 47 = .ok (.iload_n 2, 1) := by decide +kernel
theorem dX9_haltsAt_48 : decode cX9_haltsAt 48 = .ok (.invokestatic 159, 3) := by decide +kernel
theorem dX9_haltsAt_51 : decode cX9_haltsAt 51 = .ok (.ifCond .eq 37, 3) := by decide +kernel
theorem dX9_haltsAt_54 : decode cX9_haltsAt 54 = .ok (.aload_n 0, 1) := by decide +kernel
theorem dX9_haltsAt_55 : decode cX9_haltsAt 55 = .ok (.getfield 22, 3) := by decide +kernel
theorem dX9_haltsAt_58 : decode cX9_haltsAt 58 = .ok (.iload_n 2, 1) := by decide +kernel
theorem dX9_haltsAt_59 : decode cX9_haltsAt 59 = .ok (.iaload, 1) := by decide +kernel
theorem dX9_haltsAt_60 : decode cX9_haltsAt 60 = .ok (.iload_n 1, 1) := by decide +kernel
theorem dX9_haltsAt_61 : decode cX9_haltsAt 61 = .ok (.if_icmp .ne 27, 3) := by decide +kernel
theorem dX9_haltsAt_64 : decode cX9_haltsAt 64 = .ok (.aload_n 0, 1) := by decide +kernel
theorem dX9_haltsAt_65 : decode cX9_haltsAt 65 = .ok (.dup, 1) := by decide +kernel
theorem dX9_haltsAt_66 : decode cX9_haltsAt 66 = .ok (.getfield 156, 3) := by decide +kernel
theorem dX9_haltsAt_69 : decode cX9_haltsAt 69 = .ok (.iconst 1, 1) := by decide +kernel
theorem dX9_haltsAt_70 : decode cX9_haltsAt 70 = .ok (.iload_n 2, 1) := by decide +kernel
theorem dX9_haltsAt_71 : decode cX9_haltsAt 71 = .ok (.ishl, 1) := by decide +kernel
theorem dX9_haltsAt_72 : decode cX9_haltsAt 72 = .ok (.iconst (-1), 1) := by decide +kernel
theorem dX9_haltsAt_73 : decode cX9_haltsAt 73 = .ok (.ixor, 1) := by decide +kernel
theorem dX9_haltsAt_74 : decode cX9_haltsAt 74 = .ok (.iand, 1) := by decide +kernel
theorem dX9_haltsAt_75 : decode cX9_haltsAt 75 = .ok (.putfield 156, 3) := by decide +kernel
theorem dX9_haltsAt_78 : decode cX9_haltsAt 78 = .ok (.aload_n 0, 1) := by decide +kernel
theorem dX9_haltsAt_79 : decode cX9_haltsAt 79 = .ok (.getfield 52, 3) := by decide +kernel
theorem dX9_haltsAt_82 : decode cX9_haltsAt 82 = .ok (.iload_n 2, 1) := by decide +kernel
theorem dX9_haltsAt_83 : decode cX9_haltsAt 83 = .ok (.aload_n 0, 1) := by decide +kernel
theorem dX9_haltsAt_84 : decode cX9_haltsAt 84 = .ok (.getfield 166, 3) := by decide +kernel
theorem dX9_haltsAt_87 : decode cX9_haltsAt 87 = .ok (.iastore, 1) := by decide +kernel
theorem dX9_haltsAt_88 : decode cX9_haltsAt 88 = .ok (.iinc 2 1, 3) := by decide +kernel
theorem dX9_haltsAt_91 : decode cX9_haltsAt 91 = .ok (.goto (-56), 3) := by decide +kernel
theorem dX9_haltsAt_94 : decode cX9_haltsAt 94 = .ok (.iconst 0, 1) := by decide +kernel
theorem dX9_haltsAt_95 : decode cX9_haltsAt 95 = .ok (.istore_n 2, 1) := by decide +kernel
theorem dX9_haltsAt_96 : decode cX9_haltsAt 96 = .ok (.iload_n 2, 1) := by decide +kernel
theorem dX9_haltsAt_97 : decode cX9_haltsAt 97 = .ok (.aload_n 0, 1) := by decide +kernel
theorem dX9_haltsAt_98 : decode cX9_haltsAt 98 = .ok (.getfield 117, 3) := by decide +kernel
theorem dX9_haltsAt_101 : decode cX9_haltsAt 101 = .ok (.if_icmp .ge 148, 3) := by decide +kernel
theorem dX9_haltsAt_104 : decode cX9_haltsAt 104 = .ok (.aload_n 0, 1) := by decide +kernel
theorem dX9_haltsAt_105 : decode cX9_haltsAt 105 = .ok (.getfield 19, 3) := by decide +kernel
theorem dX9_haltsAt_108 : decode cX9_haltsAt 108 = .ok (.iload_n 2, 1) := by decide +kernel
theorem dX9_haltsAt_109 : decode cX9_haltsAt 109 = .ok (.iaload, 1) := by decide +kernel
theorem dX9_haltsAt_110 : decode cX9_haltsAt 110 = .ok (.iload_n 1, 1) := by decide +kernel
theorem dX9_haltsAt_111 : decode cX9_haltsAt 111 = .ok (.if_icmp .ne 132, 3) := by decide +kernel
theorem dX9_haltsAt_114 : decode cX9_haltsAt 114 = .ok (.aload_n 0, 1) := by decide +kernel
theorem dX9_haltsAt_115 : decode cX9_haltsAt 115 = .ok (.getfield 22, 3) := by decide +kernel
theorem dX9_haltsAt_118 : decode cX9_haltsAt 118 = .ok (.iload_n 2, 1) := by decide +kernel
theorem dX9_haltsAt_119 : decode cX9_haltsAt 119 = .ok (.iaload, 1) := by decide +kernel
theorem dX9_haltsAt_120 : decode cX9_haltsAt 120 = .ok (.iload_n 1, 1) := by decide +kernel
theorem dX9_haltsAt_121 : decode cX9_haltsAt 121 = .ok (.if_icmp .eq 122, 3) := by decide +kernel
theorem dX9_haltsAt_124 : decode cX9_haltsAt 124 = .ok (.aload_n 0, 1) := by decide +kernel
theorem dX9_haltsAt_125 : decode cX9_haltsAt 125 = .ok (.getfield 187, 3) := by decide +kernel
theorem dX9_haltsAt_128 : decode cX9_haltsAt 128 = .ok (.iload_n 2, 1) := by decide +kernel
theorem dX9_haltsAt_129 : decode cX9_haltsAt 129 = .ok (.invokestatic 159, 3) := by decide +kernel
theorem dX9_haltsAt_132 : decode cX9_haltsAt 132 = .ok (.ifCond .ne 111, 3) := by decide +kernel
theorem dX9_haltsAt_135 : decode cX9_haltsAt 135 = .ok (.aload_n 0, 1) := by decide +kernel
theorem dX9_haltsAt_136 : decode cX9_haltsAt 136 = .ok (.invokevirtual 172, 3) := by decide +kernel
theorem dX9_haltsAt_139 : decode cX9_haltsAt 139 = .ok (.aload_n 0, 1) := by decide +kernel
theorem dX9_haltsAt_140 : decode cX9_haltsAt 140 = .ok (.getfield 16, 3) := by decide +kernel
theorem dX9_haltsAt_143 : decode cX9_haltsAt 143 = .ok (.iload_n 2, 1) := by decide +kernel
theorem dX9_haltsAt_144 : decode cX9_haltsAt 144 = .ok (.iaload, 1) := by decide +kernel
theorem dX9_haltsAt_145 : decode cX9_haltsAt 145 = .ok (.iadd, 1) := by decide +kernel
theorem dX9_haltsAt_146 : decode cX9_haltsAt 146 = .ok (.aload_n 0, 1) := by decide +kernel
theorem dX9_haltsAt_147 : decode cX9_haltsAt 147 = .ok (.getfield 96, 3) := by decide +kernel
theorem dX9_haltsAt_150 : decode cX9_haltsAt 150 = .ok (.if_icmp .gt 40, 3) := by decide +kernel
theorem dX9_haltsAt_153 : decode cX9_haltsAt 153 = .ok (.aload_n 0, 1) := by decide +kernel
theorem dX9_haltsAt_154 : decode cX9_haltsAt 154 = .ok (.dup, 1) := by decide +kernel
theorem dX9_haltsAt_155 : decode cX9_haltsAt 155 = .ok (.getfield 156, 3) := by decide +kernel
theorem dX9_haltsAt_158 : decode cX9_haltsAt 158 = .ok (.iconst 1, 1) := by decide +kernel
theorem dX9_haltsAt_159 : decode cX9_haltsAt 159 = .ok (.iload_n 2, 1) := by decide +kernel
theorem dX9_haltsAt_160 : decode cX9_haltsAt 160 = .ok (.ishl, 1) := by decide +kernel
theorem dX9_haltsAt_161 : decode cX9_haltsAt 161 = .ok (.ior, 1) := by decide +kernel
theorem dX9_haltsAt_162 : decode cX9_haltsAt 162 = .ok (.putfield 156, 3) := by decide +kernel
theorem dX9_haltsAt_165 : decode cX9_haltsAt 165 = .ok (.aload_n 0, 1) := by decide +kernel
theorem dX9_haltsAt_166 : decode cX9_haltsAt 166 = .ok (.dup, 1) := by decide +kernel
theorem dX9_haltsAt_167 : decode cX9_haltsAt 167 = .ok (.getfield 187, 3) := by decide +kernel
theorem dX9_haltsAt_170 : decode cX9_haltsAt 170 = .ok (.iconst 1, 1) := by decide +kernel
theorem dX9_haltsAt_171 : decode cX9_haltsAt 171 = .ok (.iload_n 2, 1) := by decide +kernel
theorem dX9_haltsAt_172 : decode cX9_haltsAt 172 = .ok (.ishl, 1) := by decide +kernel
theorem dX9_haltsAt_173 : decode cX9_haltsAt 173 = .ok (.ior, 1) := by decide +kernel
theorem dX9_haltsAt_174 : decode cX9_haltsAt 174 = .ok (.putfield 187, 3) := by decide +kernel
theorem dX9_haltsAt_177 : decode cX9_haltsAt 177 = .ok (.aload_n 0, 1) := by decide +kernel
theorem dX9_haltsAt_178 : decode cX9_haltsAt 178 = .ok (.getfield 49, 3) := by decide +kernel
theorem dX9_haltsAt_181 : decode cX9_haltsAt 181 = .ok (.iload_n 2, 1) := by decide +kernel
theorem dX9_haltsAt_182 : decode cX9_haltsAt 182 = .ok (.aload_n 0, 1) := by decide +kernel
theorem dX9_haltsAt_183 : decode cX9_haltsAt 183 = .ok (.getfield 166, 3) := by decide +kernel
theorem dX9_haltsAt_186 : decode cX9_haltsAt 186 = .ok (.iastore, 1) := by decide +kernel
theorem dX9_haltsAt_187 : decode cX9_haltsAt 187 = .ok (.goto 56, 3) := by decide +kernel
theorem dX9_haltsAt_190 : decode cX9_haltsAt 190 = .ok (.aload_n 0, 1) := by decide +kernel
theorem dX9_haltsAt_191 : decode cX9_haltsAt 191 = .ok (.getfield 55, 3) := by decide +kernel
theorem dX9_haltsAt_194 : decode cX9_haltsAt 194 = .ok (.iload_n 2, 1) := by decide +kernel
theorem dX9_haltsAt_195 : decode cX9_haltsAt 195 = .ok (.dup2, 1) := by decide +kernel
theorem dX9_haltsAt_196 : decode cX9_haltsAt 196 = .ok (.iaload, 1) := by decide +kernel
theorem dX9_haltsAt_197 : decode cX9_haltsAt 197 = .ok (.iconst 1, 1) := by decide +kernel
theorem dX9_haltsAt_198 : decode cX9_haltsAt 198 = .ok (.iadd, 1) := by decide +kernel
theorem dX9_haltsAt_199 : decode cX9_haltsAt 199 = .ok (.iastore, 1) := by decide +kernel
theorem dX9_haltsAt_200 : decode cX9_haltsAt 200 = .ok (.aload_n 0, 1) := by decide +kernel
theorem dX9_haltsAt_201 : decode cX9_haltsAt 201 = .ok (.aload_n 0, 1) := by decide +kernel
theorem dX9_haltsAt_202 : decode cX9_haltsAt 202 = .ok (.getfield 190, 3) := by decide +kernel
theorem dX9_haltsAt_205 : decode cX9_haltsAt 205 = .ok (.iconst (-1), 1) := by decide +kernel
theorem dX9_haltsAt_206 : decode cX9_haltsAt 206 = .ok (.if_icmp .ne 7, 3) := by decide +kernel
theorem dX9_haltsAt_209 : decode cX9_haltsAt 209 = .ok (.iload_n 2, 1) := by decide +kernel
theorem dX9_haltsAt_210 : decode cX9_haltsAt 210 = .ok (.goto 7, 3) := by decide +kernel
theorem dX9_haltsAt_213 : decode cX9_haltsAt 213 = .ok (.aload_n 0, 1) := by decide +kernel
theorem dX9_haltsAt_214 : decode cX9_haltsAt 214 = .ok (.getfield 193, 3) := by decide +kernel
theorem dX9_haltsAt_217 : decode cX9_haltsAt 217 = .ok (.putfield 193, 3) := by decide +kernel
theorem dX9_haltsAt_220 : decode cX9_haltsAt 220 = .ok (.aload_n 0, 1) := by decide +kernel
theorem dX9_haltsAt_221 : decode cX9_haltsAt 221 = .ok (.aload_n 0, 1) := by decide +kernel
theorem dX9_haltsAt_222 : decode cX9_haltsAt 222 = .ok (.getfield 190, 3) := by decide +kernel
theorem dX9_haltsAt_225 : decode cX9_haltsAt 225 = .ok (.iconst (-1), 1) := by decide +kernel
theorem dX9_haltsAt_226 : decode cX9_haltsAt 226 = .ok (.if_icmp .ne 10, 3) := by decide +kernel
theorem dX9_haltsAt_229 : decode cX9_haltsAt 229 = .ok (.aload_n 0, 1) := by decide +kernel
theorem dX9_haltsAt_230 : decode cX9_haltsAt 230 = .ok (.getfield 166, 3) := by decide +kernel
theorem dX9_haltsAt_233 : decode cX9_haltsAt 233 = .ok (.goto 7, 3) := by decide +kernel
theorem dX9_haltsAt_236 : decode cX9_haltsAt 236 = .ok (.aload_n 0, 1) := by decide +kernel
theorem dX9_haltsAt_237 : decode cX9_haltsAt 237 = .ok (.getfield 190, 3) := by decide +kernel
theorem dX9_haltsAt_240 : decode cX9_haltsAt 240 = .ok (.putfield 190, 3) := by decide +kernel
theorem dX9_haltsAt_243 : decode cX9_haltsAt 243 = .ok (.iinc 2 1, 3) := by decide +kernel
theorem dX9_haltsAt_246 : decode cX9_haltsAt 246 = .ok (.goto (-150), 3) := by decide +kernel
theorem dX9_haltsAt_249 : decode cX9_haltsAt 249 = .ok (.aload_n 0, 1) := by decide +kernel
theorem dX9_haltsAt_250 : decode cX9_haltsAt 250 = .ok (.invokevirtual 184, 3) := by decide +kernel
theorem dX9_haltsAt_253 : decode cX9_haltsAt 253 = .ok (.return_, 1) := by decide +kernel
theorem dX9_begins_0 : decode cX9_begins 0 = .ok (.aload_n 0, 1) := by decide +kernel
theorem dX9_begins_1 : decode cX9_begins 1 = .ok (.iconst 0, 1) := by decide +kernel
theorem dX9_begins_2 : decode cX9_begins 2 = .ok (.putfield 166, 3) := by decide +kernel
theorem dX9_begins_5 : decode cX9_begins 5 = .ok (.aload_n 0, 1) := by decide +kernel
theorem dX9_begins_6 : decode cX9_begins 6 = .ok (.iconst 0, 1) := by decide +kernel
theorem dX9_begins_7 : decode cX9_begins 7 = .ok (.putfield 169, 3) := by decide +kernel
theorem dX9_begins_10 : decode cX9_begins 10 = .ok (.aload_n 0, 1) := by decide +kernel
theorem dX9_begins_11 : decode cX9_begins 11 = .ok (.iconst 0, 1) := by decide +kernel
theorem dX9_begins_12 : decode cX9_begins 12 = .ok (.putfield 156, 3) := by decide +kernel
theorem dX9_begins_15 : decode cX9_begins 15 = .ok (.aload_n 0, 1) := by decide +kernel
theorem dX9_begins_16 : decode cX9_begins 16 = .ok (.iconst 0, 1) := by decide +kernel
theorem dX9_begins_17 : decode cX9_begins 17 = .ok (.putfield 163, 3) := by decide +kernel
theorem dX9_begins_20 : decode cX9_begins 20 = .ok (.aload_n 0, 1) := by decide +kernel
theorem dX9_begins_21 : decode cX9_begins 21 = .ok (.iconst 0, 1) := by decide +kernel
theorem dX9_begins_22 : decode cX9_begins 22 = .ok (.putfield 187, 3) := by decide +kernel
theorem dX9_begins_25 : decode cX9_begins 25 = .ok (.aload_n 0, 1) := by decide +kernel
theorem dX9_begins_26 : decode cX9_begins 26 = .ok (.iconst 0, 1) := by decide +kernel
theorem dX9_begins_27 : decode cX9_begins 27 = .ok (.putfield 178, 3) := by decide +kernel
theorem dX9_begins_30 : decode cX9_begins 30 = .ok (.aload_n 0, 1) := by decide +kernel
theorem dX9_begins_31 : decode cX9_begins 31 = .ok (.iconst (-1), 1) := by decide +kernel
theorem dX9_begins_32 : decode cX9_begins 32 = .ok (.putfield 190, 3) := by decide +kernel
theorem dX9_begins_35 : decode cX9_begins 35 = .ok (.aload_n 0, 1) := by decide +kernel
theorem dX9_begins_36 : decode cX9_begins 36 = .ok (.iconst (-1), 1) := by decide +kernel
theorem dX9_begins_37 : decode cX9_begins 37 = .ok (.putfield 193, 3) := by decide +kernel
theorem dX9_begins_40 : decode cX9_begins 40 = .ok (.iconst 0, 1) := by decide +kernel
theorem dX9_begins_41 : decode cX9_begins 41 = .ok (.istore_n 1, 1) := by decide +kernel
theorem dX9_begins_42 : decode cX9_begins 42 = .ok (.iload_n 1, 1) := by decide +kernel
theorem dX9_begins_43 : decode cX9_begins 43 = .ok (.bipush 8, 2) := by decide +kernel
theorem dX9_begins_45 : decode cX9_begins 45 = .ok (.if_icmp .ge 71, 3) := by decide +kernel
theorem dX9_begins_48 : decode cX9_begins 48 = .ok (.aload_n 0, 1) := by decide +kernel
theorem dX9_begins_49 : decode cX9_begins 49 = .ok (.getfield 49, 3) := by decide +kernel
theorem dX9_begins_52 : decode cX9_begins 52 = .ok (.iload_n 1, 1) := by decide +kernel
theorem dX9_begins_53 : decode cX9_begins 53 = .ok (.iconst (-1), 1) := by decide +kernel
theorem dX9_begins_54 : decode cX9_begins 54 = .ok (.iastore, 1) := by decide +kernel
theorem dX9_begins_55 : decode cX9_begins 55 = .ok (.aload_n 0, 1) := by decide +kernel
theorem dX9_begins_56 : decode cX9_begins 56 = .ok (.getfield 52, 3) := by decide +kernel
theorem dX9_begins_59 : decode cX9_begins 59 = .ok (.iload_n 1, 1) := by decide +kernel
theorem dX9_begins_60 : decode cX9_begins 60 = .ok (.iload_n 1, 1) := by decide +kernel
theorem dX9_begins_61 : decode cX9_begins 61 = .ok (.aload_n 0, 1) := by decide +kernel
theorem dX9_begins_62 : decode cX9_begins 62 = .ok (.getfield 117, 3) := by decide +kernel
theorem dX9_begins_65 : decode cX9_begins 65 = .ok (.if_icmp .ge 22, 3) := by decide +kernel
theorem dX9_begins_68 : decode cX9_begins 68 = .ok (.aload_n 0, 1) := by decide +kernel
theorem dX9_begins_69 : decode cX9_begins 69 = .ok (.getfield 19, 3) := by decide +kernel
theorem dX9_begins_72 : decode cX9_begins 72 = .ok (.iload_n 1, 1) := by decide +kernel
theorem dX9_begins_73 : decode cX9_begins 73 = .ok (.iaload, 1) := by decide +kernel
theorem dX9_begins_74 : decode cX9_begins 74 = .ok (.aload_n 0, 1) := by decide +kernel
theorem dX9_begins_75 : decode cX9_begins 75 = .ok (.getfield 22, 3) := by decide +kernel
theorem dX9_begins_78 : decode cX9_begins 78 = .ok (.iload_n 1, 1) := by decide +kernel
theorem dX9_begins_79 : decode cX9_begins 79 = .ok (.iaload, 1) := by decide +kernel
theorem dX9_begins_80 : decode cX9_begins 80 = .ok (.if_icmp .ne 7, 3) := by decide +kernel
theorem dX9_begins_83 : decode cX9_begins 83 = .ok (.iconst 0, 1) := by decide +kernel
theorem dX9_begins_84 : decode cX9_begins 84 = .ok (.goto 4, 3) := by decide +kernel
theorem dX9_begins_87 : decode cX9_begins 87 = .ok (.iconst (-1), 1) := by decide +kernel
theorem dX9_begins_88 : decode cX9_begins 88 = .ok (.iastore, 1) := by decide +kernel
theorem dX9_begins_89 : decode cX9_begins 89 = .ok (.aload_n 0, 1) := by decide +kernel
theorem dX9_begins_90 : decode cX9_begins 90 = .ok (.getfield 55, 3) := by decide +kernel
theorem dX9_begins_93 : decode cX9_begins 93 = .ok (.iload_n 1, 1) := by decide +kernel
theorem dX9_begins_94 : decode cX9_begins 94 = .ok (.iconst 0, 1) := by decide +kernel
theorem dX9_begins_95 : decode cX9_begins 95 = .ok (.iastore, 1) := by decide +kernel
theorem dX9_begins_96 : decode cX9_begins 96 = .ok (.aload_n 0, 1) := by decide +kernel
theorem dX9_begins_97 : decode cX9_begins 97 = .ok (.getfield 58, 3) := by decide +kernel
theorem dX9_begins_100 : decode cX9_begins 100 = .ok (.iload_n 1, 1) := by decide +kernel
theorem dX9_begins_101 : decode cX9_begins 101 = .ok (.iconst 0, 1) := by decide +kernel
theorem dX9_begins_102 : decode cX9_begins 102 = .ok (.iastore, 1) := by decide +kernel
theorem dX9_begins_103 : decode cX9_begins 103 = .ok (.aload_n 0, 1) := by decide +kernel
theorem dX9_begins_104 : decode cX9_begins 104 = .ok (.getfield 61, 3) := by decide +kernel
theorem dX9_begins_107 : decode cX9_begins 107 = .ok (.iload_n 1, 1) := by decide +kernel
theorem dX9_begins_108 : decode cX9_begins 108 = .ok (.iconst 0, 1) := by decide +kernel
theorem dX9_begins_109 : decode cX9_begins 109 = .ok (.iastore, 1) := by decide +kernel
theorem dX9_begins_110 : decode cX9_begins 110 = .ok (.iinc 1 1, 3) := by decide +kernel
theorem dX9_begins_113 : decode cX9_begins 113 = .ok (.goto (-71), 3) := by decide +kernel
theorem dX9_begins_116 : decode cX9_begins 116 = .ok (.aload_n 0, 1) := by decide +kernel
theorem dX9_begins_117 : decode cX9_begins 117 = .ok (.invokevirtual 184, 3) := by decide +kernel
theorem dX9_begins_120 : decode cX9_begins 120 = .ok (.return_, 1) := by decide +kernel
theorem dX9_runs_0 : decode cX9_runs 0 = .ok (.aload_n 0, 1) := by decide +kernel
theorem dX9_runs_1 : decode cX9_runs 1 = .ok (.invokevirtual 196, 3) := by decide +kernel
theorem dX9_runs_4 : decode cX9_runs 4 = .ok (.iconst 0, 1) := by decide +kernel
theorem dX9_runs_5 : decode cX9_runs 5 = .ok (.istore_n 1, 1) := by decide +kernel
theorem dX9_runs_6 : decode cX9_runs 6 = .ok (.iconst 0, 1) := by decide +kernel
theorem dX9_runs_7 : decode cX9_runs 7 = .ok (.istore_n 2, 1) := by decide +kernel
theorem dX9_runs_8 : decode cX9_runs 8 = .ok (.iload_n 2, 1) := by decide +kernel
theorem dX9_runs_9 : decode cX9_runs 9 = .ok (.aload_n 0, 1) := by decide +kernel
theorem dX9_runs_10 : decode cX9_runs 10 = .ok (.getfield 199, 3) := by decide +kernel
theorem dX9_runs_13 : decode cX9_runs 13 = .ok (.if_icmp .ge 113, 3) := by decide +kernel
theorem dX9_runs_16 : decode cX9_runs 16 = .ok (.aload_n 0, 1) := by decide +kernel
theorem dX9_runs_17 : decode cX9_runs 17 = .ok (.getfield 34, 3) := by decide +kernel
theorem dX9_runs_20 : decode cX9_runs 20 = .ok (.iload_n 2, 1) := by decide +kernel
theorem dX9_runs_21 : decode cX9_runs 21 = .ok (.iaload, 1) := by decide +kernel
theorem dX9_runs_22 : decode cX9_runs 22 = .ok (.istore_n 3, 1) := by decide +kernel
theorem dX9_runs_23 : decode cX9_runs 23 = .ok (.iload_n 1, 1) := by decide +kernel
theorem dX9_runs_24 : decode cX9_runs 24 = .ok (.iload_n 3, 1) := by decide +kernel
theorem dX9_runs_25 : decode cX9_runs 25 = .ok (.if_icmp .eq 90, 3) := by decide +kernel
theorem dX9_runs_28 : decode cX9_runs 28 = .ok (.iload_n 1, 1) := by decide +kernel
theorem dX9_runs_29 : decode cX9_runs 29 = .ok (.iload_n 3, 1) := by decide +kernel
theorem dX9_runs_30 : decode cX9_runs 30 = .ok (.if_icmp .ge 9, 3) := by decide +kernel
theorem dX9_runs_33 : decode cX9_runs 33 = .ok (.iload_n 1, 1) := by decide +kernel
theorem dX9_runs_34 : decode cX9_runs 34 = .ok (.iconst 1, 1) := by decide +kernel
theorem dX9_runs_35 : decode cX9_runs 35 = .ok (.iadd, 1) := by decide +kernel
theorem dX9_runs_36 : decode cX9_runs 36 = .ok (.goto 6, 3) := by decide +kernel
theorem dX9_runs_39 : decode cX9_runs 39 = .ok (.iload_n 1, 1) := by decide +kernel
theorem dX9_runs_40 : decode cX9_runs 40 = .ok (.iconst 1, 1) := by decide +kernel
theorem dX9_runs_41 : decode cX9_runs 41 = .ok (.isub, 1) := by decide +kernel
theorem dX9_runs_42 : decode cX9_runs 42 = .ok (.istore 4, 2) := by decide +kernel
theorem dX9_runs_44 : decode cX9_runs 44 = .ok (.iload_n 1, 1) := by decide +kernel
theorem dX9_runs_45 : decode cX9_runs 45 = .ok (.iload 4, 2) := by decide +kernel
theorem dX9_runs_47 : decode cX9_runs 47 = .ok (.if_icmp .ge 7, 3) := by decide +kernel
theorem dX9_runs_50 : decode cX9_runs 50 = .ok (.iload_n 1, 1) := by decide +kernel
theorem dX9_runs_51 : decode cX9_runs 51 = .ok (.goto 5, 3) := by decide +kernel
theorem dX9_runs_54 : decode cX9_runs 54 = .ok (.iload 4, 2) := by decide +kernel
theorem dX9_runs_56 : decode cX9_runs 56 = .ok (.istore 5, 2) := by decide +kernel
theorem dX9_runs_58 : decode cX9_runs 58 = .ok (.iload 5, 2) := by decide +kernel
theorem dX9_runs_60 : decode cX9_runs 60 = .ok (.aload_n 0, 1) := by decide +kernel
theorem dX9_runs_61 : decode cX9_runs 61 = .ok (.getfield 92, 3) := by decide +kernel
theorem dX9_runs_64 : decode cX9_runs 64 = .ok (.if_icmp .ne 10, 3) := by decide +kernel
theorem dX9_runs_67 : decode cX9_runs 67 = .ok (.aload_n 0, 1) := by decide +kernel
theorem dX9_runs_68 : decode cX9_runs 68 = .ok (.invokevirtual 202, 3) := by decide +kernel
theorem dX9_runs_71 : decode cX9_runs 71 = .ok (.goto 4, 3) := by decide +kernel
theorem dX9_runs_74 : decode cX9_runs 74 = .ok (.iconst 0, 1) := by decide +kernel
theorem dX9_runs_75 : decode cX9_runs 75 = .ok (.istore 6, 2) := by decide +kernel
theorem dX9_runs_77 : decode cX9_runs 77 = .ok (.iload 6, 2) := by decide +kernel
theorem dX9_runs_79 : decode cX9_runs 79 = .ok (.ifCond .eq 9, 3) := by decide +kernel
theorem dX9_runs_82 : decode cX9_runs 82 = .ok (.aload_n 0, 1) := by decide +kernel
theorem dX9_runs_83 : decode cX9_runs 83 = .ok (.iload 6, 2) := by decide +kernel
theorem dX9_runs_85 : decode cX9_runs 85 = .ok (.invokevirtual 205, 3) := by decide +kernel
theorem dX9_runs_88 : decode cX9_runs 88 = .ok (.iload 4, 2) := by decide +kernel
theorem dX9_runs_90 : decode cX9_runs 90 = .ok (.istore_n 1, 1) := by decide +kernel
theorem dX9_runs_91 : decode cX9_runs 91 = .ok (.aload_n 0, 1) := by decide +kernel
theorem dX9_runs_92 : decode cX9_runs 92 = .ok (.dup, 1) := by decide +kernel
theorem dX9_runs_93 : decode cX9_runs 93 = .ok (.getfield 166, 3) := by decide +kernel
theorem dX9_runs_96 : decode cX9_runs 96 = .ok (.iconst 1, 1) := by decide +kernel
theorem dX9_runs_97 : decode cX9_runs 97 = .ok (.iadd, 1) := by decide +kernel
theorem dX9_runs_98 : decode cX9_runs 98 = .ok (.putfield 166, 3) := by decide +kernel
theorem dX9_runs_101 : decode cX9_runs 101 = .ok (.aload_n 0, 1) := by decide +kernel
theorem dX9_runs_102 : decode cX9_runs 102 = .ok (.iconst 2, 1) := by decide +kernel
theorem dX9_runs_103 : decode cX9_runs 103 = .ok (.iload_n 1, 1) := by decide +kernel
theorem dX9_runs_104 : decode cX9_runs 104 = .ok (.imul, 1) := by decide +kernel
theorem dX9_runs_105 : decode cX9_runs 105 = .ok (.putfield 169, 3) := by decide +kernel
theorem dX9_runs_108 : decode cX9_runs 108 = .ok (.aload_n 0, 1) := by decide +kernel
theorem dX9_runs_109 : decode cX9_runs 109 = .ok (.invokevirtual 184, 3) := by decide +kernel
theorem dX9_runs_112 : decode cX9_runs 112 = .ok (.goto (-89), 3) := by decide +kernel
theorem dX9_runs_115 : decode cX9_runs 115 = .ok (.aload_n 0, 1) := by decide +kernel
theorem dX9_runs_116 : decode cX9_runs 116 = .ok (.iload_n 1, 1) := by decide +kernel
theorem dX9_runs_117 : decode cX9_runs 117 = .ok (.invokevirtual 209, 3) := by decide +kernel
theorem dX9_runs_120 : decode cX9_runs 120 = .ok (.iinc 2 1, 3) := by decide +kernel
theorem dX9_runs_123 : decode cX9_runs 123 = .ok (.goto (-115), 3) := by decide +kernel
theorem dX9_runs_126 : decode cX9_runs 126 = .ok (.return_, 1) := by decide +kernel
theorem dX9_asTold_0 : decode cX9_asTold 0 = .ok (.aload_n 0, 1) := by decide +kernel
theorem dX9_asTold_1 : decode cX9_asTold 1 = .ok (.invokevirtual 141, 3) := by decide +kernel
theorem dX9_asTold_4 : decode cX9_asTold 4 = .ok (.aload_n 0, 1) := by decide +kernel
theorem dX9_asTold_5 : decode cX9_asTold 5 = .ok (.aload_n 0, 1) := by decide +kernel
theorem dX9_asTold_6 : decode cX9_asTold 6 = .ok (.getfield 127, 3) := by decide +kernel
theorem dX9_asTold_9 : decode cX9_asTold 9 = .ok (.putfield 199, 3) := by decide +kernel
theorem dX9_asTold_12 : decode cX9_asTold 12 = .ok (.iconst 0, 1) := by decide +kernel
theorem dX9_asTold_13 : decode cX9_asTold 13 = .ok (.istore_n 1, 1) := by decide +kernel
theorem dX9_asTold_14 : decode cX9_asTold 14 = .ok (.iload_n 1, 1) := by decide +kernel
theorem dX9_asTold_15 : decode cX9_asTold 15 = .ok (.aload_n 0, 1) := by decide +kernel
theorem dX9_asTold_16 : decode cX9_asTold 16 = .ok (.getfield 127, 3) := by decide +kernel
theorem dX9_asTold_19 : decode cX9_asTold 19 = .ok (.if_icmp .ge 21, 3) := by decide +kernel
theorem dX9_asTold_22 : decode cX9_asTold 22 = .ok (.aload_n 0, 1) := by decide +kernel
theorem dX9_asTold_23 : decode cX9_asTold 23 = .ok (.getfield 34, 3) := by decide +kernel
theorem dX9_asTold_26 : decode cX9_asTold 26 = .ok (.iload_n 1, 1) := by decide +kernel
theorem dX9_asTold_27 : decode cX9_asTold 27 = .ok (.aload_n 0, 1) := by decide +kernel
theorem dX9_asTold_28 : decode cX9_asTold 28 = .ok (.getfield 31, 3) := by decide +kernel
theorem dX9_asTold_31 : decode cX9_asTold 31 = .ok (.iload_n 1, 1) := by decide +kernel
theorem dX9_asTold_32 : decode cX9_asTold 32 = .ok (.iaload, 1) := by decide +kernel
