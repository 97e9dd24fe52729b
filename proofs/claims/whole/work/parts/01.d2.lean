theorem dX9_asTold_33 : decode cX9_asTold 33 = .ok (.iastore, 1) := by decide +kernel
theorem dX9_asTold_34 : decode cX9_asTold 34 = .ok (.iinc 1 1, 3) := by decide +kernel
theorem dX9_asTold_37 : decode cX9_asTold 37 = .ok (.goto (-23), 3) := by decide +kernel
theorem dX9_asTold_40 : decode cX9_asTold 40 = .ok (.aload_n 0, 1) := by decide +kernel
theorem dX9_asTold_41 : decode cX9_asTold 41 = .ok (.sipush 255, 3) := by decide +kernel
theorem dX9_asTold_44 : decode cX9_asTold 44 = .ok (.putfield 175, 3) := by decide +kernel
theorem dX9_asTold_47 : decode cX9_asTold 47 = .ok (.return_, 1) := by decide +kernel
theorem dX9_runsTold_0 : decode cX9_runsTold 0 = .ok (.aload_n 0, 1) := by decide +kernel
theorem dX9_runsTold_1 : decode cX9_runsTold 1 = .ok (.invokevirtual 212, 3) := by decide +kernel
theorem dX9_runsTold_4 : decode cX9_runsTold 4 = .ok (.aload_n 0, 1) := by decide +kernel
theorem dX9_runsTold_5 : decode cX9_runsTold 5 = .ok (.invokevirtual 215, 3) := by decide +kernel
theorem dX9_runsTold_8 : decode cX9_runsTold 8 = .ok (.return_, 1) := by decide +kernel
theorem dX9_liftOf_0 : decode cX9_liftOf 0 = .ok (.aload_n 0, 1) := by decide +kernel
theorem dX9_liftOf_1 : decode cX9_liftOf 1 = .ok (.invokevirtual 218, 3) := by decide +kernel
theorem dX9_liftOf_4 : decode cX9_liftOf 4 = .ok (.iload_n 1, 1) := by decide +kernel
theorem dX9_liftOf_5 : decode cX9_liftOf 5 = .ok (.aload_n 0, 1) := by decide +kernel
theorem dX9_liftOf_6 : decode cX9_liftOf 6 = .ok (.getfield 166, 3) := by decide +kernel
theorem dX9_liftOf_9 : decode cX9_liftOf 9 = .ok (.if_icmp .ge 7, 3) := by decide +kernel
theorem dX9_liftOf_12 : decode cX9_liftOf 12 = .ok (.iload_n 1, 1) := by decide +kernel
theorem dX9_liftOf_13 : decode cX9_liftOf 13 = .ok (.goto 7, 3) := by decide +kernel
theorem dX9_liftOf_16 : decode cX9_liftOf 16 = .ok (.aload_n 0, 1) := by decide +kernel
theorem dX9_liftOf_17 : decode cX9_liftOf 17 = .ok (.getfield 166, 3) := by decide +kernel
theorem dX9_liftOf_20 : decode cX9_liftOf 20 = .ok (.istore_n 3, 1) := by decide +kernel
theorem dX9_liftOf_21 : decode cX9_liftOf 21 = .ok (.iload_n 2, 1) := by decide +kernel
theorem dX9_liftOf_22 : decode cX9_liftOf 22 = .ok (.ifCond .ne 12, 3) := by decide +kernel
theorem dX9_liftOf_25 : decode cX9_liftOf 25 = .ok (.aload_n 0, 1) := by decide +kernel
theorem dX9_liftOf_26 : decode cX9_liftOf 26 = .ok (.getfield 37, 3) := by decide +kernel
theorem dX9_liftOf_29 : decode cX9_liftOf 29 = .ok (.iload_n 3, 1) := by decide +kernel
theorem dX9_liftOf_30 : decode cX9_liftOf 30 = .ok (.iaload, 1) := by decide +kernel
theorem dX9_liftOf_31 : decode cX9_liftOf 31 = .ok (.goto 37, 3) := by decide +kernel
theorem dX9_liftOf_34 : decode cX9_liftOf 34 = .ok (.iload_n 2, 1) := by decide +kernel
theorem dX9_liftOf_35 : decode cX9_liftOf 35 = .ok (.iconst 1, 1) := by decide +kernel
theorem dX9_liftOf_36 : decode cX9_liftOf 36 = .ok (.if_icmp .ne 12, 3) := by decide +kernel
theorem dX9_liftOf_39 : decode cX9_liftOf 39 = .ok (.aload_n 0, 1) := by decide +kernel
theorem dX9_liftOf_40 : decode cX9_liftOf 40 = .ok (.getfield 40, 3) := by decide +kernel
theorem dX9_liftOf_43 : decode cX9_liftOf 43 = .ok (.iload_n 3, 1) := by decide +kernel
theorem dX9_liftOf_44 : decode cX9_liftOf 44 = .ok (.iaload, 1) := by decide +kernel
theorem dX9_liftOf_45 : decode cX9_liftOf 45 = .ok (.goto 23, 3) := by decide +kernel
theorem dX9_liftOf_48 : decode cX9_liftOf 48 = .ok (.iload_n 2, 1) := by decide +kernel
theorem dX9_liftOf_49 : decode cX9_liftOf 49 = .ok (.iconst 2, 1) := by decide +kernel
theorem dX9_liftOf_50 : decode cX9_liftOf 50 = .ok (.if_icmp .ne 12, 3) := by decide +kernel
theorem dX9_liftOf_53 : decode cX9_liftOf 53 = .ok (.aload_n 0, 1) := by decide +kernel
theorem dX9_liftOf_54 : decode cX9_liftOf 54 = .ok (.getfield 43, 3) := by decide +kernel
theorem dX9_liftOf_57 : decode cX9_liftOf 57 = .ok (.iload_n 3, 1) := by decide +kernel
theorem dX9_liftOf_58 : decode cX9_liftOf 58 = .ok (.iaload, 1) := by decide +kernel
theorem dX9_liftOf_59 : decode cX9_liftOf 59 = .ok (.goto 9, 3) := by decide +kernel
theorem dX9_liftOf_62 : decode cX9_liftOf 62 = .ok (.aload_n 0, 1) := by decide +kernel
theorem dX9_liftOf_63 : decode cX9_liftOf 63 = .ok (.getfield 46, 3) := by decide +kernel
theorem dX9_liftOf_66 : decode cX9_liftOf 66 = .ok (.iload_n 3, 1) := by decide +kernel
theorem dX9_liftOf_67 : decode cX9_liftOf 67 = .ok (.iaload, 1) := by decide +kernel
theorem dX9_liftOf_68 : decode cX9_liftOf 68 = .ok (.ireturn, 1) := by decide +kernel
theorem dX9_lift_0 : decode cX9_lift 0 = .ok (.iload_n 1, 1) := by decide +kernel
theorem dX9_lift_1 : decode cX9_lift 1 = .ok (.invokestatic 221, 3) := by decide +kernel
theorem dX9_lift_4 : decode cX9_lift 4 = .ok (.ifCond .eq 21, 3) := by decide +kernel
theorem dX9_lift_7 : decode cX9_lift 7 = .ok (.iload_n 2, 1) := by decide +kernel
theorem dX9_lift_8 : decode cX9_lift 8 = .ok (.iconst 0, 1) := by decide +kernel
theorem dX9_lift_9 : decode cX9_lift 9 = .ok (.iconst 3, 1) := by decide +kernel
theorem dX9_lift_10 : decode cX9_lift 10 = .ok (.invokestatic 101, 3) := by decide +kernel
theorem dX9_lift_13 : decode cX9_lift 13 = .ok (.ifCond .eq 12, 3) := by decide +kernel
theorem dX9_lift_16 : decode cX9_lift 16 = .ok (.aload_n 0, 1) := by decide +kernel
theorem dX9_lift_17 : decode cX9_lift 17 = .ok (.iload_n 1, 1) := by decide +kernel
theorem dX9_lift_18 : decode cX9_lift 18 = .ok (.iload_n 2, 1) := by decide +kernel
theorem dX9_lift_19 : decode cX9_lift 19 = .ok (.invokevirtual 224, 3) := by decide +kernel
theorem dX9_lift_22 : decode cX9_lift 22 = .ok (.goto 5, 3) := by decide +kernel
theorem dX9_lift_25 : decode cX9_lift 25 = .ok (.bipush (-2), 2) := by decide +kernel
theorem dX9_lift_27 : decode cX9_lift 27 = .ok (.ireturn, 1) := by decide +kernel
theorem dX9_endsNow_0 : decode cX9_endsNow 0 = .ok (.aload_n 0, 1) := by decide +kernel
theorem dX9_endsNow_1 : decode cX9_endsNow 1 = .ok (.invokevirtual 218, 3) := by decide +kernel
theorem dX9_endsNow_4 : decode cX9_endsNow 4 = .ok (.aload_n 0, 1) := by decide +kernel
theorem dX9_endsNow_5 : decode cX9_endsNow 5 = .ok (.getfield 166, 3) := by decide +kernel
theorem dX9_endsNow_8 : decode cX9_endsNow 8 = .ok (.ireturn, 1) := by decide +kernel
theorem dX9_ends_0 : decode cX9_ends 0 = .ok (.aload_n 0, 1) := by decide +kernel
theorem dX9_ends_1 : decode cX9_ends 1 = .ok (.invokevirtual 227, 3) := by decide +kernel
theorem dX9_ends_4 : decode cX9_ends 4 = .ok (.ireturn, 1) := by decide +kernel
theorem dX9_ridesOf_0 : decode cX9_ridesOf 0 = .ok (.aload_n 0, 1) := by decide +kernel
theorem dX9_ridesOf_1 : decode cX9_ridesOf 1 = .ok (.invokevirtual 218, 3) := by decide +kernel
theorem dX9_ridesOf_4 : decode cX9_ridesOf 4 = .ok (.iload_n 2, 1) := by decide +kernel
theorem dX9_ridesOf_5 : decode cX9_ridesOf 5 = .ok (.ifCond .ne 12, 3) := by decide +kernel
theorem dX9_ridesOf_8 : decode cX9_ridesOf 8 = .ok (.aload_n 0, 1) := by decide +kernel
theorem dX9_ridesOf_9 : decode cX9_ridesOf 9 = .ok (.getfield 49, 3) := by decide +kernel
theorem dX9_ridesOf_12 : decode cX9_ridesOf 12 = .ok (.iload_n 1, 1) := by decide +kernel
theorem dX9_ridesOf_13 : decode cX9_ridesOf 13 = .ok (.iaload, 1) := by decide +kernel
theorem dX9_ridesOf_14 : decode cX9_ridesOf 14 = .ok (.goto 23, 3) := by decide +kernel
theorem dX9_ridesOf_17 : decode cX9_ridesOf 17 = .ok (.iload_n 2, 1) := by decide +kernel
theorem dX9_ridesOf_18 : decode cX9_ridesOf 18 = .ok (.iconst 1, 1) := by decide +kernel
theorem dX9_ridesOf_19 : decode cX9_ridesOf 19 = .ok (.if_icmp .ne 12, 3) := by decide +kernel
theorem dX9_ridesOf_22 : decode cX9_ridesOf 22 = .ok (.aload_n 0, 1) := by decide +kernel
theorem dX9_ridesOf_23 : decode cX9_ridesOf 23 = .ok (.getfield 52, 3) := by decide +kernel
theorem dX9_ridesOf_26 : decode cX9_ridesOf 26 = .ok (.iload_n 1, 1) := by decide +kernel
theorem dX9_ridesOf_27 : decode cX9_ridesOf 27 = .ok (.iaload, 1) := by decide +kernel
theorem dX9_ridesOf_28 : decode cX9_ridesOf 28 = .ok (.goto 9, 3) := by decide +kernel
theorem dX9_ridesOf_31 : decode cX9_ridesOf 31 = .ok (.aload_n 0, 1) := by decide +kernel
theorem dX9_ridesOf_32 : decode cX9_ridesOf 32 = .ok (.getfield 55, 3) := by decide +kernel
theorem dX9_ridesOf_35 : decode cX9_ridesOf 35 = .ok (.iload_n 1, 1) := by decide +kernel
theorem dX9_ridesOf_36 : decode cX9_ridesOf 36 = .ok (.iaload, 1) := by decide +kernel
theorem dX9_ridesOf_37 : decode cX9_ridesOf 37 = .ok (.ireturn, 1) := by decide +kernel
theorem dX9_rides_0 : decode cX9_rides 0 = .ok (.aload_n 0, 1) := by decide +kernel
theorem dX9_rides_1 : decode cX9_rides 1 = .ok (.iload_n 1, 1) := by decide +kernel
theorem dX9_rides_2 : decode cX9_rides 2 = .ok (.invokevirtual 144, 3) := by decide +kernel
theorem dX9_rides_5 : decode cX9_rides 5 = .ok (.ifCond .eq 21, 3) := by decide +kernel
theorem dX9_rides_8 : decode cX9_rides 8 = .ok (.iload_n 2, 1) := by decide +kernel
theorem dX9_rides_9 : decode cX9_rides 9 = .ok (.iconst 0, 1) := by decide +kernel
theorem dX9_rides_10 : decode cX9_rides 10 = .ok (.iconst 2, 1) := by decide +kernel
theorem dX9_rides_11 : decode cX9_rides 11 = .ok (.invokestatic 101, 3) := by decide +kernel
theorem dX9_rides_14 : decode cX9_rides 14 = .ok (.ifCond .eq 12, 3) := by decide +kernel
theorem dX9_rides_17 : decode cX9_rides 17 = .ok (.aload_n 0, 1) := by decide +kernel
theorem dX9_rides_18 : decode cX9_rides 18 = .ok (.iload_n 1, 1) := by decide +kernel
theorem dX9_rides_19 : decode cX9_rides 19 = .ok (.iload_n 2, 1) := by decide +kernel
theorem dX9_rides_20 : decode cX9_rides 20 = .ok (.invokevirtual 230, 3) := by decide +kernel
theorem dX9_rides_23 : decode cX9_rides 23 = .ok (.goto 5, 3) := by decide +kernel
theorem dX9_rides_26 : decode cX9_rides 26 = .ok (.bipush (-2), 2) := by decide +kernel
theorem dX9_rides_28 : decode cX9_rides 28 = .ok (.ireturn, 1) := by decide +kernel
theorem dX9_fullOf_0 : decode cX9_fullOf 0 = .ok (.aload_n 0, 1) := by decide +kernel
theorem dX9_fullOf_1 : decode cX9_fullOf 1 = .ok (.invokevirtual 218, 3) := by decide +kernel
theorem dX9_fullOf_4 : decode cX9_fullOf 4 = .ok (.iload_n 1, 1) := by decide +kernel
theorem dX9_fullOf_5 : decode cX9_fullOf 5 = .ok (.ifCond .ne 10, 3) := by decide +kernel
theorem dX9_fullOf_8 : decode cX9_fullOf 8 = .ok (.aload_n 0, 1) := by decide +kernel
theorem dX9_fullOf_9 : decode cX9_fullOf 9 = .ok (.getfield 190, 3) := by decide +kernel
theorem dX9_fullOf_12 : decode cX9_fullOf 12 = .ok (.goto 7, 3) := by decide +kernel
theorem dX9_fullOf_15 : decode cX9_fullOf 15 = .ok (.aload_n 0, 1) := by decide +kernel
theorem dX9_fullOf_16 : decode cX9_fullOf 16 = .ok (.getfield 193, 3) := by decide +kernel
theorem dX9_fullOf_19 : decode cX9_fullOf 19 = .ok (.ireturn, 1) := by decide +kernel
theorem dX9_full_0 : decode cX9_full 0 = .ok (.iload_n 1, 1) := by decide +kernel
theorem dX9_full_1 : decode cX9_full 1 = .ok (.iconst 0, 1) := by decide +kernel
theorem dX9_full_2 : decode cX9_full 2 = .ok (.iconst 1, 1) := by decide +kernel
theorem dX9_full_3 : decode cX9_full 3 = .ok (.invokestatic 101, 3) := by decide +kernel
theorem dX9_full_6 : decode cX9_full 6 = .ok (.ifCond .eq 11, 3) := by decide +kernel
theorem dX9_full_9 : decode cX9_full 9 = .ok (.aload_n 0, 1) := by decide +kernel
theorem dX9_full_10 : decode cX9_full 10 = .ok (.iload_n 1, 1) := by decide +kernel
theorem dX9_full_11 : decode cX9_full 11 = .ok (.invokevirtual 233, 3) := by decide +kernel
theorem dX9_full_14 : decode cX9_full 14 = .ok (.goto 5, 3) := by decide +kernel
theorem dX9_full_17 : decode cX9_full 17 = .ok (.bipush (-2), 2) := by decide +kernel
theorem dX9_full_19 : decode cX9_full 19 = .ok (.ireturn, 1) := by decide +kernel
theorem dX9_arrivedNow_0 : decode cX9_arrivedNow 0 = .ok (.iconst 0, 1) := by decide +kernel
theorem dX9_arrivedNow_1 : decode cX9_arrivedNow 1 = .ok (.istore_n 2, 1) := by decide +kernel
theorem dX9_arrivedNow_2 : decode cX9_arrivedNow 2 = .ok (.iconst 0, 1) := by decide +kernel
theorem dX9_arrivedNow_3 : decode cX9_arrivedNow 3 = .ok (.istore_n 3, 1) := by decide +kernel
theorem dX9_arrivedNow_4 : decode cX9_arrivedNow 4 = .ok (.iload_n 3, 1) := by decide +kernel
theorem dX9_arrivedNow_5 : decode cX9_arrivedNow 5 = .ok (.aload_n 0, 1) := by decide +kernel
theorem dX9_arrivedNow_6 : decode cX9_arrivedNow 6 = .ok (.getfield 117, 3) := by decide +kernel
theorem dX9_arrivedNow_9 : decode cX9_arrivedNow 9 = .ok (.if_icmp .ge 39, 3) := by decide +kernel
theorem dX9_arrivedNow_12 : decode cX9_arrivedNow 12 = .ok (.iload_n 2, 1) := by decide +kernel
theorem dX9_arrivedNow_13 : decode cX9_arrivedNow 13 = .ok (.aload_n 0, 1) := by decide +kernel
theorem dX9_arrivedNow_14 : decode cX9_arrivedNow 14 = .ok (.getfield 52, 3) := by decide +kernel
theorem dX9_arrivedNow_17 : decode cX9_arrivedNow 17 = .ok (.iload_n 3, 1) := by decide +kernel
theorem dX9_arrivedNow_18 : decode cX9_arrivedNow 18 = .ok (.iaload, 1) := by decide +kernel
theorem dX9_arrivedNow_19 : decode cX9_arrivedNow 19 = .ok (.iconst (-1), 1) := by decide +kernel
theorem dX9_arrivedNow_20 : decode cX9_arrivedNow 20 = .ok (.if_icmp .eq 19, 3) := by decide +kernel
theorem dX9_arrivedNow_23 : decode cX9_arrivedNow 23 = .ok (.aload_n 0, 1) := by decide +kernel
theorem dX9_arrivedNow_24 : decode cX9_arrivedNow 24 = .ok (.getfield 52, 3) := by decide +kernel
theorem dX9_arrivedNow_27 : decode cX9_arrivedNow 27 = .ok (.iload_n 3, 1) := by decide +kernel
theorem dX9_arrivedNow_28 : decode cX9_arrivedNow 28 = .ok (.iaload, 1) := by decide +kernel
theorem dX9_arrivedNow_29 : decode cX9_arrivedNow 29 = .ok (.iload_n 1, 1) := by decide +kernel
theorem dX9_arrivedNow_30 : decode cX9_arrivedNow 30 = .ok (.if_icmp .gt 9, 3) := by decide +kernel
theorem dX9_arrivedNow_33 : decode cX9_arrivedNow 33 = .ok (.iconst 1, 1) := by decide +kernel
theorem dX9_arrivedNow_34 : decode cX9_arrivedNow 34 = .ok (.iload_n 3, 1) := by decide +kernel
theorem dX9_arrivedNow_35 : decode cX9_arrivedNow 35 = .ok (.ishl, 1) := by decide +kernel
theorem dX9_arrivedNow_36 : decode cX9_arrivedNow 36 = .ok (.goto 4, 3) := by decide +kernel
theorem dX9_arrivedNow_39 : decode cX9_arrivedNow 39 = .ok (.iconst 0, 1) := by decide +kernel
theorem dX9_arrivedNow_40 : decode cX9_arrivedNow 40 = .ok (.ior, 1) := by decide +kernel
theorem dX9_arrivedNow_41 : decode cX9_arrivedNow 41 = .ok (.istore_n 2, 1) := by decide +kernel
theorem dX9_arrivedNow_42 : decode cX9_arrivedNow 42 = .ok (.iinc 3 1, 3) := by decide +kernel
theorem dX9_arrivedNow_45 : decode cX9_arrivedNow 45 = .ok (.goto (-41), 3) := by decide +kernel
theorem dX9_arrivedNow_48 : decode cX9_arrivedNow 48 = .ok (.iload_n 2, 1) := by decide +kernel
theorem dX9_arrivedNow_49 : decode cX9_arrivedNow 49 = .ok (.ireturn, 1) := by decide +kernel
theorem dX9_arrivedOf_0 : decode cX9_arrivedOf 0 = .ok (.aload_n 0, 1) := by decide +kernel
theorem dX9_arrivedOf_1 : decode cX9_arrivedOf 1 = .ok (.invokevirtual 218, 3) := by decide +kernel
theorem dX9_arrivedOf_4 : decode cX9_arrivedOf 4 = .ok (.aload_n 0, 1) := by decide +kernel
theorem dX9_arrivedOf_5 : decode cX9_arrivedOf 5 = .ok (.iload_n 1, 1) := by decide +kernel
theorem dX9_arrivedOf_6 : decode cX9_arrivedOf 6 = .ok (.invokevirtual 236, 3) := by decide +kernel
theorem dX9_arrivedOf_9 : decode cX9_arrivedOf 9 = .ok (.ireturn, 1) := by decide +kernel
theorem dX9_arrived_0 : decode cX9_arrived 0 = .ok (.iload_n 1, 1) := by decide +kernel
theorem dX9_arrived_1 : decode cX9_arrived 1 = .ok (.invokestatic 221, 3) := by decide +kernel
theorem dX9_arrived_4 : decode cX9_arrived 4 = .ok (.ifCond .eq 11, 3) := by decide +kernel
theorem dX9_arrived_7 : decode cX9_arrived 7 = .ok (.aload_n 0, 1) := by decide +kernel
theorem dX9_arrived_8 : decode cX9_arrived 8 = .ok (.iload_n 1, 1) := by decide +kernel
theorem dX9_arrived_9 : decode cX9_arrived 9 = .ok (.invokevirtual 239, 3) := by decide +kernel
theorem dX9_arrived_12 : decode cX9_arrived 12 = .ok (.goto 5, 3) := by decide +kernel
theorem dX9_arrived_15 : decode cX9_arrived 15 = .ok (.bipush (-2), 2) := by decide +kernel
theorem dX9_arrived_17 : decode cX9_arrived 17 = .ok (.ireturn, 1) := by decide +kernel
theorem dX9_knowsOf_0 : decode cX9_knowsOf 0 = .ok (.aload_n 0, 1) := by decide +kernel
theorem dX9_knowsOf_1 : decode cX9_knowsOf 1 = .ok (.invokevirtual 218, 3) := by decide +kernel
theorem dX9_knowsOf_4 : decode cX9_knowsOf 4 = .ok (.iload_n 2, 1) := by decide +kernel
theorem dX9_knowsOf_5 : decode cX9_knowsOf 5 = .ok (.ifCond .ne 12, 3) := by decide +kernel
theorem dX9_knowsOf_8 : decode cX9_knowsOf 8 = .ok (.aload_n 0, 1) := by decide +kernel
theorem dX9_knowsOf_9 : decode cX9_knowsOf 9 = .ok (.getfield 58, 3) := by decide +kernel
theorem dX9_knowsOf_12 : decode cX9_knowsOf 12 = .ok (.iload_n 1, 1) := by decide +kernel
theorem dX9_knowsOf_13 : decode cX9_knowsOf 13 = .ok (.iaload, 1) := by decide +kernel
theorem dX9_knowsOf_14 : decode cX9_knowsOf 14 = .ok (.goto 9, 3) := by decide +kernel
theorem dX9_knowsOf_17 : decode cX9_knowsOf 17 = .ok (.aload_n 0, 1) := by decide +kernel
theorem dX9_knowsOf_18 : decode cX9_knowsOf 18 = .ok (.getfield 61, 3) := by decide +kernel
theorem dX9_knowsOf_21 : decode cX9_knowsOf 21 = .ok (.iload_n 1, 1) := by decide +kernel
theorem dX9_knowsOf_22 : decode cX9_knowsOf 22 = .ok (.iaload, 1) := by decide +kernel
theorem dX9_knowsOf_23 : decode cX9_knowsOf 23 = .ok (.ireturn, 1) := by decide +kernel
theorem dX9_knows_0 : decode cX9_knows 0 = .ok (.aload_n 0, 1) := by decide +kernel
theorem dX9_knows_1 : decode cX9_knows 1 = .ok (.iload_n 1, 1) := by decide +kernel
theorem dX9_knows_2 : decode cX9_knows 2 = .ok (.invokevirtual 144, 3) := by decide +kernel
theorem dX9_knows_5 : decode cX9_knows 5 = .ok (.ifCond .eq 21, 3) := by decide +kernel
theorem dX9_knows_8 : decode cX9_knows 8 = .ok (.iload_n 2, 1) := by decide +kernel
theorem dX9_knows_9 : decode cX9_knows 9 = .ok (.iconst 0, 1) := by decide +kernel
theorem dX9_knows_10 : decode cX9_knows 10 = .ok (.iconst 1, 1) := by decide +kernel
theorem dX9_knows_11 : decode cX9_knows 11 = .ok (.invokestatic 101, 3) := by decide +kernel
theorem dX9_knows_14 : decode cX9_knows 14 = .ok (.ifCond .eq 12, 3) := by decide +kernel
theorem dX9_knows_17 : decode cX9_knows 17 = .ok (.aload_n 0, 1) := by decide +kernel
theorem dX9_knows_18 : decode cX9_knows 18 = .ok (.iload_n 1, 1) := by decide +kernel
theorem dX9_knows_19 : decode cX9_knows 19 = .ok (.iload_n 2, 1) := by decide +kernel
theorem dX9_knows_20 : decode cX9_knows 20 = .ok (.invokevirtual 242, 3) := by decide +kernel
theorem dX9_knows_23 : decode cX9_knows 23 = .ok (.goto 5, 3) := by decide +kernel
theorem dX9_knows_26 : decode cX9_knows 26 = .ok (.bipush (-2), 2) := by decide +kernel
theorem dX9_knows_28 : decode cX9_knows 28 = .ok (.ireturn, 1) := by decide +kernel
theorem dX9_arrivesBy_0 : decode cX9_arrivesBy 0 = .ok (.aload_n 0, 1) := by decide +kernel
theorem dX9_arrivesBy_1 : decode cX9_arrivesBy 1 = .ok (.invokevirtual 212, 3) := by decide +kernel
theorem dX9_arrivesBy_4 : decode cX9_arrivesBy 4 = .ok (.aload_n 0, 1) := by decide +kernel
theorem dX9_arrivesBy_5 : decode cX9_arrivesBy 5 = .ok (.getfield 34, 3) := by decide +kernel
theorem dX9_arrivesBy_8 : decode cX9_arrivesBy 8 = .ok (.aload_n 0, 1) := by decide +kernel
theorem dX9_arrivesBy_9 : decode cX9_arrivesBy 9 = .ok (.getfield 199, 3) := by decide +kernel
theorem dX9_arrivesBy_12 : decode cX9_arrivesBy 12 = .ok (.iload_n 2, 1) := by decide +kernel
theorem dX9_arrivesBy_13 : decode cX9_arrivesBy 13 = .ok (.iastore, 1) := by decide +kernel
theorem dX9_arrivesBy_14 : decode cX9_arrivesBy 14 = .ok (.aload_n 0, 1) := by decide +kernel
theorem dX9_arrivesBy_15 : decode cX9_arrivesBy 15 = .ok (.getfield 34, 3) := by decide +kernel
theorem dX9_arrivesBy_18 : decode cX9_arrivesBy 18 = .ok (.aload_n 0, 1) := by decide +kernel
theorem dX9_arrivesBy_19 : decode cX9_arrivesBy 19 = .ok (.getfield 199, 3) := by decide +kernel
theorem dX9_arrivesBy_22 : decode cX9_arrivesBy 22 = .ok (.iconst 1, 1) := by decide +kernel
theorem dX9_arrivesBy_23 : decode cX9_arrivesBy 23 = .ok (.iadd, 1) := by decide +kernel
theorem dX9_arrivesBy_24 : decode cX9_arrivesBy 24 = .ok (.iload_n 3, 1) := by decide +kernel
theorem dX9_arrivesBy_25 : decode cX9_arrivesBy 25 = .ok (.iastore, 1) := by decide +kernel
theorem dX9_arrivesBy_26 : decode cX9_arrivesBy 26 = .ok (.aload_n 0, 1) := by decide +kernel
theorem dX9_arrivesBy_27 : decode cX9_arrivesBy 27 = .ok (.dup, 1) := by decide +kernel
theorem dX9_arrivesBy_28 : decode cX9_arrivesBy 28 = .ok (.getfield 199, 3) := by decide +kernel
theorem dX9_arrivesBy_31 : decode cX9_arrivesBy 31 = .ok (.iload_n 1, 1) := by decide +kernel
theorem dX9_arrivesBy_32 : decode cX9_arrivesBy 32 = .ok (.iadd, 1) := by decide +kernel
theorem dX9_arrivesBy_33 : decode cX9_arrivesBy 33 = .ok (.putfield 199, 3) := by decide +kernel
theorem dX9_arrivesBy_36 : decode cX9_arrivesBy 36 = .ok (.aload_n 0, 1) := by decide +kernel
theorem dX9_arrivesBy_37 : decode cX9_arrivesBy 37 = .ok (.getfield 64, 3) := by decide +kernel
theorem dX9_arrivesBy_40 : decode cX9_arrivesBy 40 = .ok (.iconst 0, 1) := by decide +kernel
theorem dX9_arrivesBy_41 : decode cX9_arrivesBy 41 = .ok (.iload_n 2, 1) := by decide +kernel
theorem dX9_arrivesBy_42 : decode cX9_arrivesBy 42 = .ok (.iastore, 1) := by decide +kernel
theorem dX9_arrivesBy_43 : decode cX9_arrivesBy 43 = .ok (.aload_n 0, 1) := by decide +kernel
theorem dX9_arrivesBy_44 : decode cX9_arrivesBy 44 = .ok (.getfield 64, 3) := by decide +kernel
theorem dX9_arrivesBy_47 : decode cX9_arrivesBy 47 = .ok (.iconst 1, 1) := by decide +kernel
theorem dX9_arrivesBy_48 : decode cX9_arrivesBy 48 = .ok (.iload_n 3, 1) := by decide +kernel
theorem dX9_arrivesBy_49 : decode cX9_arrivesBy 49 = .ok (.iastore, 1) := by decide +kernel
theorem dX9_arrivesBy_50 : decode cX9_arrivesBy 50 = .ok (.aload_n 0, 1) := by decide +kernel
theorem dX9_arrivesBy_51 : decode cX9_arrivesBy 51 = .ok (.invokevirtual 215, 3) := by decide +kernel
theorem dX9_arrivesBy_54 : decode cX9_arrivesBy 54 = .ok (.aload_n 0, 1) := by decide +kernel
theorem dX9_arrivesBy_55 : decode cX9_arrivesBy 55 = .ok (.sipush 255, 3) := by decide +kernel
theorem dX9_arrivesBy_58 : decode cX9_arrivesBy 58 = .ok (.invokevirtual 236, 3) := by decide +kernel
theorem dX9_arrivesBy_61 : decode cX9_arrivesBy 61 = .ok (.iconst 1, 1) := by decide +kernel
theorem dX9_arrivesBy_62 : decode cX9_arrivesBy 62 = .ok (.aload_n 0, 1) := by decide +kernel
theorem dX9_arrivesBy_63 : decode cX9_arrivesBy 63 = .ok (.getfield 117, 3) := by decide +kernel
theorem dX9_arrivesBy_66 : decode cX9_arrivesBy 66 = .ok (.ishl, 1) := by decide +kernel
theorem dX9_arrivesBy_67 : decode cX9_arrivesBy 67 = .ok (.iconst 1, 1) := by decide +kernel
theorem dX9_arrivesBy_68 : decode cX9_arrivesBy 68 = .ok (.isub, 1) := by decide +kernel
theorem dX9_arrivesBy_69 : decode cX9_arrivesBy 69 = .ok (.if_icmp .ne 7, 3) := by decide +kernel
theorem dX9_arrivesBy_72 : decode cX9_arrivesBy 72 = .ok (.iconst 1, 1) := by decide +kernel
theorem dX9_arrivesBy_73 : decode cX9_arrivesBy 73 = .ok (.goto 4, 3) := by decide +kernel
theorem dX9_arrivesBy_76 : decode cX9_arrivesBy 76 = .ok (.iconst 0, 1) := by decide +kernel
theorem dX9_arrivesBy_77 : decode cX9_arrivesBy 77 = .ok (.ireturn, 1) := by decide +kernel
theorem dX9_moreBy_0 : decode cX9_moreBy 0 = .ok (.aload_n 0, 1) := by decide +kernel
theorem dX9_moreBy_1 : decode cX9_moreBy 1 = .ok (.iconst 0, 1) := by decide +kernel
theorem dX9_moreBy_2 : decode cX9_moreBy 2 = .ok (.iconst 0, 1) := by decide +kernel
theorem dX9_moreBy_3 : decode cX9_moreBy 3 = .ok (.iconst 0, 1) := by decide +kernel
theorem dX9_moreBy_4 : decode cX9_moreBy 4 = .ok (.invokevirtual 245, 3) := by decide +kernel
theorem dX9_moreBy_7 : decode cX9_moreBy 7 = .ok (.ifCond .eq 5, 3) := by decide +kernel
theorem dX9_moreBy_10 : decode cX9_moreBy 10 = .ok (.iconst 0, 1) := by decide +kernel
theorem dX9_moreBy_11 : decode cX9_moreBy 11 = .ok (.ireturn, 1) := by decide +kernel
theorem dX9_moreBy_12 : decode cX9_moreBy 12 = .ok (.iconst 0, 1) := by decide +kernel
theorem dX9_moreBy_13 : decode cX9_moreBy 13 = .ok (.istore_n 1, 1) := by decide +kernel
theorem dX9_moreBy_14 : decode cX9_moreBy 14 = .ok (.iload_n 1, 1) := by decide +kernel
theorem dX9_moreBy_15 : decode cX9_moreBy 15 = .ok (.bipush 10, 2) := by decide +kernel
theorem dX9_moreBy_17 : decode cX9_moreBy 17 = .ok (.if_icmp .ge 21, 3) := by decide +kernel
theorem dX9_moreBy_20 : decode cX9_moreBy 20 = .ok (.aload_n 0, 1) := by decide +kernel
theorem dX9_moreBy_21 : decode cX9_moreBy 21 = .ok (.iconst 1, 1) := by decide +kernel
theorem dX9_moreBy_22 : decode cX9_moreBy 22 = .ok (.iload_n 1, 1) := by decide +kernel
theorem dX9_moreBy_23 : decode cX9_moreBy 23 = .ok (.iconst 0, 1) := by decide +kernel
theorem dX9_moreBy_24 : decode cX9_moreBy 24 = .ok (.invokevirtual 245, 3) := by decide +kernel
theorem dX9_moreBy_27 : decode cX9_moreBy 27 = .ok (.ifCond .eq 5, 3) := by decide +kernel
theorem dX9_moreBy_30 : decode cX9_moreBy 30 = .ok (.iconst 1, 1) := by decide +kernel
theorem dX9_moreBy_31 : decode cX9_moreBy 31 = .ok (.ireturn, 1) := by decide +kernel
theorem dX9_moreBy_32 : decode cX9_moreBy 32 = .ok (.iinc 1 1, 3) := by decide +kernel
theorem dX9_moreBy_35 : decode cX9_moreBy 35 = .ok (.goto (-21), 3) := by decide +kernel
theorem dX9_moreBy_38 : decode cX9_moreBy 38 = .ok (.iconst 0, 1) := by decide +kernel
theorem dX9_moreBy_39 : decode cX9_moreBy 39 = .ok (.istore_n 1, 1) := by decide +kernel
theorem dX9_moreBy_40 : decode cX9_moreBy 40 = .ok (.iload_n 1, 1) := by decide +kernel
theorem dX9_moreBy_41 : decode cX9_moreBy 41 = .ok (.bipush 10, 2) := by decide +kernel
theorem dX9_moreBy_43 : decode cX9_moreBy 43 = .ok (.if_icmp .ge 35, 3) := by decide +kernel
theorem dX9_moreBy_46 : decode cX9_moreBy 46 = .ok (.iconst 0, 1) := by decide +kernel
theorem dX9_moreBy_47 : decode cX9_moreBy 47 = .ok (.istore_n 2, 1) := by decide +kernel
theorem dX9_moreBy_48 : decode cX9_moreBy 48 = .ok (.iload_n 2, 1) := by decide +kernel
theorem dX9_moreBy_49 : decode cX9_moreBy 49 = .ok (.bipush 10, 2) := by decide +kernel
theorem dX9_moreBy_51 : decode cX9_moreBy 51 = .ok (.if_icmp .ge 21, 3) := by decide +kernel
theorem dX9_moreBy_54 : decode cX9_moreBy 54 = .ok (.aload_n 0, 1) := by decide +kernel
theorem dX9_moreBy_55 : decode cX9_moreBy 55 = .ok (.iconst 2, 1) := by decide +kernel
theorem dX9_moreBy_56 : decode cX9_moreBy 56 = .ok (.iload_n 1, 1) := by decide +kernel
theorem dX9_moreBy_57 : decode cX9_moreBy 57 = .ok (.iload_n 2, 1) := by decide +kernel
theorem dX9_moreBy_58 : decode cX9_moreBy 58 = .ok (.invokevirtual 245, 3) := by decide +kernel
theorem dX9_moreBy_61 : decode cX9_moreBy 61 = .ok (.ifCond .eq 5, 3) := by decide +kernel
theorem dX9_moreBy_64 : decode cX9_moreBy 64 = .ok (.iconst 2, 1) := by decide +kernel
theorem dX9_moreBy_65 : decode cX9_moreBy 65 = .ok (.ireturn, 1) := by decide +kernel
theorem dX9_moreBy_66 : decode cX9_moreBy 66 = .ok (.iinc 2 1, 3) := by decide +kernel
theorem dX9_moreBy_69 : decode cX9_moreBy 69 = .ok (.goto (-21), 3) := by decide +kernel
theorem dX9_moreBy_72 : decode cX9_moreBy 72 = .ok (.iinc 1 1, 3) := by decide +kernel
theorem dX9_moreBy_75 : decode cX9_moreBy 75 = .ok (.goto (-35), 3) := by decide +kernel
theorem dX9_moreBy_78 : decode cX9_moreBy 78 = .ok (.iconst (-1), 1) := by decide +kernel
theorem dX9_moreBy_79 : decode cX9_moreBy 79 = .ok (.ireturn, 1) := by decide +kernel
theorem dX9_ofRow_0 : decode cX9_ofRow 0 = .ok (.iload_n 2, 1) := by decide +kernel
theorem dX9_ofRow_1 : decode cX9_ofRow 1 = .ok (.iconst (-1), 1) := by decide +kernel
theorem dX9_ofRow_2 : decode cX9_ofRow 2 = .ok (.if_icmp .ne 7, 3) := by decide +kernel
theorem dX9_ofRow_5 : decode cX9_ofRow 5 = .ok (.iload_n 1, 1) := by decide +kernel
theorem dX9_ofRow_6 : decode cX9_ofRow 6 = .ok (.goto 18, 3) := by decide +kernel
theorem dX9_ofRow_9 : decode cX9_ofRow 9 = .ok (.iload_n 2, 1) := by decide +kernel
theorem dX9_ofRow_10 : decode cX9_ofRow 10 = .ok (.iload_n 1, 1) := by decide +kernel
theorem dX9_ofRow_11 : decode cX9_ofRow 11 = .ok (.if_icmp .ge 12, 3) := by decide +kernel
theorem dX9_ofRow_14 : decode cX9_ofRow 14 = .ok (.aload_n 0, 1) := by decide +kernel
theorem dX9_ofRow_15 : decode cX9_ofRow 15 = .ok (.getfield 64, 3) := by decide +kernel
theorem dX9_ofRow_18 : decode cX9_ofRow 18 = .ok (.iload_n 2, 1) := by decide +kernel
theorem dX9_ofRow_19 : decode cX9_ofRow 19 = .ok (.iaload, 1) := by decide +kernel
theorem dX9_ofRow_20 : decode cX9_ofRow 20 = .ok (.goto 4, 3) := by decide +kernel
theorem dX9_ofRow_23 : decode cX9_ofRow 23 = .ok (.iconst (-1), 1) := by decide +kernel
theorem dX9_ofRow_24 : decode cX9_ofRow 24 = .ok (.ireturn, 1) := by decide +kernel
theorem dX9_more_0 : decode cX9_more 0 = .ok (.iload_n 1, 1) := by decide +kernel
theorem dX9_more_1 : decode cX9_more 1 = .ok (.iconst (-1), 1) := by decide +kernel
theorem dX9_more_2 : decode cX9_more 2 = .ok (.iconst 1, 1) := by decide +kernel
theorem dX9_more_3 : decode cX9_more 3 = .ok (.invokestatic 101, 3) := by decide +kernel
theorem dX9_more_6 : decode cX9_more 6 = .ok (.ifCond .eq 15, 3) := by decide +kernel
theorem dX9_more_9 : decode cX9_more 9 = .ok (.aload_n 0, 1) := by decide +kernel
theorem dX9_more_10 : decode cX9_more 10 = .ok (.aload_n 0, 1) := by decide +kernel
theorem dX9_more_11 : decode cX9_more 11 = .ok (.invokevirtual 248, 3) := by decide +kernel
theorem dX9_more_14 : decode cX9_more 14 = .ok (.iload_n 1, 1) := by decide +kernel
theorem dX9_more_15 : decode cX9_more 15 = .ok (.invokevirtual 251, 3) := by decide +kernel
theorem dX9_more_18 : decode cX9_more 18 = .ok (.goto 5, 3) := by decide +kernel
theorem dX9_more_21 : decode cX9_more 21 = .ok (.bipush (-2), 2) := by decide +kernel
theorem dX9_more_23 : decode cX9_more 23 = .ok (.ireturn, 1) := by decide +kernel
theorem dX9_isSpared_0 : decode cX9_isSpared 0 = .ok (.aload_n 0, 1) := by decide +kernel
theorem dX9_isSpared_1 : decode cX9_isSpared 1 = .ok (.invokevirtual 212, 3) := by decide +kernel
theorem dX9_isSpared_4 : decode cX9_isSpared 4 = .ok (.aload_n 0, 1) := by decide +kernel
theorem dX9_isSpared_5 : decode cX9_isSpared 5 = .ok (.iconst 0, 1) := by decide +kernel
theorem dX9_isSpared_6 : decode cX9_isSpared 6 = .ok (.putfield 199, 3) := by decide +kernel
theorem dX9_isSpared_9 : decode cX9_isSpared 9 = .ok (.iconst 0, 1) := by decide +kernel
theorem dX9_isSpared_10 : decode cX9_isSpared 10 = .ok (.istore 5, 2) := by decide +kernel
theorem dX9_isSpared_12 : decode cX9_isSpared 12 = .ok (.iload 5, 2) := by decide +kernel
theorem dX9_isSpared_14 : decode cX9_isSpared 14 = .ok (.aload_n 0, 1) := by decide +kernel
theorem dX9_isSpared_15 : decode cX9_isSpared 15 = .ok (.getfield 127, 3) := by decide +kernel
theorem dX9_isSpared_18 : decode cX9_isSpared 18 = .ok (.if_icmp .ge 48, 3) := by decide +kernel
theorem dX9_isSpared_21 : decode cX9_isSpared 21 = .ok (.iload 5, 2) := by decide +kernel
theorem dX9_isSpared_23 : decode cX9_isSpared 23 = .ok (.iload_n 3, 1) := by decide +kernel
theorem dX9_isSpared_24 : decode cX9_isSpared 24 = .ok (.if_icmp .eq 36, 3) := by decide +kernel
theorem dX9_isSpared_27 : decode cX9_isSpared 27 = .ok (.iload 5, 2) := by decide +kernel
theorem dX9_isSpared_29 : decode cX9_isSpared 29 = .ok (.iload 4, 2) := by decide +kernel
theorem dX9_isSpared_31 : decode cX9_isSpared 31 = .ok (.if_icmp .eq 29, 3) := by decide +kernel
theorem dX9_isSpared_34 : decode cX9_isSpared 34 = .ok (.aload_n 0, 1) := by decide +kernel
theorem dX9_isSpared_35 : decode cX9_isSpared 35 = .ok (.getfield 34, 3) := by decide +kernel
theorem dX9_isSpared_38 : decode cX9_isSpared 38 = .ok (.aload_n 0, 1) := by decide +kernel
theorem dX9_isSpared_39 : decode cX9_isSpared 39 = .ok (.getfield 199, 3) := by decide +kernel
theorem dX9_isSpared_42 : decode cX9_isSpared 42 = .ok (.aload_n 0, 1) := by decide +kernel
theorem dX9_isSpared_43 : decode cX9_isSpared 43 = .ok (.getfield 31, 3) := by decide +kernel
theorem dX9_isSpared_46 : decode cX9_isSpared 46 = .ok (.iload 5, 2) := by decide +kernel
theorem dX9_isSpared_48 : decode cX9_isSpared 48 = .ok (.iaload, 1) := by decide +kernel
theorem dX9_isSpared_49 : decode cX9_isSpared 49 = .ok (.iastore, 1) := by decide +kernel
theorem dX9_isSpared_50 : decode cX9_isSpared 50 = .ok (.aload_n 0, 1) := by decide +kernel
theorem dX9_isSpared_51 : decode cX9_isSpared 51 = .ok (.dup, 1) := by decide +kernel
theorem dX9_isSpared_52 : decode cX9_isSpared 52 = .ok (.getfield 199, 3) := by decide +kernel
theorem dX9_isSpared_55 : decode cX9_isSpared 55 = .ok (.iconst 1, 1) := by decide +kernel
theorem dX9_isSpared_56 : decode cX9_isSpared 56 = .ok (.iadd, 1) := by decide +kernel
theorem dX9_isSpared_57 : decode cX9_isSpared 57 = .ok (.putfield 199, 3) := by decide +kernel
theorem dX9_isSpared_60 : decode cX9_isSpared 60 = .ok (.iinc 5 1, 3) := by decide +kernel
theorem dX9_isSpared_63 : decode cX9_isSpared 63 = .ok (.goto (-51), 3) := by decide +kernel
theorem dX9_isSpared_66 : decode cX9_isSpared 66 = .ok (.aload_n 0, 1) := by decide +kernel
theorem dX9_isSpared_67 : decode cX9_isSpared 67 = .ok (.getfield 64, 3) := by decide +kernel
theorem dX9_isSpared_70 : decode cX9_isSpared 70 = .ok (.iconst 0, 1) := by decide +kernel
theorem dX9_isSpared_71 : decode cX9_isSpared 71 = .ok (.iload_n 3, 1) := by decide +kernel
theorem dX9_isSpared_72 : decode cX9_isSpared 72 = .ok (.iastore, 1) := by decide +kernel
theorem dX9_isSpared_73 : decode cX9_isSpared 73 = .ok (.aload_n 0, 1) := by decide +kernel
theorem dX9_isSpared_74 : decode cX9_isSpared 74 = .ok (.getfield 64, 3) := by decide +kernel
theorem dX9_isSpared_77 : decode cX9_isSpared 77 = .ok (.iconst 1, 1) := by decide +kernel
theorem dX9_isSpared_78 : decode cX9_isSpared 78 = .ok (.iload 4, 2) := by decide +kernel
theorem dX9_isSpared_80 : decode cX9_isSpared 80 = .ok (.iastore, 1) := by decide +kernel
theorem dX9_isSpared_81 : decode cX9_isSpared 81 = .ok (.aload_n 0, 1) := by decide +kernel
theorem dX9_isSpared_82 : decode cX9_isSpared 82 = .ok (.invokevirtual 215, 3) := by decide +kernel
theorem dX9_isSpared_85 : decode cX9_isSpared 85 = .ok (.aload_n 0, 1) := by decide +kernel
theorem dX9_isSpared_86 : decode cX9_isSpared 86 = .ok (.getfield 61, 3) := by decide +kernel
theorem dX9_isSpared_89 : decode cX9_isSpared 89 = .ok (.iload_n 1, 1) := by decide +kernel
theorem dX9_isSpared_90 : decode cX9_isSpared 90 = .ok (.iaload, 1) := by decide +kernel
theorem dX9_isSpared_91 : decode cX9_isSpared 91 = .ok (.iload_n 2, 1) := by decide +kernel
theorem dX9_isSpared_92 : decode cX9_isSpared 92 = .ok (.invokestatic 159, 3) := by decide +kernel
theorem dX9_isSpared_95 : decode cX9_isSpared 95 = .ok (.ifCond .ne 7, 3) := by decide +kernel
theorem dX9_isSpared_98 : decode cX9_isSpared 98 = .ok (.iconst 1, 1) := by decide +kernel
theorem dX9_isSpared_99 : decode cX9_isSpared 99 = .ok (.goto 4, 3) := by decide +kernel
theorem dX9_isSpared_102 : decode cX9_isSpared 102 = .ok (.iconst 0, 1) := by decide +kernel
theorem dX9_isSpared_103 : decode cX9_isSpared 103 = .ok (.ireturn, 1) := by decide +kernel
theorem dX9_leaveBy_0 : decode cX9_leaveBy 0 = .ok (.aload_n 0, 1) := by decide +kernel
theorem dX9_leaveBy_1 : decode cX9_leaveBy 1 = .ok (.iload_n 1, 1) := by decide +kernel
theorem dX9_leaveBy_2 : decode cX9_leaveBy 2 = .ok (.iload_n 2, 1) := by decide +kernel
theorem dX9_leaveBy_3 : decode cX9_leaveBy 3 = .ok (.iconst (-1), 1) := by decide +kernel
theorem dX9_leaveBy_4 : decode cX9_leaveBy 4 = .ok (.iconst (-1), 1) := by decide +kernel
theorem dX9_leaveBy_5 : decode cX9_leaveBy 5 = .ok (.invokevirtual 254, 3) := by decide +kernel
theorem dX9_leaveBy_8 : decode cX9_leaveBy 8 = .ok (.ifCond .eq 5, 3) := by decide +kernel
theorem dX9_leaveBy_11 : decode cX9_leaveBy 11 = .ok (.iconst 0, 1) := by decide +kernel
theorem dX9_leaveBy_12 : decode cX9_leaveBy 12 = .ok (.ireturn, 1) := by decide +kernel
theorem dX9_leaveBy_13 : decode cX9_leaveBy 13 = .ok (.iconst 0, 1) := by decide +kernel
theorem dX9_leaveBy_14 : decode cX9_leaveBy 14 = .ok (.istore_n 3, 1) := by decide +kernel
theorem dX9_leaveBy_15 : decode cX9_leaveBy 15 = .ok (.iload_n 3, 1) := by decide +kernel
theorem dX9_leaveBy_16 : decode cX9_leaveBy 16 = .ok (.aload_n 0, 1) := by decide +kernel
theorem dX9_leaveBy_17 : decode cX9_leaveBy 17 = .ok (.getfield 127, 3) := by decide +kernel
theorem dX9_leaveBy_20 : decode cX9_leaveBy 20 = .ok (.if_icmp .ge 22, 3) := by decide +kernel
theorem dX9_leaveBy_23 : decode cX9_leaveBy 23 = .ok (.aload_n 0, 1) := by decide +kernel
theorem dX9_leaveBy_24 : decode cX9_leaveBy 24 = .ok (.iload_n 1, 1) := by decide +kernel
theorem dX9_leaveBy_25 : decode cX9_leaveBy 25 = .ok (.iload_n 2, 1) := by decide +kernel
theorem dX9_leaveBy_26 : decode cX9_leaveBy 26 = .ok (.iload_n 3, 1) := by decide +kernel
theorem dX9_leaveBy_27 : decode cX9_leaveBy 27 = .ok (.iconst (-1), 1) := by decide +kernel
theorem dX9_leaveBy_28 : decode cX9_leaveBy 28 = .ok (.invokevirtual 254, 3) := by decide +kernel
theorem dX9_leaveBy_31 : decode cX9_leaveBy 31 = .ok (.ifCond .eq 5, 3) := by decide +kernel
theorem dX9_leaveBy_34 : decode cX9_leaveBy 34 = .ok (.iconst 1, 1) := by decide +kernel
theorem dX9_leaveBy_35 : decode cX9_leaveBy 35 = .ok (.ireturn, 1) := by decide +kernel
theorem dX9_leaveBy_36 : decode cX9_leaveBy 36 = .ok (.iinc 3 1, 3) := by decide +kernel
theorem dX9_leaveBy_39 : decode cX9_leaveBy 39 = .ok (.goto (-24), 3) := by decide +kernel
theorem dX9_leaveBy_42 : decode cX9_leaveBy 42 = .ok (.iconst 0, 1) := by decide +kernel
theorem dX9_leaveBy_43 : decode cX9_leaveBy 43 = .ok (.istore_n 3, 1) := by decide +kernel
theorem dX9_leaveBy_44 : decode cX9_leaveBy 44 = .ok (.iload_n 3, 1) := by decide +kernel
theorem dX9_leaveBy_45 : decode cX9_leaveBy 45 = .ok (.aload_n 0, 1) := by decide +kernel
theorem dX9_leaveBy_46 : decode cX9_leaveBy 46 = .ok (.getfield 127, 3) := by decide +kernel
theorem dX9_leaveBy_49 : decode cX9_leaveBy 49 = .ok (.if_icmp .ge 43, 3) := by decide +kernel
theorem dX9_leaveBy_52 : decode cX9_leaveBy 52 = .ok (.iload_n 3, 1) := by decide +kernel
theorem dX9_leaveBy_53 : decode cX9_leaveBy 53 = .ok (.iconst 1, 1) := by decide +kernel
theorem dX9_leaveBy_54 : decode cX9_leaveBy 54 = .ok (.iadd, 1) := by decide +kernel
theorem dX9_leaveBy_55 : decode cX9_leaveBy 55 = .ok (.istore 4, 2) := by decide +kernel
theorem dX9_leaveBy_57 : decode cX9_leaveBy 57 = .ok (.iload 4, 2) := by decide +kernel
theorem dX9_leaveBy_59 : decode cX9_leaveBy 59 = .ok (.aload_n 0, 1) := by decide +kernel
theorem dX9_leaveBy_60 : decode cX9_leaveBy 60 = .ok (.getfield 127, 3) := by decide +kernel
theorem dX9_leaveBy_63 : decode cX9_leaveBy 63 = .ok (.if_icmp .ge 23, 3) := by decide +kernel
theorem dX9_leaveBy_66 : decode cX9_leaveBy 66 = .ok (.aload_n 0, 1) := by decide +kernel
theorem dX9_leaveBy_67 : decode cX9_leaveBy 67 = .ok (.iload_n 1, 1) := by decide +kernel
theorem dX9_leaveBy_68 : decode cX9_leaveBy 68 = .ok (.iload_n 2, 1) := by decide +kernel
theorem dX9_leaveBy_69 : decode cX9_leaveBy 69 = .ok (.iload_n 3, 1) := by decide +kernel
theorem dX9_leaveBy_70 : decode cX9_leaveBy 70 = .ok (.iload 4, 2) := by decide +kernel
theorem dX9_leaveBy_72 : decode cX9_leaveBy 72 = .ok (.invokevirtual 254, 3) := by decide +kernel
theorem dX9_leaveBy_75 : decode cX9_leaveBy 75 = .ok (.ifCond .eq 5, 3) := by decide +kernel
theorem dX9_leaveBy_78 : decode cX9_leaveBy 78 = .ok (.iconst 2, 1) := by decide +kernel
theorem dX9_leaveBy_79 : decode cX9_leaveBy 79 = .ok (.ireturn, 1) := by decide +kernel
theorem dX9_leaveBy_80 : decode cX9_leaveBy 80 = .ok (.iinc 4 1, 3) := by decide +kernel
theorem dX9_leaveBy_83 : decode cX9_leaveBy 83 = .ok (.goto (-26), 3) := by decide +kernel
theorem dX9_leaveBy_86 : decode cX9_leaveBy 86 = .ok (.iinc 3 1, 3) := by decide +kernel
theorem dX9_leaveBy_89 : decode cX9_leaveBy 89 = .ok (.goto (-45), 3) := by decide +kernel
theorem dX9_leaveBy_92 : decode cX9_leaveBy 92 = .ok (.iconst (-1), 1) := by decide +kernel
theorem dX9_leaveBy_93 : decode cX9_leaveBy 93 = .ok (.ireturn, 1) := by decide +kernel
theorem dX9_leave_0 : decode cX9_leave 0 = .ok (.aload_n 0, 1) := by decide +kernel
theorem dX9_leave_1 : decode cX9_leave 1 = .ok (.iload_n 1, 1) := by decide +kernel
theorem dX9_leave_2 : decode cX9_leave 2 = .ok (.invokevirtual 144, 3) := by decide +kernel
theorem dX9_leave_5 : decode cX9_leave 5 = .ok (.ifCond .eq 34, 3) := by decide +kernel
theorem dX9_leave_8 : decode cX9_leave 8 = .ok (.aload_n 0, 1) := by decide +kernel
theorem dX9_leave_9 : decode cX9_leave 9 = .ok (.iload_n 2, 1) := by decide +kernel
theorem dX9_leave_10 : decode cX9_leave 10 = .ok (.invokevirtual 150, 3) := by decide +kernel
theorem dX9_leave_13 : decode cX9_leave 13 = .ok (.ifCond .eq 26, 3) := by decide +kernel
theorem dX9_leave_16 : decode cX9_leave 16 = .ok (.iload_n 3, 1) := by decide +kernel
theorem dX9_leave_17 : decode cX9_leave 17 = .ok (.iconst (-1), 1) := by decide +kernel
theorem dX9_leave_18 : decode cX9_leave 18 = .ok (.iconst 1, 1) := by decide +kernel
theorem dX9_leave_19 : decode cX9_leave 19 = .ok (.invokestatic 101, 3) := by decide +kernel
theorem dX9_leave_22 : decode cX9_leave 22 = .ok (.ifCond .eq 17, 3) := by decide +kernel
theorem dX9_leave_25 : decode cX9_leave 25 = .ok (.aload_n 0, 1) := by decide +kernel
theorem dX9_leave_26 : decode cX9_leave 26 = .ok (.aload_n 0, 1) := by decide +kernel
theorem dX9_leave_27 : decode cX9_leave 27 = .ok (.iload_n 1, 1) := by decide +kernel
theorem dX9_leave_28 : decode cX9_leave 28 = .ok (.iload_n 2, 1) := by decide +kernel
theorem dX9_leave_29 : decode cX9_leave 29 = .ok (.invokevirtual 258, 3) := by decide +kernel
theorem dX9_leave_32 : decode cX9_leave 32 = .ok (.iload_n 3, 1) := by decide +kernel
theorem dX9_leave_33 : decode cX9_leave 33 = .ok (.invokevirtual 251, 3) := by decide +kernel
theorem dX9_leave_36 : decode cX9_leave 36 = .ok (.goto 5, 3) := by decide +kernel
theorem dX9_leave_39 : decode cX9_leave 39 = .ok (.bipush (-2), 2) := by decide +kernel
theorem dX9_leave_41 : decode cX9_leave 41 = .ok (.ireturn, 1) := by decide +kernel
theorem dX9_seen_0 : decode cX9_seen 0 = .ok (.iload_n 1, 1) := by decide +kernel
theorem dX9_seen_1 : decode cX9_seen 1 = .ok (.invokestatic 221, 3) := by decide +kernel
theorem dX9_seen_4 : decode cX9_seen 4 = .ok (.ifCond .eq 14, 3) := by decide +kernel
theorem dX9_seen_7 : decode cX9_seen 7 = .ok (.iload_n 2, 1) := by decide +kernel
theorem dX9_seen_8 : decode cX9_seen 8 = .ok (.iconst 0, 1) := by decide +kernel
theorem dX9_seen_9 : decode cX9_seen 9 = .ok (.sipush 999, 3) := by decide +kernel
theorem dX9_seen_12 : decode cX9_seen 12 = .ok (.invokestatic 101, 3) := by decide +kernel
theorem dX9_seen_15 : decode cX9_seen 15 = .ok (.ifCond .ne 6, 3) := by decide +kernel
theorem dX9_seen_18 : decode cX9_seen 18 = .ok (.bipush (-2), 2) := by decide +kernel
theorem dX9_seen_20 : decode cX9_seen 20 = .ok (.ireturn, 1) := by decide +kernel
theorem dX9_seen_21 : decode cX9_seen 21 = .ok (.aload_n 0, 1) := by decide +kernel
theorem dX9_seen_22 : decode cX9_seen 22 = .ok (.getfield 261, 3) := by decide +kernel
theorem dX9_seen_25 : decode cX9_seen 25 = .ok (.bipush 8, 2) := by decide +kernel
theorem dX9_seen_27 : decode cX9_seen 27 = .ok (.if_icmp .ne 6, 3) := by decide +kernel
theorem dX9_seen_30 : decode cX9_seen 30 = .ok (.bipush (-4), 2) := by decide +kernel
theorem dX9_seen_32 : decode cX9_seen 32 = .ok (.ireturn, 1) := by decide +kernel
theorem dX9_seen_33 : decode cX9_seen 33 = .ok (.aload_n 0, 1) := by decide +kernel
theorem dX9_seen_34 : decode cX9_seen 34 = .ok (.getfield 67, 3) := by decide +kernel
theorem dX9_seen_37 : decode cX9_seen 37 = .ok (.aload_n 0, 1) := by decide +kernel
theorem dX9_seen_38 : decode cX9_seen 38 = .ok (.getfield 261, 3) := by decide +kernel
theorem dX9_seen_41 : decode cX9_seen 41 = .ok (.iload_n 1, 1) := by decide +kernel
theorem dX9_seen_42 : decode cX9_seen 42 = .ok (.iastore, 1) := by decide +kernel
theorem dX9_seen_43 : decode cX9_seen 43 = .ok (.aload_n 0, 1) := by decide +kernel
theorem dX9_seen_44 : decode cX9_seen 44 = .ok (.getfield 70, 3) := by decide +kernel
theorem dX9_seen_47 : decode cX9_seen 47 = .ok (.aload_n 0, 1) := by decide +kernel
theorem dX9_seen_48 : decode cX9_seen 48 = .ok (.getfield 261, 3) := by decide +kernel
theorem dX9_seen_51 : decode cX9_seen 51 = .ok (.iload_n 2, 1) := by decide +kernel
theorem dX9_seen_52 : decode cX9_seen 52 = .ok (.iastore, 1) := by decide +kernel
theorem dX9_seen_53 : decode cX9_seen 53 = .ok (.aload_n 0, 1) := by decide +kernel
theorem dX9_seen_54 : decode cX9_seen 54 = .ok (.dup, 1) := by decide +kernel
theorem dX9_seen_55 : decode cX9_seen 55 = .ok (.getfield 261, 3) := by decide +kernel
theorem dX9_seen_58 : decode cX9_seen 58 = .ok (.iconst 1, 1) := by decide +kernel
theorem dX9_seen_59 : decode cX9_seen 59 = .ok (.iadd, 1) := by decide +kernel
theorem dX9_seen_60 : decode cX9_seen 60 = .ok (.putfield 261, 3) := by decide +kernel
theorem dX9_seen_63 : decode cX9_seen 63 = .ok (.aload_n 0, 1) := by decide +kernel
theorem dX9_seen_64 : decode cX9_seen 64 = .ok (.getfield 261, 3) := by decide +kernel
theorem dX9_seen_67 : decode cX9_seen 67 = .ok (.ireturn, 1) := by decide +kernel
theorem dX9_forget_0 : decode cX9_forget 0 = .ok (.aload_n 0, 1) := by decide +kernel
theorem dX9_forget_1 : decode cX9_forget 1 = .ok (.getfield 261, 3) := by decide +kernel
theorem dX9_forget_4 : decode cX9_forget 4 = .ok (.istore_n 1, 1) := by decide +kernel
theorem dX9_forget_5 : decode cX9_forget 5 = .ok (.aload_n 0, 1) := by decide +kernel
theorem dX9_forget_6 : decode cX9_forget 6 = .ok (.iconst 0, 1) := by decide +kernel
theorem dX9_forget_7 : decode cX9_forget 7 = .ok (.putfield 261, 3) := by decide +kernel
theorem dX9_forget_10 : decode cX9_forget 10 = .ok (.iload_n 1, 1) := by decide +kernel
theorem dX9_forget_11 : decode cX9_forget 11 = .ok (.ireturn, 1) := by decide +kernel
theorem dX9_read_0 : decode cX9_read 0 = .ok (.iload_n 1, 1) := by decide +kernel
theorem dX9_read_1 : decode cX9_read 1 = .ok (.invokestatic 264, 3) := by decide +kernel
theorem dX9_read_4 : decode cX9_read 4 = .ok (.ifCond .ne 6, 3) := by decide +kernel
theorem dX9_read_7 : decode cX9_read 7 = .ok (.bipush (-2), 2) := by decide +kernel
theorem dX9_read_9 : decode cX9_read 9 = .ok (.ireturn, 1) := by decide +kernel
theorem dX9_read_10 : decode cX9_read 10 = .ok (.aload_n 0, 1) := by decide +kernel
theorem dX9_read_11 : decode cX9_read 11 = .ok (.getfield 76, 3) := by decide +kernel
theorem dX9_read_14 : decode cX9_read 14 = .ok (.iload_n 1, 1) := by decide +kernel
theorem dX9_read_15 : decode cX9_read 15 = .ok (.baload, 1) := by decide +kernel
theorem dX9_read_16 : decode cX9_read 16 = .ok (.ifCond .ne 9, 3) := by decide +kernel
theorem dX9_read_19 : decode cX9_read 19 = .ok (.aload_n 0, 1) := by decide +kernel
theorem dX9_read_20 : decode cX9_read 20 = .ok (.iconst 1, 1) := by decide +kernel
theorem dX9_read_21 : decode cX9_read 21 = .ok (.invokevirtual 267, 3) := by decide +kernel
theorem dX9_read_24 : decode cX9_read 24 = .ok (.ireturn, 1) := by decide +kernel
theorem dX9_read_25 : decode cX9_read 25 = .ok (.iconst 0, 1) := by decide +kernel
theorem dX9_read_26 : decode cX9_read 26 = .ok (.istore_n 2, 1) := by decide +kernel
theorem dX9_read_27 : decode cX9_read 27 = .ok (.iconst 2, 1) := by decide +kernel
theorem dX9_read_28 : decode cX9_read 28 = .ok (.iload_n 2, 1) := by decide +kernel
theorem dX9_read_29 : decode cX9_read 29 = .ok (.imul, 1) := by decide +kernel
theorem dX9_read_30 : decode cX9_read 30 = .ok (.iconst 1, 1) := by decide +kernel
theorem dX9_read_31 : decode cX9_read 31 = .ok (.iadd, 1) := by decide +kernel
theorem dX9_read_32 : decode cX9_read 32 = .ok (.aload_n 0, 1) := by decide +kernel
theorem dX9_read_33 : decode cX9_read 33 = .ok (.getfield 83, 3) := by decide +kernel
theorem dX9_read_36 : decode cX9_read 36 = .ok (.iload_n 1, 1) := by decide +kernel
theorem dX9_read_37 : decode cX9_read 37 = .ok (.iaload, 1) := by decide +kernel
theorem dX9_read_38 : decode cX9_read 38 = .ok (.if_icmp .ge 44, 3) := by decide +kernel
theorem dX9_read_41 : decode cX9_read 41 = .ok (.aload_n 0, 1) := by decide +kernel
theorem dX9_read_42 : decode cX9_read 42 = .ok (.aload_n 0, 1) := by decide +kernel
theorem dX9_read_43 : decode cX9_read 43 = .ok (.getfield 86, 3) := by decide +kernel
theorem dX9_read_46 : decode cX9_read 46 = .ok (.bipush 60, 2) := by decide +kernel
theorem dX9_read_48 : decode cX9_read 48 = .ok (.iload_n 1, 1) := by decide +kernel
theorem dX9_read_49 : decode cX9_read 49 = .ok (.imul, 1) := by decide +kernel
theorem dX9_read_50 : decode cX9_read 50 = .ok (.iconst 2, 1) := by decide +kernel
theorem dX9_read_51 : decode cX9_read 51 = .ok (.iload_n 2, 1) := by decide +kernel
theorem dX9_read_52 : decode cX9_read 52 = .ok (.imul, 1) := by decide +kernel
theorem dX9_read_53 : decode cX9_read 53 = .ok (.iadd, 1) := by decide +kernel
theorem dX9_read_54 : decode cX9_read 54 = .ok (.iaload, 1) := by decide +kernel
theorem dX9_read_55 : decode cX9_read 55 = .ok (.aload_n 0, 1) := by decide +kernel
theorem dX9_read_56 : decode cX9_read 56 = .ok (.getfield 86, 3) := by decide +kernel
theorem dX9_read_59 : decode cX9_read 59 = .ok (.bipush 60, 2) := by decide +kernel
theorem dX9_read_61 : decode cX9_read 61 = .ok (.iload_n 1, 1) := by decide +kernel
theorem dX9_read_62 : decode cX9_read 62 = .ok (.imul, 1) := by decide +kernel
theorem dX9_read_63 : decode cX9_read 63 = .ok (.iconst 2, 1) := by decide +kernel
theorem dX9_read_64 : decode cX9_read 64 = .ok (.iload_n 2, 1) := by decide +kernel
theorem dX9_read_65 : decode cX9_read 65 = .ok (.imul, 1) := by decide +kernel
theorem dX9_read_66 : decode cX9_read 66 = .ok (.iadd, 1) := by decide +kernel
theorem dX9_read_67 : decode cX9_read 67 = .ok (.iconst 1, 1) := by decide +kernel
theorem dX9_read_68 : decode cX9_read 68 = .ok (.iadd, 1) := by decide +kernel
theorem dX9_read_69 : decode cX9_read 69 = .ok (.iaload, 1) := by decide +kernel
theorem dX9_read_70 : decode cX9_read 70 = .ok (.invokevirtual 270, 3) := by decide +kernel
theorem dX9_read_73 : decode cX9_read 73 = .ok (.ifCond .le 9, 3) := by decide +kernel
theorem dX9_read_76 : decode cX9_read 76 = .ok (.iinc 2 1, 3) := by decide +kernel
theorem dX9_read_79 : decode cX9_read 79 = .ok (.goto (-52), 3) := by decide +kernel
theorem dX9_read_82 : decode cX9_read 82 = .ok (.iload_n 2, 1) := by decide +kernel
theorem dX9_read_83 : decode cX9_read 83 = .ok (.ireturn, 1) := by decide +kernel
theorem dX9_loadBehind_0 : decode cX9_loadBehind 0 = .ok (.aload_n 0, 1) := by decide +kernel
theorem dX9_loadBehind_1 : decode cX9_loadBehind 1 = .ok (.getfield 40, 3) := by decide +kernel
theorem dX9_loadBehind_4 : decode cX9_loadBehind 4 = .ok (.iload_n 1, 1) := by decide +kernel
theorem dX9_loadBehind_5 : decode cX9_loadBehind 5 = .ok (.aload_n 0, 1) := by decide +kernel
theorem dX9_loadBehind_6 : decode cX9_loadBehind 6 = .ok (.getfield 166, 3) := by decide +kernel
theorem dX9_loadBehind_9 : decode cX9_loadBehind 9 = .ok (.if_icmp .ge 7, 3) := by decide +kernel
theorem dX9_loadBehind_12 : decode cX9_loadBehind 12 = .ok (.iload_n 1, 1) := by decide +kernel
theorem dX9_loadBehind_13 : decode cX9_loadBehind 13 = .ok (.goto 7, 3) := by decide +kernel
theorem dX9_loadBehind_16 : decode cX9_loadBehind 16 = .ok (.aload_n 0, 1) := by decide +kernel
theorem dX9_loadBehind_17 : decode cX9_loadBehind 17 = .ok (.getfield 166, 3) := by decide +kernel
theorem dX9_loadBehind_20 : decode cX9_loadBehind 20 = .ok (.iaload, 1) := by decide +kernel
theorem dX9_loadBehind_21 : decode cX9_loadBehind 21 = .ok (.ireturn, 1) := by decide +kernel
theorem dX9_isSeen_0 : decode cX9_isSeen 0 = .ok (.aload_n 0, 1) := by decide +kernel
theorem dX9_isSeen_1 : decode cX9_isSeen 1 = .ok (.invokevirtual 215, 3) := by decide +kernel
theorem dX9_isSeen_4 : decode cX9_isSeen 4 = .ok (.iconst 1, 1) := by decide +kernel
theorem dX9_isSeen_5 : decode cX9_isSeen 5 = .ok (.istore_n 1, 1) := by decide +kernel
theorem dX9_isSeen_6 : decode cX9_isSeen 6 = .ok (.iconst 0, 1) := by decide +kernel
theorem dX9_isSeen_7 : decode cX9_isSeen 7 = .ok (.istore_n 2, 1) := by decide +kernel
theorem dX9_isSeen_8 : decode cX9_isSeen 8 = .ok (.iload_n 2, 1) := by decide +kernel
theorem dX9_isSeen_9 : decode cX9_isSeen 9 = .ok (.aload_n 0, 1) := by decide +kernel
theorem dX9_isSeen_10 : decode cX9_isSeen 10 = .ok (.getfield 261, 3) := by decide +kernel
theorem dX9_isSeen_13 : decode cX9_isSeen 13 = .ok (.if_icmp .ge 38, 3) := by decide +kernel
theorem dX9_isSeen_16 : decode cX9_isSeen 16 = .ok (.iload_n 1, 1) := by decide +kernel
theorem dX9_isSeen_17 : decode cX9_isSeen 17 = .ok (.ifCond .eq 26, 3) := by decide +kernel
theorem dX9_isSeen_20 : decode cX9_isSeen 20 = .ok (.aload_n 0, 1) := by decide +kernel
theorem dX9_isSeen_21 : decode cX9_isSeen 21 = .ok (.aload_n 0, 1) := by decide +kernel
theorem dX9_isSeen_22 : decode cX9_isSeen 22 = .ok (.getfield 67, 3) := by decide +kernel
theorem dX9_isSeen_25 : decode cX9_isSeen 25 = .ok (.iload_n 2, 1) := by decide +kernel
theorem dX9_isSeen_26 : decode cX9_isSeen 26 = .ok (.iaload, 1) := by decide +kernel
theorem dX9_isSeen_27 : decode cX9_isSeen 27 = .ok (.invokevirtual 273, 3) := by decide +kernel
theorem dX9_isSeen_30 : decode cX9_isSeen 30 = .ok (.aload_n 0, 1) := by decide +kernel
theorem dX9_isSeen_31 : decode cX9_isSeen 31 = .ok (.getfield 70, 3) := by decide +kernel
theorem dX9_isSeen_34 : decode cX9_isSeen 34 = .ok (.iload_n 2, 1) := by decide +kernel
theorem dX9_isSeen_35 : decode cX9_isSeen 35 = .ok (.iaload, 1) := by decide +kernel
theorem dX9_isSeen_36 : decode cX9_isSeen 36 = .ok (.if_icmp .ne 7, 3) := by decide +kernel
theorem dX9_isSeen_39 : decode cX9_isSeen 39 = .ok (.iconst 1, 1) := by decide +kernel
theorem dX9_isSeen_40 : decode cX9_isSeen 40 = .ok (.goto 4, 3) := by decide +kernel
theorem dX9_isSeen_43 : decode cX9_isSeen 43 = .ok (.iconst 0, 1) := by decide +kernel
theorem dX9_isSeen_44 : decode cX9_isSeen 44 = .ok (.istore_n 1, 1) := by decide +kernel
theorem dX9_isSeen_45 : decode cX9_isSeen 45 = .ok (.iinc 2 1, 3) := by decide +kernel
theorem dX9_isSeen_48 : decode cX9_isSeen 48 = .ok (.goto (-40), 3) := by decide +kernel
theorem dX9_isSeen_51 : decode cX9_isSeen 51 = .ok (.iload_n 1, 1) := by decide +kernel
theorem dX9_isSeen_52 : decode cX9_isSeen 52 = .ok (.ireturn, 1) := by decide +kernel
theorem dX9_neverNow_0 : decode cX9_neverNow 0 = .ok (.aload_n 0, 1) := by decide +kernel
theorem dX9_neverNow_1 : decode cX9_neverNow 1 = .ok (.invokevirtual 212, 3) := by decide +kernel
theorem dX9_neverNow_4 : decode cX9_neverNow 4 = .ok (.iconst 0, 1) := by decide +kernel
theorem dX9_neverNow_5 : decode cX9_neverNow 5 = .ok (.istore_n 1, 1) := by decide +kernel
theorem dX9_neverNow_6 : decode cX9_neverNow 6 = .ok (.iconst 0, 1) := by decide +kernel
theorem dX9_neverNow_7 : decode cX9_neverNow 7 = .ok (.istore_n 2, 1) := by decide +kernel
theorem dX9_neverNow_8 : decode cX9_neverNow 8 = .ok (.iload_n 2, 1) := by decide +kernel
theorem dX9_neverNow_9 : decode cX9_neverNow 9 = .ok (.aload_n 0, 1) := by decide +kernel
theorem dX9_neverNow_10 : decode cX9_neverNow 10 = .ok (.getfield 120, 3) := by decide +kernel
theorem dX9_neverNow_13 : decode cX9_neverNow 13 = .ok (.if_icmp .ge 39, 3) := by decide +kernel
theorem dX9_neverNow_16 : decode cX9_neverNow 16 = .ok (.aload_n 0, 1) := by decide +kernel
theorem dX9_neverNow_17 : decode cX9_neverNow 17 = .ok (.sipush 255, 3) := by decide +kernel
theorem dX9_neverNow_20 : decode cX9_neverNow 20 = .ok (.iconst 1, 1) := by decide +kernel
theorem dX9_neverNow_21 : decode cX9_neverNow 21 = .ok (.iload_n 2, 1) := by decide +kernel
theorem dX9_neverNow_22 : decode cX9_neverNow 22 = .ok (.ishl, 1) := by decide +kernel
theorem dX9_neverNow_23 : decode cX9_neverNow 23 = .ok (.iconst (-1), 1) := by decide +kernel
theorem dX9_neverNow_24 : decode cX9_neverNow 24 = .ok (.ixor, 1) := by decide +kernel
theorem dX9_neverNow_25 : decode cX9_neverNow 25 = .ok (.iand, 1) := by decide +kernel
theorem dX9_neverNow_26 : decode cX9_neverNow 26 = .ok (.putfield 175, 3) := by decide +kernel
theorem dX9_neverNow_29 : decode cX9_neverNow 29 = .ok (.iload_n 1, 1) := by decide +kernel
theorem dX9_neverNow_30 : decode cX9_neverNow 30 = .ok (.aload_n 0, 1) := by decide +kernel
theorem dX9_neverNow_31 : decode cX9_neverNow 31 = .ok (.invokevirtual 276, 3) := by decide +kernel
theorem dX9_neverNow_34 : decode cX9_neverNow 34 = .ok (.ifCond .eq 9, 3) := by decide +kernel
theorem dX9_neverNow_37 : decode cX9_neverNow 37 = .ok (.iconst 1, 1) := by decide +kernel
theorem dX9_neverNow_38 : decode cX9_neverNow 38 = .ok (.iload_n 2, 1) := by decide +kernel
theorem dX9_neverNow_39 : decode cX9_neverNow 39 = .ok (.ishl, 1) := by decide +kernel
theorem dX9_neverNow_40 : decode cX9_neverNow 40 = .ok (.goto 4, 3) := by decide +kernel
theorem dX9_neverNow_43 : decode cX9_neverNow 43 = .ok (.iconst 0, 1) := by decide +kernel
theorem dX9_neverNow_44 : decode cX9_neverNow 44 = .ok (.ior, 1) := by decide +kernel
theorem dX9_neverNow_45 : decode cX9_neverNow 45 = .ok (.istore_n 1, 1) := by decide +kernel
theorem dX9_neverNow_46 : decode cX9_neverNow 46 = .ok (.iinc 2 1, 3) := by decide +kernel
theorem dX9_neverNow_49 : decode cX9_neverNow 49 = .ok (.goto (-41), 3) := by decide +kernel
theorem dX9_neverNow_52 : decode cX9_neverNow 52 = .ok (.iload_n 1, 1) := by decide +kernel
theorem dX9_neverNow_53 : decode cX9_neverNow 53 = .ok (.ireturn, 1) := by decide +kernel
theorem dX9_never_0 : decode cX9_never 0 = .ok (.aload_n 0, 1) := by decide +kernel
theorem dX9_never_1 : decode cX9_never 1 = .ok (.invokevirtual 280, 3) := by decide +kernel
theorem dX9_never_4 : decode cX9_never 4 = .ok (.ireturn, 1) := by decide +kernel
theorem dX9_whoOf_0 : decode cX9_whoOf 0 = .ok (.aload_n 0, 1) := by decide +kernel
theorem dX9_whoOf_1 : decode cX9_whoOf 1 = .ok (.invokevirtual 212, 3) := by decide +kernel
theorem dX9_whoOf_4 : decode cX9_whoOf 4 = .ok (.aload_n 0, 1) := by decide +kernel
theorem dX9_whoOf_5 : decode cX9_whoOf 5 = .ok (.getfield 28, 3) := by decide +kernel
theorem dX9_whoOf_8 : decode cX9_whoOf 8 = .ok (.iload_n 1, 1) := by decide +kernel
theorem dX9_whoOf_9 : decode cX9_whoOf 9 = .ok (.iaload, 1) := by decide +kernel
theorem dX9_whoOf_10 : decode cX9_whoOf 10 = .ok (.istore_n 2, 1) := by decide +kernel
theorem dX9_whoOf_11 : decode cX9_whoOf 11 = .ok (.iconst 0, 1) := by decide +kernel
theorem dX9_whoOf_12 : decode cX9_whoOf 12 = .ok (.istore_n 3, 1) := by decide +kernel
theorem dX9_whoOf_13 : decode cX9_whoOf 13 = .ok (.iconst 0, 1) := by decide +kernel
theorem dX9_whoOf_14 : decode cX9_whoOf 14 = .ok (.istore 4, 2) := by decide +kernel
theorem dX9_whoOf_16 : decode cX9_whoOf 16 = .ok (.iload 4, 2) := by decide +kernel
theorem dX9_whoOf_18 : decode cX9_whoOf 18 = .ok (.aload_n 0, 1) := by decide +kernel
theorem dX9_whoOf_19 : decode cX9_whoOf 19 = .ok (.getfield 117, 3) := by decide +kernel
theorem dX9_whoOf_22 : decode cX9_whoOf 22 = .ok (.if_icmp .ge 35, 3) := by decide +kernel
theorem dX9_whoOf_25 : decode cX9_whoOf 25 = .ok (.aload_n 0, 1) := by decide +kernel
theorem dX9_whoOf_26 : decode cX9_whoOf 26 = .ok (.getfield 28, 3) := by decide +kernel
theorem dX9_whoOf_29 : decode cX9_whoOf 29 = .ok (.iload_n 1, 1) := by decide +kernel
theorem dX9_whoOf_30 : decode cX9_whoOf 30 = .ok (.iload 4, 2) := by decide +kernel
theorem dX9_whoOf_32 : decode cX9_whoOf 32 = .ok (.iastore, 1) := by decide +kernel
theorem dX9_whoOf_33 : decode cX9_whoOf 33 = .ok (.iload_n 3, 1) := by decide +kernel
theorem dX9_whoOf_34 : decode cX9_whoOf 34 = .ok (.aload_n 0, 1) := by decide +kernel
theorem dX9_whoOf_35 : decode cX9_whoOf 35 = .ok (.invokevirtual 276, 3) := by decide +kernel
theorem dX9_whoOf_38 : decode cX9_whoOf 38 = .ok (.ifCond .eq 10, 3) := by decide +kernel
theorem dX9_whoOf_41 : decode cX9_whoOf 41 = .ok (.iconst 1, 1) := by decide +kernel
theorem dX9_whoOf_42 : decode cX9_whoOf 42 = .ok (.iload 4, 2) := by decide +kernel
theorem dX9_whoOf_44 : decode cX9_whoOf 44 = .ok (.ishl, 1) := by decide +kernel
theorem dX9_whoOf_45 : decode cX9_whoOf 45 = .ok (.goto 4, 3) := by decide +kernel
theorem dX9_whoOf_48 : decode cX9_whoOf 48 = .ok (.iconst 0, 1) := by decide +kernel
theorem dX9_whoOf_49 : decode cX9_whoOf 49 = .ok (.ior, 1) := by decide +kernel
theorem dX9_whoOf_50 : decode cX9_whoOf 50 = .ok (.istore_n 3, 1) := by decide +kernel
theorem dX9_whoOf_51 : decode cX9_whoOf 51 = .ok (.iinc 4 1, 3) := by decide +kernel
theorem dX9_whoOf_54 : decode cX9_whoOf 54 = .ok (.goto (-38), 3) := by decide +kernel
theorem dX9_whoOf_57 : decode cX9_whoOf 57 = .ok (.aload_n 0, 1) := by decide +kernel
theorem dX9_whoOf_58 : decode cX9_whoOf 58 = .ok (.getfield 28, 3) := by decide +kernel
theorem dX9_whoOf_61 : decode cX9_whoOf 61 = .ok (.iload_n 1, 1) := by decide +kernel
theorem dX9_whoOf_62 : decode cX9_whoOf 62 = .ok (.iload_n 2, 1) := by decide +kernel
theorem dX9_whoOf_63 : decode cX9_whoOf 63 = .ok (.iastore, 1) := by decide +kernel
theorem dX9_whoOf_64 : decode cX9_whoOf 64 = .ok (.iload_n 3, 1) := by decide +kernel
theorem dX9_whoOf_65 : decode cX9_whoOf 65 = .ok (.ireturn, 1) := by decide +kernel
theorem dX9_who_0 : decode cX9_who 0 = .ok (.aload_n 0, 1) := by decide +kernel
theorem dX9_who_1 : decode cX9_who 1 = .ok (.iload_n 1, 1) := by decide +kernel
theorem dX9_who_2 : decode cX9_who 2 = .ok (.invokevirtual 150, 3) := by decide +kernel
theorem dX9_who_5 : decode cX9_who 5 = .ok (.ifCond .eq 11, 3) := by decide +kernel
theorem dX9_who_8 : decode cX9_who 8 = .ok (.aload_n 0, 1) := by decide +kernel
theorem dX9_who_9 : decode cX9_who 9 = .ok (.iload_n 1, 1) := by decide +kernel
theorem dX9_who_10 : decode cX9_who 10 = .ok (.invokevirtual 283, 3) := by decide +kernel
theorem dX9_who_13 : decode cX9_who 13 = .ok (.goto 5, 3) := by decide +kernel
theorem dX9_who_16 : decode cX9_who 16 = .ok (.bipush (-2), 2) := by decide +kernel
theorem dX9_who_18 : decode cX9_who 18 = .ok (.ireturn, 1) := by decide +kernel
theorem dX9_weighNow_0 : decode cX9_weighNow 0 = .ok (.aload_n 0, 1) := by decide +kernel
theorem dX9_weighNow_1 : decode cX9_weighNow 1 = .ok (.invokevirtual 280, 3) := by decide +kernel
theorem dX9_weighNow_4 : decode cX9_weighNow 4 = .ok (.istore_n 1, 1) := by decide +kernel
theorem dX9_weighNow_5 : decode cX9_weighNow 5 = .ok (.iconst 0, 1) := by decide +kernel
theorem dX9_weighNow_6 : decode cX9_weighNow 6 = .ok (.istore_n 2, 1) := by decide +kernel
theorem dX9_weighNow_7 : decode cX9_weighNow 7 = .ok (.iload_n 2, 1) := by decide +kernel
theorem dX9_weighNow_8 : decode cX9_weighNow 8 = .ok (.aload_n 0, 1) := by decide +kernel
theorem dX9_weighNow_9 : decode cX9_weighNow 9 = .ok (.getfield 120, 3) := by decide +kernel
theorem dX9_weighNow_12 : decode cX9_weighNow 12 = .ok (.if_icmp .ge 56, 3) := by decide +kernel
theorem dX9_weighNow_15 : decode cX9_weighNow 15 = .ok (.aload_n 0, 1) := by decide +kernel
theorem dX9_weighNow_16 : decode cX9_weighNow 16 = .ok (.sipush 255, 3) := by decide +kernel
theorem dX9_weighNow_19 : decode cX9_weighNow 19 = .ok (.iconst 1, 1) := by decide +kernel
theorem dX9_weighNow_20 : decode cX9_weighNow 20 = .ok (.iload_n 2, 1) := by decide +kernel
theorem dX9_weighNow_21 : decode cX9_weighNow 21 = .ok (.ishl, 1) := by decide +kernel
theorem dX9_weighNow_22 : decode cX9_weighNow 22 = .ok (.iconst (-1), 1) := by decide +kernel
theorem dX9_weighNow_23 : decode cX9_weighNow 23 = .ok (.ixor, 1) := by decide +kernel
theorem dX9_weighNow_24 : decode cX9_weighNow 24 = .ok (.iand, 1) := by decide +kernel
theorem dX9_weighNow_25 : decode cX9_weighNow 25 = .ok (.putfield 175, 3) := by decide +kernel
theorem dX9_weighNow_28 : decode cX9_weighNow 28 = .ok (.aload_n 0, 1) := by decide +kernel
theorem dX9_weighNow_29 : decode cX9_weighNow 29 = .ok (.invokevirtual 215, 3) := by decide +kernel
theorem dX9_weighNow_32 : decode cX9_weighNow 32 = .ok (.iconst 0, 1) := by decide +kernel
theorem dX9_weighNow_33 : decode cX9_weighNow 33 = .ok (.istore_n 3, 1) := by decide +kernel
theorem dX9_weighNow_34 : decode cX9_weighNow 34 = .ok (.iload_n 3, 1) := by decide +kernel
theorem dX9_weighNow_35 : decode cX9_weighNow 35 = .ok (.bipush 100, 2) := by decide +kernel
theorem dX9_weighNow_37 : decode cX9_weighNow 37 = .ok (.if_icmp .ge 25, 3) := by decide +kernel
theorem dX9_weighNow_40 : decode cX9_weighNow 40 = .ok (.aload_n 0, 1) := by decide +kernel
theorem dX9_weighNow_41 : decode cX9_weighNow 41 = .ok (.getfield 73, 3) := by decide +kernel
theorem dX9_weighNow_44 : decode cX9_weighNow 44 = .ok (.bipush 100, 2) := by decide +kernel
theorem dX9_weighNow_46 : decode cX9_weighNow 46 = .ok (.iload_n 2, 1) := by decide +kernel
theorem dX9_weighNow_47 : decode cX9_weighNow 47 = .ok (.imul, 1) := by decide +kernel
theorem dX9_weighNow_48 : decode cX9_weighNow 48 = .ok (.iload_n 3, 1) := by decide +kernel
theorem dX9_weighNow_49 : decode cX9_weighNow 49 = .ok (.iadd, 1) := by decide +kernel
theorem dX9_weighNow_50 : decode cX9_weighNow 50 = .ok (.aload_n 0, 1) := by decide +kernel
theorem dX9_weighNow_51 : decode cX9_weighNow 51 = .ok (.iload_n 3, 1) := by decide +kernel
theorem dX9_weighNow_52 : decode cX9_weighNow 52 = .ok (.invokevirtual 273, 3) := by decide +kernel
theorem dX9_weighNow_55 : decode cX9_weighNow 55 = .ok (.iastore, 1) := by decide +kernel
theorem dX9_weighNow_56 : decode cX9_weighNow 56 = .ok (.iinc 3 1, 3) := by decide +kernel
theorem dX9_weighNow_59 : decode cX9_weighNow 59 = .ok (.goto (-25), 3) := by decide +kernel
theorem dX9_weighNow_62 : decode cX9_weighNow 62 = .ok (.iinc 2 1, 3) := by decide +kernel
theorem dX9_weighNow_65 : decode cX9_weighNow 65 = .ok (.goto (-58), 3) := by decide +kernel
theorem dX9_weighNow_68 : decode cX9_weighNow 68 = .ok (.iconst 0, 1) := by decide +kernel
theorem dX9_weighNow_69 : decode cX9_weighNow 69 = .ok (.istore_n 2, 1) := by decide +kernel
theorem dX9_weighNow_70 : decode cX9_weighNow 70 = .ok (.bipush 9, 2) := by decide +kernel
theorem dX9_weighNow_72 : decode cX9_weighNow 72 = .ok (.istore_n 3, 1) := by decide +kernel
theorem dX9_weighNow_73 : decode cX9_weighNow 73 = .ok (.iconst 0, 1) := by decide +kernel
theorem dX9_weighNow_74 : decode cX9_weighNow 74 = .ok (.istore 4, 2) := by decide +kernel
theorem dX9_weighNow_76 : decode cX9_weighNow 76 = .ok (.iload 4, 2) := by decide +kernel
theorem dX9_weighNow_78 : decode cX9_weighNow 78 = .ok (.bipush 100, 2) := by decide +kernel
theorem dX9_weighNow_80 : decode cX9_weighNow 80 = .ok (.if_icmp .ge 150, 3) := by decide +kernel
theorem dX9_weighNow_83 : decode cX9_weighNow 83 = .ok (.iconst 0, 1) := by decide +kernel
theorem dX9_weighNow_84 : decode cX9_weighNow 84 = .ok (.istore 5, 2) := by decide +kernel
theorem dX9_weighNow_86 : decode cX9_weighNow 86 = .ok (.iconst 0, 1) := by decide +kernel
theorem dX9_weighNow_87 : decode cX9_weighNow 87 = .ok (.istore 6, 2) := by decide +kernel
theorem dX9_weighNow_89 : decode cX9_weighNow 89 = .ok (.iload 6, 2) := by decide +kernel
theorem dX9_weighNow_91 : decode cX9_weighNow 91 = .ok (.aload_n 0, 1) := by decide +kernel
theorem dX9_weighNow_92 : decode cX9_weighNow 92 = .ok (.getfield 120, 3) := by decide +kernel
theorem dX9_weighNow_95 : decode cX9_weighNow 95 = .ok (.if_icmp .ge 103, 3) := by decide +kernel
theorem dX9_weighNow_98 : decode cX9_weighNow 98 = .ok (.iconst 0, 1) := by decide +kernel
theorem dX9_weighNow_99 : decode cX9_weighNow 99 = .ok (.istore 7, 2) := by decide +kernel
theorem dX9_weighNow_101 : decode cX9_weighNow 101 = .ok (.iconst 0, 1) := by decide +kernel
theorem dX9_weighNow_102 : decode cX9_weighNow 102 = .ok (.istore 8, 2) := by decide +kernel
theorem dX9_weighNow_104 : decode cX9_weighNow 104 = .ok (.iload 8, 2) := by decide +kernel
theorem dX9_weighNow_106 : decode cX9_weighNow 106 = .ok (.aload_n 0, 1) := by decide +kernel
theorem dX9_weighNow_107 : decode cX9_weighNow 107 = .ok (.getfield 120, 3) := by decide +kernel
theorem dX9_weighNow_110 : decode cX9_weighNow 110 = .ok (.if_icmp .ge 66, 3) := by decide +kernel
theorem dX9_weighNow_113 : decode cX9_weighNow 113 = .ok (.iload 7, 2) := by decide +kernel
theorem dX9_weighNow_115 : decode cX9_weighNow 115 = .ok (.iload_n 1, 1) := by decide +kernel
theorem dX9_weighNow_116 : decode cX9_weighNow 116 = .ok (.iload 6, 2) := by decide +kernel
theorem dX9_weighNow_118 : decode cX9_weighNow 118 = .ok (.invokestatic 159, 3) := by decide +kernel
theorem dX9_weighNow_121 : decode cX9_weighNow 121 = .ok (.ifCond .eq 45, 3) := by decide +kernel
theorem dX9_weighNow_124 : decode cX9_weighNow 124 = .ok (.iload_n 1, 1) := by decide +kernel
theorem dX9_weighNow_125 : decode cX9_weighNow 125 = .ok (.iload 8, 2) := by decide +kernel
theorem dX9_weighNow_127 : decode cX9_weighNow 127 = .ok (.invokestatic 159, 3) := by decide +kernel
theorem dX9_weighNow_130 : decode cX9_weighNow 130 = .ok (.ifCond .eq 36, 3) := by decide +kernel
theorem dX9_weighNow_133 : decode cX9_weighNow 133 = .ok (.aload_n 0, 1) := by decide +kernel
theorem dX9_weighNow_134 : decode cX9_weighNow 134 = .ok (.getfield 73, 3) := by decide +kernel
theorem dX9_weighNow_137 : decode cX9_weighNow 137 = .ok (.bipush 100, 2) := by decide +kernel
theorem dX9_weighNow_139 : decode cX9_weighNow 139 = .ok (.iload 6, 2) := by decide +kernel
theorem dX9_weighNow_141 : decode cX9_weighNow 141 = .ok (.imul, 1) := by decide +kernel
theorem dX9_weighNow_142 : decode cX9_weighNow 142 = .ok (.iload 4, 2) := by decide +kernel
theorem dX9_weighNow_144 : decode cX9_weighNow 144 = .ok (.iadd, 1) := by decide +kernel
theorem dX9_weighNow_145 : decode cX9_weighNow 145 = .ok (.iaload, 1) := by decide +kernel
theorem dX9_weighNow_146 : decode cX9_weighNow 146 = .ok (.aload_n 0, 1) := by decide +kernel
theorem dX9_weighNow_147 : decode cX9_weighNow 147 = .ok (.getfield 73, 3) := by decide +kernel
theorem dX9_weighNow_150 : decode cX9_weighNow 150 = .ok (.bipush 100, 2) := by decide +kernel
theorem dX9_weighNow_152 : decode cX9_weighNow 152 = .ok (.iload 8, 2) := by decide +kernel
theorem dX9_weighNow_154 : decode cX9_weighNow 154 = .ok (.imul, 1) := by decide +kernel
theorem dX9_weighNow_155 : decode cX9_weighNow 155 = .ok (.iload 4, 2) := by decide +kernel
theorem dX9_weighNow_157 : decode cX9_weighNow 157 = .ok (.iadd, 1) := by decide +kernel
theorem dX9_weighNow_158 : decode cX9_weighNow 158 = .ok (.iaload, 1) := by decide +kernel
theorem dX9_weighNow_159 : decode cX9_weighNow 159 = .ok (.if_icmp .ne 7, 3) := by decide +kernel
theorem dX9_weighNow_162 : decode cX9_weighNow 162 = .ok (.iconst 1, 1) := by decide +kernel
theorem dX9_weighNow_163 : decode cX9_weighNow 163 = .ok (.goto 4, 3) := by decide +kernel
theorem dX9_weighNow_166 : decode cX9_weighNow 166 = .ok (.iconst 0, 1) := by decide +kernel
theorem dX9_weighNow_167 : decode cX9_weighNow 167 = .ok (.iadd, 1) := by decide +kernel
theorem dX9_weighNow_168 : decode cX9_weighNow 168 = .ok (.istore 7, 2) := by decide +kernel
theorem dX9_weighNow_170 : decode cX9_weighNow 170 = .ok (.iinc 8 1, 3) := by decide +kernel
theorem dX9_weighNow_173 : decode cX9_weighNow 173 = .ok (.goto (-69), 3) := by decide +kernel
theorem dX9_weighNow_176 : decode cX9_weighNow 176 = .ok (.iload 7, 2) := by decide +kernel
theorem dX9_weighNow_178 : decode cX9_weighNow 178 = .ok (.iload 5, 2) := by decide +kernel
theorem dX9_weighNow_180 : decode cX9_weighNow 180 = .ok (.if_icmp .le 8, 3) := by decide +kernel
theorem dX9_weighNow_183 : decode cX9_weighNow 183 = .ok (.iload 7, 2) := by decide +kernel
theorem dX9_weighNow_185 : decode cX9_weighNow 185 = .ok (.goto 5, 3) := by decide +kernel
theorem dX9_weighNow_188 : decode cX9_weighNow 188 = .ok (.iload 5, 2) := by decide +kernel
theorem dX9_weighNow_190 : decode cX9_weighNow 190 = .ok (.istore 5, 2) := by decide +kernel
theorem dX9_weighNow_192 : decode cX9_weighNow 192 = .ok (.iinc 6 1, 3) := by decide +kernel
theorem dX9_weighNow_195 : decode cX9_weighNow 195 = .ok (.goto (-106), 3) := by decide +kernel
theorem dX9_weighNow_198 : decode cX9_weighNow 198 = .ok (.iload 5, 2) := by decide +kernel
theorem dX9_weighNow_200 : decode cX9_weighNow 200 = .ok (.iload_n 3, 1) := by decide +kernel
theorem dX9_weighNow_201 : decode cX9_weighNow 201 = .ok (.if_icmp .ge 8, 3) := by decide +kernel
theorem dX9_weighNow_204 : decode cX9_weighNow 204 = .ok (.iload 4, 2) := by decide +kernel
theorem dX9_weighNow_206 : decode cX9_weighNow 206 = .ok (.goto 4, 3) := by decide +kernel
theorem dX9_weighNow_209 : decode cX9_weighNow 209 = .ok (.iload_n 2, 1) := by decide +kernel
theorem dX9_weighNow_210 : decode cX9_weighNow 210 = .ok (.istore_n 2, 1) := by decide +kernel
theorem dX9_weighNow_211 : decode cX9_weighNow 211 = .ok (.iload 5, 2) := by decide +kernel
theorem dX9_weighNow_213 : decode cX9_weighNow 213 = .ok (.iload_n 3, 1) := by decide +kernel
theorem dX9_weighNow_214 : decode cX9_weighNow 214 = .ok (.if_icmp .ge 8, 3) := by decide +kernel
theorem dX9_weighNow_217 : decode cX9_weighNow 217 = .ok (.iload 5, 2) := by decide +kernel
theorem dX9_weighNow_219 : decode cX9_weighNow 219 = .ok (.goto 4, 3) := by decide +kernel
theorem dX9_weighNow_222 : decode cX9_weighNow 222 = .ok (.iload_n 3, 1) := by decide +kernel
theorem dX9_weighNow_223 : decode cX9_weighNow 223 = .ok (.istore_n 3, 1) := by decide +kernel
theorem dX9_weighNow_224 : decode cX9_weighNow 224 = .ok (.iinc 4 1, 3) := by decide +kernel
theorem dX9_weighNow_227 : decode cX9_weighNow 227 = .ok (.goto (-151), 3) := by decide +kernel
theorem dX9_weighNow_230 : decode cX9_weighNow 230 = .ok (.iload_n 2, 1) := by decide +kernel
theorem dX9_weighNow_231 : decode cX9_weighNow 231 = .ok (.ireturn, 1) := by decide +kernel
theorem dX9_weigh_0 : decode cX9_weigh 0 = .ok (.aload_n 0, 1) := by decide +kernel
theorem dX9_weigh_1 : decode cX9_weigh 1 = .ok (.invokevirtual 286, 3) := by decide +kernel
theorem dX9_weigh_4 : decode cX9_weigh 4 = .ok (.ireturn, 1) := by decide +kernel
theorem dX9_maybeOf_0 : decode cX9_maybeOf 0 = .ok (.aload_n 0, 1) := by decide +kernel
theorem dX9_maybeOf_1 : decode cX9_maybeOf 1 = .ok (.invokevirtual 212, 3) := by decide +kernel
theorem dX9_maybeOf_4 : decode cX9_maybeOf 4 = .ok (.lconst 0, 1) := by decide +kernel
theorem dX9_maybeOf_5 : decode cX9_maybeOf 5 = .ok (.lstore 5, 2) := by decide +kernel
theorem dX9_maybeOf_7 : decode cX9_maybeOf 7 = .ok (.iconst 0, 1) := by decide +kernel
theorem dX9_maybeOf_8 : decode cX9_maybeOf 8 = .ok (.istore 7, 2) := by decide +kernel
theorem dX9_maybeOf_10 : decode cX9_maybeOf 10 = .ok (.iload 7, 2) := by decide +kernel
theorem dX9_maybeOf_12 : decode cX9_maybeOf 12 = .ok (.iconst 1, 1) := by decide +kernel
theorem dX9_maybeOf_13 : decode cX9_maybeOf 13 = .ok (.aload_n 0, 1) := by decide +kernel
theorem dX9_maybeOf_14 : decode cX9_maybeOf 14 = .ok (.getfield 120, 3) := by decide +kernel
theorem dX9_maybeOf_17 : decode cX9_maybeOf 17 = .ok (.ishl, 1) := by decide +kernel
theorem dX9_maybeOf_18 : decode cX9_maybeOf 18 = .ok (.if_icmp .ge 88, 3) := by decide +kernel
theorem dX9_maybeOf_21 : decode cX9_maybeOf 21 = .ok (.lconst 1, 1) := by decide +kernel
theorem dX9_maybeOf_22 : decode cX9_maybeOf 22 = .ok (.lstore 8, 2) := by decide +kernel
theorem dX9_maybeOf_24 : decode cX9_maybeOf 24 = .ok (.iconst 0, 1) := by decide +kernel
theorem dX9_maybeOf_25 : decode cX9_maybeOf 25 = .ok (.istore 10, 2) := by decide +kernel
theorem dX9_maybeOf_27 : decode cX9_maybeOf 27 = .ok (.iload 10, 2) := by decide +kernel
theorem dX9_maybeOf_29 : decode cX9_maybeOf 29 = .ok (.aload_n 0, 1) := by decide +kernel
theorem dX9_maybeOf_30 : decode cX9_maybeOf 30 = .ok (.getfield 120, 3) := by decide +kernel
theorem dX9_maybeOf_33 : decode cX9_maybeOf 33 = .ok (.if_icmp .ge 34, 3) := by decide +kernel
theorem dX9_maybeOf_36 : decode cX9_maybeOf 36 = .ok (.lload 8, 2) := by decide +kernel
theorem dX9_maybeOf_38 : decode cX9_maybeOf 38 = .ok (.iload 7, 2) := by decide +kernel
theorem dX9_maybeOf_40 : decode cX9_maybeOf 40 = .ok (.iload 10, 2) := by decide +kernel
theorem dX9_maybeOf_42 : decode cX9_maybeOf 42 = .ok (.invokestatic 159, 3) := by decide +kernel
theorem dX9_maybeOf_45 : decode cX9_maybeOf 45 = .ok (.ifCond .eq 8, 3) := by decide +kernel
theorem dX9_maybeOf_48 : decode cX9_maybeOf 48 = .ok (.iload_n 1, 1) := by decide +kernel
theorem dX9_maybeOf_49 : decode cX9_maybeOf 49 = .ok (.i2l, 1) := by decide +kernel
theorem dX9_maybeOf_50 : decode cX9_maybeOf 50 = .ok (.goto 8, 3) := by decide +kernel
theorem dX9_maybeOf_53 : decode cX9_maybeOf 53 = .ok (.bipush 16, 2) := by decide +kernel
theorem dX9_maybeOf_55 : decode cX9_maybeOf 55 = .ok (.iload_n 1, 1) := by decide +kernel
theorem dX9_maybeOf_56 : decode cX9_maybeOf 56 = .ok (.isub, 1) := by decide +kernel
theorem dX9_maybeOf_57 : decode cX9_maybeOf 57 = .ok (.i2l, 1) := by decide +kernel
theorem dX9_maybeOf_58 : decode cX9_maybeOf 58 = .ok (.lmul, 1) := by decide +kernel
theorem dX9_maybeOf_59 : decode cX9_maybeOf 59 = .ok (.lstore 8, 2) := by decide +kernel
theorem dX9_maybeOf_61 : decode cX9_maybeOf 61 = .ok (.iinc 10 1, 3) := by decide +kernel
theorem dX9_maybeOf_64 : decode cX9_maybeOf 64 = .ok (.goto (-37), 3) := by decide +kernel
theorem dX9_maybeOf_67 : decode cX9_maybeOf 67 = .ok (.aload_n 0, 1) := by decide +kernel
theorem dX9_maybeOf_68 : decode cX9_maybeOf 68 = .ok (.iload 7, 2) := by decide +kernel
theorem dX9_maybeOf_70 : decode cX9_maybeOf 70 = .ok (.putfield 175, 3) := by decide +kernel
theorem dX9_maybeOf_73 : decode cX9_maybeOf 73 = .ok (.aload_n 0, 1) := by decide +kernel
theorem dX9_maybeOf_74 : decode cX9_maybeOf 74 = .ok (.invokevirtual 215, 3) := by decide +kernel
theorem dX9_maybeOf_77 : decode cX9_maybeOf 77 = .ok (.lload 5, 2) := by decide +kernel
theorem dX9_maybeOf_79 : decode cX9_maybeOf 79 = .ok (.aload_n 0, 1) := by decide +kernel
theorem dX9_maybeOf_80 : decode cX9_maybeOf 80 = .ok (.iload_n 3, 1) := by decide +kernel
theorem dX9_maybeOf_81 : decode cX9_maybeOf 81 = .ok (.invokevirtual 236, 3) := by decide +kernel
theorem dX9_maybeOf_84 : decode cX9_maybeOf 84 = .ok (.iload_n 2, 1) := by decide +kernel
theorem dX9_maybeOf_85 : decode cX9_maybeOf 85 = .ok (.invokestatic 159, 3) := by decide +kernel
theorem dX9_maybeOf_88 : decode cX9_maybeOf 88 = .ok (.ifCond .eq 8, 3) := by decide +kernel
theorem dX9_maybeOf_91 : decode cX9_maybeOf 91 = .ok (.lload 8, 2) := by decide +kernel
theorem dX9_maybeOf_93 : decode cX9_maybeOf 93 = .ok (.goto 4, 3) := by decide +kernel
theorem dX9_maybeOf_96 : decode cX9_maybeOf 96 = .ok (.lconst 0, 1) := by decide +kernel
theorem dX9_maybeOf_97 : decode cX9_maybeOf 97 = .ok (.ladd, 1) := by decide +kernel
theorem dX9_maybeOf_98 : decode cX9_maybeOf 98 = .ok (.lstore 5, 2) := by decide +kernel
theorem dX9_maybeOf_100 : decode cX9_maybeOf 100 = .ok (.iinc 7 1, 3) := by decide +kernel
theorem dX9_maybeOf_103 : decode cX9_maybeOf 103 = .ok (.goto (-93), 3) := by decide +kernel
theorem dX9_maybeOf_106 : decode cX9_maybeOf 106 = .ok (.lload 5, 2) := by decide +kernel
theorem dX9_maybeOf_108 : decode cX9_maybeOf 108 = .ok (.lconst 1, 1) := by decide +kernel
theorem dX9_maybeOf_109 : decode cX9_maybeOf 109 = .ok (.iconst 4, 1) := by decide +kernel
theorem dX9_maybeOf_110 : decode cX9_maybeOf 110 = .ok (.aload_n 0, 1) := by decide +kernel
theorem dX9_maybeOf_111 : decode cX9_maybeOf 111 = .ok (.getfield 120, 3) := by decide +kernel
theorem dX9_maybeOf_114 : decode cX9_maybeOf 114 = .ok (.imul, 1) := by decide +kernel
theorem dX9_maybeOf_115 : decode cX9_maybeOf 115 = .ok (.lshl, 1) := by decide +kernel
theorem dX9_maybeOf_116 : decode cX9_maybeOf 116 = .ok (.iload 4, 2) := by decide +kernel
theorem dX9_maybeOf_118 : decode cX9_maybeOf 118 = .ok (.invokestatic 289, 3) := by decide +kernel
theorem dX9_maybeOf_121 : decode cX9_maybeOf 121 = .ok (.lreturn, 1) := by decide +kernel
theorem dX9_maybe_0 : decode cX9_maybe 0 = .ok (.iload_n 1, 1) := by decide +kernel
theorem dX9_maybe_1 : decode cX9_maybe 1 = .ok (.iconst 0, 1) := by decide +kernel
theorem dX9_maybe_2 : decode cX9_maybe 2 = .ok (.bipush 16, 2) := by decide +kernel
theorem dX9_maybe_4 : decode cX9_maybe 4 = .ok (.invokestatic 101, 3) := by decide +kernel
theorem dX9_maybe_7 : decode cX9_maybe 7 = .ok (.ifCond .eq 40, 3) := by decide +kernel
theorem dX9_maybe_10 : decode cX9_maybe 10 = .ok (.aload_n 0, 1) := by decide +kernel
theorem dX9_maybe_11 : decode cX9_maybe 11 = .ok (.iload_n 2, 1) := by decide +kernel
theorem dX9_maybe_12 : decode cX9_maybe 12 = .ok (.invokevirtual 144, 3) := by decide +kernel
theorem dX9_maybe_15 : decode cX9_maybe 15 = .ok (.ifCond .eq 32, 3) := by decide +kernel
theorem dX9_maybe_18 : decode cX9_maybe 18 = .ok (.iload_n 3, 1) := by decide +kernel
theorem dX9_maybe_19 : decode cX9_maybe 19 = .ok (.invokestatic 221, 3) := by decide +kernel
theorem dX9_maybe_22 : decode cX9_maybe 22 = .ok (.ifCond .eq 25, 3) := by decide +kernel
theorem dX9_maybe_25 : decode cX9_maybe 25 = .ok (.iload 4, 2) := by decide +kernel
theorem dX9_maybe_27 : decode cX9_maybe 27 = .ok (.iconst 0, 1) := by decide +kernel
theorem dX9_maybe_28 : decode cX9_maybe 28 = .ok (.iconst 1, 1) := by decide +kernel
theorem dX9_maybe_29 : decode cX9_maybe 29 = .ok (.invokestatic 101, 3) := by decide +kernel
theorem dX9_maybe_32 : decode cX9_maybe 32 = .ok (.ifCond .eq 15, 3) := by decide +kernel
theorem dX9_maybe_35 : decode cX9_maybe 35 = .ok (.aload_n 0, 1) := by decide +kernel
theorem dX9_maybe_36 : decode cX9_maybe 36 = .ok (.iload_n 1, 1) := by decide +kernel
theorem dX9_maybe_37 : decode cX9_maybe 37 = .ok (.iload_n 2, 1) := by decide +kernel
theorem dX9_maybe_38 : decode cX9_maybe 38 = .ok (.iload_n 3, 1) := by decide +kernel
theorem dX9_maybe_39 : decode cX9_maybe 39 = .ok (.iload 4, 2) := by decide +kernel
theorem dX9_maybe_41 : decode cX9_maybe 41 = .ok (.invokevirtual 293, 3) := by decide +kernel
theorem dX9_maybe_44 : decode cX9_maybe 44 = .ok (.goto 8, 3) := by decide +kernel
theorem dX9_maybe_47 : decode cX9_maybe 47 = .ok (.bipush (-2), 2) := by decide +kernel
theorem dX9_maybe_49 : decode cX9_maybe 49 = .ok (.invokestatic 297, 3) := by decide +kernel
theorem dX9_maybe_52 : decode cX9_maybe 52 = .ok (.lreturn, 1) := by decide +kernel
theorem dX9_dayOf_0 : decode cX9_dayOf 0 = .ok (.aload_n 0, 1) := by decide +kernel
theorem dX9_dayOf_1 : decode cX9_dayOf 1 = .ok (.invokevirtual 212, 3) := by decide +kernel
theorem dX9_dayOf_4 : decode cX9_dayOf 4 = .ok (.iload_n 1, 1) := by decide +kernel
theorem dX9_dayOf_5 : decode cX9_dayOf 5 = .ok (.istore 4, 2) := by decide +kernel
theorem dX9_dayOf_7 : decode cX9_dayOf 7 = .ok (.aload_n 0, 1) := by decide +kernel
theorem dX9_dayOf_8 : decode cX9_dayOf 8 = .ok (.iload_n 2, 1) := by decide +kernel
theorem dX9_dayOf_9 : decode cX9_dayOf 9 = .ok (.putfield 199, 3) := by decide +kernel
theorem dX9_dayOf_12 : decode cX9_dayOf 12 = .ok (.iconst 0, 1) := by decide +kernel
theorem dX9_dayOf_13 : decode cX9_dayOf 13 = .ok (.istore 5, 2) := by decide +kernel
theorem dX9_dayOf_15 : decode cX9_dayOf 15 = .ok (.iload 5, 2) := by decide +kernel
theorem dX9_dayOf_17 : decode cX9_dayOf 17 = .ok (.iload_n 2, 1) := by decide +kernel
theorem dX9_dayOf_18 : decode cX9_dayOf 18 = .ok (.if_icmp .ge 36, 3) := by decide +kernel
theorem dX9_dayOf_21 : decode cX9_dayOf 21 = .ok (.ldc_w 301, 3) := by decide +kernel
theorem dX9_dayOf_24 : decode cX9_dayOf 24 = .ok (.iload 4, 2) := by decide +kernel
theorem dX9_dayOf_26 : decode cX9_dayOf 26 = .ok (.imul, 1) := by decide +kernel
theorem dX9_dayOf_27 : decode cX9_dayOf 27 = .ok (.sipush 12345, 3) := by decide +kernel
theorem dX9_dayOf_30 : decode cX9_dayOf 30 = .ok (.iadd, 1) := by decide +kernel
theorem dX9_dayOf_31 : decode cX9_dayOf 31 = .ok (.istore 4, 2) := by decide +kernel
theorem dX9_dayOf_33 : decode cX9_dayOf 33 = .ok (.aload_n 0, 1) := by decide +kernel
theorem dX9_dayOf_34 : decode cX9_dayOf 34 = .ok (.getfield 34, 3) := by decide +kernel
theorem dX9_dayOf_37 : decode cX9_dayOf 37 = .ok (.iload 5, 2) := by decide +kernel
theorem dX9_dayOf_39 : decode cX9_dayOf 39 = .ok (.iload 4, 2) := by decide +kernel
theorem dX9_dayOf_41 : decode cX9_dayOf 41 = .ok (.bipush 16, 2) := by decide +kernel
theorem dX9_dayOf_43 : decode cX9_dayOf 43 = .ok (.iushr, 1) := by decide +kernel
theorem dX9_dayOf_44 : decode cX9_dayOf 44 = .ok (.bipush 10, 2) := by decide +kernel
theorem dX9_dayOf_46 : decode cX9_dayOf 46 = .ok (.irem, 1) := by decide +kernel
theorem dX9_dayOf_47 : decode cX9_dayOf 47 = .ok (.iastore, 1) := by decide +kernel
theorem dX9_dayOf_48 : decode cX9_dayOf 48 = .ok (.iinc 5 1, 3) := by decide +kernel
theorem dX9_dayOf_51 : decode cX9_dayOf 51 = .ok (.goto (-36), 3) := by decide +kernel
theorem dX9_dayOf_54 : decode cX9_dayOf 54 = .ok (.aload_n 0, 1) := by decide +kernel
theorem dX9_dayOf_55 : decode cX9_dayOf 55 = .ok (.invokevirtual 215, 3) := by decide +kernel
theorem dX9_dayOf_58 : decode cX9_dayOf 58 = .ok (.iconst 0, 1) := by decide +kernel
theorem dX9_dayOf_59 : decode cX9_dayOf 59 = .ok (.istore 5, 2) := by decide +kernel
theorem dX9_dayOf_61 : decode cX9_dayOf 61 = .ok (.iconst 0, 1) := by decide +kernel
theorem dX9_dayOf_62 : decode cX9_dayOf 62 = .ok (.istore 6, 2) := by decide +kernel
theorem dX9_dayOf_64 : decode cX9_dayOf 64 = .ok (.iload 6, 2) := by decide +kernel
theorem dX9_dayOf_66 : decode cX9_dayOf 66 = .ok (.aload_n 0, 1) := by decide +kernel
theorem dX9_dayOf_67 : decode cX9_dayOf 67 = .ok (.getfield 117, 3) := by decide +kernel
theorem dX9_dayOf_70 : decode cX9_dayOf 70 = .ok (.if_icmp .ge 30, 3) := by decide +kernel
theorem dX9_dayOf_73 : decode cX9_dayOf 73 = .ok (.iload 5, 2) := by decide +kernel
theorem dX9_dayOf_75 : decode cX9_dayOf 75 = .ok (.aload_n 0, 1) := by decide +kernel
theorem dX9_dayOf_76 : decode cX9_dayOf 76 = .ok (.getfield 52, 3) := by decide +kernel
theorem dX9_dayOf_79 : decode cX9_dayOf 79 = .ok (.iload 6, 2) := by decide +kernel
theorem dX9_dayOf_81 : decode cX9_dayOf 81 = .ok (.iaload, 1) := by decide +kernel
theorem dX9_dayOf_82 : decode cX9_dayOf 82 = .ok (.iconst (-1), 1) := by decide +kernel
theorem dX9_dayOf_83 : decode cX9_dayOf 83 = .ok (.if_icmp .eq 7, 3) := by decide +kernel
theorem dX9_dayOf_86 : decode cX9_dayOf 86 = .ok (.iconst 1, 1) := by decide +kernel
theorem dX9_dayOf_87 : decode cX9_dayOf 87 = .ok (.goto 4, 3) := by decide +kernel
theorem dX9_dayOf_90 : decode cX9_dayOf 90 = .ok (.iconst 0, 1) := by decide +kernel
theorem dX9_dayOf_91 : decode cX9_dayOf 91 = .ok (.iadd, 1) := by decide +kernel
theorem dX9_dayOf_92 : decode cX9_dayOf 92 = .ok (.istore 5, 2) := by decide +kernel
theorem dX9_dayOf_94 : decode cX9_dayOf 94 = .ok (.iinc 6 1, 3) := by decide +kernel
theorem dX9_dayOf_97 : decode cX9_dayOf 97 = .ok (.goto (-33), 3) := by decide +kernel
theorem dX9_dayOf_100 : decode cX9_dayOf 100 = .ok (.iload_n 3, 1) := by decide +kernel
theorem dX9_dayOf_101 : decode cX9_dayOf 101 = .ok (.ifCond .ne 8, 3) := by decide +kernel
theorem dX9_dayOf_104 : decode cX9_dayOf 104 = .ok (.iload 5, 2) := by decide +kernel
theorem dX9_dayOf_106 : decode cX9_dayOf 106 = .ok (.goto 7, 3) := by decide +kernel
theorem dX9_dayOf_109 : decode cX9_dayOf 109 = .ok (.aload_n 0, 1) := by decide +kernel
theorem dX9_dayOf_110 : decode cX9_dayOf 110 = .ok (.getfield 166, 3) := by decide +kernel
theorem dX9_dayOf_113 : decode cX9_dayOf 113 = .ok (.ireturn, 1) := by decide +kernel
theorem dX9_day_0 : decode cX9_day 0 = .ok (.iload_n 2, 1) := by decide +kernel
theorem dX9_day_1 : decode cX9_day 1 = .ok (.iconst 1, 1) := by decide +kernel
theorem dX9_day_2 : decode cX9_day 2 = .ok (.bipush 20, 2) := by decide +kernel
theorem dX9_day_4 : decode cX9_day 4 = .ok (.invokestatic 101, 3) := by decide +kernel
theorem dX9_day_7 : decode cX9_day 7 = .ok (.ifCond .eq 22, 3) := by decide +kernel
theorem dX9_day_10 : decode cX9_day 10 = .ok (.iload_n 3, 1) := by decide +kernel
theorem dX9_day_11 : decode cX9_day 11 = .ok (.iconst 0, 1) := by decide +kernel
theorem dX9_day_12 : decode cX9_day 12 = .ok (.iconst 1, 1) := by decide +kernel
theorem dX9_day_13 : decode cX9_day 13 = .ok (.invokestatic 101, 3) := by decide +kernel
theorem dX9_day_16 : decode cX9_day 16 = .ok (.ifCond .eq 13, 3) := by decide +kernel
theorem dX9_day_19 : decode cX9_day 19 = .ok (.aload_n 0, 1) := by decide +kernel
theorem dX9_day_20 : decode cX9_day 20 = .ok (.iload_n 1, 1) := by decide +kernel
theorem dX9_day_21 : decode cX9_day 21 = .ok (.iload_n 2, 1) := by decide +kernel
theorem dX9_day_22 : decode cX9_day 22 = .ok (.iload_n 3, 1) := by decide +kernel
theorem dX9_day_23 : decode cX9_day 23 = .ok (.invokevirtual 302, 3) := by decide +kernel
theorem dX9_day_26 : decode cX9_day 26 = .ok (.goto 5, 3) := by decide +kernel
theorem dX9_day_29 : decode cX9_day 29 = .ok (.bipush (-2), 2) := by decide +kernel
theorem dX9_day_31 : decode cX9_day 31 = .ok (.ireturn, 1) := by decide +kernel
theorem dX9_meets_0 : decode cX9_meets 0 = .ok (.aload_n 0, 1) := by decide +kernel
theorem dX9_meets_1 : decode cX9_meets 1 = .ok (.iload_n 1, 1) := by decide +kernel
theorem dX9_meets_2 : decode cX9_meets 2 = .ok (.putfield 305, 3) := by decide +kernel
theorem dX9_meets_5 : decode cX9_meets 5 = .ok (.bipush (-10), 2) := by decide +kernel
theorem dX9_meets_7 : decode cX9_meets 7 = .ok (.iload_n 1, 1) := by decide +kernel
theorem dX9_meets_8 : decode cX9_meets 8 = .ok (.isub, 1) := by decide +kernel
theorem dX9_meets_9 : decode cX9_meets 9 = .ok (.ireturn, 1) := by decide +kernel
theorem dX9_isSheet_0 : decode cX9_isSheet 0 = .ok (.iload_n 0, 1) := by decide +kernel
theorem dX9_isSheet_1 : decode cX9_isSheet 1 = .ok (.iconst 0, 1) := by decide +kernel
theorem dX9_isSheet_2 : decode cX9_isSheet 2 = .ok (.iconst 3, 1) := by decide +kernel
theorem dX9_isSheet_3 : decode cX9_isSheet 3 = .ok (.invokestatic 101, 3) := by decide +kernel
theorem dX9_isSheet_6 : decode cX9_isSheet 6 = .ok (.ireturn, 1) := by decide +kernel
theorem dX9_sheet_0 : decode cX9_sheet 0 = .ok (.iload_n 1, 1) := by decide +kernel
theorem dX9_sheet_1 : decode cX9_sheet 1 = .ok (.invokestatic 264, 3) := by decide +kernel
theorem dX9_sheet_4 : decode cX9_sheet 4 = .ok (.ifCond .eq 18, 3) := by decide +kernel
theorem dX9_sheet_7 : decode cX9_sheet 7 = .ok (.iload_n 2, 1) := by decide +kernel
theorem dX9_sheet_8 : decode cX9_sheet 8 = .ok (.iconst 0, 1) := by decide +kernel
theorem dX9_sheet_9 : decode cX9_sheet 9 = .ok (.iconst 2, 1) := by decide +kernel
theorem dX9_sheet_10 : decode cX9_sheet 10 = .ok (.invokestatic 101, 3) := by decide +kernel
theorem dX9_sheet_13 : decode cX9_sheet 13 = .ok (.ifCond .eq 9, 3) := by decide +kernel
theorem dX9_sheet_16 : decode cX9_sheet 16 = .ok (.iload_n 3, 1) := by decide +kernel
theorem dX9_sheet_17 : decode cX9_sheet 17 = .ok (.bipush 60, 2) := by decide +kernel
theorem dX9_sheet_19 : decode cX9_sheet 19 = .ok (.if_icmp .le 6, 3) := by decide +kernel
theorem dX9_sheet_22 : decode cX9_sheet 22 = .ok (.bipush (-2), 2) := by decide +kernel
theorem dX9_sheet_24 : decode cX9_sheet 24 = .ok (.ireturn, 1) := by decide +kernel
theorem dX9_sheet_25 : decode cX9_sheet 25 = .ok (.iload_n 3, 1) := by decide +kernel
theorem dX9_sheet_26 : decode cX9_sheet 26 = .ok (.ifCond .ge 9, 3) := by decide +kernel
theorem dX9_sheet_29 : decode cX9_sheet 29 = .ok (.aload_n 0, 1) := by decide +kernel
theorem dX9_sheet_30 : decode cX9_sheet 30 = .ok (.iconst 5, 1) := by decide +kernel
theorem dX9_sheet_31 : decode cX9_sheet 31 = .ok (.invokevirtual 267, 3) := by decide +kernel
theorem dX9_sheet_34 : decode cX9_sheet 34 = .ok (.ireturn, 1) := by decide +kernel
theorem dX9_sheet_35 : decode cX9_sheet 35 = .ok (.aload_n 0, 1) := by decide +kernel
theorem dX9_sheet_36 : decode cX9_sheet 36 = .ok (.getfield 76, 3) := by decide +kernel
theorem dX9_sheet_39 : decode cX9_sheet 39 = .ok (.iload_n 1, 1) := by decide +kernel
theorem dX9_sheet_40 : decode cX9_sheet 40 = .ok (.iconst 1, 1) := by decide +kernel
theorem dX9_sheet_41 : decode cX9_sheet 41 = .ok (.bastore, 1) := by decide +kernel
theorem dX9_sheet_42 : decode cX9_sheet 42 = .ok (.aload_n 0, 1) := by decide +kernel
theorem dX9_sheet_43 : decode cX9_sheet 43 = .ok (.getfield 80, 3) := by decide +kernel
theorem dX9_sheet_46 : decode cX9_sheet 46 = .ok (.iload_n 1, 1) := by decide +kernel
theorem dX9_sheet_47 : decode cX9_sheet 47 = .ok (.iload_n 2, 1) := by decide +kernel
theorem dX9_sheet_48 : decode cX9_sheet 48 = .ok (.iastore, 1) := by decide +kernel
theorem dX9_sheet_49 : decode cX9_sheet 49 = .ok (.aload_n 0, 1) := by decide +kernel
theorem dX9_sheet_50 : decode cX9_sheet 50 = .ok (.getfield 83, 3) := by decide +kernel
theorem dX9_sheet_53 : decode cX9_sheet 53 = .ok (.iload_n 1, 1) := by decide +kernel
theorem dX9_sheet_54 : decode cX9_sheet 54 = .ok (.iload_n 3, 1) := by decide +kernel
theorem dX9_sheet_55 : decode cX9_sheet 55 = .ok (.iastore, 1) := by decide +kernel
theorem dX9_sheet_56 : decode cX9_sheet 56 = .ok (.iconst 0, 1) := by decide +kernel
theorem dX9_sheet_57 : decode cX9_sheet 57 = .ok (.istore 4, 2) := by decide +kernel
theorem dX9_sheet_59 : decode cX9_sheet 59 = .ok (.iload 4, 2) := by decide +kernel
theorem dX9_sheet_61 : decode cX9_sheet 61 = .ok (.bipush 60, 2) := by decide +kernel
theorem dX9_sheet_63 : decode cX9_sheet 63 = .ok (.if_icmp .ge 22, 3) := by decide +kernel
theorem dX9_sheet_66 : decode cX9_sheet 66 = .ok (.aload_n 0, 1) := by decide +kernel
theorem dX9_sheet_67 : decode cX9_sheet 67 = .ok (.getfield 86, 3) := by decide +kernel
theorem dX9_sheet_70 : decode cX9_sheet 70 = .ok (.bipush 60, 2) := by decide +kernel
theorem dX9_sheet_72 : decode cX9_sheet 72 = .ok (.iload_n 1, 1) := by decide +kernel
theorem dX9_sheet_73 : decode cX9_sheet 73 = .ok (.imul, 1) := by decide +kernel
theorem dX9_sheet_74 : decode cX9_sheet 74 = .ok (.iload 4, 2) := by decide +kernel
theorem dX9_sheet_76 : decode cX9_sheet 76 = .ok (.iadd, 1) := by decide +kernel
theorem dX9_sheet_77 : decode cX9_sheet 77 = .ok (.iconst 0, 1) := by decide +kernel
theorem dX9_sheet_78 : decode cX9_sheet 78 = .ok (.iastore, 1) := by decide +kernel
theorem dX9_sheet_79 : decode cX9_sheet 79 = .ok (.iinc 4 1, 3) := by decide +kernel
theorem dX9_sheet_82 : decode cX9_sheet 82 = .ok (.goto (-23), 3) := by decide +kernel
theorem dX9_sheet_85 : decode cX9_sheet 85 = .ok (.iload_n 3, 1) := by decide +kernel
theorem dX9_sheet_86 : decode cX9_sheet 86 = .ok (.ireturn, 1) := by decide +kernel
theorem dX9_lose_0 : decode cX9_lose 0 = .ok (.iload_n 1, 1) := by decide +kernel
theorem dX9_lose_1 : decode cX9_lose 1 = .ok (.invokestatic 264, 3) := by decide +kernel
theorem dX9_lose_4 : decode cX9_lose 4 = .ok (.ifCond .ne 6, 3) := by decide +kernel
theorem dX9_lose_7 : decode cX9_lose 7 = .ok (.bipush (-2), 2) := by decide +kernel
theorem dX9_lose_9 : decode cX9_lose 9 = .ok (.ireturn, 1) := by decide +kernel
theorem dX9_lose_10 : decode cX9_lose 10 = .ok (.aload_n 0, 1) := by decide +kernel
theorem dX9_lose_11 : decode cX9_lose 11 = .ok (.getfield 76, 3) := by decide +kernel
theorem dX9_lose_14 : decode cX9_lose 14 = .ok (.iload_n 1, 1) := by decide +kernel
theorem dX9_lose_15 : decode cX9_lose 15 = .ok (.baload, 1) := by decide +kernel
theorem dX9_lose_16 : decode cX9_lose 16 = .ok (.ifCond .ne 9, 3) := by decide +kernel
theorem dX9_lose_19 : decode cX9_lose 19 = .ok (.aload_n 0, 1) := by decide +kernel
theorem dX9_lose_20 : decode cX9_lose 20 = .ok (.iconst 1, 1) := by decide +kernel
theorem dX9_lose_21 : decode cX9_lose 21 = .ok (.invokevirtual 267, 3) := by decide +kernel
theorem dX9_lose_24 : decode cX9_lose 24 = .ok (.ireturn, 1) := by decide +kernel
theorem dX9_lose_25 : decode cX9_lose 25 = .ok (.aload_n 0, 1) := by decide +kernel
theorem dX9_lose_26 : decode cX9_lose 26 = .ok (.getfield 76, 3) := by decide +kernel
theorem dX9_lose_29 : decode cX9_lose 29 = .ok (.iload_n 1, 1) := by decide +kernel
theorem dX9_lose_30 : decode cX9_lose 30 = .ok (.iconst 0, 1) := by decide +kernel
theorem dX9_lose_31 : decode cX9_lose 31 = .ok (.bastore, 1) := by decide +kernel
theorem dX9_lose_32 : decode cX9_lose 32 = .ok (.aload_n 0, 1) := by decide +kernel
theorem dX9_lose_33 : decode cX9_lose 33 = .ok (.getfield 83, 3) := by decide +kernel
theorem dX9_lose_36 : decode cX9_lose 36 = .ok (.iload_n 1, 1) := by decide +kernel
theorem dX9_lose_37 : decode cX9_lose 37 = .ok (.iaload, 1) := by decide +kernel
theorem dX9_lose_38 : decode cX9_lose 38 = .ok (.ireturn, 1) := by decide +kernel
theorem dX9_lacks_0 : decode cX9_lacks 0 = .ok (.aload_n 0, 1) := by decide +kernel
theorem dX9_lacks_1 : decode cX9_lacks 1 = .ok (.getfield 76, 3) := by decide +kernel
theorem dX9_lacks_4 : decode cX9_lacks 4 = .ok (.iload_n 1, 1) := by decide +kernel
theorem dX9_lacks_5 : decode cX9_lacks 5 = .ok (.baload, 1) := by decide +kernel
theorem dX9_lacks_6 : decode cX9_lacks 6 = .ok (.ifCond .ne 7, 3) := by decide +kernel
theorem dX9_lacks_9 : decode cX9_lacks 9 = .ok (.iconst 1, 1) := by decide +kernel
theorem dX9_lacks_10 : decode cX9_lacks 10 = .ok (.goto 38, 3) := by decide +kernel
theorem dX9_lacks_13 : decode cX9_lacks 13 = .ok (.aload_n 0, 1) := by decide +kernel
theorem dX9_lacks_14 : decode cX9_lacks 14 = .ok (.getfield 80, 3) := by decide +kernel
theorem dX9_lacks_17 : decode cX9_lacks 17 = .ok (.iload_n 1, 1) := by decide +kernel
theorem dX9_lacks_18 : decode cX9_lacks 18 = .ok (.iaload, 1) := by decide +kernel
theorem dX9_lacks_19 : decode cX9_lacks 19 = .ok (.iload_n 2, 1) := by decide +kernel
theorem dX9_lacks_20 : decode cX9_lacks 20 = .ok (.if_icmp .eq 7, 3) := by decide +kernel
theorem dX9_lacks_23 : decode cX9_lacks 23 = .ok (.iconst 3, 1) := by decide +kernel
theorem dX9_lacks_24 : decode cX9_lacks 24 = .ok (.goto 24, 3) := by decide +kernel
theorem dX9_lacks_27 : decode cX9_lacks 27 = .ok (.iload_n 3, 1) := by decide +kernel
theorem dX9_lacks_28 : decode cX9_lacks 28 = .ok (.iconst 0, 1) := by decide +kernel
theorem dX9_lacks_29 : decode cX9_lacks 29 = .ok (.aload_n 0, 1) := by decide +kernel
theorem dX9_lacks_30 : decode cX9_lacks 30 = .ok (.getfield 83, 3) := by decide +kernel
theorem dX9_lacks_33 : decode cX9_lacks 33 = .ok (.iload_n 1, 1) := by decide +kernel
theorem dX9_lacks_34 : decode cX9_lacks 34 = .ok (.iaload, 1) := by decide +kernel
theorem dX9_lacks_35 : decode cX9_lacks 35 = .ok (.iconst 1, 1) := by decide +kernel
theorem dX9_lacks_36 : decode cX9_lacks 36 = .ok (.isub, 1) := by decide +kernel
theorem dX9_lacks_37 : decode cX9_lacks 37 = .ok (.invokestatic 101, 3) := by decide +kernel
theorem dX9_lacks_40 : decode cX9_lacks 40 = .ok (.ifCond .eq 7, 3) := by decide +kernel
theorem dX9_lacks_43 : decode cX9_lacks 43 = .ok (.iconst 0, 1) := by decide +kernel
theorem dX9_lacks_44 : decode cX9_lacks 44 = .ok (.goto 4, 3) := by decide +kernel
theorem dX9_lacks_47 : decode cX9_lacks 47 = .ok (.iconst 2, 1) := by decide +kernel
theorem dX9_lacks_48 : decode cX9_lacks 48 = .ok (.ireturn, 1) := by decide +kernel
theorem dX9_keep_0 : decode cX9_keep 0 = .ok (.aload_n 0, 1) := by decide +kernel
theorem dX9_keep_1 : decode cX9_keep 1 = .ok (.getfield 86, 3) := by decide +kernel
theorem dX9_keep_4 : decode cX9_keep 4 = .ok (.bipush 60, 2) := by decide +kernel
theorem dX9_keep_6 : decode cX9_keep 6 = .ok (.iload_n 1, 1) := by decide +kernel
theorem dX9_keep_7 : decode cX9_keep 7 = .ok (.imul, 1) := by decide +kernel
theorem dX9_keep_8 : decode cX9_keep 8 = .ok (.iload_n 2, 1) := by decide +kernel
theorem dX9_keep_9 : decode cX9_keep 9 = .ok (.iadd, 1) := by decide +kernel
theorem dX9_keep_10 : decode cX9_keep 10 = .ok (.aload_n 0, 1) := by decide +kernel
theorem dX9_keep_11 : decode cX9_keep 11 = .ok (.getfield 80, 3) := by decide +kernel
theorem dX9_keep_14 : decode cX9_keep 14 = .ok (.iload_n 1, 1) := by decide +kernel
theorem dX9_keep_15 : decode cX9_keep 15 = .ok (.iaload, 1) := by decide +kernel
theorem dX9_keep_16 : decode cX9_keep 16 = .ok (.ifCond .ne 8, 3) := by decide +kernel
theorem dX9_keep_19 : decode cX9_keep 19 = .ok (.iload_n 3, 1) := by decide +kernel
theorem dX9_keep_20 : decode cX9_keep 20 = .ok (.i2b, 1) := by decide +kernel
theorem dX9_keep_21 : decode cX9_keep 21 = .ok (.goto 19, 3) := by decide +kernel
theorem dX9_keep_24 : decode cX9_keep 24 = .ok (.aload_n 0, 1) := by decide +kernel
theorem dX9_keep_25 : decode cX9_keep 25 = .ok (.getfield 80, 3) := by decide +kernel
theorem dX9_keep_28 : decode cX9_keep 28 = .ok (.iload_n 1, 1) := by decide +kernel
theorem dX9_keep_29 : decode cX9_keep 29 = .ok (.iaload, 1) := by decide +kernel
theorem dX9_keep_30 : decode cX9_keep 30 = .ok (.iconst 1, 1) := by decide +kernel
theorem dX9_keep_31 : decode cX9_keep 31 = .ok (.if_icmp .ne 8, 3) := by decide +kernel
theorem dX9_keep_34 : decode cX9_keep 34 = .ok (.iload_n 3, 1) := by decide +kernel
theorem dX9_keep_35 : decode cX9_keep 35 = .ok (.i2s, 1) := by decide +kernel
theorem dX9_keep_36 : decode cX9_keep 36 = .ok (.goto 4, 3) := by decide +kernel
theorem dX9_keep_39 : decode cX9_keep 39 = .ok (.iload_n 3, 1) := by decide +kernel
theorem dX9_keep_40 : decode cX9_keep 40 = .ok (.iastore, 1) := by decide +kernel
theorem dX9_keep_41 : decode cX9_keep 41 = .ok (.return_, 1) := by decide +kernel
theorem dX9_put_0 : decode cX9_put 0 = .ok (.iload_n 1, 1) := by decide +kernel
theorem dX9_put_1 : decode cX9_put 1 = .ok (.invokestatic 264, 3) := by decide +kernel
theorem dX9_put_4 : decode cX9_put 4 = .ok (.ifCond .eq 12, 3) := by decide +kernel
theorem dX9_put_7 : decode cX9_put 7 = .ok (.iload_n 2, 1) := by decide +kernel
theorem dX9_put_8 : decode cX9_put 8 = .ok (.iconst 0, 1) := by decide +kernel
theorem dX9_put_9 : decode cX9_put 9 = .ok (.iconst 2, 1) := by decide +kernel
theorem dX9_put_10 : decode cX9_put 10 = .ok (.invokestatic 101, 3) := by decide +kernel
theorem dX9_put_13 : decode cX9_put 13 = .ok (.ifCond .ne 6, 3) := by decide +kernel
theorem dX9_put_16 : decode cX9_put 16 = .ok (.bipush (-2), 2) := by decide +kernel
theorem dX9_put_18 : decode cX9_put 18 = .ok (.ireturn, 1) := by decide +kernel
theorem dX9_put_19 : decode cX9_put 19 = .ok (.aload_n 0, 1) := by decide +kernel
theorem dX9_put_20 : decode cX9_put 20 = .ok (.iload_n 1, 1) := by decide +kernel
theorem dX9_put_21 : decode cX9_put 21 = .ok (.iload_n 2, 1) := by decide +kernel
theorem dX9_put_22 : decode cX9_put 22 = .ok (.iload_n 3, 1) := by decide +kernel
theorem dX9_put_23 : decode cX9_put 23 = .ok (.invokevirtual 308, 3) := by decide +kernel
theorem dX9_put_26 : decode cX9_put 26 = .ok (.istore 5, 2) := by decide +kernel
theorem dX9_put_28 : decode cX9_put 28 = .ok (.iload 5, 2) := by decide +kernel
theorem dX9_put_30 : decode cX9_put 30 = .ok (.ifCond .le 10, 3) := by decide +kernel
theorem dX9_put_33 : decode cX9_put 33 = .ok (.aload_n 0, 1) := by decide +kernel
theorem dX9_put_34 : decode cX9_put 34 = .ok (.iload 5, 2) := by decide +kernel
theorem dX9_put_36 : decode cX9_put 36 = .ok (.invokevirtual 267, 3) := by decide +kernel
theorem dX9_put_39 : decode cX9_put 39 = .ok (.ireturn, 1) := by decide +kernel
theorem dX9_put_40 : decode cX9_put 40 = .ok (.aload_n 0, 1) := by decide +kernel
theorem dX9_put_41 : decode cX9_put 41 = .ok (.iload_n 1, 1) := by decide +kernel
theorem dX9_put_42 : decode cX9_put 42 = .ok (.iload_n 3, 1) := by decide +kernel
theorem dX9_put_43 : decode cX9_put 43 = .ok (.iload 4, 2) := by decide +kernel
theorem dX9_put_45 : decode cX9_put 45 = .ok (.invokevirtual 311, 3) := by decide +kernel
theorem dX9_put_48 : decode cX9_put 48 = .ok (.iconst 1, 1) := by decide +kernel
theorem dX9_put_49 : decode cX9_put 49 = .ok (.ireturn, 1) := by decide +kernel
theorem dX9_get_0 : decode cX9_get 0 = .ok (.iload_n 1, 1) := by decide +kernel
theorem dX9_get_1 : decode cX9_get 1 = .ok (.invokestatic 264, 3) := by decide +kernel
theorem dX9_get_4 : decode cX9_get 4 = .ok (.ifCond .eq 12, 3) := by decide +kernel
theorem dX9_get_7 : decode cX9_get 7 = .ok (.iload_n 2, 1) := by decide +kernel
theorem dX9_get_8 : decode cX9_get 8 = .ok (.iconst 0, 1) := by decide +kernel
theorem dX9_get_9 : decode cX9_get 9 = .ok (.iconst 2, 1) := by decide +kernel
theorem dX9_get_10 : decode cX9_get 10 = .ok (.invokestatic 101, 3) := by decide +kernel
theorem dX9_get_13 : decode cX9_get 13 = .ok (.ifCond .ne 7, 3) := by decide +kernel
theorem dX9_get_16 : decode cX9_get 16 = .ok (.ldc_w 315, 3) := by decide +kernel
theorem dX9_get_19 : decode cX9_get 19 = .ok (.ireturn, 1) := by decide +kernel
theorem dX9_get_20 : decode cX9_get 20 = .ok (.aload_n 0, 1) := by decide +kernel
theorem dX9_get_21 : decode cX9_get 21 = .ok (.iload_n 1, 1) := by decide +kernel
theorem dX9_get_22 : decode cX9_get 22 = .ok (.iload_n 2, 1) := by decide +kernel
theorem dX9_get_23 : decode cX9_get 23 = .ok (.iload_n 3, 1) := by decide +kernel
theorem dX9_get_24 : decode cX9_get 24 = .ok (.invokevirtual 308, 3) := by decide +kernel
theorem dX9_get_27 : decode cX9_get 27 = .ok (.istore 4, 2) := by decide +kernel
theorem dX9_get_29 : decode cX9_get 29 = .ok (.iload 4, 2) := by decide +kernel
theorem dX9_get_31 : decode cX9_get 31 = .ok (.ifCond .le 13, 3) := by decide +kernel
theorem dX9_get_34 : decode cX9_get 34 = .ok (.aload_n 0, 1) := by decide +kernel
theorem dX9_get_35 : decode cX9_get 35 = .ok (.iload 4, 2) := by decide +kernel
theorem dX9_get_37 : decode cX9_get 37 = .ok (.putfield 305, 3) := by decide +kernel
theorem dX9_get_40 : decode cX9_get 40 = .ok (.ldc_w 315, 3) := by decide +kernel
theorem dX9_get_43 : decode cX9_get 43 = .ok (.ireturn, 1) := by decide +kernel
theorem dX9_get_44 : decode cX9_get 44 = .ok (.aload_n 0, 1) := by decide +kernel
theorem dX9_get_45 : decode cX9_get 45 = .ok (.getfield 86, 3) := by decide +kernel
theorem dX9_get_48 : decode cX9_get 48 = .ok (.bipush 60, 2) := by decide +kernel
theorem dX9_get_50 : decode cX9_get 50 = .ok (.iload_n 1, 1) := by decide +kernel
theorem dX9_get_51 : decode cX9_get 51 = .ok (.imul, 1) := by decide +kernel
theorem dX9_get_52 : decode cX9_get 52 = .ok (.iload_n 3, 1) := by decide +kernel
theorem dX9_get_53 : decode cX9_get 53 = .ok (.iadd, 1) := by decide +kernel
theorem dX9_get_54 : decode cX9_get 54 = .ok (.iaload, 1) := by decide +kernel
theorem dX9_get_55 : decode cX9_get 55 = .ok (.ireturn, 1) := by decide +kernel
theorem dX9_copy_0 : decode cX9_copy 0 = .ok (.iload_n 1, 1) := by decide +kernel
theorem dX9_copy_1 : decode cX9_copy 1 = .ok (.invokestatic 264, 3) := by decide +kernel
theorem dX9_copy_4 : decode cX9_copy 4 = .ok (.ifCond .eq 10, 3) := by decide +kernel
theorem dX9_copy_7 : decode cX9_copy 7 = .ok (.iload_n 3, 1) := by decide +kernel
theorem dX9_copy_8 : decode cX9_copy 8 = .ok (.invokestatic 264, 3) := by decide +kernel
theorem dX9_copy_11 : decode cX9_copy 11 = .ok (.ifCond .ne 6, 3) := by decide +kernel
theorem dX9_copy_14 : decode cX9_copy 14 = .ok (.bipush (-2), 2) := by decide +kernel
theorem dX9_copy_16 : decode cX9_copy 16 = .ok (.ireturn, 1) := by decide +kernel
theorem dX9_copy_17 : decode cX9_copy 17 = .ok (.aload_n 0, 1) := by decide +kernel
theorem dX9_copy_18 : decode cX9_copy 18 = .ok (.getfield 76, 3) := by decide +kernel
theorem dX9_copy_21 : decode cX9_copy 21 = .ok (.iload_n 1, 1) := by decide +kernel
theorem dX9_copy_22 : decode cX9_copy 22 = .ok (.baload, 1) := by decide +kernel
theorem dX9_copy_23 : decode cX9_copy 23 = .ok (.ifCond .eq 12, 3) := by decide +kernel
theorem dX9_copy_26 : decode cX9_copy 26 = .ok (.aload_n 0, 1) := by decide +kernel
theorem dX9_copy_27 : decode cX9_copy 27 = .ok (.getfield 76, 3) := by decide +kernel
theorem dX9_copy_30 : decode cX9_copy 30 = .ok (.iload_n 3, 1) := by decide +kernel
theorem dX9_copy_31 : decode cX9_copy 31 = .ok (.baload, 1) := by decide +kernel
theorem dX9_copy_32 : decode cX9_copy 32 = .ok (.ifCond .ne 9, 3) := by decide +kernel
theorem dX9_copy_35 : decode cX9_copy 35 = .ok (.aload_n 0, 1) := by decide +kernel
theorem dX9_copy_36 : decode cX9_copy 36 = .ok (.iconst 1, 1) := by decide +kernel
theorem dX9_copy_37 : decode cX9_copy 37 = .ok (.invokevirtual 267, 3) := by decide +kernel
theorem dX9_copy_40 : decode cX9_copy 40 = .ok (.ireturn, 1) := by decide +kernel
theorem dX9_copy_41 : decode cX9_copy 41 = .ok (.aload_n 0, 1) := by decide +kernel
theorem dX9_copy_42 : decode cX9_copy 42 = .ok (.getfield 80, 3) := by decide +kernel
theorem dX9_copy_45 : decode cX9_copy 45 = .ok (.iload_n 1, 1) := by decide +kernel
theorem dX9_copy_46 : decode cX9_copy 46 = .ok (.iaload, 1) := by decide +kernel
theorem dX9_copy_47 : decode cX9_copy 47 = .ok (.aload_n 0, 1) := by decide +kernel
theorem dX9_copy_48 : decode cX9_copy 48 = .ok (.getfield 80, 3) := by decide +kernel
theorem dX9_copy_51 : decode cX9_copy 51 = .ok (.iload_n 3, 1) := by decide +kernel
theorem dX9_copy_52 : decode cX9_copy 52 = .ok (.iaload, 1) := by decide +kernel
theorem dX9_copy_53 : decode cX9_copy 53 = .ok (.if_icmp .eq 9, 3) := by decide +kernel
theorem dX9_copy_56 : decode cX9_copy 56 = .ok (.aload_n 0, 1) := by decide +kernel
theorem dX9_copy_57 : decode cX9_copy 57 = .ok (.iconst 4, 1) := by decide +kernel
theorem dX9_copy_58 : decode cX9_copy 58 = .ok (.invokevirtual 267, 3) := by decide +kernel
theorem dX9_copy_61 : decode cX9_copy 61 = .ok (.ireturn, 1) := by decide +kernel
theorem dX9_copy_62 : decode cX9_copy 62 = .ok (.iload_n 2, 1) := by decide +kernel
theorem dX9_copy_63 : decode cX9_copy 63 = .ok (.ifCond .lt 48, 3) := by decide +kernel
theorem dX9_copy_66 : decode cX9_copy 66 = .ok (.iload 4, 2) := by decide +kernel
theorem dX9_copy_68 : decode cX9_copy 68 = .ok (.ifCond .lt 43, 3) := by decide +kernel
theorem dX9_copy_71 : decode cX9_copy 71 = .ok (.iload 5, 2) := by decide +kernel
theorem dX9_copy_73 : decode cX9_copy 73 = .ok (.ifCond .lt 38, 3) := by decide +kernel
theorem dX9_copy_76 : decode cX9_copy 76 = .ok (.iload_n 2, 1) := by decide +kernel
theorem dX9_copy_77 : decode cX9_copy 77 = .ok (.i2l, 1) := by decide +kernel
theorem dX9_copy_78 : decode cX9_copy 78 = .ok (.iload 5, 2) := by decide +kernel
theorem dX9_copy_80 : decode cX9_copy 80 = .ok (.i2l, 1) := by decide +kernel
theorem dX9_copy_81 : decode cX9_copy 81 = .ok (.ladd, 1) := by decide +kernel
theorem dX9_copy_82 : decode cX9_copy 82 = .ok (.aload_n 0, 1) := by decide +kernel
theorem dX9_copy_83 : decode cX9_copy 83 = .ok (.getfield 83, 3) := by decide +kernel
theorem dX9_copy_86 : decode cX9_copy 86 = .ok (.iload_n 1, 1) := by decide +kernel
theorem dX9_copy_87 : decode cX9_copy 87 = .ok (.iaload, 1) := by decide +kernel
theorem dX9_copy_88 : decode cX9_copy 88 = .ok (.i2l, 1) := by decide +kernel
theorem dX9_copy_89 : decode cX9_copy 89 = .ok (.lcmp, 1) := by decide +kernel
theorem dX9_copy_90 : decode cX9_copy 90 = .ok (.ifCond .gt 21, 3) := by decide +kernel
theorem dX9_copy_93 : decode cX9_copy 93 = .ok (.iload 4, 2) := by decide +kernel
theorem dX9_copy_95 : decode cX9_copy 95 = .ok (.i2l, 1) := by decide +kernel
theorem dX9_copy_96 : decode cX9_copy 96 = .ok (.iload 5, 2) := by decide +kernel
theorem dX9_copy_98 : decode cX9_copy 98 = .ok (.i2l, 1) := by decide +kernel
theorem dX9_copy_99 : decode cX9_copy 99 = .ok (.ladd, 1) := by decide +kernel
theorem dX9_copy_100 : decode cX9_copy 100 = .ok (.aload_n 0, 1) := by decide +kernel
theorem dX9_copy_101 : decode cX9_copy 101 = .ok (.getfield 83, 3) := by decide +kernel
theorem dX9_copy_104 : decode cX9_copy 104 = .ok (.iload_n 3, 1) := by decide +kernel
theorem dX9_copy_105 : decode cX9_copy 105 = .ok (.iaload, 1) := by decide +kernel
theorem dX9_copy_106 : decode cX9_copy 106 = .ok (.i2l, 1) := by decide +kernel
theorem dX9_copy_107 : decode cX9_copy 107 = .ok (.lcmp, 1) := by decide +kernel
theorem dX9_copy_108 : decode cX9_copy 108 = .ok (.ifCond .le 9, 3) := by decide +kernel
theorem dX9_copy_111 : decode cX9_copy 111 = .ok (.aload_n 0, 1) := by decide +kernel
theorem dX9_copy_112 : decode cX9_copy 112 = .ok (.iconst 2, 1) := by decide +kernel
theorem dX9_copy_113 : decode cX9_copy 113 = .ok (.invokevirtual 267, 3) := by decide +kernel
theorem dX9_copy_116 : decode cX9_copy 116 = .ok (.ireturn, 1) := by decide +kernel
theorem dX9_copy_117 : decode cX9_copy 117 = .ok (.iconst 0, 1) := by decide +kernel
theorem dX9_copy_118 : decode cX9_copy 118 = .ok (.istore 6, 2) := by decide +kernel
theorem dX9_copy_120 : decode cX9_copy 120 = .ok (.iload 6, 2) := by decide +kernel
theorem dX9_copy_122 : decode cX9_copy 122 = .ok (.iload 5, 2) := by decide +kernel
theorem dX9_copy_124 : decode cX9_copy 124 = .ok (.if_icmp .ge 30, 3) := by decide +kernel
theorem dX9_copy_127 : decode cX9_copy 127 = .ok (.aload_n 0, 1) := by decide +kernel
theorem dX9_copy_128 : decode cX9_copy 128 = .ok (.getfield 89, 3) := by decide +kernel
theorem dX9_copy_131 : decode cX9_copy 131 = .ok (.iload 6, 2) := by decide +kernel
theorem dX9_copy_133 : decode cX9_copy 133 = .ok (.aload_n 0, 1) := by decide +kernel
theorem dX9_copy_134 : decode cX9_copy 134 = .ok (.getfield 86, 3) := by decide +kernel
theorem dX9_copy_137 : decode cX9_copy 137 = .ok (.bipush 60, 2) := by decide +kernel
theorem dX9_copy_139 : decode cX9_copy 139 = .ok (.iload_n 1, 1) := by decide +kernel
theorem dX9_copy_140 : decode cX9_copy 140 = .ok (.imul, 1) := by decide +kernel
theorem dX9_copy_141 : decode cX9_copy 141 = .ok (.iload_n 2, 1) := by decide +kernel
theorem dX9_copy_142 : decode cX9_copy 142 = .ok (.iadd, 1) := by decide +kernel
theorem dX9_copy_143 : decode cX9_copy 143 = .ok (.iload 6, 2) := by decide +kernel
theorem dX9_copy_145 : decode cX9_copy 145 = .ok (.iadd, 1) := by decide +kernel
theorem dX9_copy_146 : decode cX9_copy 146 = .ok (.iaload, 1) := by decide +kernel
theorem dX9_copy_147 : decode cX9_copy 147 = .ok (.iastore, 1) := by decide +kernel
theorem dX9_copy_148 : decode cX9_copy 148 = .ok (.iinc 6 1, 3) := by decide +kernel
theorem dX9_copy_151 : decode cX9_copy 151 = .ok (.goto (-31), 3) := by decide +kernel
theorem dX9_copy_154 : decode cX9_copy 154 = .ok (.iconst 0, 1) := by decide +kernel
theorem dX9_copy_155 : decode cX9_copy 155 = .ok (.istore 6, 2) := by decide +kernel
theorem dX9_copy_157 : decode cX9_copy 157 = .ok (.iload 6, 2) := by decide +kernel
theorem dX9_copy_159 : decode cX9_copy 159 = .ok (.iload 5, 2) := by decide +kernel
theorem dX9_copy_161 : decode cX9_copy 161 = .ok (.if_icmp .ge 31, 3) := by decide +kernel
theorem dX9_copy_164 : decode cX9_copy 164 = .ok (.aload_n 0, 1) := by decide +kernel
theorem dX9_copy_165 : decode cX9_copy 165 = .ok (.getfield 86, 3) := by decide +kernel
theorem dX9_copy_168 : decode cX9_copy 168 = .ok (.bipush 60, 2) := by decide +kernel
theorem dX9_copy_170 : decode cX9_copy 170 = .ok (.iload_n 3, 1) := by decide +kernel
theorem dX9_copy_171 : decode cX9_copy 171 = .ok (.imul, 1) := by decide +kernel
theorem dX9_copy_172 : decode cX9_copy 172 = .ok (.iload 4, 2) := by decide +kernel
theorem dX9_copy_174 : decode cX9_copy 174 = .ok (.iadd, 1) := by decide +kernel
theorem dX9_copy_175 : decode cX9_copy 175 = .ok (.iload 6, 2) := by decide +kernel
theorem dX9_copy_177 : decode cX9_copy 177 = .ok (.iadd, 1) := by decide +kernel
theorem dX9_copy_178 : decode cX9_copy 178 = .ok (.aload_n 0, 1) := by decide +kernel
theorem dX9_copy_179 : decode cX9_copy 179 = .ok (.getfield 89, 3) := by decide +kernel
theorem dX9_copy_182 : decode cX9_copy 182 = .ok (.iload 6, 2) := by decide +kernel
theorem dX9_copy_184 : decode cX9_copy 184 = .ok (.iaload, 1) := by decide +kernel
theorem dX9_copy_185 : decode cX9_copy 185 = .ok (.iastore, 1) := by decide +kernel
theorem dX9_copy_186 : decode cX9_copy 186 = .ok (.iinc 6 1, 3) := by decide +kernel
theorem dX9_copy_189 : decode cX9_copy 189 = .ok (.goto (-32), 3) := by decide +kernel
theorem dX9_copy_192 : decode cX9_copy 192 = .ok (.iconst 1, 1) := by decide +kernel
theorem dX9_copy_193 : decode cX9_copy 193 = .ok (.ireturn, 1) := by decide +kernel
theorem dX9_write_0 : decode cX9_write 0 = .ok (.iload_n 1, 1) := by decide +kernel
theorem dX9_write_1 : decode cX9_write 1 = .ok (.iconst 0, 1) := by decide +kernel
theorem dX9_write_2 : decode cX9_write 2 = .ok (.iconst 3, 1) := by decide +kernel
theorem dX9_write_3 : decode cX9_write 3 = .ok (.invokestatic 101, 3) := by decide +kernel
theorem dX9_write_6 : decode cX9_write 6 = .ok (.ifCond .eq 10, 3) := by decide +kernel
theorem dX9_write_9 : decode cX9_write 9 = .ok (.iload_n 2, 1) := by decide +kernel
theorem dX9_write_10 : decode cX9_write 10 = .ok (.invokestatic 264, 3) := by decide +kernel
theorem dX9_write_13 : decode cX9_write 13 = .ok (.ifCond .ne 6, 3) := by decide +kernel
theorem dX9_write_16 : decode cX9_write 16 = .ok (.bipush (-2), 2) := by decide +kernel
theorem dX9_write_18 : decode cX9_write 18 = .ok (.ireturn, 1) := by decide +kernel
theorem dX9_write_19 : decode cX9_write 19 = .ok (.aload_n 0, 1) := by decide +kernel
theorem dX9_write_20 : decode cX9_write 20 = .ok (.getfield 76, 3) := by decide +kernel
theorem dX9_write_23 : decode cX9_write 23 = .ok (.iload_n 2, 1) := by decide +kernel
theorem dX9_write_24 : decode cX9_write 24 = .ok (.baload, 1) := by decide +kernel
theorem dX9_write_25 : decode cX9_write 25 = .ok (.ifCond .ne 9, 3) := by decide +kernel
theorem dX9_write_28 : decode cX9_write 28 = .ok (.aload_n 0, 1) := by decide +kernel
theorem dX9_write_29 : decode cX9_write 29 = .ok (.iconst 1, 1) := by decide +kernel
theorem dX9_write_30 : decode cX9_write 30 = .ok (.invokevirtual 267, 3) := by decide +kernel
theorem dX9_write_33 : decode cX9_write 33 = .ok (.ireturn, 1) := by decide +kernel
theorem dX9_write_34 : decode cX9_write 34 = .ok (.iconst 0, 1) := by decide +kernel
theorem dX9_write_35 : decode cX9_write 35 = .ok (.istore_n 3, 1) := by decide +kernel
theorem dX9_write_36 : decode cX9_write 36 = .ok (.iload_n 3, 1) := by decide +kernel
theorem dX9_write_37 : decode cX9_write 37 = .ok (.aload_n 0, 1) := by decide +kernel
theorem dX9_write_38 : decode cX9_write 38 = .ok (.getfield 83, 3) := by decide +kernel
theorem dX9_write_41 : decode cX9_write 41 = .ok (.iload_n 2, 1) := by decide +kernel
theorem dX9_write_42 : decode cX9_write 42 = .ok (.iaload, 1) := by decide +kernel
theorem dX9_write_43 : decode cX9_write 43 = .ok (.if_icmp .ge 21, 3) := by decide +kernel
theorem dX9_write_46 : decode cX9_write 46 = .ok (.aload_n 0, 1) := by decide +kernel
theorem dX9_write_47 : decode cX9_write 47 = .ok (.iload_n 2, 1) := by decide +kernel
theorem dX9_write_48 : decode cX9_write 48 = .ok (.iload_n 3, 1) := by decide +kernel
theorem dX9_write_49 : decode cX9_write 49 = .ok (.aload_n 0, 1) := by decide +kernel
theorem dX9_write_50 : decode cX9_write 50 = .ok (.iload_n 3, 1) := by decide +kernel
theorem dX9_write_51 : decode cX9_write 51 = .ok (.iload_n 1, 1) := by decide +kernel
theorem dX9_write_52 : decode cX9_write 52 = .ok (.invokevirtual 224, 3) := by decide +kernel
theorem dX9_write_55 : decode cX9_write 55 = .ok (.invokevirtual 311, 3) := by decide +kernel
theorem dX9_write_58 : decode cX9_write 58 = .ok (.iinc 3 1, 3) := by decide +kernel
theorem dX9_write_61 : decode cX9_write 61 = .ok (.goto (-25), 3) := by decide +kernel
theorem dX9_write_64 : decode cX9_write 64 = .ok (.iload_n 3, 1) := by decide +kernel
theorem dX9_write_65 : decode cX9_write 65 = .ok (.ireturn, 1) := by decide +kernel
theorem dX9_sumOf_0 : decode cX9_sumOf 0 = .ok (.aload_n 0, 1) := by decide +kernel
theorem dX9_sumOf_1 : decode cX9_sumOf 1 = .ok (.invokevirtual 218, 3) := by decide +kernel
theorem dX9_sumOf_4 : decode cX9_sumOf 4 = .ok (.iconst 0, 1) := by decide +kernel
theorem dX9_sumOf_5 : decode cX9_sumOf 5 = .ok (.istore_n 2, 1) := by decide +kernel
theorem dX9_sumOf_6 : decode cX9_sumOf 6 = .ok (.iconst 0, 1) := by decide +kernel
theorem dX9_sumOf_7 : decode cX9_sumOf 7 = .ok (.istore_n 3, 1) := by decide +kernel
theorem dX9_sumOf_8 : decode cX9_sumOf 8 = .ok (.iload_n 3, 1) := by decide +kernel
theorem dX9_sumOf_9 : decode cX9_sumOf 9 = .ok (.aload_n 0, 1) := by decide +kernel
theorem dX9_sumOf_10 : decode cX9_sumOf 10 = .ok (.getfield 117, 3) := by decide +kernel
theorem dX9_sumOf_13 : decode cX9_sumOf 13 = .ok (.if_icmp .ge 27, 3) := by decide +kernel
theorem dX9_sumOf_16 : decode cX9_sumOf 16 = .ok (.iload_n 2, 1) := by decide +kernel
theorem dX9_sumOf_17 : decode cX9_sumOf 17 = .ok (.aload_n 0, 1) := by decide +kernel
theorem dX9_sumOf_18 : decode cX9_sumOf 18 = .ok (.getfield 52, 3) := by decide +kernel
theorem dX9_sumOf_21 : decode cX9_sumOf 21 = .ok (.iload_n 3, 1) := by decide +kernel
theorem dX9_sumOf_22 : decode cX9_sumOf 22 = .ok (.iaload, 1) := by decide +kernel
theorem dX9_sumOf_23 : decode cX9_sumOf 23 = .ok (.iconst (-1), 1) := by decide +kernel
theorem dX9_sumOf_24 : decode cX9_sumOf 24 = .ok (.if_icmp .eq 7, 3) := by decide +kernel
theorem dX9_sumOf_27 : decode cX9_sumOf 27 = .ok (.iconst 1, 1) := by decide +kernel
theorem dX9_sumOf_28 : decode cX9_sumOf 28 = .ok (.goto 4, 3) := by decide +kernel
theorem dX9_sumOf_31 : decode cX9_sumOf 31 = .ok (.iconst 0, 1) := by decide +kernel
theorem dX9_sumOf_32 : decode cX9_sumOf 32 = .ok (.iadd, 1) := by decide +kernel
theorem dX9_sumOf_33 : decode cX9_sumOf 33 = .ok (.istore_n 2, 1) := by decide +kernel
theorem dX9_sumOf_34 : decode cX9_sumOf 34 = .ok (.iinc 3 1, 3) := by decide +kernel
theorem dX9_sumOf_37 : decode cX9_sumOf 37 = .ok (.goto (-29), 3) := by decide +kernel
theorem dX9_sumOf_40 : decode cX9_sumOf 40 = .ok (.iload_n 1, 1) := by decide +kernel
theorem dX9_sumOf_41 : decode cX9_sumOf 41 = .ok (.ifCond .ne 10, 3) := by decide +kernel
theorem dX9_sumOf_44 : decode cX9_sumOf 44 = .ok (.aload_n 0, 1) := by decide +kernel
theorem dX9_sumOf_45 : decode cX9_sumOf 45 = .ok (.getfield 117, 3) := by decide +kernel
theorem dX9_sumOf_48 : decode cX9_sumOf 48 = .ok (.goto 28, 3) := by decide +kernel
theorem dX9_sumOf_51 : decode cX9_sumOf 51 = .ok (.iload_n 1, 1) := by decide +kernel
theorem dX9_sumOf_52 : decode cX9_sumOf 52 = .ok (.iconst 1, 1) := by decide +kernel
theorem dX9_sumOf_53 : decode cX9_sumOf 53 = .ok (.if_icmp .ne 10, 3) := by decide +kernel
theorem dX9_sumOf_56 : decode cX9_sumOf 56 = .ok (.aload_n 0, 1) := by decide +kernel
theorem dX9_sumOf_57 : decode cX9_sumOf 57 = .ok (.getfield 120, 3) := by decide +kernel
theorem dX9_sumOf_60 : decode cX9_sumOf 60 = .ok (.goto 16, 3) := by decide +kernel
theorem dX9_sumOf_63 : decode cX9_sumOf 63 = .ok (.iload_n 1, 1) := by decide +kernel
theorem dX9_sumOf_64 : decode cX9_sumOf 64 = .ok (.iconst 2, 1) := by decide +kernel
theorem dX9_sumOf_65 : decode cX9_sumOf 65 = .ok (.if_icmp .ne 10, 3) := by decide +kernel
theorem dX9_sumOf_68 : decode cX9_sumOf 68 = .ok (.aload_n 0, 1) := by decide +kernel
theorem dX9_sumOf_69 : decode cX9_sumOf 69 = .ok (.getfield 127, 3) := by decide +kernel
theorem dX9_sumOf_72 : decode cX9_sumOf 72 = .ok (.goto 4, 3) := by decide +kernel
theorem dX9_sumOf_75 : decode cX9_sumOf 75 = .ok (.iload_n 2, 1) := by decide +kernel
theorem dX9_sumOf_76 : decode cX9_sumOf 76 = .ok (.ireturn, 1) := by decide +kernel
theorem dX9_count_0 : decode cX9_count 0 = .ok (.iload_n 1, 1) := by decide +kernel
theorem dX9_count_1 : decode cX9_count 1 = .ok (.tableswitch 76 0 8 #[51, 51, 51, 57, 57, 57, 51, 66, 71], 51) := by decide +kernel
theorem dX9_count_52 : decode cX9_count 52 = .ok (.aload_n 0, 1) := by decide +kernel
theorem dX9_count_53 : decode cX9_count 53 = .ok (.iload_n 1, 1) := by decide +kernel
theorem dX9_count_54 : decode cX9_count 54 = .ok (.invokevirtual 316, 3) := by decide +kernel
theorem dX9_count_57 : decode cX9_count 57 = .ok (.ireturn, 1) := by decide +kernel
theorem dX9_count_58 : decode cX9_count 58 = .ok (.aload_n 0, 1) := by decide +kernel
theorem dX9_count_59 : decode cX9_count 59 = .ok (.getfield 7, 3) := by decide +kernel
theorem dX9_count_62 : decode cX9_count 62 = .ok (.iload_n 1, 1) := by decide +kernel
theorem dX9_count_63 : decode cX9_count 63 = .ok (.iconst 3, 1) := by decide +kernel
theorem dX9_count_64 : decode cX9_count 64 = .ok (.isub, 1) := by decide +kernel
theorem dX9_count_65 : decode cX9_count 65 = .ok (.iaload, 1) := by decide +kernel
theorem dX9_count_66 : decode cX9_count 66 = .ok (.ireturn, 1) := by decide +kernel
theorem dX9_count_67 : decode cX9_count 67 = .ok (.aload_n 0, 1) := by decide +kernel
theorem dX9_count_68 : decode cX9_count 68 = .ok (.getfield 261, 3) := by decide +kernel
theorem dX9_count_71 : decode cX9_count 71 = .ok (.ireturn, 1) := by decide +kernel
theorem dX9_count_72 : decode cX9_count 72 = .ok (.aload_n 0, 1) := by decide +kernel
theorem dX9_count_73 : decode cX9_count 73 = .ok (.getfield 305, 3) := by decide +kernel
theorem dX9_count_76 : decode cX9_count 76 = .ok (.ireturn, 1) := by decide +kernel
theorem dX9_count_77 : decode cX9_count 77 = .ok (.bipush (-2), 2) := by decide +kernel
theorem dX9_count_79 : decode cX9_count 79 = .ok (.ireturn, 1) := by decide +kernel
theorem dX9_riderDigest_0 : decode cX9_riderDigest 0 = .ok (.lload_n 1, 1) := by decide +kernel
theorem dX9_riderDigest_1 : decode cX9_riderDigest 1 = .ok (.lstore 4, 2) := by decide +kernel
theorem dX9_riderDigest_3 : decode cX9_riderDigest 3 = .ok (.iconst 0, 1) := by decide +kernel
theorem dX9_riderDigest_4 : decode cX9_riderDigest 4 = .ok (.istore 6, 2) := by decide +kernel
theorem dX9_riderDigest_6 : decode cX9_riderDigest 6 = .ok (.iload 6, 2) := by decide +kernel
theorem dX9_riderDigest_8 : decode cX9_riderDigest 8 = .ok (.iconst 3, 1) := by decide +kernel
theorem dX9_riderDigest_9 : decode cX9_riderDigest 9 = .ok (.if_icmp .ge 26, 3) := by decide +kernel
theorem dX9_riderDigest_12 : decode cX9_riderDigest 12 = .ok (.ldc2_w 319, 3) := by decide +kernel
theorem dX9_riderDigest_15 : decode cX9_riderDigest 15 = .ok (.lload 4, 2) := by decide +kernel
theorem dX9_riderDigest_17 : decode cX9_riderDigest 17 = .ok (.lmul, 1) := by decide +kernel
theorem dX9_riderDigest_18 : decode cX9_riderDigest 18 = .ok (.aload_n 0, 1) := by decide +kernel
theorem dX9_riderDigest_19 : decode cX9_riderDigest 19 = .ok (.iload_n 3, 1) := by decide +kernel
theorem dX9_riderDigest_20 : decode cX9_riderDigest 20 = .ok (.iload 6, 2) := by decide +kernel
theorem dX9_riderDigest_22 : decode cX9_riderDigest 22 = .ok (.invokevirtual 147, 3) := by decide +kernel
theorem dX9_riderDigest_25 : decode cX9_riderDigest 25 = .ok (.i2l, 1) := by decide +kernel
theorem dX9_riderDigest_26 : decode cX9_riderDigest 26 = .ok (.ladd, 1) := by decide +kernel
theorem dX9_riderDigest_27 : decode cX9_riderDigest 27 = .ok (.lstore 4, 2) := by decide +kernel
theorem dX9_riderDigest_29 : decode cX9_riderDigest 29 = .ok (.iinc 6 1, 3) := by decide +kernel
theorem dX9_riderDigest_32 : decode cX9_riderDigest 32 = .ok (.goto (-26), 3) := by decide +kernel
theorem dX9_riderDigest_35 : decode cX9_riderDigest 35 = .ok (.iconst 0, 1) := by decide +kernel
theorem dX9_riderDigest_36 : decode cX9_riderDigest 36 = .ok (.istore 6, 2) := by decide +kernel
theorem dX9_riderDigest_38 : decode cX9_riderDigest 38 = .ok (.iload 6, 2) := by decide +kernel
theorem dX9_riderDigest_40 : decode cX9_riderDigest 40 = .ok (.iconst 3, 1) := by decide +kernel
theorem dX9_riderDigest_41 : decode cX9_riderDigest 41 = .ok (.if_icmp .ge 26, 3) := by decide +kernel
theorem dX9_riderDigest_44 : decode cX9_riderDigest 44 = .ok (.ldc2_w 319, 3) := by decide +kernel
theorem dX9_riderDigest_47 : decode cX9_riderDigest 47 = .ok (.lload 4, 2) := by decide +kernel
theorem dX9_riderDigest_49 : decode cX9_riderDigest 49 = .ok (.lmul, 1) := by decide +kernel
theorem dX9_riderDigest_50 : decode cX9_riderDigest 50 = .ok (.aload_n 0, 1) := by decide +kernel
theorem dX9_riderDigest_51 : decode cX9_riderDigest 51 = .ok (.iload_n 3, 1) := by decide +kernel
theorem dX9_riderDigest_52 : decode cX9_riderDigest 52 = .ok (.iload 6, 2) := by decide +kernel
theorem dX9_riderDigest_54 : decode cX9_riderDigest 54 = .ok (.invokevirtual 230, 3) := by decide +kernel
theorem dX9_riderDigest_57 : decode cX9_riderDigest 57 = .ok (.i2l, 1) := by decide +kernel
theorem dX9_riderDigest_58 : decode cX9_riderDigest 58 = .ok (.ladd, 1) := by decide +kernel
theorem dX9_riderDigest_59 : decode cX9_riderDigest 59 = .ok (.lstore 4, 2) := by decide +kernel
theorem dX9_riderDigest_61 : decode cX9_riderDigest 61 = .ok (.iinc 6 1, 3) := by decide +kernel
theorem dX9_riderDigest_64 : decode cX9_riderDigest 64 = .ok (.goto (-26), 3) := by decide +kernel
theorem dX9_riderDigest_67 : decode cX9_riderDigest 67 = .ok (.ldc2_w 319, 3) := by decide +kernel
theorem dX9_riderDigest_70 : decode cX9_riderDigest 70 = .ok (.lload 4, 2) := by decide +kernel
theorem dX9_riderDigest_72 : decode cX9_riderDigest 72 = .ok (.lmul, 1) := by decide +kernel
theorem dX9_riderDigest_73 : decode cX9_riderDigest 73 = .ok (.aload_n 0, 1) := by decide +kernel
theorem dX9_riderDigest_74 : decode cX9_riderDigest 74 = .ok (.iload_n 3, 1) := by decide +kernel
theorem dX9_riderDigest_75 : decode cX9_riderDigest 75 = .ok (.iconst 0, 1) := by decide +kernel
theorem dX9_riderDigest_76 : decode cX9_riderDigest 76 = .ok (.invokevirtual 242, 3) := by decide +kernel
theorem dX9_riderDigest_79 : decode cX9_riderDigest 79 = .ok (.i2l, 1) := by decide +kernel
theorem dX9_riderDigest_80 : decode cX9_riderDigest 80 = .ok (.ladd, 1) := by decide +kernel
theorem dX9_riderDigest_81 : decode cX9_riderDigest 81 = .ok (.lstore 4, 2) := by decide +kernel
theorem dX9_riderDigest_83 : decode cX9_riderDigest 83 = .ok (.ldc2_w 319, 3) := by decide +kernel
theorem dX9_riderDigest_86 : decode cX9_riderDigest 86 = .ok (.lload 4, 2) := by decide +kernel
theorem dX9_riderDigest_88 : decode cX9_riderDigest 88 = .ok (.lmul, 1) := by decide +kernel
theorem dX9_riderDigest_89 : decode cX9_riderDigest 89 = .ok (.aload_n 0, 1) := by decide +kernel
theorem dX9_riderDigest_90 : decode cX9_riderDigest 90 = .ok (.iload_n 3, 1) := by decide +kernel
theorem dX9_riderDigest_91 : decode cX9_riderDigest 91 = .ok (.iconst 1, 1) := by decide +kernel
theorem dX9_riderDigest_92 : decode cX9_riderDigest 92 = .ok (.invokevirtual 242, 3) := by decide +kernel
theorem dX9_riderDigest_95 : decode cX9_riderDigest 95 = .ok (.i2l, 1) := by decide +kernel
theorem dX9_riderDigest_96 : decode cX9_riderDigest 96 = .ok (.ladd, 1) := by decide +kernel
theorem dX9_riderDigest_97 : decode cX9_riderDigest 97 = .ok (.lreturn, 1) := by decide +kernel
theorem dX9_stepsDigest_0 : decode cX9_stepsDigest 0 = .ok (.lload_n 1, 1) := by decide +kernel
theorem dX9_stepsDigest_1 : decode cX9_stepsDigest 1 = .ok (.lstore 4, 2) := by decide +kernel
theorem dX9_stepsDigest_3 : decode cX9_stepsDigest 3 = .ok (.iconst 0, 1) := by decide +kernel
theorem dX9_stepsDigest_4 : decode cX9_stepsDigest 4 = .ok (.istore 6, 2) := by decide +kernel
theorem dX9_stepsDigest_6 : decode cX9_stepsDigest 6 = .ok (.iload 6, 2) := by decide +kernel
theorem dX9_stepsDigest_8 : decode cX9_stepsDigest 8 = .ok (.iconst 4, 1) := by decide +kernel
theorem dX9_stepsDigest_9 : decode cX9_stepsDigest 9 = .ok (.if_icmp .ge 26, 3) := by decide +kernel
theorem dX9_stepsDigest_12 : decode cX9_stepsDigest 12 = .ok (.ldc2_w 319, 3) := by decide +kernel
theorem dX9_stepsDigest_15 : decode cX9_stepsDigest 15 = .ok (.lload 4, 2) := by decide +kernel
theorem dX9_stepsDigest_17 : decode cX9_stepsDigest 17 = .ok (.lmul, 1) := by decide +kernel
theorem dX9_stepsDigest_18 : decode cX9_stepsDigest 18 = .ok (.aload_n 0, 1) := by decide +kernel
theorem dX9_stepsDigest_19 : decode cX9_stepsDigest 19 = .ok (.iload_n 3, 1) := by decide +kernel
theorem dX9_stepsDigest_20 : decode cX9_stepsDigest 20 = .ok (.iload 6, 2) := by decide +kernel
theorem dX9_stepsDigest_22 : decode cX9_stepsDigest 22 = .ok (.invokevirtual 224, 3) := by decide +kernel
theorem dX9_stepsDigest_25 : decode cX9_stepsDigest 25 = .ok (.i2l, 1) := by decide +kernel
theorem dX9_stepsDigest_26 : decode cX9_stepsDigest 26 = .ok (.ladd, 1) := by decide +kernel
theorem dX9_stepsDigest_27 : decode cX9_stepsDigest 27 = .ok (.lstore 4, 2) := by decide +kernel
theorem dX9_stepsDigest_29 : decode cX9_stepsDigest 29 = .ok (.iinc 6 1, 3) := by decide +kernel
theorem dX9_stepsDigest_32 : decode cX9_stepsDigest 32 = .ok (.goto (-26), 3) := by decide +kernel
theorem dX9_stepsDigest_35 : decode cX9_stepsDigest 35 = .ok (.ldc2_w 319, 3) := by decide +kernel
theorem dX9_stepsDigest_38 : decode cX9_stepsDigest 38 = .ok (.lload 4, 2) := by decide +kernel
theorem dX9_stepsDigest_40 : decode cX9_stepsDigest 40 = .ok (.lmul, 1) := by decide +kernel
theorem dX9_stepsDigest_41 : decode cX9_stepsDigest 41 = .ok (.aload_n 0, 1) := by decide +kernel
theorem dX9_stepsDigest_42 : decode cX9_stepsDigest 42 = .ok (.iload_n 3, 1) := by decide +kernel
theorem dX9_stepsDigest_43 : decode cX9_stepsDigest 43 = .ok (.invokevirtual 239, 3) := by decide +kernel
theorem dX9_stepsDigest_46 : decode cX9_stepsDigest 46 = .ok (.i2l, 1) := by decide +kernel
theorem dX9_stepsDigest_47 : decode cX9_stepsDigest 47 = .ok (.ladd, 1) := by decide +kernel
theorem dX9_stepsDigest_48 : decode cX9_stepsDigest 48 = .ok (.lreturn, 1) := by decide +kernel
theorem dX9_digest_0 : decode cX9_digest 0 = .ok (.ldc2_w 321, 3) := by decide +kernel
theorem dX9_digest_3 : decode cX9_digest 3 = .ok (.lstore_n 1, 1) := by decide +kernel
theorem dX9_digest_4 : decode cX9_digest 4 = .ok (.iconst 0, 1) := by decide +kernel
theorem dX9_digest_5 : decode cX9_digest 5 = .ok (.istore_n 3, 1) := by decide +kernel
theorem dX9_digest_6 : decode cX9_digest 6 = .ok (.iload_n 3, 1) := by decide +kernel
theorem dX9_digest_7 : decode cX9_digest 7 = .ok (.bipush 8, 2) := by decide +kernel
theorem dX9_digest_9 : decode cX9_digest 9 = .ok (.if_icmp .ge 22, 3) := by decide +kernel
theorem dX9_digest_12 : decode cX9_digest 12 = .ok (.ldc2_w 319, 3) := by decide +kernel
theorem dX9_digest_15 : decode cX9_digest 15 = .ok (.lload_n 1, 1) := by decide +kernel
theorem dX9_digest_16 : decode cX9_digest 16 = .ok (.lmul, 1) := by decide +kernel
theorem dX9_digest_17 : decode cX9_digest 17 = .ok (.aload_n 0, 1) := by decide +kernel
theorem dX9_digest_18 : decode cX9_digest 18 = .ok (.iload_n 3, 1) := by decide +kernel
theorem dX9_digest_19 : decode cX9_digest 19 = .ok (.invokevirtual 323, 3) := by decide +kernel
theorem dX9_digest_22 : decode cX9_digest 22 = .ok (.i2l, 1) := by decide +kernel
theorem dX9_digest_23 : decode cX9_digest 23 = .ok (.ladd, 1) := by decide +kernel
theorem dX9_digest_24 : decode cX9_digest 24 = .ok (.lstore_n 1, 1) := by decide +kernel
theorem dX9_digest_25 : decode cX9_digest 25 = .ok (.iinc 3 1, 3) := by decide +kernel
theorem dX9_digest_28 : decode cX9_digest 28 = .ok (.goto (-22), 3) := by decide +kernel
theorem dX9_digest_31 : decode cX9_digest 31 = .ok (.iconst 0, 1) := by decide +kernel
theorem dX9_digest_32 : decode cX9_digest 32 = .ok (.istore_n 3, 1) := by decide +kernel
theorem dX9_digest_33 : decode cX9_digest 33 = .ok (.iload_n 3, 1) := by decide +kernel
theorem dX9_digest_34 : decode cX9_digest 34 = .ok (.iconst 3, 1) := by decide +kernel
theorem dX9_digest_35 : decode cX9_digest 35 = .ok (.if_icmp .ge 22, 3) := by decide +kernel
theorem dX9_digest_38 : decode cX9_digest 38 = .ok (.ldc2_w 319, 3) := by decide +kernel
theorem dX9_digest_41 : decode cX9_digest 41 = .ok (.lload_n 1, 1) := by decide +kernel
theorem dX9_digest_42 : decode cX9_digest 42 = .ok (.lmul, 1) := by decide +kernel
theorem dX9_digest_43 : decode cX9_digest 43 = .ok (.aload_n 0, 1) := by decide +kernel
theorem dX9_digest_44 : decode cX9_digest 44 = .ok (.iload_n 3, 1) := by decide +kernel
theorem dX9_digest_45 : decode cX9_digest 45 = .ok (.invokevirtual 138, 3) := by decide +kernel
theorem dX9_digest_48 : decode cX9_digest 48 = .ok (.i2l, 1) := by decide +kernel
theorem dX9_digest_49 : decode cX9_digest 49 = .ok (.ladd, 1) := by decide +kernel
theorem dX9_digest_50 : decode cX9_digest 50 = .ok (.lstore_n 1, 1) := by decide +kernel
theorem dX9_digest_51 : decode cX9_digest 51 = .ok (.iinc 3 1, 3) := by decide +kernel
theorem dX9_digest_54 : decode cX9_digest 54 = .ok (.goto (-21), 3) := by decide +kernel
theorem dX9_digest_57 : decode cX9_digest 57 = .ok (.iconst 0, 1) := by decide +kernel
theorem dX9_digest_58 : decode cX9_digest 58 = .ok (.istore_n 3, 1) := by decide +kernel
theorem dX9_digest_59 : decode cX9_digest 59 = .ok (.iload_n 3, 1) := by decide +kernel
theorem dX9_digest_60 : decode cX9_digest 60 = .ok (.aload_n 0, 1) := by decide +kernel
theorem dX9_digest_61 : decode cX9_digest 61 = .ok (.getfield 117, 3) := by decide +kernel
theorem dX9_digest_64 : decode cX9_digest 64 = .ok (.if_icmp .ge 16, 3) := by decide +kernel
theorem dX9_digest_67 : decode cX9_digest 67 = .ok (.aload_n 0, 1) := by decide +kernel
theorem dX9_digest_68 : decode cX9_digest 68 = .ok (.lload_n 1, 1) := by decide +kernel
theorem dX9_digest_69 : decode cX9_digest 69 = .ok (.iload_n 3, 1) := by decide +kernel
theorem dX9_digest_70 : decode cX9_digest 70 = .ok (.invokevirtual 326, 3) := by decide +kernel
theorem dX9_digest_73 : decode cX9_digest 73 = .ok (.lstore_n 1, 1) := by decide +kernel
theorem dX9_digest_74 : decode cX9_digest 74 = .ok (.iinc 3 1, 3) := by decide +kernel
theorem dX9_digest_77 : decode cX9_digest 77 = .ok (.goto (-18), 3) := by decide +kernel
theorem dX9_digest_80 : decode cX9_digest 80 = .ok (.iconst 0, 1) := by decide +kernel
theorem dX9_digest_81 : decode cX9_digest 81 = .ok (.istore_n 3, 1) := by decide +kernel
theorem dX9_digest_82 : decode cX9_digest 82 = .ok (.iload_n 3, 1) := by decide +kernel
theorem dX9_digest_83 : decode cX9_digest 83 = .ok (.aload_n 0, 1) := by decide +kernel
theorem dX9_digest_84 : decode cX9_digest 84 = .ok (.getfield 120, 3) := by decide +kernel
theorem dX9_digest_87 : decode cX9_digest 87 = .ok (.if_icmp .ge 50, 3) := by decide +kernel
theorem dX9_digest_90 : decode cX9_digest 90 = .ok (.ldc2_w 319, 3) := by decide +kernel
theorem dX9_digest_93 : decode cX9_digest 93 = .ok (.lload_n 1, 1) := by decide +kernel
theorem dX9_digest_94 : decode cX9_digest 94 = .ok (.lmul, 1) := by decide +kernel
theorem dX9_digest_95 : decode cX9_digest 95 = .ok (.aload_n 0, 1) := by decide +kernel
theorem dX9_digest_96 : decode cX9_digest 96 = .ok (.getfield 25, 3) := by decide +kernel
theorem dX9_digest_99 : decode cX9_digest 99 = .ok (.iload_n 3, 1) := by decide +kernel
theorem dX9_digest_100 : decode cX9_digest 100 = .ok (.iaload, 1) := by decide +kernel
theorem dX9_digest_101 : decode cX9_digest 101 = .ok (.i2l, 1) := by decide +kernel
theorem dX9_digest_102 : decode cX9_digest 102 = .ok (.ladd, 1) := by decide +kernel
theorem dX9_digest_103 : decode cX9_digest 103 = .ok (.lstore_n 1, 1) := by decide +kernel
theorem dX9_digest_104 : decode cX9_digest 104 = .ok (.ldc2_w 319, 3) := by decide +kernel
theorem dX9_digest_107 : decode cX9_digest 107 = .ok (.lload_n 1, 1) := by decide +kernel
theorem dX9_digest_108 : decode cX9_digest 108 = .ok (.lmul, 1) := by decide +kernel
theorem dX9_digest_109 : decode cX9_digest 109 = .ok (.aload_n 0, 1) := by decide +kernel
theorem dX9_digest_110 : decode cX9_digest 110 = .ok (.getfield 28, 3) := by decide +kernel
theorem dX9_digest_113 : decode cX9_digest 113 = .ok (.iload_n 3, 1) := by decide +kernel
theorem dX9_digest_114 : decode cX9_digest 114 = .ok (.iaload, 1) := by decide +kernel
theorem dX9_digest_115 : decode cX9_digest 115 = .ok (.i2l, 1) := by decide +kernel
theorem dX9_digest_116 : decode cX9_digest 116 = .ok (.ladd, 1) := by decide +kernel
theorem dX9_digest_117 : decode cX9_digest 117 = .ok (.lstore_n 1, 1) := by decide +kernel
theorem dX9_digest_118 : decode cX9_digest 118 = .ok (.ldc2_w 319, 3) := by decide +kernel
theorem dX9_digest_121 : decode cX9_digest 121 = .ok (.lload_n 1, 1) := by decide +kernel
theorem dX9_digest_122 : decode cX9_digest 122 = .ok (.lmul, 1) := by decide +kernel
theorem dX9_digest_123 : decode cX9_digest 123 = .ok (.aload_n 0, 1) := by decide +kernel
theorem dX9_digest_124 : decode cX9_digest 124 = .ok (.iload_n 3, 1) := by decide +kernel
theorem dX9_digest_125 : decode cX9_digest 125 = .ok (.invokevirtual 283, 3) := by decide +kernel
theorem dX9_digest_128 : decode cX9_digest 128 = .ok (.i2l, 1) := by decide +kernel
theorem dX9_digest_129 : decode cX9_digest 129 = .ok (.ladd, 1) := by decide +kernel
theorem dX9_digest_130 : decode cX9_digest 130 = .ok (.lstore_n 1, 1) := by decide +kernel
theorem dX9_digest_131 : decode cX9_digest 131 = .ok (.iinc 3 1, 3) := by decide +kernel
theorem dX9_digest_134 : decode cX9_digest 134 = .ok (.goto (-52), 3) := by decide +kernel
theorem dX9_digest_137 : decode cX9_digest 137 = .ok (.iconst 0, 1) := by decide +kernel
theorem dX9_digest_138 : decode cX9_digest 138 = .ok (.istore_n 3, 1) := by decide +kernel
theorem dX9_digest_139 : decode cX9_digest 139 = .ok (.iload_n 3, 1) := by decide +kernel
theorem dX9_digest_140 : decode cX9_digest 140 = .ok (.aload_n 0, 1) := by decide +kernel
theorem dX9_digest_141 : decode cX9_digest 141 = .ok (.getfield 127, 3) := by decide +kernel
theorem dX9_digest_144 : decode cX9_digest 144 = .ok (.if_icmp .ge 23, 3) := by decide +kernel
theorem dX9_digest_147 : decode cX9_digest 147 = .ok (.ldc2_w 319, 3) := by decide +kernel
theorem dX9_digest_150 : decode cX9_digest 150 = .ok (.lload_n 1, 1) := by decide +kernel
theorem dX9_digest_151 : decode cX9_digest 151 = .ok (.lmul, 1) := by decide +kernel
theorem dX9_digest_152 : decode cX9_digest 152 = .ok (.aload_n 0, 1) := by decide +kernel
theorem dX9_digest_153 : decode cX9_digest 153 = .ok (.getfield 31, 3) := by decide +kernel
theorem dX9_digest_156 : decode cX9_digest 156 = .ok (.iload_n 3, 1) := by decide +kernel
theorem dX9_digest_157 : decode cX9_digest 157 = .ok (.iaload, 1) := by decide +kernel
theorem dX9_digest_158 : decode cX9_digest 158 = .ok (.i2l, 1) := by decide +kernel
theorem dX9_digest_159 : decode cX9_digest 159 = .ok (.ladd, 1) := by decide +kernel
theorem dX9_digest_160 : decode cX9_digest 160 = .ok (.lstore_n 1, 1) := by decide +kernel
theorem dX9_digest_161 : decode cX9_digest 161 = .ok (.iinc 3 1, 3) := by decide +kernel
theorem dX9_digest_164 : decode cX9_digest 164 = .ok (.goto (-25), 3) := by decide +kernel
theorem dX9_digest_167 : decode cX9_digest 167 = .ok (.aload_n 0, 1) := by decide +kernel
theorem dX9_digest_168 : decode cX9_digest 168 = .ok (.lload_n 1, 1) := by decide +kernel
theorem dX9_digest_169 : decode cX9_digest 169 = .ok (.iconst 0, 1) := by decide +kernel
theorem dX9_digest_170 : decode cX9_digest 170 = .ok (.invokevirtual 330, 3) := by decide +kernel
theorem dX9_digest_173 : decode cX9_digest 173 = .ok (.lstore_n 1, 1) := by decide +kernel
theorem dX9_digest_174 : decode cX9_digest 174 = .ok (.aload_n 0, 1) := by decide +kernel
theorem dX9_digest_175 : decode cX9_digest 175 = .ok (.lload_n 1, 1) := by decide +kernel
theorem dX9_digest_176 : decode cX9_digest 176 = .ok (.bipush 9, 2) := by decide +kernel
theorem dX9_digest_178 : decode cX9_digest 178 = .ok (.invokevirtual 330, 3) := by decide +kernel
theorem dX9_digest_181 : decode cX9_digest 181 = .ok (.lstore_n 1, 1) := by decide +kernel
theorem dX9_digest_182 : decode cX9_digest 182 = .ok (.aload_n 0, 1) := by decide +kernel
theorem dX9_digest_183 : decode cX9_digest 183 = .ok (.lload_n 1, 1) := by decide +kernel
theorem dX9_digest_184 : decode cX9_digest 184 = .ok (.bipush 20, 2) := by decide +kernel
theorem dX9_digest_186 : decode cX9_digest 186 = .ok (.invokevirtual 330, 3) := by decide +kernel
theorem dX9_digest_189 : decode cX9_digest 189 = .ok (.lstore_n 1, 1) := by decide +kernel
theorem dX9_digest_190 : decode cX9_digest 190 = .ok (.aload_n 0, 1) := by decide +kernel
theorem dX9_digest_191 : decode cX9_digest 191 = .ok (.lload_n 1, 1) := by decide +kernel
theorem dX9_digest_192 : decode cX9_digest 192 = .ok (.bipush 60, 2) := by decide +kernel
theorem dX9_digest_194 : decode cX9_digest 194 = .ok (.invokevirtual 330, 3) := by decide +kernel
theorem dX9_digest_197 : decode cX9_digest 197 = .ok (.lstore_n 1, 1) := by decide +kernel
theorem dX9_digest_198 : decode cX9_digest 198 = .ok (.ldc2_w 319, 3) := by decide +kernel
theorem dX9_digest_201 : decode cX9_digest 201 = .ok (.lload_n 1, 1) := by decide +kernel
theorem dX9_digest_202 : decode cX9_digest 202 = .ok (.lmul, 1) := by decide +kernel
theorem dX9_digest_203 : decode cX9_digest 203 = .ok (.aload_n 0, 1) := by decide +kernel
theorem dX9_digest_204 : decode cX9_digest 204 = .ok (.invokevirtual 227, 3) := by decide +kernel
theorem dX9_digest_207 : decode cX9_digest 207 = .ok (.i2l, 1) := by decide +kernel
theorem dX9_digest_208 : decode cX9_digest 208 = .ok (.ladd, 1) := by decide +kernel
theorem dX9_digest_209 : decode cX9_digest 209 = .ok (.lstore_n 1, 1) := by decide +kernel
theorem dX9_digest_210 : decode cX9_digest 210 = .ok (.ldc2_w 319, 3) := by decide +kernel
theorem dX9_digest_213 : decode cX9_digest 213 = .ok (.lload_n 1, 1) := by decide +kernel
theorem dX9_digest_214 : decode cX9_digest 214 = .ok (.lmul, 1) := by decide +kernel
theorem dX9_digest_215 : decode cX9_digest 215 = .ok (.aload_n 0, 1) := by decide +kernel
theorem dX9_digest_216 : decode cX9_digest 216 = .ok (.iconst 0, 1) := by decide +kernel
theorem dX9_digest_217 : decode cX9_digest 217 = .ok (.invokevirtual 233, 3) := by decide +kernel
theorem dX9_digest_220 : decode cX9_digest 220 = .ok (.i2l, 1) := by decide +kernel
theorem dX9_digest_221 : decode cX9_digest 221 = .ok (.ladd, 1) := by decide +kernel
theorem dX9_digest_222 : decode cX9_digest 222 = .ok (.lstore_n 1, 1) := by decide +kernel
theorem dX9_digest_223 : decode cX9_digest 223 = .ok (.ldc2_w 319, 3) := by decide +kernel
theorem dX9_digest_226 : decode cX9_digest 226 = .ok (.lload_n 1, 1) := by decide +kernel
theorem dX9_digest_227 : decode cX9_digest 227 = .ok (.lmul, 1) := by decide +kernel
theorem dX9_digest_228 : decode cX9_digest 228 = .ok (.aload_n 0, 1) := by decide +kernel
theorem dX9_digest_229 : decode cX9_digest 229 = .ok (.iconst 1, 1) := by decide +kernel
theorem dX9_digest_230 : decode cX9_digest 230 = .ok (.invokevirtual 233, 3) := by decide +kernel
theorem dX9_digest_233 : decode cX9_digest 233 = .ok (.i2l, 1) := by decide +kernel
theorem dX9_digest_234 : decode cX9_digest 234 = .ok (.ladd, 1) := by decide +kernel
theorem dX9_digest_235 : decode cX9_digest 235 = .ok (.lstore_n 1, 1) := by decide +kernel
theorem dX9_digest_236 : decode cX9_digest 236 = .ok (.aload_n 0, 1) := by decide +kernel
theorem dX9_digest_237 : decode cX9_digest 237 = .ok (.invokevirtual 248, 3) := by decide +kernel
theorem dX9_digest_240 : decode cX9_digest 240 = .ok (.istore_n 3, 1) := by decide +kernel
theorem dX9_digest_241 : decode cX9_digest 241 = .ok (.ldc2_w 319, 3) := by decide +kernel
theorem dX9_digest_244 : decode cX9_digest 244 = .ok (.lload_n 1, 1) := by decide +kernel
theorem dX9_digest_245 : decode cX9_digest 245 = .ok (.lmul, 1) := by decide +kernel
theorem dX9_digest_246 : decode cX9_digest 246 = .ok (.iload_n 3, 1) := by decide +kernel
theorem dX9_digest_247 : decode cX9_digest 247 = .ok (.i2l, 1) := by decide +kernel
theorem dX9_digest_248 : decode cX9_digest 248 = .ok (.ladd, 1) := by decide +kernel
theorem dX9_digest_249 : decode cX9_digest 249 = .ok (.lstore_n 1, 1) := by decide +kernel
theorem dX9_digest_250 : decode cX9_digest 250 = .ok (.ldc2_w 319, 3) := by decide +kernel
theorem dX9_digest_253 : decode cX9_digest 253 = .ok (.lload_n 1, 1) := by decide +kernel
theorem dX9_digest_254 : decode cX9_digest 254 = .ok (.lmul, 1) := by decide +kernel
theorem dX9_digest_255 : decode cX9_digest 255 = .ok (.aload_n 0, 1) := by decide +kernel
theorem dX9_digest_256 : decode cX9_digest 256 = .ok (.iload_n 3, 1) := by decide +kernel
theorem dX9_digest_257 : decode cX9_digest 257 = .ok (.iconst 0, 1) := by decide +kernel
theorem dX9_digest_258 : decode cX9_digest 258 = .ok (.invokevirtual 251, 3) := by decide +kernel
theorem dX9_digest_261 : decode cX9_digest 261 = .ok (.i2l, 1) := by decide +kernel
theorem dX9_digest_262 : decode cX9_digest 262 = .ok (.ladd, 1) := by decide +kernel
theorem dX9_digest_263 : decode cX9_digest 263 = .ok (.lstore_n 1, 1) := by decide +kernel
theorem dX9_digest_264 : decode cX9_digest 264 = .ok (.ldc2_w 319, 3) := by decide +kernel
theorem dX9_digest_267 : decode cX9_digest 267 = .ok (.lload_n 1, 1) := by decide +kernel
theorem dX9_digest_268 : decode cX9_digest 268 = .ok (.lmul, 1) := by decide +kernel
theorem dX9_digest_269 : decode cX9_digest 269 = .ok (.aload_n 0, 1) := by decide +kernel
theorem dX9_digest_270 : decode cX9_digest 270 = .ok (.invokevirtual 280, 3) := by decide +kernel
theorem dX9_digest_273 : decode cX9_digest 273 = .ok (.i2l, 1) := by decide +kernel
theorem dX9_digest_274 : decode cX9_digest 274 = .ok (.ladd, 1) := by decide +kernel
theorem dX9_digest_275 : decode cX9_digest 275 = .ok (.lstore_n 1, 1) := by decide +kernel
theorem dX9_digest_276 : decode cX9_digest 276 = .ok (.ldc2_w 319, 3) := by decide +kernel
theorem dX9_digest_279 : decode cX9_digest 279 = .ok (.lload_n 1, 1) := by decide +kernel
theorem dX9_digest_280 : decode cX9_digest 280 = .ok (.lmul, 1) := by decide +kernel
theorem dX9_digest_281 : decode cX9_digest 281 = .ok (.aload_n 0, 1) := by decide +kernel
theorem dX9_digest_282 : decode cX9_digest 282 = .ok (.invokevirtual 286, 3) := by decide +kernel
theorem dX9_digest_285 : decode cX9_digest 285 = .ok (.i2l, 1) := by decide +kernel
theorem dX9_digest_286 : decode cX9_digest 286 = .ok (.ladd, 1) := by decide +kernel
theorem dX9_digest_287 : decode cX9_digest 287 = .ok (.lstore_n 1, 1) := by decide +kernel
theorem dX9_digest_288 : decode cX9_digest 288 = .ok (.ldc2_w 319, 3) := by decide +kernel
theorem dX9_digest_291 : decode cX9_digest 291 = .ok (.lload_n 1, 1) := by decide +kernel
theorem dX9_digest_292 : decode cX9_digest 292 = .ok (.lmul, 1) := by decide +kernel
theorem dX9_digest_293 : decode cX9_digest 293 = .ok (.aload_n 0, 1) := by decide +kernel
theorem dX9_digest_294 : decode cX9_digest 294 = .ok (.iconst 0, 1) := by decide +kernel
theorem dX9_digest_295 : decode cX9_digest 295 = .ok (.iconst 0, 1) := by decide +kernel
theorem dX9_digest_296 : decode cX9_digest 296 = .ok (.iconst (-1), 1) := by decide +kernel
theorem dX9_digest_297 : decode cX9_digest 297 = .ok (.invokevirtual 333, 3) := by decide +kernel
theorem dX9_digest_300 : decode cX9_digest 300 = .ok (.i2l, 1) := by decide +kernel
theorem dX9_digest_301 : decode cX9_digest 301 = .ok (.ladd, 1) := by decide +kernel
theorem dX9_digest_302 : decode cX9_digest 302 = .ok (.lstore_n 1, 1) := by decide +kernel
theorem dX9_digest_303 : decode cX9_digest 303 = .ok (.ldc2_w 319, 3) := by decide +kernel
theorem dX9_digest_306 : decode cX9_digest 306 = .ok (.lload_n 1, 1) := by decide +kernel
theorem dX9_digest_307 : decode cX9_digest 307 = .ok (.lmul, 1) := by decide +kernel
theorem dX9_digest_308 : decode cX9_digest 308 = .ok (.aload_n 0, 1) := by decide +kernel
theorem dX9_digest_309 : decode cX9_digest 309 = .ok (.iconst 0, 1) := by decide +kernel
theorem dX9_digest_310 : decode cX9_digest 310 = .ok (.iconst 0, 1) := by decide +kernel
theorem dX9_digest_311 : decode cX9_digest 311 = .ok (.iconst 0, 1) := by decide +kernel
theorem dX9_digest_312 : decode cX9_digest 312 = .ok (.invokevirtual 333, 3) := by decide +kernel
theorem dX9_digest_315 : decode cX9_digest 315 = .ok (.i2l, 1) := by decide +kernel
theorem dX9_digest_316 : decode cX9_digest 316 = .ok (.ladd, 1) := by decide +kernel
theorem dX9_digest_317 : decode cX9_digest 317 = .ok (.lstore_n 1, 1) := by decide +kernel
theorem dX9_digest_318 : decode cX9_digest 318 = .ok (.ldc2_w 319, 3) := by decide +kernel
theorem dX9_digest_321 : decode cX9_digest 321 = .ok (.lload_n 1, 1) := by decide +kernel
theorem dX9_digest_322 : decode cX9_digest 322 = .ok (.lmul, 1) := by decide +kernel
theorem dX9_digest_323 : decode cX9_digest 323 = .ok (.aload_n 0, 1) := by decide +kernel
theorem dX9_digest_324 : decode cX9_digest 324 = .ok (.iconst 5, 1) := by decide +kernel
theorem dX9_digest_325 : decode cX9_digest 325 = .ok (.iconst 0, 1) := by decide +kernel
theorem dX9_digest_326 : decode cX9_digest 326 = .ok (.bipush 20, 2) := by decide +kernel
theorem dX9_digest_328 : decode cX9_digest 328 = .ok (.iconst 0, 1) := by decide +kernel
theorem dX9_digest_329 : decode cX9_digest 329 = .ok (.invokevirtual 336, 3) := by decide +kernel
theorem dX9_digest_332 : decode cX9_digest 332 = .ok (.ladd, 1) := by decide +kernel
theorem dX9_digest_333 : decode cX9_digest 333 = .ok (.lstore_n 1, 1) := by decide +kernel
theorem dX9_digest_334 : decode cX9_digest 334 = .ok (.ldc2_w 319, 3) := by decide +kernel
theorem dX9_digest_337 : decode cX9_digest 337 = .ok (.lload_n 1, 1) := by decide +kernel
theorem dX9_digest_338 : decode cX9_digest 338 = .ok (.lmul, 1) := by decide +kernel
theorem dX9_digest_339 : decode cX9_digest 339 = .ok (.aload_n 0, 1) := by decide +kernel
theorem dX9_digest_340 : decode cX9_digest 340 = .ok (.iconst 5, 1) := by decide +kernel
theorem dX9_digest_341 : decode cX9_digest 341 = .ok (.iconst 0, 1) := by decide +kernel
theorem dX9_digest_342 : decode cX9_digest 342 = .ok (.bipush 20, 2) := by decide +kernel
theorem dX9_digest_344 : decode cX9_digest 344 = .ok (.iconst 1, 1) := by decide +kernel
theorem dX9_digest_345 : decode cX9_digest 345 = .ok (.invokevirtual 336, 3) := by decide +kernel
theorem dX9_digest_348 : decode cX9_digest 348 = .ok (.ladd, 1) := by decide +kernel
theorem dX9_digest_349 : decode cX9_digest 349 = .ok (.lstore_n 1, 1) := by decide +kernel
theorem dX9_digest_350 : decode cX9_digest 350 = .ok (.ldc2_w 319, 3) := by decide +kernel
theorem dX9_digest_353 : decode cX9_digest 353 = .ok (.lload_n 1, 1) := by decide +kernel
theorem dX9_digest_354 : decode cX9_digest 354 = .ok (.lmul, 1) := by decide +kernel
theorem dX9_digest_355 : decode cX9_digest 355 = .ok (.aload_n 0, 1) := by decide +kernel
theorem dX9_digest_356 : decode cX9_digest 356 = .ok (.bipush 7, 2) := by decide +kernel
theorem dX9_digest_358 : decode cX9_digest 358 = .ok (.bipush 12, 2) := by decide +kernel
theorem dX9_digest_360 : decode cX9_digest 360 = .ok (.iconst 0, 1) := by decide +kernel
theorem dX9_digest_361 : decode cX9_digest 361 = .ok (.invokevirtual 302, 3) := by decide +kernel
theorem dX9_digest_364 : decode cX9_digest 364 = .ok (.i2l, 1) := by decide +kernel
theorem dX9_digest_365 : decode cX9_digest 365 = .ok (.ladd, 1) := by decide +kernel
theorem dX9_digest_366 : decode cX9_digest 366 = .ok (.lstore_n 1, 1) := by decide +kernel
theorem dX9_digest_367 : decode cX9_digest 367 = .ok (.ldc2_w 319, 3) := by decide +kernel
theorem dX9_digest_370 : decode cX9_digest 370 = .ok (.lload_n 1, 1) := by decide +kernel
theorem dX9_digest_371 : decode cX9_digest 371 = .ok (.lmul, 1) := by decide +kernel
theorem dX9_digest_372 : decode cX9_digest 372 = .ok (.aload_n 0, 1) := by decide +kernel
theorem dX9_digest_373 : decode cX9_digest 373 = .ok (.bipush 7, 2) := by decide +kernel
theorem dX9_digest_375 : decode cX9_digest 375 = .ok (.bipush 12, 2) := by decide +kernel
theorem dX9_digest_377 : decode cX9_digest 377 = .ok (.iconst 1, 1) := by decide +kernel
theorem dX9_digest_378 : decode cX9_digest 378 = .ok (.invokevirtual 302, 3) := by decide +kernel
theorem dX9_digest_381 : decode cX9_digest 381 = .ok (.i2l, 1) := by decide +kernel
theorem dX9_digest_382 : decode cX9_digest 382 = .ok (.ladd, 1) := by decide +kernel
theorem dX9_digest_383 : decode cX9_digest 383 = .ok (.lreturn, 1) := by decide +kernel
theorem dJ6_bitCount_0f7a4_0 : decode cJ6_bitCount_0f7a4 0 = .ok (.iload_n 0, 1) := by decide +kernel
theorem dJ6_bitCount_0f7a4_1 : decode cJ6_bitCount_0f7a4 1 = .ok (.iload_n 0, 1) := by decide +kernel
theorem dJ6_bitCount_0f7a4_2 : decode cJ6_bitCount_0f7a4 2 = .ok (.iconst 1, 1) := by decide +kernel
theorem dJ6_bitCount_0f7a4_3 : decode cJ6_bitCount_0f7a4 3 = .ok (.iushr, 1) := by decide +kernel
theorem dJ6_bitCount_0f7a4_4 : decode cJ6_bitCount_0f7a4 4 = .ok (.ldc_w 265, 3) := by decide +kernel
theorem dJ6_bitCount_0f7a4_7 : decode cJ6_bitCount_0f7a4 7 = .ok (.iand, 1) := by decide +kernel
theorem dJ6_bitCount_0f7a4_8 : decode cJ6_bitCount_0f7a4 8 = .ok (.isub, 1) := by decide +kernel
theorem dJ6_bitCount_0f7a4_9 : decode cJ6_bitCount_0f7a4 9 = .ok (.istore_n 0, 1) := by decide +kernel
theorem dJ6_bitCount_0f7a4_10 : decode cJ6_bitCount_0f7a4 10 = .ok (.iload_n 0, 1) := by decide +kernel
theorem dJ6_bitCount_0f7a4_11 : decode cJ6_bitCount_0f7a4 11 = .ok (.ldc_w 266, 3) := by decide +kernel
theorem dJ6_bitCount_0f7a4_14 : decode cJ6_bitCount_0f7a4 14 = .ok (.iand, 1) := by decide +kernel
theorem dJ6_bitCount_0f7a4_15 : decode cJ6_bitCount_0f7a4 15 = .ok (.iload_n 0, 1) := by decide +kernel
theorem dJ6_bitCount_0f7a4_16 : decode cJ6_bitCount_0f7a4 16 = .ok (.iconst 2, 1) := by decide +kernel
theorem dJ6_bitCount_0f7a4_17 : decode cJ6_bitCount_0f7a4 17 = .ok (.iushr, 1) := by decide +kernel
theorem dJ6_bitCount_0f7a4_18 : decode cJ6_bitCount_0f7a4 18 = .ok (.ldc_w 266, 3) := by decide +kernel
theorem dJ6_bitCount_0f7a4_21 : decode cJ6_bitCount_0f7a4 21 = .ok (.iand, 1) := by decide +kernel
theorem dJ6_bitCount_0f7a4_22 : decode cJ6_bitCount_0f7a4 22 = .ok (.iadd, 1) := by decide +kernel
theorem dJ6_bitCount_0f7a4_23 : decode cJ6_bitCount_0f7a4 23 = .ok (.istore_n 0, 1) := by decide +kernel
theorem dJ6_bitCount_0f7a4_24 : decode cJ6_bitCount_0f7a4 24 = .ok (.iload_n 0, 1) := by decide +kernel
theorem dJ6_bitCount_0f7a4_25 : decode cJ6_bitCount_0f7a4 25 = .ok (.iload_n 0, 1) := by decide +kernel
theorem dJ6_bitCount_0f7a4_26 : decode cJ6_bitCount_0f7a4 26 = .ok (.iconst 4, 1) := by decide +kernel
theorem dJ6_bitCount_0f7a4_27 : decode cJ6_bitCount_0f7a4 27 = .ok (.iushr, 1) := by decide +kernel
theorem dJ6_bitCount_0f7a4_28 : decode cJ6_bitCount_0f7a4 28 = .ok (.iadd, 1) := by decide +kernel
theorem dJ6_bitCount_0f7a4_29 : decode cJ6_bitCount_0f7a4 29 = .ok (.ldc_w 267, 3) := by decide +kernel
theorem dJ6_bitCount_0f7a4_32 : decode cJ6_bitCount_0f7a4 32 = .ok (.iand, 1) := by decide +kernel
theorem dJ6_bitCount_0f7a4_33 : decode cJ6_bitCount_0f7a4 33 = .ok (.istore_n 0, 1) := by decide +kernel
theorem dJ6_bitCount_0f7a4_34 : decode cJ6_bitCount_0f7a4 34 = .ok (.iload_n 0, 1) := by decide +kernel
theorem dJ6_bitCount_0f7a4_35 : decode cJ6_bitCount_0f7a4 35 = .ok (.iload_n 0, 1) := by decide +kernel
theorem dJ6_bitCount_0f7a4_36 : decode cJ6_bitCount_0f7a4 36 = .ok (.bipush 8, 2) := by decide +kernel
theorem dJ6_bitCount_0f7a4_38 : decode cJ6_bitCount_0f7a4 38 = .ok (.iushr, 1) := by decide +kernel
theorem dJ6_bitCount_0f7a4_39 : decode cJ6_bitCount_0f7a4 39 = .ok (.iadd, 1) := by decide +kernel
theorem dJ6_bitCount_0f7a4_40 : decode cJ6_bitCount_0f7a4 40 = .ok (.istore_n 0, 1) := by decide +kernel
theorem dJ6_bitCount_0f7a4_41 : decode cJ6_bitCount_0f7a4 41 = .ok (.iload_n 0, 1) := by decide +kernel
theorem dJ6_bitCount_0f7a4_42 : decode cJ6_bitCount_0f7a4 42 = .ok (.iload_n 0, 1) := by decide +kernel
theorem dJ6_bitCount_0f7a4_43 : decode cJ6_bitCount_0f7a4 43 = .ok (.bipush 16, 2) := by decide +kernel
theorem dJ6_bitCount_0f7a4_45 : decode cJ6_bitCount_0f7a4 45 = .ok (.iushr, 1) := by decide +kernel
theorem dJ6_bitCount_0f7a4_46 : decode cJ6_bitCount_0f7a4 46 = .ok (.iadd, 1) := by decide +kernel
theorem dJ6_bitCount_0f7a4_47 : decode cJ6_bitCount_0f7a4 47 = .ok (.istore_n 0, 1) := by decide +kernel
theorem dJ6_bitCount_0f7a4_48 : decode cJ6_bitCount_0f7a4 48 = .ok (.iload_n 0, 1) := by decide +kernel
theorem dJ6_bitCount_0f7a4_49 : decode cJ6_bitCount_0f7a4 49 = .ok (.bipush 63, 2) := by decide +kernel
theorem dJ6_bitCount_0f7a4_51 : decode cJ6_bitCount_0f7a4 51 = .ok (.iand, 1) := by decide +kernel
theorem dJ6_bitCount_0f7a4_52 : decode cJ6_bitCount_0f7a4 52 = .ok (.ireturn, 1) := by decide +kernel
theorem dJ9_abs_0f7a4_0 : decode cJ9_abs_0f7a4 0 = .ok (.iload_n 0, 1) := by decide +kernel
theorem dJ9_abs_0f7a4_1 : decode cJ9_abs_0f7a4 1 = .ok (.ifCond .ge 8, 3) := by decide +kernel
theorem dJ9_abs_0f7a4_4 : decode cJ9_abs_0f7a4 4 = .ok (.iload_n 0, 1) := by decide +kernel
theorem dJ9_abs_0f7a4_5 : decode cJ9_abs_0f7a4 5 = .ok (.ineg, 1) := by decide +kernel
theorem dJ9_abs_0f7a4_6 : decode cJ9_abs_0f7a4 6 = .ok (.goto 4, 3) := by decide +kernel
theorem dJ9_abs_0f7a4_9 : decode cJ9_abs_0f7a4 9 = .ok (.iload_n 0, 1) := by decide +kernel
theorem dJ9_abs_0f7a4_10 : decode cJ9_abs_0f7a4 10 = .ok (.ireturn, 1) := by decide +kernel
theorem dJ9_max_7cf53_0 : decode cJ9_max_7cf53 0 = .ok (.iload_n 0, 1) := by decide +kernel
theorem dJ9_max_7cf53_1 : decode cJ9_max_7cf53 1 = .ok (.iload_n 1, 1) := by decide +kernel
theorem dJ9_max_7cf53_2 : decode cJ9_max_7cf53 2 = .ok (.if_icmp .lt 7, 3) := by decide +kernel
theorem dJ9_max_7cf53_5 : decode cJ9_max_7cf53 5 = .ok (.iload_n 0, 1) := by decide +kernel
theorem dJ9_max_7cf53_6 : decode cJ9_max_7cf53 6 = .ok (.goto 4, 3) := by decide +kernel
theorem dJ9_max_7cf53_9 : decode cJ9_max_7cf53 9 = .ok (.iload_n 1, 1) := by decide +kernel
theorem dJ9_max_7cf53_10 : decode cJ9_max_7cf53 10 = .ok (.ireturn, 1) := by decide +kernel
theorem dJ9_min_7cf53_0 : decode cJ9_min_7cf53 0 = .ok (.iload_n 0, 1) := by decide +kernel
theorem dJ9_min_7cf53_1 : decode cJ9_min_7cf53 1 = .ok (.iload_n 1, 1) := by decide +kernel
theorem dJ9_min_7cf53_2 : decode cJ9_min_7cf53 2 = .ok (.if_icmp .gt 7, 3) := by decide +kernel
theorem dJ9_min_7cf53_5 : decode cJ9_min_7cf53 5 = .ok (.iload_n 0, 1) := by decide +kernel
theorem dJ9_min_7cf53_6 : decode cJ9_min_7cf53 6 = .ok (.goto 4, 3) := by decide +kernel
theorem dJ9_min_7cf53_9 : decode cJ9_min_7cf53 9 = .ok (.iload_n 1, 1) := by decide +kernel
theorem dJ9_min_7cf53_10 : decode cJ9_min_7cf53 10 = .ok (.ireturn, 1) := by decide +kernel
theorem dJ7_fill_53178_0 : decode cJ7_fill_53178 0 = .ok (.iconst 0, 1) := by decide +kernel
theorem dJ7_fill_53178_1 : decode cJ7_fill_53178 1 = .ok (.istore_n 2, 1) := by decide +kernel
theorem dJ7_fill_53178_2 : decode cJ7_fill_53178 2 = .ok (.aload_n 0, 1) := by decide +kernel
theorem dJ7_fill_53178_3 : decode cJ7_fill_53178 3 = .ok (.arraylength, 1) := by decide +kernel
theorem dJ7_fill_53178_4 : decode cJ7_fill_53178 4 = .ok (.istore_n 3, 1) := by decide +kernel
theorem dJ7_fill_53178_5 : decode cJ7_fill_53178 5 = .ok (.iload_n 2, 1) := by decide +kernel
theorem dJ7_fill_53178_6 : decode cJ7_fill_53178 6 = .ok (.iload_n 3, 1) := by decide +kernel
theorem dJ7_fill_53178_7 : decode cJ7_fill_53178 7 = .ok (.if_icmp .ge 13, 3) := by decide +kernel
theorem dJ7_fill_53178_10 : decode cJ7_fill_53178 10 = .ok (.aload_n 0, 1) := by decide +kernel
theorem dJ7_fill_53178_11 : decode cJ7_fill_53178 11 = .ok (.iload_n 2, 1) := by decide +kernel
theorem dJ7_fill_53178_12 : decode cJ7_fill_53178 12 = .ok (.iload_n 1, 1) := by decide +kernel
theorem dJ7_fill_53178_13 : decode cJ7_fill_53178 13 = .ok (.iastore, 1) := by decide +kernel
theorem dJ7_fill_53178_14 : decode cJ7_fill_53178 14 = .ok (.iinc 2 1, 3) := by decide +kernel
theorem dJ7_fill_53178_17 : decode cJ7_fill_53178 17 = .ok (.goto (-12), 3) := by decide +kernel
theorem dJ7_fill_53178_20 : decode cJ7_fill_53178 20 = .ok (.return_, 1) := by decide +kernel
theorem dL_law_0 : decode cL_law 0 = .ok (.new 7, 3) := by decide +kernel
theorem dL_law_3 : decode cL_law 3 = .ok (.dup, 1) := by decide +kernel
theorem dL_law_4 : decode cL_law 4 = .ok (.invokespecial 9, 3) := by decide +kernel
theorem dL_law_7 : decode cL_law 7 = .ok (.astore_n 1, 1) := by decide +kernel
theorem dL_law_8 : decode cL_law 8 = .ok (.new 10, 3) := by decide +kernel
theorem dL_law_11 : decode cL_law 11 = .ok (.dup, 1) := by decide +kernel
theorem dL_law_12 : decode cL_law 12 = .ok (.invokespecial 12, 3) := by decide +kernel
theorem dL_law_15 : decode cL_law 15 = .ok (.astore_n 2, 1) := by decide +kernel
theorem dL_law_16 : decode cL_law 16 = .ok (.iconst 0, 1) := by decide +kernel
theorem dL_law_17 : decode cL_law 17 = .ok (.istore_n 3, 1) := by decide +kernel
theorem dL_law_18 : decode cL_law 18 = .ok (.iload_n 3, 1) := by decide +kernel
theorem dL_law_19 : decode cL_law 19 = .ok (.aload_n 0, 1) := by decide +kernel
theorem dL_law_20 : decode cL_law 20 = .ok (.arraylength, 1) := by decide +kernel
theorem dL_law_21 : decode cL_law 21 = .ok (.bipush 6, 2) := by decide +kernel
theorem dL_law_23 : decode cL_law 23 = .ok (.isub, 1) := by decide +kernel
theorem dL_law_24 : decode cL_law 24 = .ok (.if_icmp .gt 1116, 3) := by decide +kernel
theorem dL_law_27 : decode cL_law 27 = .ok (.aload_n 0, 1) := by decide +kernel
theorem dL_law_28 : decode cL_law 28 = .ok (.iload_n 3, 1) := by decide +kernel
theorem dL_law_29 : decode cL_law 29 = .ok (.iaload, 1) := by decide +kernel
theorem dL_law_30 : decode cL_law 30 = .ok (.bipush 31, 2) := by decide +kernel
theorem dL_law_32 : decode cL_law 32 = .ok (.iand, 1) := by decide +kernel
theorem dL_law_33 : decode cL_law 33 = .ok (.tableswitch 1101 0 31 #[143, 176, 199, 222, 245, 278, 311, 334, 367, 400, 413, 446, 469, 492, 525, 548, 591, 624, 637, 660, 673, 696, 709, 763, 806, 849, 872, 925, 968, 1031, 1064, 1087], 143) := by decide +kernel
theorem dL_law_176 : decode cL_law 176 = .ok (.aload_n 1, 1) := by decide +kernel
theorem dL_law_177 : decode cL_law 177 = .ok (.aload_n 0, 1) := by decide +kernel
theorem dL_law_178 : decode cL_law 178 = .ok (.iload_n 3, 1) := by decide +kernel
theorem dL_law_179 : decode cL_law 179 = .ok (.iconst 1, 1) := by decide +kernel
theorem dL_law_180 : decode cL_law 180 = .ok (.iadd, 1) := by decide +kernel
theorem dL_law_181 : decode cL_law 181 = .ok (.iaload, 1) := by decide +kernel
theorem dL_law_182 : decode cL_law 182 = .ok (.aload_n 0, 1) := by decide +kernel
theorem dL_law_183 : decode cL_law 183 = .ok (.iload_n 3, 1) := by decide +kernel
theorem dL_law_184 : decode cL_law 184 = .ok (.iconst 2, 1) := by decide +kernel
theorem dL_law_185 : decode cL_law 185 = .ok (.iadd, 1) := by decide +kernel
theorem dL_law_186 : decode cL_law 186 = .ok (.iaload, 1) := by decide +kernel
theorem dL_law_187 : decode cL_law 187 = .ok (.invokevirtual 13, 3) := by decide +kernel
theorem dL_law_190 : decode cL_law 190 = .ok (.aload_n 2, 1) := by decide +kernel
theorem dL_law_191 : decode cL_law 191 = .ok (.aload_n 0, 1) := by decide +kernel
theorem dL_law_192 : decode cL_law 192 = .ok (.iload_n 3, 1) := by decide +kernel
theorem dL_law_193 : decode cL_law 193 = .ok (.iconst 1, 1) := by decide +kernel
theorem dL_law_194 : decode cL_law 194 = .ok (.iadd, 1) := by decide +kernel
theorem dL_law_195 : decode cL_law 195 = .ok (.iaload, 1) := by decide +kernel
theorem dL_law_196 : decode cL_law 196 = .ok (.aload_n 0, 1) := by decide +kernel
theorem dL_law_197 : decode cL_law 197 = .ok (.iload_n 3, 1) := by decide +kernel
theorem dL_law_198 : decode cL_law 198 = .ok (.iconst 2, 1) := by decide +kernel
theorem dL_law_199 : decode cL_law 199 = .ok (.iadd, 1) := by decide +kernel
theorem dL_law_200 : decode cL_law 200 = .ok (.iaload, 1) := by decide +kernel
theorem dL_law_201 : decode cL_law 201 = .ok (.invokevirtual 17, 3) := by decide +kernel
theorem dL_law_204 : decode cL_law 204 = .ok (.if_icmp .eq 930, 3) := by decide +kernel
theorem dL_law_207 : decode cL_law 207 = .ok (.iconst 0, 1) := by decide +kernel
theorem dL_law_208 : decode cL_law 208 = .ok (.ireturn, 1) := by decide +kernel
theorem dL_law_209 : decode cL_law 209 = .ok (.aload_n 1, 1) := by decide +kernel
theorem dL_law_210 : decode cL_law 210 = .ok (.aload_n 0, 1) := by decide +kernel
theorem dL_law_211 : decode cL_law 211 = .ok (.iload_n 3, 1) := by decide +kernel
theorem dL_law_212 : decode cL_law 212 = .ok (.iconst 1, 1) := by decide +kernel
theorem dL_law_213 : decode cL_law 213 = .ok (.iadd, 1) := by decide +kernel
theorem dL_law_214 : decode cL_law 214 = .ok (.iaload, 1) := by decide +kernel
theorem dL_law_215 : decode cL_law 215 = .ok (.invokevirtual 18, 3) := by decide +kernel
theorem dL_law_218 : decode cL_law 218 = .ok (.aload_n 2, 1) := by decide +kernel
theorem dL_law_219 : decode cL_law 219 = .ok (.aload_n 0, 1) := by decide +kernel
theorem dL_law_220 : decode cL_law 220 = .ok (.iload_n 3, 1) := by decide +kernel
theorem dL_law_221 : decode cL_law 221 = .ok (.iconst 1, 1) := by decide +kernel
theorem dL_law_222 : decode cL_law 222 = .ok (.iadd, 1) := by decide +kernel
theorem dL_law_223 : decode cL_law 223 = .ok (.iaload, 1) := by decide +kernel
theorem dL_law_224 : decode cL_law 224 = .ok (.invokevirtual 22, 3) := by decide +kernel
theorem dL_law_227 : decode cL_law 227 = .ok (.if_icmp .eq 907, 3) := by decide +kernel
theorem dL_law_230 : decode cL_law 230 = .ok (.iconst 0, 1) := by decide +kernel
theorem dL_law_231 : decode cL_law 231 = .ok (.ireturn, 1) := by decide +kernel
theorem dL_law_232 : decode cL_law 232 = .ok (.aload_n 1, 1) := by decide +kernel
theorem dL_law_233 : decode cL_law 233 = .ok (.aload_n 0, 1) := by decide +kernel
theorem dL_law_234 : decode cL_law 234 = .ok (.iload_n 3, 1) := by decide +kernel
theorem dL_law_235 : decode cL_law 235 = .ok (.iconst 1, 1) := by decide +kernel
theorem dL_law_236 : decode cL_law 236 = .ok (.iadd, 1) := by decide +kernel
theorem dL_law_237 : decode cL_law 237 = .ok (.iaload, 1) := by decide +kernel
theorem dL_law_238 : decode cL_law 238 = .ok (.invokevirtual 23, 3) := by decide +kernel
theorem dL_law_241 : decode cL_law 241 = .ok (.aload_n 2, 1) := by decide +kernel
theorem dL_law_242 : decode cL_law 242 = .ok (.aload_n 0, 1) := by decide +kernel
theorem dL_law_243 : decode cL_law 243 = .ok (.iload_n 3, 1) := by decide +kernel
theorem dL_law_244 : decode cL_law 244 = .ok (.iconst 1, 1) := by decide +kernel
theorem dL_law_245 : decode cL_law 245 = .ok (.iadd, 1) := by decide +kernel
theorem dL_law_246 : decode cL_law 246 = .ok (.iaload, 1) := by decide +kernel
theorem dL_law_247 : decode cL_law 247 = .ok (.invokevirtual 26, 3) := by decide +kernel
theorem dL_law_250 : decode cL_law 250 = .ok (.if_icmp .eq 884, 3) := by decide +kernel
theorem dL_law_253 : decode cL_law 253 = .ok (.iconst 0, 1) := by decide +kernel
theorem dL_law_254 : decode cL_law 254 = .ok (.ireturn, 1) := by decide +kernel
theorem dL_law_255 : decode cL_law 255 = .ok (.aload_n 1, 1) := by decide +kernel
theorem dL_law_256 : decode cL_law 256 = .ok (.aload_n 0, 1) := by decide +kernel
theorem dL_law_257 : decode cL_law 257 = .ok (.iload_n 3, 1) := by decide +kernel
theorem dL_law_258 : decode cL_law 258 = .ok (.iconst 1, 1) := by decide +kernel
theorem dL_law_259 : decode cL_law 259 = .ok (.iadd, 1) := by decide +kernel
theorem dL_law_260 : decode cL_law 260 = .ok (.iaload, 1) := by decide +kernel
theorem dL_law_261 : decode cL_law 261 = .ok (.invokevirtual 27, 3) := by decide +kernel
theorem dL_law_264 : decode cL_law 264 = .ok (.aload_n 2, 1) := by decide +kernel
theorem dL_law_265 : decode cL_law 265 = .ok (.aload_n 0, 1) := by decide +kernel
theorem dL_law_266 : decode cL_law 266 = .ok (.iload_n 3, 1) := by decide +kernel
theorem dL_law_267 : decode cL_law 267 = .ok (.iconst 1, 1) := by decide +kernel
theorem dL_law_268 : decode cL_law 268 = .ok (.iadd, 1) := by decide +kernel
theorem dL_law_269 : decode cL_law 269 = .ok (.iaload, 1) := by decide +kernel
theorem dL_law_270 : decode cL_law 270 = .ok (.invokevirtual 30, 3) := by decide +kernel
theorem dL_law_273 : decode cL_law 273 = .ok (.if_icmp .eq 861, 3) := by decide +kernel
theorem dL_law_276 : decode cL_law 276 = .ok (.iconst 0, 1) := by decide +kernel
theorem dL_law_277 : decode cL_law 277 = .ok (.ireturn, 1) := by decide +kernel
theorem dL_law_278 : decode cL_law 278 = .ok (.aload_n 1, 1) := by decide +kernel
theorem dL_law_279 : decode cL_law 279 = .ok (.aload_n 0, 1) := by decide +kernel
theorem dL_law_280 : decode cL_law 280 = .ok (.iload_n 3, 1) := by decide +kernel
theorem dL_law_281 : decode cL_law 281 = .ok (.iconst 1, 1) := by decide +kernel
theorem dL_law_282 : decode cL_law 282 = .ok (.iadd, 1) := by decide +kernel
theorem dL_law_283 : decode cL_law 283 = .ok (.iaload, 1) := by decide +kernel
theorem dL_law_284 : decode cL_law 284 = .ok (.aload_n 0, 1) := by decide +kernel
theorem dL_law_285 : decode cL_law 285 = .ok (.iload_n 3, 1) := by decide +kernel
theorem dL_law_286 : decode cL_law 286 = .ok (.iconst 2, 1) := by decide +kernel
theorem dL_law_287 : decode cL_law 287 = .ok (.iadd, 1) := by decide +kernel
theorem dL_law_288 : decode cL_law 288 = .ok (.iaload, 1) := by decide +kernel
theorem dL_law_289 : decode cL_law 289 = .ok (.invokevirtual 31, 3) := by decide +kernel
theorem dL_law_292 : decode cL_law 292 = .ok (.aload_n 2, 1) := by decide +kernel
theorem dL_law_293 : decode cL_law 293 = .ok (.aload_n 0, 1) := by decide +kernel
theorem dL_law_294 : decode cL_law 294 = .ok (.iload_n 3, 1) := by decide +kernel
theorem dL_law_295 : decode cL_law 295 = .ok (.iconst 1, 1) := by decide +kernel
theorem dL_law_296 : decode cL_law 296 = .ok (.iadd, 1) := by decide +kernel
theorem dL_law_297 : decode cL_law 297 = .ok (.iaload, 1) := by decide +kernel
theorem dL_law_298 : decode cL_law 298 = .ok (.aload_n 0, 1) := by decide +kernel
theorem dL_law_299 : decode cL_law 299 = .ok (.iload_n 3, 1) := by decide +kernel
theorem dL_law_300 : decode cL_law 300 = .ok (.iconst 2, 1) := by decide +kernel
theorem dL_law_301 : decode cL_law 301 = .ok (.iadd, 1) := by decide +kernel
theorem dL_law_302 : decode cL_law 302 = .ok (.iaload, 1) := by decide +kernel
theorem dL_law_303 : decode cL_law 303 = .ok (.invokevirtual 34, 3) := by decide +kernel
theorem dL_law_306 : decode cL_law 306 = .ok (.if_icmp .eq 828, 3) := by decide +kernel
theorem dL_law_309 : decode cL_law 309 = .ok (.iconst 0, 1) := by decide +kernel
theorem dL_law_310 : decode cL_law 310 = .ok (.ireturn, 1) := by decide +kernel
theorem dL_law_311 : decode cL_law 311 = .ok (.aload_n 1, 1) := by decide +kernel
theorem dL_law_312 : decode cL_law 312 = .ok (.aload_n 0, 1) := by decide +kernel
theorem dL_law_313 : decode cL_law 313 = .ok (.iload_n 3, 1) := by decide +kernel
theorem dL_law_314 : decode cL_law 314 = .ok (.iconst 1, 1) := by decide +kernel
theorem dL_law_315 : decode cL_law 315 = .ok (.iadd, 1) := by decide +kernel
theorem dL_law_316 : decode cL_law 316 = .ok (.iaload, 1) := by decide +kernel
theorem dL_law_317 : decode cL_law 317 = .ok (.aload_n 0, 1) := by decide +kernel
theorem dL_law_318 : decode cL_law 318 = .ok (.iload_n 3, 1) := by decide +kernel
theorem dL_law_319 : decode cL_law 319 = .ok (.iconst 2, 1) := by decide +kernel
theorem dL_law_320 : decode cL_law 320 = .ok (.iadd, 1) := by decide +kernel
theorem dL_law_321 : decode cL_law 321 = .ok (.iaload, 1) := by decide +kernel
theorem dL_law_322 : decode cL_law 322 = .ok (.invokevirtual 35, 3) := by decide +kernel
theorem dL_law_325 : decode cL_law 325 = .ok (.aload_n 2, 1) := by decide +kernel
theorem dL_law_326 : decode cL_law 326 = .ok (.aload_n 0, 1) := by decide +kernel
theorem dL_law_327 : decode cL_law 327 = .ok (.iload_n 3, 1) := by decide +kernel
theorem dL_law_328 : decode cL_law 328 = .ok (.iconst 1, 1) := by decide +kernel
theorem dL_law_329 : decode cL_law 329 = .ok (.iadd, 1) := by decide +kernel
theorem dL_law_330 : decode cL_law 330 = .ok (.iaload, 1) := by decide +kernel
theorem dL_law_331 : decode cL_law 331 = .ok (.aload_n 0, 1) := by decide +kernel
theorem dL_law_332 : decode cL_law 332 = .ok (.iload_n 3, 1) := by decide +kernel
theorem dL_law_333 : decode cL_law 333 = .ok (.iconst 2, 1) := by decide +kernel
theorem dL_law_334 : decode cL_law 334 = .ok (.iadd, 1) := by decide +kernel
theorem dL_law_335 : decode cL_law 335 = .ok (.iaload, 1) := by decide +kernel
theorem dL_law_336 : decode cL_law 336 = .ok (.invokevirtual 38, 3) := by decide +kernel
theorem dL_law_339 : decode cL_law 339 = .ok (.if_icmp .eq 795, 3) := by decide +kernel
theorem dL_law_342 : decode cL_law 342 = .ok (.iconst 0, 1) := by decide +kernel
theorem dL_law_343 : decode cL_law 343 = .ok (.ireturn, 1) := by decide +kernel
theorem dL_law_344 : decode cL_law 344 = .ok (.aload_n 1, 1) := by decide +kernel
theorem dL_law_345 : decode cL_law 345 = .ok (.aload_n 0, 1) := by decide +kernel
theorem dL_law_346 : decode cL_law 346 = .ok (.iload_n 3, 1) := by decide +kernel
theorem dL_law_347 : decode cL_law 347 = .ok (.iconst 1, 1) := by decide +kernel
theorem dL_law_348 : decode cL_law 348 = .ok (.iadd, 1) := by decide +kernel
theorem dL_law_349 : decode cL_law 349 = .ok (.iaload, 1) := by decide +kernel
theorem dL_law_350 : decode cL_law 350 = .ok (.invokevirtual 39, 3) := by decide +kernel
theorem dL_law_353 : decode cL_law 353 = .ok (.aload_n 2, 1) := by decide +kernel
theorem dL_law_354 : decode cL_law 354 = .ok (.aload_n 0, 1) := by decide +kernel
theorem dL_law_355 : decode cL_law 355 = .ok (.iload_n 3, 1) := by decide +kernel
theorem dL_law_356 : decode cL_law 356 = .ok (.iconst 1, 1) := by decide +kernel
theorem dL_law_357 : decode cL_law 357 = .ok (.iadd, 1) := by decide +kernel
theorem dL_law_358 : decode cL_law 358 = .ok (.iaload, 1) := by decide +kernel
theorem dL_law_359 : decode cL_law 359 = .ok (.invokevirtual 42, 3) := by decide +kernel
theorem dL_law_362 : decode cL_law 362 = .ok (.if_icmp .eq 772, 3) := by decide +kernel
theorem dL_law_365 : decode cL_law 365 = .ok (.iconst 0, 1) := by decide +kernel
theorem dL_law_366 : decode cL_law 366 = .ok (.ireturn, 1) := by decide +kernel
theorem dL_law_367 : decode cL_law 367 = .ok (.aload_n 1, 1) := by decide +kernel
theorem dL_law_368 : decode cL_law 368 = .ok (.aload_n 0, 1) := by decide +kernel
theorem dL_law_369 : decode cL_law 369 = .ok (.iload_n 3, 1) := by decide +kernel
theorem dL_law_370 : decode cL_law 370 = .ok (.iconst 1, 1) := by decide +kernel
theorem dL_law_371 : decode cL_law 371 = .ok (.iadd, 1) := by decide +kernel
theorem dL_law_372 : decode cL_law 372 = .ok (.iaload, 1) := by decide +kernel
theorem dL_law_373 : decode cL_law 373 = .ok (.aload_n 0, 1) := by decide +kernel
theorem dL_law_374 : decode cL_law 374 = .ok (.iload_n 3, 1) := by decide +kernel
theorem dL_law_375 : decode cL_law 375 = .ok (.iconst 2, 1) := by decide +kernel
theorem dL_law_376 : decode cL_law 376 = .ok (.iadd, 1) := by decide +kernel
theorem dL_law_377 : decode cL_law 377 = .ok (.iaload, 1) := by decide +kernel
theorem dL_law_378 : decode cL_law 378 = .ok (.invokevirtual 43, 3) := by decide +kernel
theorem dL_law_381 : decode cL_law 381 = .ok (.aload_n 2, 1) := by decide +kernel
theorem dL_law_382 : decode cL_law 382 = .ok (.aload_n 0, 1) := by decide +kernel
theorem dL_law_383 : decode cL_law 383 = .ok (.iload_n 3, 1) := by decide +kernel
theorem dL_law_384 : decode cL_law 384 = .ok (.iconst 1, 1) := by decide +kernel
theorem dL_law_385 : decode cL_law 385 = .ok (.iadd, 1) := by decide +kernel
theorem dL_law_386 : decode cL_law 386 = .ok (.iaload, 1) := by decide +kernel
theorem dL_law_387 : decode cL_law 387 = .ok (.aload_n 0, 1) := by decide +kernel
theorem dL_law_388 : decode cL_law 388 = .ok (.iload_n 3, 1) := by decide +kernel
theorem dL_law_389 : decode cL_law 389 = .ok (.iconst 2, 1) := by decide +kernel
theorem dL_law_390 : decode cL_law 390 = .ok (.iadd, 1) := by decide +kernel
theorem dL_law_391 : decode cL_law 391 = .ok (.iaload, 1) := by decide +kernel
theorem dL_law_392 : decode cL_law 392 = .ok (.invokevirtual 46, 3) := by decide +kernel
theorem dL_law_395 : decode cL_law 395 = .ok (.if_icmp .eq 739, 3) := by decide +kernel
theorem dL_law_398 : decode cL_law 398 = .ok (.iconst 0, 1) := by decide +kernel
theorem dL_law_399 : decode cL_law 399 = .ok (.ireturn, 1) := by decide +kernel
theorem dL_law_400 : decode cL_law 400 = .ok (.aload_n 1, 1) := by decide +kernel
theorem dL_law_401 : decode cL_law 401 = .ok (.aload_n 0, 1) := by decide +kernel
theorem dL_law_402 : decode cL_law 402 = .ok (.iload_n 3, 1) := by decide +kernel
theorem dL_law_403 : decode cL_law 403 = .ok (.iconst 1, 1) := by decide +kernel
theorem dL_law_404 : decode cL_law 404 = .ok (.iadd, 1) := by decide +kernel
theorem dL_law_405 : decode cL_law 405 = .ok (.iaload, 1) := by decide +kernel
theorem dL_law_406 : decode cL_law 406 = .ok (.aload_n 0, 1) := by decide +kernel
theorem dL_law_407 : decode cL_law 407 = .ok (.iload_n 3, 1) := by decide +kernel
theorem dL_law_408 : decode cL_law 408 = .ok (.iconst 2, 1) := by decide +kernel
theorem dL_law_409 : decode cL_law 409 = .ok (.iadd, 1) := by decide +kernel
theorem dL_law_410 : decode cL_law 410 = .ok (.iaload, 1) := by decide +kernel
theorem dL_law_411 : decode cL_law 411 = .ok (.invokevirtual 47, 3) := by decide +kernel
theorem dL_law_414 : decode cL_law 414 = .ok (.aload_n 2, 1) := by decide +kernel
theorem dL_law_415 : decode cL_law 415 = .ok (.aload_n 0, 1) := by decide +kernel
theorem dL_law_416 : decode cL_law 416 = .ok (.iload_n 3, 1) := by decide +kernel
theorem dL_law_417 : decode cL_law 417 = .ok (.iconst 1, 1) := by decide +kernel
theorem dL_law_418 : decode cL_law 418 = .ok (.iadd, 1) := by decide +kernel
theorem dL_law_419 : decode cL_law 419 = .ok (.iaload, 1) := by decide +kernel
theorem dL_law_420 : decode cL_law 420 = .ok (.aload_n 0, 1) := by decide +kernel
theorem dL_law_421 : decode cL_law 421 = .ok (.iload_n 3, 1) := by decide +kernel
theorem dL_law_422 : decode cL_law 422 = .ok (.iconst 2, 1) := by decide +kernel
theorem dL_law_423 : decode cL_law 423 = .ok (.iadd, 1) := by decide +kernel
theorem dL_law_424 : decode cL_law 424 = .ok (.iaload, 1) := by decide +kernel
theorem dL_law_425 : decode cL_law 425 = .ok (.invokevirtual 50, 3) := by decide +kernel
theorem dL_law_428 : decode cL_law 428 = .ok (.if_icmp .eq 706, 3) := by decide +kernel
theorem dL_law_431 : decode cL_law 431 = .ok (.iconst 0, 1) := by decide +kernel
theorem dL_law_432 : decode cL_law 432 = .ok (.ireturn, 1) := by decide +kernel
theorem dL_law_433 : decode cL_law 433 = .ok (.aload_n 1, 1) := by decide +kernel
theorem dL_law_434 : decode cL_law 434 = .ok (.invokevirtual 51, 3) := by decide +kernel
theorem dL_law_437 : decode cL_law 437 = .ok (.aload_n 2, 1) := by decide +kernel
theorem dL_law_438 : decode cL_law 438 = .ok (.invokevirtual 55, 3) := by decide +kernel
theorem dL_law_441 : decode cL_law 441 = .ok (.if_icmp .eq 693, 3) := by decide +kernel
theorem dL_law_444 : decode cL_law 444 = .ok (.iconst 0, 1) := by decide +kernel
theorem dL_law_445 : decode cL_law 445 = .ok (.ireturn, 1) := by decide +kernel
theorem dL_law_446 : decode cL_law 446 = .ok (.aload_n 1, 1) := by decide +kernel
theorem dL_law_447 : decode cL_law 447 = .ok (.aload_n 0, 1) := by decide +kernel
theorem dL_law_448 : decode cL_law 448 = .ok (.iload_n 3, 1) := by decide +kernel
theorem dL_law_449 : decode cL_law 449 = .ok (.iconst 1, 1) := by decide +kernel
theorem dL_law_450 : decode cL_law 450 = .ok (.iadd, 1) := by decide +kernel
theorem dL_law_451 : decode cL_law 451 = .ok (.iaload, 1) := by decide +kernel
theorem dL_law_452 : decode cL_law 452 = .ok (.aload_n 0, 1) := by decide +kernel
theorem dL_law_453 : decode cL_law 453 = .ok (.iload_n 3, 1) := by decide +kernel
theorem dL_law_454 : decode cL_law 454 = .ok (.iconst 2, 1) := by decide +kernel
theorem dL_law_455 : decode cL_law 455 = .ok (.iadd, 1) := by decide +kernel
theorem dL_law_456 : decode cL_law 456 = .ok (.iaload, 1) := by decide +kernel
theorem dL_law_457 : decode cL_law 457 = .ok (.invokevirtual 56, 3) := by decide +kernel
theorem dL_law_460 : decode cL_law 460 = .ok (.aload_n 2, 1) := by decide +kernel
theorem dL_law_461 : decode cL_law 461 = .ok (.aload_n 0, 1) := by decide +kernel
theorem dL_law_462 : decode cL_law 462 = .ok (.iload_n 3, 1) := by decide +kernel
theorem dL_law_463 : decode cL_law 463 = .ok (.iconst 1, 1) := by decide +kernel
theorem dL_law_464 : decode cL_law 464 = .ok (.iadd, 1) := by decide +kernel
theorem dL_law_465 : decode cL_law 465 = .ok (.iaload, 1) := by decide +kernel
theorem dL_law_466 : decode cL_law 466 = .ok (.aload_n 0, 1) := by decide +kernel
theorem dL_law_467 : decode cL_law 467 = .ok (.iload_n 3, 1) := by decide +kernel
theorem dL_law_468 : decode cL_law 468 = .ok (.iconst 2, 1) := by decide +kernel
theorem dL_law_469 : decode cL_law 469 = .ok (.iadd, 1) := by decide +kernel
theorem dL_law_470 : decode cL_law 470 = .ok (.iaload, 1) := by decide +kernel
theorem dL_law_471 : decode cL_law 471 = .ok (.invokevirtual 59, 3) := by decide +kernel
theorem dL_law_474 : decode cL_law 474 = .ok (.if_icmp .eq 660, 3) := by decide +kernel
theorem dL_law_477 : decode cL_law 477 = .ok (.iconst 0, 1) := by decide +kernel
theorem dL_law_478 : decode cL_law 478 = .ok (.ireturn, 1) := by decide +kernel
theorem dL_law_479 : decode cL_law 479 = .ok (.aload_n 1, 1) := by decide +kernel
theorem dL_law_480 : decode cL_law 480 = .ok (.aload_n 0, 1) := by decide +kernel
theorem dL_law_481 : decode cL_law 481 = .ok (.iload_n 3, 1) := by decide +kernel
theorem dL_law_482 : decode cL_law 482 = .ok (.iconst 1, 1) := by decide +kernel
theorem dL_law_483 : decode cL_law 483 = .ok (.iadd, 1) := by decide +kernel
theorem dL_law_484 : decode cL_law 484 = .ok (.iaload, 1) := by decide +kernel
theorem dL_law_485 : decode cL_law 485 = .ok (.invokevirtual 60, 3) := by decide +kernel
theorem dL_law_488 : decode cL_law 488 = .ok (.aload_n 2, 1) := by decide +kernel
theorem dL_law_489 : decode cL_law 489 = .ok (.aload_n 0, 1) := by decide +kernel
theorem dL_law_490 : decode cL_law 490 = .ok (.iload_n 3, 1) := by decide +kernel
theorem dL_law_491 : decode cL_law 491 = .ok (.iconst 1, 1) := by decide +kernel
theorem dL_law_492 : decode cL_law 492 = .ok (.iadd, 1) := by decide +kernel
theorem dL_law_493 : decode cL_law 493 = .ok (.iaload, 1) := by decide +kernel
theorem dL_law_494 : decode cL_law 494 = .ok (.invokevirtual 63, 3) := by decide +kernel
theorem dL_law_497 : decode cL_law 497 = .ok (.if_icmp .eq 637, 3) := by decide +kernel
theorem dL_law_500 : decode cL_law 500 = .ok (.iconst 0, 1) := by decide +kernel
theorem dL_law_501 : decode cL_law 501 = .ok (.ireturn, 1) := by decide +kernel
theorem dL_law_502 : decode cL_law 502 = .ok (.aload_n 1, 1) := by decide +kernel
theorem dL_law_503 : decode cL_law 503 = .ok (.aload_n 0, 1) := by decide +kernel
theorem dL_law_504 : decode cL_law 504 = .ok (.iload_n 3, 1) := by decide +kernel
theorem dL_law_505 : decode cL_law 505 = .ok (.iconst 1, 1) := by decide +kernel
theorem dL_law_506 : decode cL_law 506 = .ok (.iadd, 1) := by decide +kernel
theorem dL_law_507 : decode cL_law 507 = .ok (.iaload, 1) := by decide +kernel
theorem dL_law_508 : decode cL_law 508 = .ok (.invokevirtual 64, 3) := by decide +kernel
theorem dL_law_511 : decode cL_law 511 = .ok (.aload_n 2, 1) := by decide +kernel
theorem dL_law_512 : decode cL_law 512 = .ok (.aload_n 0, 1) := by decide +kernel
theorem dL_law_513 : decode cL_law 513 = .ok (.iload_n 3, 1) := by decide +kernel
theorem dL_law_514 : decode cL_law 514 = .ok (.iconst 1, 1) := by decide +kernel
theorem dL_law_515 : decode cL_law 515 = .ok (.iadd, 1) := by decide +kernel
theorem dL_law_516 : decode cL_law 516 = .ok (.iaload, 1) := by decide +kernel
theorem dL_law_517 : decode cL_law 517 = .ok (.invokevirtual 67, 3) := by decide +kernel
theorem dL_law_520 : decode cL_law 520 = .ok (.if_icmp .eq 614, 3) := by decide +kernel
theorem dL_law_523 : decode cL_law 523 = .ok (.iconst 0, 1) := by decide +kernel
theorem dL_law_524 : decode cL_law 524 = .ok (.ireturn, 1) := by decide +kernel
theorem dL_law_525 : decode cL_law 525 = .ok (.aload_n 1, 1) := by decide +kernel
theorem dL_law_526 : decode cL_law 526 = .ok (.aload_n 0, 1) := by decide +kernel
theorem dL_law_527 : decode cL_law 527 = .ok (.iload_n 3, 1) := by decide +kernel
theorem dL_law_528 : decode cL_law 528 = .ok (.iconst 1, 1) := by decide +kernel
theorem dL_law_529 : decode cL_law 529 = .ok (.iadd, 1) := by decide +kernel
theorem dL_law_530 : decode cL_law 530 = .ok (.iaload, 1) := by decide +kernel
theorem dL_law_531 : decode cL_law 531 = .ok (.aload_n 0, 1) := by decide +kernel
theorem dL_law_532 : decode cL_law 532 = .ok (.iload_n 3, 1) := by decide +kernel
theorem dL_law_533 : decode cL_law 533 = .ok (.iconst 2, 1) := by decide +kernel
theorem dL_law_534 : decode cL_law 534 = .ok (.iadd, 1) := by decide +kernel
theorem dL_law_535 : decode cL_law 535 = .ok (.iaload, 1) := by decide +kernel
theorem dL_law_536 : decode cL_law 536 = .ok (.invokevirtual 68, 3) := by decide +kernel
theorem dL_law_539 : decode cL_law 539 = .ok (.aload_n 2, 1) := by decide +kernel
theorem dL_law_540 : decode cL_law 540 = .ok (.aload_n 0, 1) := by decide +kernel
theorem dL_law_541 : decode cL_law 541 = .ok (.iload_n 3, 1) := by decide +kernel
theorem dL_law_542 : decode cL_law 542 = .ok (.iconst 1, 1) := by decide +kernel
theorem dL_law_543 : decode cL_law 543 = .ok (.iadd, 1) := by decide +kernel
theorem dL_law_544 : decode cL_law 544 = .ok (.iaload, 1) := by decide +kernel
theorem dL_law_545 : decode cL_law 545 = .ok (.aload_n 0, 1) := by decide +kernel
theorem dL_law_546 : decode cL_law 546 = .ok (.iload_n 3, 1) := by decide +kernel
theorem dL_law_547 : decode cL_law 547 = .ok (.iconst 2, 1) := by decide +kernel
theorem dL_law_548 : decode cL_law 548 = .ok (.iadd, 1) := by decide +kernel
theorem dL_law_549 : decode cL_law 549 = .ok (.iaload, 1) := by decide +kernel
theorem dL_law_550 : decode cL_law 550 = .ok (.invokevirtual 71, 3) := by decide +kernel
theorem dL_law_553 : decode cL_law 553 = .ok (.if_icmp .eq 581, 3) := by decide +kernel
theorem dL_law_556 : decode cL_law 556 = .ok (.iconst 0, 1) := by decide +kernel
theorem dL_law_557 : decode cL_law 557 = .ok (.ireturn, 1) := by decide +kernel
theorem dL_law_558 : decode cL_law 558 = .ok (.aload_n 1, 1) := by decide +kernel
theorem dL_law_559 : decode cL_law 559 = .ok (.aload_n 0, 1) := by decide +kernel
theorem dL_law_560 : decode cL_law 560 = .ok (.iload_n 3, 1) := by decide +kernel
theorem dL_law_561 : decode cL_law 561 = .ok (.iconst 1, 1) := by decide +kernel
theorem dL_law_562 : decode cL_law 562 = .ok (.iadd, 1) := by decide +kernel
theorem dL_law_563 : decode cL_law 563 = .ok (.iaload, 1) := by decide +kernel
theorem dL_law_564 : decode cL_law 564 = .ok (.invokevirtual 72, 3) := by decide +kernel
theorem dL_law_567 : decode cL_law 567 = .ok (.aload_n 2, 1) := by decide +kernel
theorem dL_law_568 : decode cL_law 568 = .ok (.aload_n 0, 1) := by decide +kernel
theorem dL_law_569 : decode cL_law 569 = .ok (.iload_n 3, 1) := by decide +kernel
theorem dL_law_570 : decode cL_law 570 = .ok (.iconst 1, 1) := by decide +kernel
theorem dL_law_571 : decode cL_law 571 = .ok (.iadd, 1) := by decide +kernel
theorem dL_law_572 : decode cL_law 572 = .ok (.iaload, 1) := by decide +kernel
theorem dL_law_573 : decode cL_law 573 = .ok (.invokevirtual 75, 3) := by decide +kernel
theorem dL_law_576 : decode cL_law 576 = .ok (.if_icmp .eq 558, 3) := by decide +kernel
theorem dL_law_579 : decode cL_law 579 = .ok (.iconst 0, 1) := by decide +kernel
theorem dL_law_580 : decode cL_law 580 = .ok (.ireturn, 1) := by decide +kernel
theorem dL_law_581 : decode cL_law 581 = .ok (.aload_n 1, 1) := by decide +kernel
theorem dL_law_582 : decode cL_law 582 = .ok (.aload_n 0, 1) := by decide +kernel
theorem dL_law_583 : decode cL_law 583 = .ok (.iload_n 3, 1) := by decide +kernel
theorem dL_law_584 : decode cL_law 584 = .ok (.iconst 1, 1) := by decide +kernel
theorem dL_law_585 : decode cL_law 585 = .ok (.iadd, 1) := by decide +kernel
theorem dL_law_586 : decode cL_law 586 = .ok (.iaload, 1) := by decide +kernel
theorem dL_law_587 : decode cL_law 587 = .ok (.aload_n 0, 1) := by decide +kernel
theorem dL_law_588 : decode cL_law 588 = .ok (.iload_n 3, 1) := by decide +kernel
theorem dL_law_589 : decode cL_law 589 = .ok (.iconst 2, 1) := by decide +kernel
theorem dL_law_590 : decode cL_law 590 = .ok (.iadd, 1) := by decide +kernel
theorem dL_law_591 : decode cL_law 591 = .ok (.iaload, 1) := by decide +kernel
theorem dL_law_592 : decode cL_law 592 = .ok (.aload_n 0, 1) := by decide +kernel
theorem dL_law_593 : decode cL_law 593 = .ok (.iload_n 3, 1) := by decide +kernel
theorem dL_law_594 : decode cL_law 594 = .ok (.iconst 3, 1) := by decide +kernel
theorem dL_law_595 : decode cL_law 595 = .ok (.iadd, 1) := by decide +kernel
theorem dL_law_596 : decode cL_law 596 = .ok (.iaload, 1) := by decide +kernel
theorem dL_law_597 : decode cL_law 597 = .ok (.invokevirtual 76, 3) := by decide +kernel
theorem dL_law_600 : decode cL_law 600 = .ok (.aload_n 2, 1) := by decide +kernel
theorem dL_law_601 : decode cL_law 601 = .ok (.aload_n 0, 1) := by decide +kernel
theorem dL_law_602 : decode cL_law 602 = .ok (.iload_n 3, 1) := by decide +kernel
theorem dL_law_603 : decode cL_law 603 = .ok (.iconst 1, 1) := by decide +kernel
theorem dL_law_604 : decode cL_law 604 = .ok (.iadd, 1) := by decide +kernel
theorem dL_law_605 : decode cL_law 605 = .ok (.iaload, 1) := by decide +kernel
theorem dL_law_606 : decode cL_law 606 = .ok (.aload_n 0, 1) := by decide +kernel
theorem dL_law_607 : decode cL_law 607 = .ok (.iload_n 3, 1) := by decide +kernel
theorem dL_law_608 : decode cL_law 608 = .ok (.iconst 2, 1) := by decide +kernel
theorem dL_law_609 : decode cL_law 609 = .ok (.iadd, 1) := by decide +kernel
theorem dL_law_610 : decode cL_law 610 = .ok (.iaload, 1) := by decide +kernel
theorem dL_law_611 : decode cL_law 611 = .ok (.aload_n 0, 1) := by decide +kernel
theorem dL_law_612 : decode cL_law 612 = .ok (.iload_n 3, 1) := by decide +kernel
theorem dL_law_613 : decode cL_law 613 = .ok (.iconst 3, 1) := by decide +kernel
theorem dL_law_614 : decode cL_law 614 = .ok (.iadd, 1) := by decide +kernel
theorem dL_law_615 : decode cL_law 615 = .ok (.iaload, 1) := by decide +kernel
theorem dL_law_616 : decode cL_law 616 = .ok (.invokevirtual 80, 3) := by decide +kernel
theorem dL_law_619 : decode cL_law 619 = .ok (.if_icmp .eq 515, 3) := by decide +kernel
theorem dL_law_622 : decode cL_law 622 = .ok (.iconst 0, 1) := by decide +kernel
theorem dL_law_623 : decode cL_law 623 = .ok (.ireturn, 1) := by decide +kernel
theorem dL_law_624 : decode cL_law 624 = .ok (.aload_n 1, 1) := by decide +kernel
theorem dL_law_625 : decode cL_law 625 = .ok (.aload_n 0, 1) := by decide +kernel
theorem dL_law_626 : decode cL_law 626 = .ok (.iload_n 3, 1) := by decide +kernel
theorem dL_law_627 : decode cL_law 627 = .ok (.iconst 1, 1) := by decide +kernel
theorem dL_law_628 : decode cL_law 628 = .ok (.iadd, 1) := by decide +kernel
theorem dL_law_629 : decode cL_law 629 = .ok (.iaload, 1) := by decide +kernel
theorem dL_law_630 : decode cL_law 630 = .ok (.aload_n 0, 1) := by decide +kernel
theorem dL_law_631 : decode cL_law 631 = .ok (.iload_n 3, 1) := by decide +kernel
theorem dL_law_632 : decode cL_law 632 = .ok (.iconst 2, 1) := by decide +kernel
theorem dL_law_633 : decode cL_law 633 = .ok (.iadd, 1) := by decide +kernel
theorem dL_law_634 : decode cL_law 634 = .ok (.iaload, 1) := by decide +kernel
theorem dL_law_635 : decode cL_law 635 = .ok (.invokevirtual 81, 3) := by decide +kernel
theorem dL_law_638 : decode cL_law 638 = .ok (.aload_n 2, 1) := by decide +kernel
theorem dL_law_639 : decode cL_law 639 = .ok (.aload_n 0, 1) := by decide +kernel
theorem dL_law_640 : decode cL_law 640 = .ok (.iload_n 3, 1) := by decide +kernel
theorem dL_law_641 : decode cL_law 641 = .ok (.iconst 1, 1) := by decide +kernel
theorem dL_law_642 : decode cL_law 642 = .ok (.iadd, 1) := by decide +kernel
theorem dL_law_643 : decode cL_law 643 = .ok (.iaload, 1) := by decide +kernel
theorem dL_law_644 : decode cL_law 644 = .ok (.aload_n 0, 1) := by decide +kernel
theorem dL_law_645 : decode cL_law 645 = .ok (.iload_n 3, 1) := by decide +kernel
theorem dL_law_646 : decode cL_law 646 = .ok (.iconst 2, 1) := by decide +kernel
theorem dL_law_647 : decode cL_law 647 = .ok (.iadd, 1) := by decide +kernel
theorem dL_law_648 : decode cL_law 648 = .ok (.iaload, 1) := by decide +kernel
theorem dL_law_649 : decode cL_law 649 = .ok (.invokevirtual 84, 3) := by decide +kernel
theorem dL_law_652 : decode cL_law 652 = .ok (.if_icmp .eq 482, 3) := by decide +kernel
theorem dL_law_655 : decode cL_law 655 = .ok (.iconst 0, 1) := by decide +kernel
theorem dL_law_656 : decode cL_law 656 = .ok (.ireturn, 1) := by decide +kernel
theorem dL_law_657 : decode cL_law 657 = .ok (.aload_n 1, 1) := by decide +kernel
theorem dL_law_658 : decode cL_law 658 = .ok (.invokevirtual 85, 3) := by decide +kernel
theorem dL_law_661 : decode cL_law 661 = .ok (.aload_n 2, 1) := by decide +kernel
theorem dL_law_662 : decode cL_law 662 = .ok (.invokevirtual 88, 3) := by decide +kernel
theorem dL_law_665 : decode cL_law 665 = .ok (.if_icmp .eq 469, 3) := by decide +kernel
theorem dL_law_668 : decode cL_law 668 = .ok (.iconst 0, 1) := by decide +kernel
theorem dL_law_669 : decode cL_law 669 = .ok (.ireturn, 1) := by decide +kernel
theorem dL_law_670 : decode cL_law 670 = .ok (.aload_n 1, 1) := by decide +kernel
theorem dL_law_671 : decode cL_law 671 = .ok (.aload_n 0, 1) := by decide +kernel
theorem dL_law_672 : decode cL_law 672 = .ok (.iload_n 3, 1) := by decide +kernel
theorem dL_law_673 : decode cL_law 673 = .ok (.iconst 1, 1) := by decide +kernel
theorem dL_law_674 : decode cL_law 674 = .ok (.iadd, 1) := by decide +kernel
theorem dL_law_675 : decode cL_law 675 = .ok (.iaload, 1) := by decide +kernel
theorem dL_law_676 : decode cL_law 676 = .ok (.invokevirtual 89, 3) := by decide +kernel
theorem dL_law_679 : decode cL_law 679 = .ok (.aload_n 2, 1) := by decide +kernel
theorem dL_law_680 : decode cL_law 680 = .ok (.aload_n 0, 1) := by decide +kernel
theorem dL_law_681 : decode cL_law 681 = .ok (.iload_n 3, 1) := by decide +kernel
theorem dL_law_682 : decode cL_law 682 = .ok (.iconst 1, 1) := by decide +kernel
theorem dL_law_683 : decode cL_law 683 = .ok (.iadd, 1) := by decide +kernel
theorem dL_law_684 : decode cL_law 684 = .ok (.iaload, 1) := by decide +kernel
theorem dL_law_685 : decode cL_law 685 = .ok (.invokevirtual 92, 3) := by decide +kernel
theorem dL_law_688 : decode cL_law 688 = .ok (.if_icmp .eq 446, 3) := by decide +kernel
theorem dL_law_691 : decode cL_law 691 = .ok (.iconst 0, 1) := by decide +kernel
theorem dL_law_692 : decode cL_law 692 = .ok (.ireturn, 1) := by decide +kernel
theorem dL_law_693 : decode cL_law 693 = .ok (.aload_n 1, 1) := by decide +kernel
theorem dL_law_694 : decode cL_law 694 = .ok (.invokevirtual 93, 3) := by decide +kernel
theorem dL_law_697 : decode cL_law 697 = .ok (.aload_n 2, 1) := by decide +kernel
theorem dL_law_698 : decode cL_law 698 = .ok (.invokevirtual 96, 3) := by decide +kernel
theorem dL_law_701 : decode cL_law 701 = .ok (.if_icmp .eq 433, 3) := by decide +kernel
theorem dL_law_704 : decode cL_law 704 = .ok (.iconst 0, 1) := by decide +kernel
theorem dL_law_705 : decode cL_law 705 = .ok (.ireturn, 1) := by decide +kernel
theorem dL_law_706 : decode cL_law 706 = .ok (.aload_n 1, 1) := by decide +kernel
theorem dL_law_707 : decode cL_law 707 = .ok (.aload_n 0, 1) := by decide +kernel
theorem dL_law_708 : decode cL_law 708 = .ok (.iload_n 3, 1) := by decide +kernel
theorem dL_law_709 : decode cL_law 709 = .ok (.iconst 1, 1) := by decide +kernel
theorem dL_law_710 : decode cL_law 710 = .ok (.iadd, 1) := by decide +kernel
theorem dL_law_711 : decode cL_law 711 = .ok (.iaload, 1) := by decide +kernel
theorem dL_law_712 : decode cL_law 712 = .ok (.invokevirtual 97, 3) := by decide +kernel
theorem dL_law_715 : decode cL_law 715 = .ok (.aload_n 2, 1) := by decide +kernel
theorem dL_law_716 : decode cL_law 716 = .ok (.aload_n 0, 1) := by decide +kernel
theorem dL_law_717 : decode cL_law 717 = .ok (.iload_n 3, 1) := by decide +kernel
theorem dL_law_718 : decode cL_law 718 = .ok (.iconst 1, 1) := by decide +kernel
theorem dL_law_719 : decode cL_law 719 = .ok (.iadd, 1) := by decide +kernel
theorem dL_law_720 : decode cL_law 720 = .ok (.iaload, 1) := by decide +kernel
theorem dL_law_721 : decode cL_law 721 = .ok (.invokevirtual 100, 3) := by decide +kernel
theorem dL_law_724 : decode cL_law 724 = .ok (.if_icmp .eq 410, 3) := by decide +kernel
theorem dL_law_727 : decode cL_law 727 = .ok (.iconst 0, 1) := by decide +kernel
theorem dL_law_728 : decode cL_law 728 = .ok (.ireturn, 1) := by decide +kernel
theorem dL_law_729 : decode cL_law 729 = .ok (.aload_n 1, 1) := by decide +kernel
theorem dL_law_730 : decode cL_law 730 = .ok (.invokevirtual 101, 3) := by decide +kernel
theorem dL_law_733 : decode cL_law 733 = .ok (.aload_n 2, 1) := by decide +kernel
theorem dL_law_734 : decode cL_law 734 = .ok (.invokevirtual 104, 3) := by decide +kernel
theorem dL_law_737 : decode cL_law 737 = .ok (.if_icmp .eq 397, 3) := by decide +kernel
theorem dL_law_740 : decode cL_law 740 = .ok (.iconst 0, 1) := by decide +kernel
theorem dL_law_741 : decode cL_law 741 = .ok (.ireturn, 1) := by decide +kernel
theorem dL_law_742 : decode cL_law 742 = .ok (.aload_n 1, 1) := by decide +kernel
theorem dL_law_743 : decode cL_law 743 = .ok (.aload_n 0, 1) := by decide +kernel
theorem dL_law_744 : decode cL_law 744 = .ok (.iload_n 3, 1) := by decide +kernel
theorem dL_law_745 : decode cL_law 745 = .ok (.iconst 1, 1) := by decide +kernel
theorem dL_law_746 : decode cL_law 746 = .ok (.iadd, 1) := by decide +kernel
theorem dL_law_747 : decode cL_law 747 = .ok (.iaload, 1) := by decide +kernel
theorem dL_law_748 : decode cL_law 748 = .ok (.aload_n 0, 1) := by decide +kernel
theorem dL_law_749 : decode cL_law 749 = .ok (.iload_n 3, 1) := by decide +kernel
theorem dL_law_750 : decode cL_law 750 = .ok (.iconst 2, 1) := by decide +kernel
theorem dL_law_751 : decode cL_law 751 = .ok (.iadd, 1) := by decide +kernel
theorem dL_law_752 : decode cL_law 752 = .ok (.iaload, 1) := by decide +kernel
theorem dL_law_753 : decode cL_law 753 = .ok (.aload_n 0, 1) := by decide +kernel
theorem dL_law_754 : decode cL_law 754 = .ok (.iload_n 3, 1) := by decide +kernel
theorem dL_law_755 : decode cL_law 755 = .ok (.iconst 3, 1) := by decide +kernel
theorem dL_law_756 : decode cL_law 756 = .ok (.iadd, 1) := by decide +kernel
theorem dL_law_757 : decode cL_law 757 = .ok (.iaload, 1) := by decide +kernel
theorem dL_law_758 : decode cL_law 758 = .ok (.aload_n 0, 1) := by decide +kernel
theorem dL_law_759 : decode cL_law 759 = .ok (.iload_n 3, 1) := by decide +kernel
theorem dL_law_760 : decode cL_law 760 = .ok (.iconst 4, 1) := by decide +kernel
theorem dL_law_761 : decode cL_law 761 = .ok (.iadd, 1) := by decide +kernel
theorem dL_law_762 : decode cL_law 762 = .ok (.iaload, 1) := by decide +kernel
theorem dL_law_763 : decode cL_law 763 = .ok (.invokevirtual 105, 3) := by decide +kernel
theorem dL_law_766 : decode cL_law 766 = .ok (.aload_n 2, 1) := by decide +kernel
theorem dL_law_767 : decode cL_law 767 = .ok (.aload_n 0, 1) := by decide +kernel
theorem dL_law_768 : decode cL_law 768 = .ok (.iload_n 3, 1) := by decide +kernel
theorem dL_law_769 : decode cL_law 769 = .ok (.iconst 1, 1) := by decide +kernel
theorem dL_law_770 : decode cL_law 770 = .ok (.iadd, 1) := by decide +kernel
theorem dL_law_771 : decode cL_law 771 = .ok (.iaload, 1) := by decide +kernel
theorem dL_law_772 : decode cL_law 772 = .ok (.aload_n 0, 1) := by decide +kernel
theorem dL_law_773 : decode cL_law 773 = .ok (.iload_n 3, 1) := by decide +kernel
theorem dL_law_774 : decode cL_law 774 = .ok (.iconst 2, 1) := by decide +kernel
theorem dL_law_775 : decode cL_law 775 = .ok (.iadd, 1) := by decide +kernel
theorem dL_law_776 : decode cL_law 776 = .ok (.iaload, 1) := by decide +kernel
theorem dL_law_777 : decode cL_law 777 = .ok (.aload_n 0, 1) := by decide +kernel
theorem dL_law_778 : decode cL_law 778 = .ok (.iload_n 3, 1) := by decide +kernel
theorem dL_law_779 : decode cL_law 779 = .ok (.iconst 3, 1) := by decide +kernel
theorem dL_law_780 : decode cL_law 780 = .ok (.iadd, 1) := by decide +kernel
theorem dL_law_781 : decode cL_law 781 = .ok (.iaload, 1) := by decide +kernel
theorem dL_law_782 : decode cL_law 782 = .ok (.aload_n 0, 1) := by decide +kernel
theorem dL_law_783 : decode cL_law 783 = .ok (.iload_n 3, 1) := by decide +kernel
theorem dL_law_784 : decode cL_law 784 = .ok (.iconst 4, 1) := by decide +kernel
theorem dL_law_785 : decode cL_law 785 = .ok (.iadd, 1) := by decide +kernel
theorem dL_law_786 : decode cL_law 786 = .ok (.iaload, 1) := by decide +kernel
theorem dL_law_787 : decode cL_law 787 = .ok (.invokevirtual 109, 3) := by decide +kernel
theorem dL_law_790 : decode cL_law 790 = .ok (.lcmp, 1) := by decide +kernel
theorem dL_law_791 : decode cL_law 791 = .ok (.ifCond .eq 343, 3) := by decide +kernel
theorem dL_law_794 : decode cL_law 794 = .ok (.iconst 0, 1) := by decide +kernel
theorem dL_law_795 : decode cL_law 795 = .ok (.ireturn, 1) := by decide +kernel
theorem dL_law_796 : decode cL_law 796 = .ok (.aload_n 1, 1) := by decide +kernel
theorem dL_law_797 : decode cL_law 797 = .ok (.aload_n 0, 1) := by decide +kernel
theorem dL_law_798 : decode cL_law 798 = .ok (.iload_n 3, 1) := by decide +kernel
theorem dL_law_799 : decode cL_law 799 = .ok (.iconst 1, 1) := by decide +kernel
theorem dL_law_800 : decode cL_law 800 = .ok (.iadd, 1) := by decide +kernel
theorem dL_law_801 : decode cL_law 801 = .ok (.iaload, 1) := by decide +kernel
theorem dL_law_802 : decode cL_law 802 = .ok (.aload_n 0, 1) := by decide +kernel
theorem dL_law_803 : decode cL_law 803 = .ok (.iload_n 3, 1) := by decide +kernel
theorem dL_law_804 : decode cL_law 804 = .ok (.iconst 2, 1) := by decide +kernel
theorem dL_law_805 : decode cL_law 805 = .ok (.iadd, 1) := by decide +kernel
theorem dL_law_806 : decode cL_law 806 = .ok (.iaload, 1) := by decide +kernel
theorem dL_law_807 : decode cL_law 807 = .ok (.aload_n 0, 1) := by decide +kernel
theorem dL_law_808 : decode cL_law 808 = .ok (.iload_n 3, 1) := by decide +kernel
theorem dL_law_809 : decode cL_law 809 = .ok (.iconst 3, 1) := by decide +kernel
theorem dL_law_810 : decode cL_law 810 = .ok (.iadd, 1) := by decide +kernel
theorem dL_law_811 : decode cL_law 811 = .ok (.iaload, 1) := by decide +kernel
theorem dL_law_812 : decode cL_law 812 = .ok (.invokevirtual 110, 3) := by decide +kernel
theorem dL_law_815 : decode cL_law 815 = .ok (.aload_n 2, 1) := by decide +kernel
theorem dL_law_816 : decode cL_law 816 = .ok (.aload_n 0, 1) := by decide +kernel
theorem dL_law_817 : decode cL_law 817 = .ok (.iload_n 3, 1) := by decide +kernel
theorem dL_law_818 : decode cL_law 818 = .ok (.iconst 1, 1) := by decide +kernel
theorem dL_law_819 : decode cL_law 819 = .ok (.iadd, 1) := by decide +kernel
theorem dL_law_820 : decode cL_law 820 = .ok (.iaload, 1) := by decide +kernel
theorem dL_law_821 : decode cL_law 821 = .ok (.aload_n 0, 1) := by decide +kernel
theorem dL_law_822 : decode cL_law 822 = .ok (.iload_n 3, 1) := by decide +kernel
theorem dL_law_823 : decode cL_law 823 = .ok (.iconst 2, 1) := by decide +kernel
theorem dL_law_824 : decode cL_law 824 = .ok (.iadd, 1) := by decide +kernel
theorem dL_law_825 : decode cL_law 825 = .ok (.iaload, 1) := by decide +kernel
theorem dL_law_826 : decode cL_law 826 = .ok (.aload_n 0, 1) := by decide +kernel
theorem dL_law_827 : decode cL_law 827 = .ok (.iload_n 3, 1) := by decide +kernel
theorem dL_law_828 : decode cL_law 828 = .ok (.iconst 3, 1) := by decide +kernel
theorem dL_law_829 : decode cL_law 829 = .ok (.iadd, 1) := by decide +kernel
theorem dL_law_830 : decode cL_law 830 = .ok (.iaload, 1) := by decide +kernel
theorem dL_law_831 : decode cL_law 831 = .ok (.invokevirtual 113, 3) := by decide +kernel
theorem dL_law_834 : decode cL_law 834 = .ok (.if_icmp .eq 300, 3) := by decide +kernel
theorem dL_law_837 : decode cL_law 837 = .ok (.iconst 0, 1) := by decide +kernel
theorem dL_law_838 : decode cL_law 838 = .ok (.ireturn, 1) := by decide +kernel
theorem dL_law_839 : decode cL_law 839 = .ok (.aload_n 1, 1) := by decide +kernel
theorem dL_law_840 : decode cL_law 840 = .ok (.aload_n 0, 1) := by decide +kernel
theorem dL_law_841 : decode cL_law 841 = .ok (.iload_n 3, 1) := by decide +kernel
theorem dL_law_842 : decode cL_law 842 = .ok (.iconst 1, 1) := by decide +kernel
theorem dL_law_843 : decode cL_law 843 = .ok (.iadd, 1) := by decide +kernel
theorem dL_law_844 : decode cL_law 844 = .ok (.iaload, 1) := by decide +kernel
theorem dL_law_845 : decode cL_law 845 = .ok (.aload_n 0, 1) := by decide +kernel
theorem dL_law_846 : decode cL_law 846 = .ok (.iload_n 3, 1) := by decide +kernel
theorem dL_law_847 : decode cL_law 847 = .ok (.iconst 2, 1) := by decide +kernel
theorem dL_law_848 : decode cL_law 848 = .ok (.iadd, 1) := by decide +kernel
theorem dL_law_849 : decode cL_law 849 = .ok (.iaload, 1) := by decide +kernel
theorem dL_law_850 : decode cL_law 850 = .ok (.aload_n 0, 1) := by decide +kernel
theorem dL_law_851 : decode cL_law 851 = .ok (.iload_n 3, 1) := by decide +kernel
theorem dL_law_852 : decode cL_law 852 = .ok (.iconst 3, 1) := by decide +kernel
theorem dL_law_853 : decode cL_law 853 = .ok (.iadd, 1) := by decide +kernel
theorem dL_law_854 : decode cL_law 854 = .ok (.iaload, 1) := by decide +kernel
theorem dL_law_855 : decode cL_law 855 = .ok (.invokevirtual 114, 3) := by decide +kernel
theorem dL_law_858 : decode cL_law 858 = .ok (.aload_n 2, 1) := by decide +kernel
theorem dL_law_859 : decode cL_law 859 = .ok (.aload_n 0, 1) := by decide +kernel
theorem dL_law_860 : decode cL_law 860 = .ok (.iload_n 3, 1) := by decide +kernel
theorem dL_law_861 : decode cL_law 861 = .ok (.iconst 1, 1) := by decide +kernel
theorem dL_law_862 : decode cL_law 862 = .ok (.iadd, 1) := by decide +kernel
theorem dL_law_863 : decode cL_law 863 = .ok (.iaload, 1) := by decide +kernel
theorem dL_law_864 : decode cL_law 864 = .ok (.aload_n 0, 1) := by decide +kernel
theorem dL_law_865 : decode cL_law 865 = .ok (.iload_n 3, 1) := by decide +kernel
theorem dL_law_866 : decode cL_law 866 = .ok (.iconst 2, 1) := by decide +kernel
theorem dL_law_867 : decode cL_law 867 = .ok (.iadd, 1) := by decide +kernel
theorem dL_law_868 : decode cL_law 868 = .ok (.iaload, 1) := by decide +kernel
theorem dL_law_869 : decode cL_law 869 = .ok (.aload_n 0, 1) := by decide +kernel
theorem dL_law_870 : decode cL_law 870 = .ok (.iload_n 3, 1) := by decide +kernel
theorem dL_law_871 : decode cL_law 871 = .ok (.iconst 3, 1) := by decide +kernel
theorem dL_law_872 : decode cL_law 872 = .ok (.iadd, 1) := by decide +kernel
theorem dL_law_873 : decode cL_law 873 = .ok (.iaload, 1) := by decide +kernel
theorem dL_law_874 : decode cL_law 874 = .ok (.invokevirtual 117, 3) := by decide +kernel
theorem dL_law_877 : decode cL_law 877 = .ok (.if_icmp .eq 257, 3) := by decide +kernel
theorem dL_law_880 : decode cL_law 880 = .ok (.iconst 0, 1) := by decide +kernel
theorem dL_law_881 : decode cL_law 881 = .ok (.ireturn, 1) := by decide +kernel
theorem dL_law_882 : decode cL_law 882 = .ok (.aload_n 1, 1) := by decide +kernel
theorem dL_law_883 : decode cL_law 883 = .ok (.aload_n 0, 1) := by decide +kernel
theorem dL_law_884 : decode cL_law 884 = .ok (.iload_n 3, 1) := by decide +kernel
theorem dL_law_885 : decode cL_law 885 = .ok (.iconst 1, 1) := by decide +kernel
theorem dL_law_886 : decode cL_law 886 = .ok (.iadd, 1) := by decide +kernel
theorem dL_law_887 : decode cL_law 887 = .ok (.iaload, 1) := by decide +kernel
theorem dL_law_888 : decode cL_law 888 = .ok (.invokevirtual 118, 3) := by decide +kernel
theorem dL_law_891 : decode cL_law 891 = .ok (.aload_n 2, 1) := by decide +kernel
theorem dL_law_892 : decode cL_law 892 = .ok (.aload_n 0, 1) := by decide +kernel
theorem dL_law_893 : decode cL_law 893 = .ok (.iload_n 3, 1) := by decide +kernel
theorem dL_law_894 : decode cL_law 894 = .ok (.iconst 1, 1) := by decide +kernel
theorem dL_law_895 : decode cL_law 895 = .ok (.iadd, 1) := by decide +kernel
theorem dL_law_896 : decode cL_law 896 = .ok (.iaload, 1) := by decide +kernel
theorem dL_law_897 : decode cL_law 897 = .ok (.invokevirtual 121, 3) := by decide +kernel
theorem dL_law_900 : decode cL_law 900 = .ok (.if_icmp .eq 234, 3) := by decide +kernel
theorem dL_law_903 : decode cL_law 903 = .ok (.iconst 0, 1) := by decide +kernel
theorem dL_law_904 : decode cL_law 904 = .ok (.ireturn, 1) := by decide +kernel
theorem dL_law_905 : decode cL_law 905 = .ok (.aload_n 1, 1) := by decide +kernel
theorem dL_law_906 : decode cL_law 906 = .ok (.aload_n 0, 1) := by decide +kernel
theorem dL_law_907 : decode cL_law 907 = .ok (.iload_n 3, 1) := by decide +kernel
theorem dL_law_908 : decode cL_law 908 = .ok (.iconst 1, 1) := by decide +kernel
theorem dL_law_909 : decode cL_law 909 = .ok (.iadd, 1) := by decide +kernel
theorem dL_law_910 : decode cL_law 910 = .ok (.iaload, 1) := by decide +kernel
theorem dL_law_911 : decode cL_law 911 = .ok (.aload_n 0, 1) := by decide +kernel
theorem dL_law_912 : decode cL_law 912 = .ok (.iload_n 3, 1) := by decide +kernel
theorem dL_law_913 : decode cL_law 913 = .ok (.iconst 2, 1) := by decide +kernel
theorem dL_law_914 : decode cL_law 914 = .ok (.iadd, 1) := by decide +kernel
theorem dL_law_915 : decode cL_law 915 = .ok (.iaload, 1) := by decide +kernel
theorem dL_law_916 : decode cL_law 916 = .ok (.aload_n 0, 1) := by decide +kernel
theorem dL_law_917 : decode cL_law 917 = .ok (.iload_n 3, 1) := by decide +kernel
theorem dL_law_918 : decode cL_law 918 = .ok (.iconst 3, 1) := by decide +kernel
theorem dL_law_919 : decode cL_law 919 = .ok (.iadd, 1) := by decide +kernel
theorem dL_law_920 : decode cL_law 920 = .ok (.iaload, 1) := by decide +kernel
theorem dL_law_921 : decode cL_law 921 = .ok (.aload_n 0, 1) := by decide +kernel
theorem dL_law_922 : decode cL_law 922 = .ok (.iload_n 3, 1) := by decide +kernel
theorem dL_law_923 : decode cL_law 923 = .ok (.iconst 4, 1) := by decide +kernel
theorem dL_law_924 : decode cL_law 924 = .ok (.iadd, 1) := by decide +kernel
theorem dL_law_925 : decode cL_law 925 = .ok (.iaload, 1) := by decide +kernel
theorem dL_law_926 : decode cL_law 926 = .ok (.invokevirtual 122, 3) := by decide +kernel
theorem dL_law_929 : decode cL_law 929 = .ok (.aload_n 2, 1) := by decide +kernel
theorem dL_law_930 : decode cL_law 930 = .ok (.aload_n 0, 1) := by decide +kernel
theorem dL_law_931 : decode cL_law 931 = .ok (.iload_n 3, 1) := by decide +kernel
theorem dL_law_932 : decode cL_law 932 = .ok (.iconst 1, 1) := by decide +kernel
theorem dL_law_933 : decode cL_law 933 = .ok (.iadd, 1) := by decide +kernel
theorem dL_law_934 : decode cL_law 934 = .ok (.iaload, 1) := by decide +kernel
theorem dL_law_935 : decode cL_law 935 = .ok (.aload_n 0, 1) := by decide +kernel
theorem dL_law_936 : decode cL_law 936 = .ok (.iload_n 3, 1) := by decide +kernel
theorem dL_law_937 : decode cL_law 937 = .ok (.iconst 2, 1) := by decide +kernel
theorem dL_law_938 : decode cL_law 938 = .ok (.iadd, 1) := by decide +kernel
theorem dL_law_939 : decode cL_law 939 = .ok (.iaload, 1) := by decide +kernel
theorem dL_law_940 : decode cL_law 940 = .ok (.aload_n 0, 1) := by decide +kernel
theorem dL_law_941 : decode cL_law 941 = .ok (.iload_n 3, 1) := by decide +kernel
theorem dL_law_942 : decode cL_law 942 = .ok (.iconst 3, 1) := by decide +kernel
theorem dL_law_943 : decode cL_law 943 = .ok (.iadd, 1) := by decide +kernel
theorem dL_law_944 : decode cL_law 944 = .ok (.iaload, 1) := by decide +kernel
theorem dL_law_945 : decode cL_law 945 = .ok (.aload_n 0, 1) := by decide +kernel
theorem dL_law_946 : decode cL_law 946 = .ok (.iload_n 3, 1) := by decide +kernel
theorem dL_law_947 : decode cL_law 947 = .ok (.iconst 4, 1) := by decide +kernel
theorem dL_law_948 : decode cL_law 948 = .ok (.iadd, 1) := by decide +kernel
theorem dL_law_949 : decode cL_law 949 = .ok (.iaload, 1) := by decide +kernel
theorem dL_law_950 : decode cL_law 950 = .ok (.invokevirtual 126, 3) := by decide +kernel
theorem dL_law_953 : decode cL_law 953 = .ok (.if_icmp .eq 181, 3) := by decide +kernel
theorem dL_law_956 : decode cL_law 956 = .ok (.iconst 0, 1) := by decide +kernel
theorem dL_law_957 : decode cL_law 957 = .ok (.ireturn, 1) := by decide +kernel
theorem dL_law_958 : decode cL_law 958 = .ok (.aload_n 1, 1) := by decide +kernel
theorem dL_law_959 : decode cL_law 959 = .ok (.aload_n 0, 1) := by decide +kernel
theorem dL_law_960 : decode cL_law 960 = .ok (.iload_n 3, 1) := by decide +kernel
theorem dL_law_961 : decode cL_law 961 = .ok (.iconst 1, 1) := by decide +kernel
theorem dL_law_962 : decode cL_law 962 = .ok (.iadd, 1) := by decide +kernel
theorem dL_law_963 : decode cL_law 963 = .ok (.iaload, 1) := by decide +kernel
theorem dL_law_964 : decode cL_law 964 = .ok (.aload_n 0, 1) := by decide +kernel
theorem dL_law_965 : decode cL_law 965 = .ok (.iload_n 3, 1) := by decide +kernel
theorem dL_law_966 : decode cL_law 966 = .ok (.iconst 2, 1) := by decide +kernel
theorem dL_law_967 : decode cL_law 967 = .ok (.iadd, 1) := by decide +kernel
theorem dL_law_968 : decode cL_law 968 = .ok (.iaload, 1) := by decide +kernel
theorem dL_law_969 : decode cL_law 969 = .ok (.aload_n 0, 1) := by decide +kernel
theorem dL_law_970 : decode cL_law 970 = .ok (.iload_n 3, 1) := by decide +kernel
theorem dL_law_971 : decode cL_law 971 = .ok (.iconst 3, 1) := by decide +kernel
theorem dL_law_972 : decode cL_law 972 = .ok (.iadd, 1) := by decide +kernel
theorem dL_law_973 : decode cL_law 973 = .ok (.iaload, 1) := by decide +kernel
theorem dL_law_974 : decode cL_law 974 = .ok (.invokevirtual 127, 3) := by decide +kernel
theorem dL_law_977 : decode cL_law 977 = .ok (.aload_n 2, 1) := by decide +kernel
theorem dL_law_978 : decode cL_law 978 = .ok (.aload_n 0, 1) := by decide +kernel
theorem dL_law_979 : decode cL_law 979 = .ok (.iload_n 3, 1) := by decide +kernel
theorem dL_law_980 : decode cL_law 980 = .ok (.iconst 1, 1) := by decide +kernel
theorem dL_law_981 : decode cL_law 981 = .ok (.iadd, 1) := by decide +kernel
theorem dL_law_982 : decode cL_law 982 = .ok (.iaload, 1) := by decide +kernel
theorem dL_law_983 : decode cL_law 983 = .ok (.aload_n 0, 1) := by decide +kernel
theorem dL_law_984 : decode cL_law 984 = .ok (.iload_n 3, 1) := by decide +kernel
theorem dL_law_985 : decode cL_law 985 = .ok (.iconst 2, 1) := by decide +kernel
theorem dL_law_986 : decode cL_law 986 = .ok (.iadd, 1) := by decide +kernel
theorem dL_law_987 : decode cL_law 987 = .ok (.iaload, 1) := by decide +kernel
theorem dL_law_988 : decode cL_law 988 = .ok (.aload_n 0, 1) := by decide +kernel
