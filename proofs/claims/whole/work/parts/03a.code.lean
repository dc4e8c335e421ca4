theorem dX0_init_0 : decode cX0_init 0 = .ok (.aload_n 0, 1) := by decide +kernel
theorem dX0_init_1 : decode cX0_init 1 = .ok (.invokespecial 3, 3) := by decide +kernel
theorem dX0_init_4 : decode cX0_init 4 = .ok (.aload_n 0, 1) := by decide +kernel
theorem dX0_init_5 : decode cX0_init 5 = .ok (.bipush 6, 2) := by decide +kernel
theorem dX0_init_7 : decode cX0_init 7 = .ok (.newarray .int, 2) := by decide +kernel
theorem dX0_init_9 : decode cX0_init 9 = .ok (.putfield 9, 3) := by decide +kernel
theorem dX0_init_12 : decode cX0_init 12 = .ok (.aload_n 0, 1) := by decide +kernel
theorem dX0_init_13 : decode cX0_init 13 = .ok (.bipush 6, 2) := by decide +kernel
theorem dX0_init_15 : decode cX0_init 15 = .ok (.newarray .int, 2) := by decide +kernel
theorem dX0_init_17 : decode cX0_init 17 = .ok (.putfield 15, 3) := by decide +kernel
theorem dX0_init_20 : decode cX0_init 20 = .ok (.aload_n 0, 1) := by decide +kernel
theorem dX0_init_21 : decode cX0_init 21 = .ok (.bipush 6, 2) := by decide +kernel
theorem dX0_init_23 : decode cX0_init 23 = .ok (.newarray .int, 2) := by decide +kernel
theorem dX0_init_25 : decode cX0_init 25 = .ok (.putfield 18, 3) := by decide +kernel
theorem dX0_init_28 : decode cX0_init 28 = .ok (.aload_n 0, 1) := by decide +kernel
theorem dX0_init_29 : decode cX0_init 29 = .ok (.bipush 9, 2) := by decide +kernel
theorem dX0_init_31 : decode cX0_init 31 = .ok (.newarray .int, 2) := by decide +kernel
theorem dX0_init_33 : decode cX0_init 33 = .ok (.putfield 21, 3) := by decide +kernel
theorem dX0_init_36 : decode cX0_init 36 = .ok (.aload_n 0, 1) := by decide +kernel
theorem dX0_init_37 : decode cX0_init 37 = .ok (.bipush 54, 2) := by decide +kernel
theorem dX0_init_39 : decode cX0_init 39 = .ok (.newarray .int, 2) := by decide +kernel
theorem dX0_init_41 : decode cX0_init 41 = .ok (.putfield 24, 3) := by decide +kernel
theorem dX0_init_44 : decode cX0_init 44 = .ok (.return_, 1) := by decide +kernel
theorem dX0_addPost_0 : decode cX0_addPost 0 = .ok (.aload_n 0, 1) := by decide +kernel
theorem dX0_addPost_1 : decode cX0_addPost 1 = .ok (.getfield 9, 3) := by decide +kernel
theorem dX0_addPost_4 : decode cX0_addPost 4 = .ok (.aload_n 0, 1) := by decide +kernel
theorem dX0_addPost_5 : decode cX0_addPost 5 = .ok (.getfield 27, 3) := by decide +kernel
theorem dX0_addPost_8 : decode cX0_addPost 8 = .ok (.iload_n 1, 1) := by decide +kernel
theorem dX0_addPost_9 : decode cX0_addPost 9 = .ok (.iastore, 1) := by decide +kernel
theorem dX0_addPost_10 : decode cX0_addPost 10 = .ok (.aload_n 0, 1) := by decide +kernel
theorem dX0_addPost_11 : decode cX0_addPost 11 = .ok (.getfield 15, 3) := by decide +kernel
theorem dX0_addPost_14 : decode cX0_addPost 14 = .ok (.aload_n 0, 1) := by decide +kernel
theorem dX0_addPost_15 : decode cX0_addPost 15 = .ok (.getfield 27, 3) := by decide +kernel
theorem dX0_addPost_18 : decode cX0_addPost 18 = .ok (.iload_n 2, 1) := by decide +kernel
theorem dX0_addPost_19 : decode cX0_addPost 19 = .ok (.iastore, 1) := by decide +kernel
theorem dX0_addPost_20 : decode cX0_addPost 20 = .ok (.aload_n 0, 1) := by decide +kernel
theorem dX0_addPost_21 : decode cX0_addPost 21 = .ok (.getfield 18, 3) := by decide +kernel
theorem dX0_addPost_24 : decode cX0_addPost 24 = .ok (.aload_n 0, 1) := by decide +kernel
theorem dX0_addPost_25 : decode cX0_addPost 25 = .ok (.getfield 27, 3) := by decide +kernel
theorem dX0_addPost_28 : decode cX0_addPost 28 = .ok (.iload_n 3, 1) := by decide +kernel
theorem dX0_addPost_29 : decode cX0_addPost 29 = .ok (.iastore, 1) := by decide +kernel
theorem dX0_addPost_30 : decode cX0_addPost 30 = .ok (.aload_n 0, 1) := by decide +kernel
theorem dX0_addPost_31 : decode cX0_addPost 31 = .ok (.dup, 1) := by decide +kernel
theorem dX0_addPost_32 : decode cX0_addPost 32 = .ok (.getfield 27, 3) := by decide +kernel
theorem dX0_addPost_35 : decode cX0_addPost 35 = .ok (.iconst 1, 1) := by decide +kernel
theorem dX0_addPost_36 : decode cX0_addPost 36 = .ok (.iadd, 1) := by decide +kernel
theorem dX0_addPost_37 : decode cX0_addPost 37 = .ok (.putfield 27, 3) := by decide +kernel
theorem dX0_addPost_40 : decode cX0_addPost 40 = .ok (.aload_n 0, 1) := by decide +kernel
theorem dX0_addPost_41 : decode cX0_addPost 41 = .ok (.dup, 1) := by decide +kernel
theorem dX0_addPost_42 : decode cX0_addPost 42 = .ok (.getfield 31, 3) := by decide +kernel
theorem dX0_addPost_45 : decode cX0_addPost 45 = .ok (.iconst 1, 1) := by decide +kernel
theorem dX0_addPost_46 : decode cX0_addPost 46 = .ok (.iadd, 1) := by decide +kernel
theorem dX0_addPost_47 : decode cX0_addPost 47 = .ok (.putfield 31, 3) := by decide +kernel
theorem dX0_addPost_50 : decode cX0_addPost 50 = .ok (.aload_n 0, 1) := by decide +kernel
theorem dX0_addPost_51 : decode cX0_addPost 51 = .ok (.getfield 27, 3) := by decide +kernel
theorem dX0_addPost_54 : decode cX0_addPost 54 = .ok (.iconst 1, 1) := by decide +kernel
theorem dX0_addPost_55 : decode cX0_addPost 55 = .ok (.isub, 1) := by decide +kernel
theorem dX0_addPost_56 : decode cX0_addPost 56 = .ok (.ireturn, 1) := by decide +kernel
theorem dX0_addGuest_0 : decode cX0_addGuest 0 = .ok (.aload_n 0, 1) := by decide +kernel
theorem dX0_addGuest_1 : decode cX0_addGuest 1 = .ok (.getfield 21, 3) := by decide +kernel
theorem dX0_addGuest_4 : decode cX0_addGuest 4 = .ok (.aload_n 0, 1) := by decide +kernel
theorem dX0_addGuest_5 : decode cX0_addGuest 5 = .ok (.getfield 34, 3) := by decide +kernel
theorem dX0_addGuest_8 : decode cX0_addGuest 8 = .ok (.iconst 1, 1) := by decide +kernel
theorem dX0_addGuest_9 : decode cX0_addGuest 9 = .ok (.iastore, 1) := by decide +kernel
theorem dX0_addGuest_10 : decode cX0_addGuest 10 = .ok (.aload_n 0, 1) := by decide +kernel
theorem dX0_addGuest_11 : decode cX0_addGuest 11 = .ok (.dup, 1) := by decide +kernel
theorem dX0_addGuest_12 : decode cX0_addGuest 12 = .ok (.getfield 34, 3) := by decide +kernel
theorem dX0_addGuest_15 : decode cX0_addGuest 15 = .ok (.iconst 1, 1) := by decide +kernel
theorem dX0_addGuest_16 : decode cX0_addGuest 16 = .ok (.iadd, 1) := by decide +kernel
theorem dX0_addGuest_17 : decode cX0_addGuest 17 = .ok (.putfield 34, 3) := by decide +kernel
theorem dX0_addGuest_20 : decode cX0_addGuest 20 = .ok (.aload_n 0, 1) := by decide +kernel
theorem dX0_addGuest_21 : decode cX0_addGuest 21 = .ok (.dup, 1) := by decide +kernel
theorem dX0_addGuest_22 : decode cX0_addGuest 22 = .ok (.getfield 31, 3) := by decide +kernel
theorem dX0_addGuest_25 : decode cX0_addGuest 25 = .ok (.iconst 1, 1) := by decide +kernel
theorem dX0_addGuest_26 : decode cX0_addGuest 26 = .ok (.iadd, 1) := by decide +kernel
theorem dX0_addGuest_27 : decode cX0_addGuest 27 = .ok (.putfield 31, 3) := by decide +kernel
theorem dX0_addGuest_30 : decode cX0_addGuest 30 = .ok (.aload_n 0, 1) := by decide +kernel
theorem dX0_addGuest_31 : decode cX0_addGuest 31 = .ok (.getfield 34, 3) := by decide +kernel
theorem dX0_addGuest_34 : decode cX0_addGuest 34 = .ok (.iconst 1, 1) := by decide +kernel
theorem dX0_addGuest_35 : decode cX0_addGuest 35 = .ok (.isub, 1) := by decide +kernel
theorem dX0_addGuest_36 : decode cX0_addGuest 36 = .ok (.ireturn, 1) := by decide +kernel
theorem dX0_worthAt_0 : decode cX0_worthAt 0 = .ok (.aload_n 0, 1) := by decide +kernel
theorem dX0_worthAt_1 : decode cX0_worthAt 1 = .ok (.getfield 24, 3) := by decide +kernel
theorem dX0_worthAt_4 : decode cX0_worthAt 4 = .ok (.iload_n 1, 1) := by decide +kernel
theorem dX0_worthAt_5 : decode cX0_worthAt 5 = .ok (.bipush 6, 2) := by decide +kernel
theorem dX0_worthAt_7 : decode cX0_worthAt 7 = .ok (.imul, 1) := by decide +kernel
theorem dX0_worthAt_8 : decode cX0_worthAt 8 = .ok (.iload_n 2, 1) := by decide +kernel
theorem dX0_worthAt_9 : decode cX0_worthAt 9 = .ok (.iadd, 1) := by decide +kernel
theorem dX0_worthAt_10 : decode cX0_worthAt 10 = .ok (.iaload, 1) := by decide +kernel
theorem dX0_worthAt_11 : decode cX0_worthAt 11 = .ok (.ireturn, 1) := by decide +kernel
theorem dX0_putWorth_0 : decode cX0_putWorth 0 = .ok (.aload_n 0, 1) := by decide +kernel
theorem dX0_putWorth_1 : decode cX0_putWorth 1 = .ok (.getfield 24, 3) := by decide +kernel
theorem dX0_putWorth_4 : decode cX0_putWorth 4 = .ok (.iload_n 1, 1) := by decide +kernel
theorem dX0_putWorth_5 : decode cX0_putWorth 5 = .ok (.bipush 6, 2) := by decide +kernel
theorem dX0_putWorth_7 : decode cX0_putWorth 7 = .ok (.imul, 1) := by decide +kernel
theorem dX0_putWorth_8 : decode cX0_putWorth 8 = .ok (.iload_n 2, 1) := by decide +kernel
theorem dX0_putWorth_9 : decode cX0_putWorth 9 = .ok (.iadd, 1) := by decide +kernel
theorem dX0_putWorth_10 : decode cX0_putWorth 10 = .ok (.iload_n 3, 1) := by decide +kernel
theorem dX0_putWorth_11 : decode cX0_putWorth 11 = .ok (.iastore, 1) := by decide +kernel
theorem dX0_putWorth_12 : decode cX0_putWorth 12 = .ok (.aload_n 0, 1) := by decide +kernel
theorem dX0_putWorth_13 : decode cX0_putWorth 13 = .ok (.dup, 1) := by decide +kernel
theorem dX0_putWorth_14 : decode cX0_putWorth 14 = .ok (.getfield 31, 3) := by decide +kernel
theorem dX0_putWorth_17 : decode cX0_putWorth 17 = .ok (.iconst 1, 1) := by decide +kernel
theorem dX0_putWorth_18 : decode cX0_putWorth 18 = .ok (.iadd, 1) := by decide +kernel
theorem dX0_putWorth_19 : decode cX0_putWorth 19 = .ok (.putfield 31, 3) := by decide +kernel
theorem dX0_putWorth_22 : decode cX0_putWorth 22 = .ok (.return_, 1) := by decide +kernel
theorem dX0_putChance_0 : decode cX0_putChance 0 = .ok (.aload_n 0, 1) := by decide +kernel
theorem dX0_putChance_1 : decode cX0_putChance 1 = .ok (.getfield 21, 3) := by decide +kernel
theorem dX0_putChance_4 : decode cX0_putChance 4 = .ok (.iload_n 1, 1) := by decide +kernel
theorem dX0_putChance_5 : decode cX0_putChance 5 = .ok (.iload_n 2, 1) := by decide +kernel
theorem dX0_putChance_6 : decode cX0_putChance 6 = .ok (.iastore, 1) := by decide +kernel
theorem dX0_putChance_7 : decode cX0_putChance 7 = .ok (.aload_n 0, 1) := by decide +kernel
theorem dX0_putChance_8 : decode cX0_putChance 8 = .ok (.dup, 1) := by decide +kernel
theorem dX0_putChance_9 : decode cX0_putChance 9 = .ok (.getfield 31, 3) := by decide +kernel
theorem dX0_putChance_12 : decode cX0_putChance 12 = .ok (.iconst 1, 1) := by decide +kernel
theorem dX0_putChance_13 : decode cX0_putChance 13 = .ok (.iadd, 1) := by decide +kernel
theorem dX0_putChance_14 : decode cX0_putChance 14 = .ok (.putfield 31, 3) := by decide +kernel
theorem dX0_putChance_17 : decode cX0_putChance 17 = .ok (.return_, 1) := by decide +kernel
theorem dX0_putRank_0 : decode cX0_putRank 0 = .ok (.aload_n 0, 1) := by decide +kernel
theorem dX0_putRank_1 : decode cX0_putRank 1 = .ok (.getfield 15, 3) := by decide +kernel
theorem dX0_putRank_4 : decode cX0_putRank 4 = .ok (.iload_n 1, 1) := by decide +kernel
theorem dX0_putRank_5 : decode cX0_putRank 5 = .ok (.iload_n 2, 1) := by decide +kernel
theorem dX0_putRank_6 : decode cX0_putRank 6 = .ok (.iastore, 1) := by decide +kernel
theorem dX0_putRank_7 : decode cX0_putRank 7 = .ok (.aload_n 0, 1) := by decide +kernel
theorem dX0_putRank_8 : decode cX0_putRank 8 = .ok (.dup, 1) := by decide +kernel
theorem dX0_putRank_9 : decode cX0_putRank 9 = .ok (.getfield 31, 3) := by decide +kernel
theorem dX0_putRank_12 : decode cX0_putRank 12 = .ok (.iconst 1, 1) := by decide +kernel
theorem dX0_putRank_13 : decode cX0_putRank 13 = .ok (.iadd, 1) := by decide +kernel
theorem dX0_putRank_14 : decode cX0_putRank 14 = .ok (.putfield 31, 3) := by decide +kernel
theorem dX0_putRank_17 : decode cX0_putRank 17 = .ok (.return_, 1) := by decide +kernel
theorem dX0_swapRanks_0 : decode cX0_swapRanks 0 = .ok (.aload_n 0, 1) := by decide +kernel
theorem dX0_swapRanks_1 : decode cX0_swapRanks 1 = .ok (.getfield 15, 3) := by decide +kernel
theorem dX0_swapRanks_4 : decode cX0_swapRanks 4 = .ok (.iload_n 1, 1) := by decide +kernel
theorem dX0_swapRanks_5 : decode cX0_swapRanks 5 = .ok (.iaload, 1) := by decide +kernel
theorem dX0_swapRanks_6 : decode cX0_swapRanks 6 = .ok (.istore_n 3, 1) := by decide +kernel
theorem dX0_swapRanks_7 : decode cX0_swapRanks 7 = .ok (.aload_n 0, 1) := by decide +kernel
theorem dX0_swapRanks_8 : decode cX0_swapRanks 8 = .ok (.getfield 15, 3) := by decide +kernel
theorem dX0_swapRanks_11 : decode cX0_swapRanks 11 = .ok (.iload_n 1, 1) := by decide +kernel
theorem dX0_swapRanks_12 : decode cX0_swapRanks 12 = .ok (.aload_n 0, 1) := by decide +kernel
theorem dX0_swapRanks_13 : decode cX0_swapRanks 13 = .ok (.getfield 15, 3) := by decide +kernel
theorem dX0_swapRanks_16 : decode cX0_swapRanks 16 = .ok (.iload_n 2, 1) := by decide +kernel
theorem dX0_swapRanks_17 : decode cX0_swapRanks 17 = .ok (.iaload, 1) := by decide +kernel
theorem dX0_swapRanks_18 : decode cX0_swapRanks 18 = .ok (.iastore, 1) := by decide +kernel
theorem dX0_swapRanks_19 : decode cX0_swapRanks 19 = .ok (.aload_n 0, 1) := by decide +kernel
theorem dX0_swapRanks_20 : decode cX0_swapRanks 20 = .ok (.getfield 15, 3) := by decide +kernel
theorem dX0_swapRanks_23 : decode cX0_swapRanks 23 = .ok (.iload_n 2, 1) := by decide +kernel
theorem dX0_swapRanks_24 : decode cX0_swapRanks 24 = .ok (.iload_n 3, 1) := by decide +kernel
theorem dX0_swapRanks_25 : decode cX0_swapRanks 25 = .ok (.iastore, 1) := by decide +kernel
theorem dX0_swapRanks_26 : decode cX0_swapRanks 26 = .ok (.return_, 1) := by decide +kernel
theorem dX0_allRooms_0 : decode cX0_allRooms 0 = .ok (.iconst 0, 1) := by decide +kernel
theorem dX0_allRooms_1 : decode cX0_allRooms 1 = .ok (.istore_n 1, 1) := by decide +kernel
theorem dX0_allRooms_2 : decode cX0_allRooms 2 = .ok (.iconst 0, 1) := by decide +kernel
theorem dX0_allRooms_3 : decode cX0_allRooms 3 = .ok (.istore_n 2, 1) := by decide +kernel
theorem dX0_allRooms_4 : decode cX0_allRooms 4 = .ok (.iload_n 2, 1) := by decide +kernel
theorem dX0_allRooms_5 : decode cX0_allRooms 5 = .ok (.aload_n 0, 1) := by decide +kernel
theorem dX0_allRooms_6 : decode cX0_allRooms 6 = .ok (.getfield 27, 3) := by decide +kernel
theorem dX0_allRooms_9 : decode cX0_allRooms 9 = .ok (.if_icmp .ge 18, 3) := by decide +kernel
theorem dX0_allRooms_12 : decode cX0_allRooms 12 = .ok (.iload_n 1, 1) := by decide +kernel
theorem dX0_allRooms_13 : decode cX0_allRooms 13 = .ok (.aload_n 0, 1) := by decide +kernel
theorem dX0_allRooms_14 : decode cX0_allRooms 14 = .ok (.getfield 9, 3) := by decide +kernel
theorem dX0_allRooms_17 : decode cX0_allRooms 17 = .ok (.iload_n 2, 1) := by decide +kernel
theorem dX0_allRooms_18 : decode cX0_allRooms 18 = .ok (.iaload, 1) := by decide +kernel
theorem dX0_allRooms_19 : decode cX0_allRooms 19 = .ok (.iadd, 1) := by decide +kernel
theorem dX0_allRooms_20 : decode cX0_allRooms 20 = .ok (.istore_n 1, 1) := by decide +kernel
theorem dX0_allRooms_21 : decode cX0_allRooms 21 = .ok (.iinc 2 1, 3) := by decide +kernel
theorem dX0_allRooms_24 : decode cX0_allRooms 24 = .ok (.goto (-20), 3) := by decide +kernel
theorem dX0_allRooms_27 : decode cX0_allRooms 27 = .ok (.iload_n 1, 1) := by decide +kernel
theorem dX0_allRooms_28 : decode cX0_allRooms 28 = .ok (.ireturn, 1) := by decide +kernel
theorem dX0_linksOf_0 : decode cX0_linksOf 0 = .ok (.iconst 0, 1) := by decide +kernel
theorem dX0_linksOf_1 : decode cX0_linksOf 1 = .ok (.istore_n 2, 1) := by decide +kernel
theorem dX0_linksOf_2 : decode cX0_linksOf 2 = .ok (.iconst 0, 1) := by decide +kernel
theorem dX0_linksOf_3 : decode cX0_linksOf 3 = .ok (.istore_n 3, 1) := by decide +kernel
theorem dX0_linksOf_4 : decode cX0_linksOf 4 = .ok (.iload_n 3, 1) := by decide +kernel
theorem dX0_linksOf_5 : decode cX0_linksOf 5 = .ok (.aload_n 0, 1) := by decide +kernel
theorem dX0_linksOf_6 : decode cX0_linksOf 6 = .ok (.getfield 34, 3) := by decide +kernel
theorem dX0_linksOf_9 : decode cX0_linksOf 9 = .ok (.if_icmp .ge 21, 3) := by decide +kernel
theorem dX0_linksOf_12 : decode cX0_linksOf 12 = .ok (.aload_n 0, 1) := by decide +kernel
theorem dX0_linksOf_13 : decode cX0_linksOf 13 = .ok (.iload_n 3, 1) := by decide +kernel
theorem dX0_linksOf_14 : decode cX0_linksOf 14 = .ok (.iload_n 1, 1) := by decide +kernel
theorem dX0_linksOf_15 : decode cX0_linksOf 15 = .ok (.invokevirtual 37, 3) := by decide +kernel
theorem dX0_linksOf_18 : decode cX0_linksOf 18 = .ok (.ifCond .le 6, 3) := by decide +kernel
theorem dX0_linksOf_21 : decode cX0_linksOf 21 = .ok (.iinc 2 1, 3) := by decide +kernel
theorem dX0_linksOf_24 : decode cX0_linksOf 24 = .ok (.iinc 3 1, 3) := by decide +kernel
theorem dX0_linksOf_27 : decode cX0_linksOf 27 = .ok (.goto (-23), 3) := by decide +kernel
theorem dX0_linksOf_30 : decode cX0_linksOf 30 = .ok (.iload_n 2, 1) := by decide +kernel
theorem dX0_linksOf_31 : decode cX0_linksOf 31 = .ok (.ireturn, 1) := by decide +kernel
theorem dX0_allLinks_0 : decode cX0_allLinks 0 = .ok (.iconst 0, 1) := by decide +kernel
theorem dX0_allLinks_1 : decode cX0_allLinks 1 = .ok (.istore_n 1, 1) := by decide +kernel
theorem dX0_allLinks_2 : decode cX0_allLinks 2 = .ok (.iconst 0, 1) := by decide +kernel
theorem dX0_allLinks_3 : decode cX0_allLinks 3 = .ok (.istore_n 2, 1) := by decide +kernel
theorem dX0_allLinks_4 : decode cX0_allLinks 4 = .ok (.iload_n 2, 1) := by decide +kernel
theorem dX0_allLinks_5 : decode cX0_allLinks 5 = .ok (.aload_n 0, 1) := by decide +kernel
theorem dX0_allLinks_6 : decode cX0_allLinks 6 = .ok (.getfield 27, 3) := by decide +kernel
theorem dX0_allLinks_9 : decode cX0_allLinks 9 = .ok (.if_icmp .ge 17, 3) := by decide +kernel
theorem dX0_allLinks_12 : decode cX0_allLinks 12 = .ok (.iload_n 1, 1) := by decide +kernel
theorem dX0_allLinks_13 : decode cX0_allLinks 13 = .ok (.aload_n 0, 1) := by decide +kernel
theorem dX0_allLinks_14 : decode cX0_allLinks 14 = .ok (.iload_n 2, 1) := by decide +kernel
theorem dX0_allLinks_15 : decode cX0_allLinks 15 = .ok (.invokevirtual 41, 3) := by decide +kernel
theorem dX0_allLinks_18 : decode cX0_allLinks 18 = .ok (.iadd, 1) := by decide +kernel
theorem dX0_allLinks_19 : decode cX0_allLinks 19 = .ok (.istore_n 1, 1) := by decide +kernel
theorem dX0_allLinks_20 : decode cX0_allLinks 20 = .ok (.iinc 2 1, 3) := by decide +kernel
theorem dX0_allLinks_23 : decode cX0_allLinks 23 = .ok (.goto (-19), 3) := by decide +kernel
theorem dX0_allLinks_26 : decode cX0_allLinks 26 = .ok (.iload_n 1, 1) := by decide +kernel
theorem dX0_allLinks_27 : decode cX0_allLinks 27 = .ok (.ireturn, 1) := by decide +kernel
theorem dX0_gainOver_0 : decode cX0_gainOver 0 = .ok (.iconst 0, 1) := by decide +kernel
theorem dX0_gainOver_1 : decode cX0_gainOver 1 = .ok (.istore_n 3, 1) := by decide +kernel
theorem dX0_gainOver_2 : decode cX0_gainOver 2 = .ok (.iconst 0, 1) := by decide +kernel
theorem dX0_gainOver_3 : decode cX0_gainOver 3 = .ok (.istore 4, 2) := by decide +kernel
theorem dX0_gainOver_5 : decode cX0_gainOver 5 = .ok (.iload 4, 2) := by decide +kernel
theorem dX0_gainOver_7 : decode cX0_gainOver 7 = .ok (.aload_n 0, 1) := by decide +kernel
theorem dX0_gainOver_8 : decode cX0_gainOver 8 = .ok (.getfield 27, 3) := by decide +kernel
theorem dX0_gainOver_11 : decode cX0_gainOver 11 = .ok (.if_icmp .ge 26, 3) := by decide +kernel
theorem dX0_gainOver_14 : decode cX0_gainOver 14 = .ok (.iload_n 3, 1) := by decide +kernel
theorem dX0_gainOver_15 : decode cX0_gainOver 15 = .ok (.aload_n 0, 1) := by decide +kernel
theorem dX0_gainOver_16 : decode cX0_gainOver 16 = .ok (.iload_n 1, 1) := by decide +kernel
theorem dX0_gainOver_17 : decode cX0_gainOver 17 = .ok (.iload 4, 2) := by decide +kernel
theorem dX0_gainOver_19 : decode cX0_gainOver 19 = .ok (.invokevirtual 37, 3) := by decide +kernel
theorem dX0_gainOver_22 : decode cX0_gainOver 22 = .ok (.aload_n 2, 1) := by decide +kernel
theorem dX0_gainOver_23 : decode cX0_gainOver 23 = .ok (.iload 4, 2) := by decide +kernel
theorem dX0_gainOver_25 : decode cX0_gainOver 25 = .ok (.iaload, 1) := by decide +kernel
theorem dX0_gainOver_26 : decode cX0_gainOver 26 = .ok (.isub, 1) := by decide +kernel
theorem dX0_gainOver_27 : decode cX0_gainOver 27 = .ok (.invokestatic 45, 3) := by decide +kernel
theorem dX0_gainOver_30 : decode cX0_gainOver 30 = .ok (.istore_n 3, 1) := by decide +kernel
theorem dX0_gainOver_31 : decode cX0_gainOver 31 = .ok (.iinc 4 1, 3) := by decide +kernel
theorem dX0_gainOver_34 : decode cX0_gainOver 34 = .ok (.goto (-29), 3) := by decide +kernel
theorem dX0_gainOver_37 : decode cX0_gainOver 37 = .ok (.iload_n 3, 1) := by decide +kernel
theorem dX0_gainOver_38 : decode cX0_gainOver 38 = .ok (.ireturn, 1) := by decide +kernel
theorem dX0_copyOf_0 : decode cX0_copyOf 0 = .ok (.aload_n 1, 1) := by decide +kernel
theorem dX0_copyOf_1 : decode cX0_copyOf 1 = .ok (.getfield 9, 3) := by decide +kernel
theorem dX0_copyOf_4 : decode cX0_copyOf 4 = .ok (.iconst 0, 1) := by decide +kernel
theorem dX0_copyOf_5 : decode cX0_copyOf 5 = .ok (.aload_n 0, 1) := by decide +kernel
theorem dX0_copyOf_6 : decode cX0_copyOf 6 = .ok (.getfield 9, 3) := by decide +kernel
theorem dX0_copyOf_9 : decode cX0_copyOf 9 = .ok (.iconst 0, 1) := by decide +kernel
theorem dX0_copyOf_10 : decode cX0_copyOf 10 = .ok (.bipush 6, 2) := by decide +kernel
theorem dX0_copyOf_12 : decode cX0_copyOf 12 = .ok (.invokestatic 50, 3) := by decide +kernel
theorem dX0_copyOf_15 : decode cX0_copyOf 15 = .ok (.aload_n 1, 1) := by decide +kernel
theorem dX0_copyOf_16 : decode cX0_copyOf 16 = .ok (.getfield 15, 3) := by decide +kernel
theorem dX0_copyOf_19 : decode cX0_copyOf 19 = .ok (.iconst 0, 1) := by decide +kernel
theorem dX0_copyOf_20 : decode cX0_copyOf 20 = .ok (.aload_n 0, 1) := by decide +kernel
theorem dX0_copyOf_21 : decode cX0_copyOf 21 = .ok (.getfield 15, 3) := by decide +kernel
theorem dX0_copyOf_24 : decode cX0_copyOf 24 = .ok (.iconst 0, 1) := by decide +kernel
theorem dX0_copyOf_25 : decode cX0_copyOf 25 = .ok (.bipush 6, 2) := by decide +kernel
theorem dX0_copyOf_27 : decode cX0_copyOf 27 = .ok (.invokestatic 50, 3) := by decide +kernel
theorem dX0_copyOf_30 : decode cX0_copyOf 30 = .ok (.aload_n 1, 1) := by decide +kernel
theorem dX0_copyOf_31 : decode cX0_copyOf 31 = .ok (.getfield 18, 3) := by decide +kernel
theorem dX0_copyOf_34 : decode cX0_copyOf 34 = .ok (.iconst 0, 1) := by decide +kernel
theorem dX0_copyOf_35 : decode cX0_copyOf 35 = .ok (.aload_n 0, 1) := by decide +kernel
theorem dX0_copyOf_36 : decode cX0_copyOf 36 = .ok (.getfield 18, 3) := by decide +kernel
theorem dX0_copyOf_39 : decode cX0_copyOf 39 = .ok (.iconst 0, 1) := by decide +kernel
theorem dX0_copyOf_40 : decode cX0_copyOf 40 = .ok (.bipush 6, 2) := by decide +kernel
theorem dX0_copyOf_42 : decode cX0_copyOf 42 = .ok (.invokestatic 50, 3) := by decide +kernel
theorem dX0_copyOf_45 : decode cX0_copyOf 45 = .ok (.aload_n 1, 1) := by decide +kernel
theorem dX0_copyOf_46 : decode cX0_copyOf 46 = .ok (.getfield 24, 3) := by decide +kernel
theorem dX0_copyOf_49 : decode cX0_copyOf 49 = .ok (.iconst 0, 1) := by decide +kernel
theorem dX0_copyOf_50 : decode cX0_copyOf 50 = .ok (.aload_n 0, 1) := by decide +kernel
theorem dX0_copyOf_51 : decode cX0_copyOf 51 = .ok (.getfield 24, 3) := by decide +kernel
theorem dX0_copyOf_54 : decode cX0_copyOf 54 = .ok (.iconst 0, 1) := by decide +kernel
theorem dX0_copyOf_55 : decode cX0_copyOf 55 = .ok (.bipush 54, 2) := by decide +kernel
theorem dX0_copyOf_57 : decode cX0_copyOf 57 = .ok (.invokestatic 50, 3) := by decide +kernel
theorem dX0_copyOf_60 : decode cX0_copyOf 60 = .ok (.aload_n 0, 1) := by decide +kernel
theorem dX0_copyOf_61 : decode cX0_copyOf 61 = .ok (.aload_n 1, 1) := by decide +kernel
theorem dX0_copyOf_62 : decode cX0_copyOf 62 = .ok (.getfield 27, 3) := by decide +kernel
theorem dX0_copyOf_65 : decode cX0_copyOf 65 = .ok (.putfield 27, 3) := by decide +kernel
theorem dX0_copyOf_68 : decode cX0_copyOf 68 = .ok (.aload_n 0, 1) := by decide +kernel
theorem dX0_copyOf_69 : decode cX0_copyOf 69 = .ok (.aload_n 1, 1) := by decide +kernel
theorem dX0_copyOf_70 : decode cX0_copyOf 70 = .ok (.getfield 34, 3) := by decide +kernel
theorem dX0_copyOf_73 : decode cX0_copyOf 73 = .ok (.putfield 34, 3) := by decide +kernel
theorem dX0_copyOf_76 : decode cX0_copyOf 76 = .ok (.return_, 1) := by decide +kernel
theorem dX0_becomeSquare_0 : decode cX0_becomeSquare 0 = .ok (.aload_n 0, 1) := by decide +kernel
theorem dX0_becomeSquare_1 : decode cX0_becomeSquare 1 = .ok (.iload_n 1, 1) := by decide +kernel
theorem dX0_becomeSquare_2 : decode cX0_becomeSquare 2 = .ok (.putfield 27, 3) := by decide +kernel
theorem dX0_becomeSquare_5 : decode cX0_becomeSquare 5 = .ok (.aload_n 0, 1) := by decide +kernel
theorem dX0_becomeSquare_6 : decode cX0_becomeSquare 6 = .ok (.iload_n 1, 1) := by decide +kernel
theorem dX0_becomeSquare_7 : decode cX0_becomeSquare 7 = .ok (.putfield 34, 3) := by decide +kernel
theorem dX0_becomeSquare_10 : decode cX0_becomeSquare 10 = .ok (.iconst 0, 1) := by decide +kernel
theorem dX0_becomeSquare_11 : decode cX0_becomeSquare 11 = .ok (.istore_n 2, 1) := by decide +kernel
theorem dX0_becomeSquare_12 : decode cX0_becomeSquare 12 = .ok (.iload_n 2, 1) := by decide +kernel
theorem dX0_becomeSquare_13 : decode cX0_becomeSquare 13 = .ok (.iload_n 1, 1) := by decide +kernel
theorem dX0_becomeSquare_14 : decode cX0_becomeSquare 14 = .ok (.if_icmp .ge 32, 3) := by decide +kernel
theorem dX0_becomeSquare_17 : decode cX0_becomeSquare 17 = .ok (.aload_n 0, 1) := by decide +kernel
theorem dX0_becomeSquare_18 : decode cX0_becomeSquare 18 = .ok (.getfield 9, 3) := by decide +kernel
theorem dX0_becomeSquare_21 : decode cX0_becomeSquare 21 = .ok (.iload_n 2, 1) := by decide +kernel
theorem dX0_becomeSquare_22 : decode cX0_becomeSquare 22 = .ok (.iconst 1, 1) := by decide +kernel
theorem dX0_becomeSquare_23 : decode cX0_becomeSquare 23 = .ok (.iastore, 1) := by decide +kernel
theorem dX0_becomeSquare_24 : decode cX0_becomeSquare 24 = .ok (.aload_n 0, 1) := by decide +kernel
theorem dX0_becomeSquare_25 : decode cX0_becomeSquare 25 = .ok (.getfield 15, 3) := by decide +kernel
theorem dX0_becomeSquare_28 : decode cX0_becomeSquare 28 = .ok (.iload_n 2, 1) := by decide +kernel
theorem dX0_becomeSquare_29 : decode cX0_becomeSquare 29 = .ok (.iload_n 2, 1) := by decide +kernel
theorem dX0_becomeSquare_30 : decode cX0_becomeSquare 30 = .ok (.iastore, 1) := by decide +kernel
theorem dX0_becomeSquare_31 : decode cX0_becomeSquare 31 = .ok (.aload_n 0, 1) := by decide +kernel
theorem dX0_becomeSquare_32 : decode cX0_becomeSquare 32 = .ok (.getfield 18, 3) := by decide +kernel
theorem dX0_becomeSquare_35 : decode cX0_becomeSquare 35 = .ok (.iload_n 2, 1) := by decide +kernel
theorem dX0_becomeSquare_36 : decode cX0_becomeSquare 36 = .ok (.sipush 999, 3) := by decide +kernel
theorem dX0_becomeSquare_39 : decode cX0_becomeSquare 39 = .ok (.iastore, 1) := by decide +kernel
theorem dX0_becomeSquare_40 : decode cX0_becomeSquare 40 = .ok (.iinc 2 1, 3) := by decide +kernel
theorem dX0_becomeSquare_43 : decode cX0_becomeSquare 43 = .ok (.goto (-31), 3) := by decide +kernel
theorem dX0_becomeSquare_46 : decode cX0_becomeSquare 46 = .ok (.return_, 1) := by decide +kernel
theorem dX0_linkByBits_0 : decode cX0_linkByBits 0 = .ok (.iload_n 1, 1) := by decide +kernel
theorem dX0_linkByBits_1 : decode cX0_linkByBits 1 = .ok (.istore_n 2, 1) := by decide +kernel
theorem dX0_linkByBits_2 : decode cX0_linkByBits 2 = .ok (.iconst 0, 1) := by decide +kernel
theorem dX0_linkByBits_3 : decode cX0_linkByBits 3 = .ok (.istore_n 3, 1) := by decide +kernel
theorem dX0_linkByBits_4 : decode cX0_linkByBits 4 = .ok (.iload_n 3, 1) := by decide +kernel
theorem dX0_linkByBits_5 : decode cX0_linkByBits 5 = .ok (.aload_n 0, 1) := by decide +kernel
theorem dX0_linkByBits_6 : decode cX0_linkByBits 6 = .ok (.getfield 34, 3) := by decide +kernel
theorem dX0_linkByBits_9 : decode cX0_linkByBits 9 = .ok (.if_icmp .ge 46, 3) := by decide +kernel
theorem dX0_linkByBits_12 : decode cX0_linkByBits 12 = .ok (.iconst 0, 1) := by decide +kernel
theorem dX0_linkByBits_13 : decode cX0_linkByBits 13 = .ok (.istore 4, 2) := by decide +kernel
theorem dX0_linkByBits_15 : decode cX0_linkByBits 15 = .ok (.iload 4, 2) := by decide +kernel
theorem dX0_linkByBits_17 : decode cX0_linkByBits 17 = .ok (.aload_n 0, 1) := by decide +kernel
theorem dX0_linkByBits_18 : decode cX0_linkByBits 18 = .ok (.getfield 27, 3) := by decide +kernel
theorem dX0_linkByBits_21 : decode cX0_linkByBits 21 = .ok (.if_icmp .ge 28, 3) := by decide +kernel
theorem dX0_linkByBits_24 : decode cX0_linkByBits 24 = .ok (.aload_n 0, 1) := by decide +kernel
theorem dX0_linkByBits_25 : decode cX0_linkByBits 25 = .ok (.getfield 24, 3) := by decide +kernel
theorem dX0_linkByBits_28 : decode cX0_linkByBits 28 = .ok (.iload_n 3, 1) := by decide +kernel
theorem dX0_linkByBits_29 : decode cX0_linkByBits 29 = .ok (.bipush 6, 2) := by decide +kernel
theorem dX0_linkByBits_31 : decode cX0_linkByBits 31 = .ok (.imul, 1) := by decide +kernel
theorem dX0_linkByBits_32 : decode cX0_linkByBits 32 = .ok (.iload 4, 2) := by decide +kernel
theorem dX0_linkByBits_34 : decode cX0_linkByBits 34 = .ok (.iadd, 1) := by decide +kernel
theorem dX0_linkByBits_35 : decode cX0_linkByBits 35 = .ok (.iload_n 2, 1) := by decide +kernel
theorem dX0_linkByBits_36 : decode cX0_linkByBits 36 = .ok (.iconst 1, 1) := by decide +kernel
theorem dX0_linkByBits_37 : decode cX0_linkByBits 37 = .ok (.iand, 1) := by decide +kernel
theorem dX0_linkByBits_38 : decode cX0_linkByBits 38 = .ok (.iastore, 1) := by decide +kernel
theorem dX0_linkByBits_39 : decode cX0_linkByBits 39 = .ok (.iload_n 2, 1) := by decide +kernel
theorem dX0_linkByBits_40 : decode cX0_linkByBits 40 = .ok (.iconst 1, 1) := by decide +kernel
theorem dX0_linkByBits_41 : decode cX0_linkByBits 41 = .ok (.ishr, 1) := by decide +kernel
theorem dX0_linkByBits_42 : decode cX0_linkByBits 42 = .ok (.istore_n 2, 1) := by decide +kernel
theorem dX0_linkByBits_43 : decode cX0_linkByBits 43 = .ok (.iinc 4 1, 3) := by decide +kernel
theorem dX0_linkByBits_46 : decode cX0_linkByBits 46 = .ok (.goto (-31), 3) := by decide +kernel
theorem dX0_linkByBits_49 : decode cX0_linkByBits 49 = .ok (.iinc 3 1, 3) := by decide +kernel
theorem dX0_linkByBits_52 : decode cX0_linkByBits 52 = .ok (.goto (-48), 3) := by decide +kernel
theorem dX0_linkByBits_55 : decode cX0_linkByBits 55 = .ok (.return_, 1) := by decide +kernel
theorem dX1_init_0 : decode cX1_init 0 = .ok (.aload_n 0, 1) := by decide +kernel
theorem dX1_init_1 : decode cX1_init 1 = .ok (.invokespecial 3, 3) := by decide +kernel
theorem dX1_init_4 : decode cX1_init 4 = .ok (.aload_n 0, 1) := by decide +kernel
theorem dX1_init_5 : decode cX1_init 5 = .ok (.bipush 7, 2) := by decide +kernel
theorem dX1_init_7 : decode cX1_init 7 = .ok (.newarray .long, 2) := by decide +kernel
theorem dX1_init_9 : decode cX1_init 9 = .ok (.putfield 9, 3) := by decide +kernel
theorem dX1_init_12 : decode cX1_init 12 = .ok (.aload_n 0, 1) := by decide +kernel
theorem dX1_init_13 : decode cX1_init 13 = .ok (.new 15, 3) := by decide +kernel
theorem dX1_init_16 : decode cX1_init 16 = .ok (.dup, 1) := by decide +kernel
theorem dX1_init_17 : decode cX1_init 17 = .ok (.invokespecial 17, 3) := by decide +kernel
theorem dX1_init_20 : decode cX1_init 20 = .ok (.putfield 18, 3) := by decide +kernel
theorem dX1_init_23 : decode cX1_init 23 = .ok (.aload_n 0, 1) := by decide +kernel
theorem dX1_init_24 : decode cX1_init 24 = .ok (.sipush 2268, 3) := by decide +kernel
theorem dX1_init_27 : decode cX1_init 27 = .ok (.newarray .long, 2) := by decide +kernel
theorem dX1_init_29 : decode cX1_init 29 = .ok (.putfield 22, 3) := by decide +kernel
theorem dX1_init_32 : decode cX1_init 32 = .ok (.aload_n 0, 1) := by decide +kernel
theorem dX1_init_33 : decode cX1_init 33 = .ok (.iconst (-1), 1) := by decide +kernel
theorem dX1_init_34 : decode cX1_init 34 = .ok (.putfield 25, 3) := by decide +kernel
theorem dX1_init_37 : decode cX1_init 37 = .ok (.aload_n 0, 1) := by decide +kernel
theorem dX1_init_38 : decode cX1_init 38 = .ok (.aload_n 1, 1) := by decide +kernel
theorem dX1_init_39 : decode cX1_init 39 = .ok (.putfield 29, 3) := by decide +kernel
theorem dX1_init_42 : decode cX1_init 42 = .ok (.return_, 1) := by decide +kernel
theorem dX1_bringUp_0 : decode cX1_bringUp 0 = .ok (.aload_n 0, 1) := by decide +kernel
theorem dX1_bringUp_1 : decode cX1_bringUp 1 = .ok (.getfield 25, 3) := by decide +kernel
theorem dX1_bringUp_4 : decode cX1_bringUp 4 = .ok (.aload_n 0, 1) := by decide +kernel
theorem dX1_bringUp_5 : decode cX1_bringUp 5 = .ok (.getfield 29, 3) := by decide +kernel
theorem dX1_bringUp_8 : decode cX1_bringUp 8 = .ok (.getfield 33, 3) := by decide +kernel
theorem dX1_bringUp_11 : decode cX1_bringUp 11 = .ok (.if_icmp .ne 4, 3) := by decide +kernel
theorem dX1_bringUp_14 : decode cX1_bringUp 14 = .ok (.return_, 1) := by decide +kernel
theorem dX1_bringUp_15 : decode cX1_bringUp 15 = .ok (.aload_n 0, 1) := by decide +kernel
theorem dX1_bringUp_16 : decode cX1_bringUp 16 = .ok (.aload_n 0, 1) := by decide +kernel
theorem dX1_bringUp_17 : decode cX1_bringUp 17 = .ok (.getfield 29, 3) := by decide +kernel
theorem dX1_bringUp_20 : decode cX1_bringUp 20 = .ok (.getfield 33, 3) := by decide +kernel
theorem dX1_bringUp_23 : decode cX1_bringUp 23 = .ok (.putfield 25, 3) := by decide +kernel
theorem dX1_bringUp_26 : decode cX1_bringUp 26 = .ok (.aload_n 0, 1) := by decide +kernel
theorem dX1_bringUp_27 : decode cX1_bringUp 27 = .ok (.getfield 18, 3) := by decide +kernel
theorem dX1_bringUp_30 : decode cX1_bringUp 30 = .ok (.aload_n 0, 1) := by decide +kernel
theorem dX1_bringUp_31 : decode cX1_bringUp 31 = .ok (.getfield 29, 3) := by decide +kernel
theorem dX1_bringUp_34 : decode cX1_bringUp 34 = .ok (.bipush (-4), 2) := by decide +kernel
theorem dX1_bringUp_36 : decode cX1_bringUp 36 = .ok (.invokevirtual 36, 3) := by decide +kernel
theorem dX1_bringUp_39 : decode cX1_bringUp 39 = .ok (.aload_n 0, 1) := by decide +kernel
theorem dX1_bringUp_40 : decode cX1_bringUp 40 = .ok (.iconst 0, 1) := by decide +kernel
theorem dX1_bringUp_41 : decode cX1_bringUp 41 = .ok (.putfield 40, 3) := by decide +kernel
theorem dX1_bringUp_44 : decode cX1_bringUp 44 = .ok (.iconst 0, 1) := by decide +kernel
theorem dX1_bringUp_45 : decode cX1_bringUp 45 = .ok (.istore_n 1, 1) := by decide +kernel
theorem dX1_bringUp_46 : decode cX1_bringUp 46 = .ok (.iload_n 1, 1) := by decide +kernel
theorem dX1_bringUp_47 : decode cX1_bringUp 47 = .ok (.aload_n 0, 1) := by decide +kernel
theorem dX1_bringUp_48 : decode cX1_bringUp 48 = .ok (.getfield 29, 3) := by decide +kernel
theorem dX1_bringUp_51 : decode cX1_bringUp 51 = .ok (.getfield 43, 3) := by decide +kernel
theorem dX1_bringUp_54 : decode cX1_bringUp 54 = .ok (.if_icmp .ge 27, 3) := by decide +kernel
theorem dX1_bringUp_57 : decode cX1_bringUp 57 = .ok (.aload_n 0, 1) := by decide +kernel
theorem dX1_bringUp_58 : decode cX1_bringUp 58 = .ok (.dup, 1) := by decide +kernel
theorem dX1_bringUp_59 : decode cX1_bringUp 59 = .ok (.getfield 40, 3) := by decide +kernel
theorem dX1_bringUp_62 : decode cX1_bringUp 62 = .ok (.aload_n 0, 1) := by decide +kernel
theorem dX1_bringUp_63 : decode cX1_bringUp 63 = .ok (.getfield 29, 3) := by decide +kernel
theorem dX1_bringUp_66 : decode cX1_bringUp 66 = .ok (.getfield 46, 3) := by decide +kernel
theorem dX1_bringUp_69 : decode cX1_bringUp 69 = .ok (.iload_n 1, 1) := by decide +kernel
theorem dX1_bringUp_70 : decode cX1_bringUp 70 = .ok (.iaload, 1) := by decide +kernel
theorem dX1_bringUp_71 : decode cX1_bringUp 71 = .ok (.iadd, 1) := by decide +kernel
theorem dX1_bringUp_72 : decode cX1_bringUp 72 = .ok (.putfield 40, 3) := by decide +kernel
theorem dX1_bringUp_75 : decode cX1_bringUp 75 = .ok (.iinc 1 1, 3) := by decide +kernel
theorem dX1_bringUp_78 : decode cX1_bringUp 78 = .ok (.goto (-32), 3) := by decide +kernel
theorem dX1_bringUp_81 : decode cX1_bringUp 81 = .ok (.aload_n 0, 1) := by decide +kernel
theorem dX1_bringUp_82 : decode cX1_bringUp 82 = .ok (.getfield 9, 3) := by decide +kernel
theorem dX1_bringUp_85 : decode cX1_bringUp 85 = .ok (.iconst 0, 1) := by decide +kernel
theorem dX1_bringUp_86 : decode cX1_bringUp 86 = .ok (.lconst 1, 1) := by decide +kernel
theorem dX1_bringUp_87 : decode cX1_bringUp 87 = .ok (.lastore, 1) := by decide +kernel
theorem dX1_bringUp_88 : decode cX1_bringUp 88 = .ok (.iconst 1, 1) := by decide +kernel
theorem dX1_bringUp_89 : decode cX1_bringUp 89 = .ok (.istore_n 1, 1) := by decide +kernel
theorem dX1_bringUp_90 : decode cX1_bringUp 90 = .ok (.iload_n 1, 1) := by decide +kernel
theorem dX1_bringUp_91 : decode cX1_bringUp 91 = .ok (.bipush 6, 2) := by decide +kernel
theorem dX1_bringUp_93 : decode cX1_bringUp 93 = .ok (.if_icmp .gt 34, 3) := by decide +kernel
theorem dX1_bringUp_96 : decode cX1_bringUp 96 = .ok (.aload_n 0, 1) := by decide +kernel
theorem dX1_bringUp_97 : decode cX1_bringUp 97 = .ok (.getfield 9, 3) := by decide +kernel
theorem dX1_bringUp_100 : decode cX1_bringUp 100 = .ok (.iload_n 1, 1) := by decide +kernel
theorem dX1_bringUp_101 : decode cX1_bringUp 101 = .ok (.aload_n 0, 1) := by decide +kernel
theorem dX1_bringUp_102 : decode cX1_bringUp 102 = .ok (.getfield 9, 3) := by decide +kernel
theorem dX1_bringUp_105 : decode cX1_bringUp 105 = .ok (.iload_n 1, 1) := by decide +kernel
theorem dX1_bringUp_106 : decode cX1_bringUp 106 = .ok (.iconst 1, 1) := by decide +kernel
theorem dX1_bringUp_107 : decode cX1_bringUp 107 = .ok (.isub, 1) := by decide +kernel
theorem dX1_bringUp_108 : decode cX1_bringUp 108 = .ok (.laload, 1) := by decide +kernel
theorem dX1_bringUp_109 : decode cX1_bringUp 109 = .ok (.aload_n 0, 1) := by decide +kernel
theorem dX1_bringUp_110 : decode cX1_bringUp 110 = .ok (.getfield 40, 3) := by decide +kernel
theorem dX1_bringUp_113 : decode cX1_bringUp 113 = .ok (.i2l, 1) := by decide +kernel
theorem dX1_bringUp_114 : decode cX1_bringUp 114 = .ok (.lmul, 1) := by decide +kernel
theorem dX1_bringUp_115 : decode cX1_bringUp 115 = .ok (.lastore, 1) := by decide +kernel
theorem dX1_bringUp_116 : decode cX1_bringUp 116 = .ok (.aload_n 0, 1) := by decide +kernel
theorem dX1_bringUp_117 : decode cX1_bringUp 117 = .ok (.iload_n 1, 1) := by decide +kernel
theorem dX1_bringUp_118 : decode cX1_bringUp 118 = .ok (.invokevirtual 50, 3) := by decide +kernel
theorem dX1_bringUp_121 : decode cX1_bringUp 121 = .ok (.iinc 1 1, 3) := by decide +kernel
theorem dX1_bringUp_124 : decode cX1_bringUp 124 = .ok (.goto (-34), 3) := by decide +kernel
theorem dX1_bringUp_127 : decode cX1_bringUp 127 = .ok (.return_, 1) := by decide +kernel
theorem dX1_fill_0 : decode cX1_fill 0 = .ok (.aload_n 0, 1) := by decide +kernel
theorem dX1_fill_1 : decode cX1_fill 1 = .ok (.getfield 18, 3) := by decide +kernel
theorem dX1_fill_4 : decode cX1_fill 4 = .ok (.getfield 54, 3) := by decide +kernel
theorem dX1_fill_7 : decode cX1_fill 7 = .ok (.aload_n 0, 1) := by decide +kernel
theorem dX1_fill_8 : decode cX1_fill 8 = .ok (.getfield 18, 3) := by decide +kernel
theorem dX1_fill_11 : decode cX1_fill 11 = .ok (.invokevirtual 57, 3) := by decide +kernel
theorem dX1_fill_14 : decode cX1_fill 14 = .ok (.iaload, 1) := by decide +kernel
theorem dX1_fill_15 : decode cX1_fill 15 = .ok (.istore_n 2, 1) := by decide +kernel
theorem dX1_fill_16 : decode cX1_fill 16 = .ok (.iconst 0, 1) := by decide +kernel
theorem dX1_fill_17 : decode cX1_fill 17 = .ok (.istore_n 3, 1) := by decide +kernel
theorem dX1_fill_18 : decode cX1_fill 18 = .ok (.iload_n 3, 1) := by decide +kernel
theorem dX1_fill_19 : decode cX1_fill 19 = .ok (.aload_n 0, 1) := by decide +kernel
theorem dX1_fill_20 : decode cX1_fill 20 = .ok (.getfield 18, 3) := by decide +kernel
theorem dX1_fill_23 : decode cX1_fill 23 = .ok (.getfield 61, 3) := by decide +kernel
theorem dX1_fill_26 : decode cX1_fill 26 = .ok (.if_icmp .ge 90, 3) := by decide +kernel
theorem dX1_fill_29 : decode cX1_fill 29 = .ok (.iload_n 2, 1) := by decide +kernel
theorem dX1_fill_30 : decode cX1_fill 30 = .ok (.aload_n 0, 1) := by decide +kernel
theorem dX1_fill_31 : decode cX1_fill 31 = .ok (.getfield 18, 3) := by decide +kernel
theorem dX1_fill_34 : decode cX1_fill 34 = .ok (.getfield 54, 3) := by decide +kernel
theorem dX1_fill_37 : decode cX1_fill 37 = .ok (.iload_n 3, 1) := by decide +kernel
theorem dX1_fill_38 : decode cX1_fill 38 = .ok (.iaload, 1) := by decide +kernel
theorem dX1_fill_39 : decode cX1_fill 39 = .ok (.isub, 1) := by decide +kernel
theorem dX1_fill_40 : decode cX1_fill 40 = .ok (.bipush 6, 2) := by decide +kernel
theorem dX1_fill_42 : decode cX1_fill 42 = .ok (.iload_n 1, 1) := by decide +kernel
theorem dX1_fill_43 : decode cX1_fill 43 = .ok (.isub, 1) := by decide +kernel
theorem dX1_fill_44 : decode cX1_fill 44 = .ok (.if_icmp .gt 66, 3) := by decide +kernel
theorem dX1_fill_47 : decode cX1_fill 47 = .ok (.lconst 0, 1) := by decide +kernel
theorem dX1_fill_48 : decode cX1_fill 48 = .ok (.lstore 4, 2) := by decide +kernel
theorem dX1_fill_50 : decode cX1_fill 50 = .ok (.iconst 0, 1) := by decide +kernel
theorem dX1_fill_51 : decode cX1_fill 51 = .ok (.istore 6, 2) := by decide +kernel
theorem dX1_fill_53 : decode cX1_fill 53 = .ok (.iload 6, 2) := by decide +kernel
theorem dX1_fill_55 : decode cX1_fill 55 = .ok (.aload_n 0, 1) := by decide +kernel
theorem dX1_fill_56 : decode cX1_fill 56 = .ok (.getfield 29, 3) := by decide +kernel
theorem dX1_fill_59 : decode cX1_fill 59 = .ok (.getfield 43, 3) := by decide +kernel
theorem dX1_fill_62 : decode cX1_fill 62 = .ok (.if_icmp .ge 34, 3) := by decide +kernel
theorem dX1_fill_65 : decode cX1_fill 65 = .ok (.lload 4, 2) := by decide +kernel
theorem dX1_fill_67 : decode cX1_fill 67 = .ok (.aload_n 0, 1) := by decide +kernel
theorem dX1_fill_68 : decode cX1_fill 68 = .ok (.getfield 29, 3) := by decide +kernel
theorem dX1_fill_71 : decode cX1_fill 71 = .ok (.getfield 46, 3) := by decide +kernel
theorem dX1_fill_74 : decode cX1_fill 74 = .ok (.iload 6, 2) := by decide +kernel
theorem dX1_fill_76 : decode cX1_fill 76 = .ok (.iaload, 1) := by decide +kernel
theorem dX1_fill_77 : decode cX1_fill 77 = .ok (.i2l, 1) := by decide +kernel
theorem dX1_fill_78 : decode cX1_fill 78 = .ok (.aload_n 0, 1) := by decide +kernel
theorem dX1_fill_79 : decode cX1_fill 79 = .ok (.iload 6, 2) := by decide +kernel
theorem dX1_fill_81 : decode cX1_fill 81 = .ok (.iload_n 1, 1) := by decide +kernel
theorem dX1_fill_82 : decode cX1_fill 82 = .ok (.iload_n 3, 1) := by decide +kernel
theorem dX1_fill_83 : decode cX1_fill 83 = .ok (.invokevirtual 64, 3) := by decide +kernel
theorem dX1_fill_86 : decode cX1_fill 86 = .ok (.lmul, 1) := by decide +kernel
theorem dX1_fill_87 : decode cX1_fill 87 = .ok (.ladd, 1) := by decide +kernel
theorem dX1_fill_88 : decode cX1_fill 88 = .ok (.lstore 4, 2) := by decide +kernel
theorem dX1_fill_90 : decode cX1_fill 90 = .ok (.iinc 6 1, 3) := by decide +kernel
theorem dX1_fill_93 : decode cX1_fill 93 = .ok (.goto (-40), 3) := by decide +kernel
theorem dX1_fill_96 : decode cX1_fill 96 = .ok (.aload_n 0, 1) := by decide +kernel
theorem dX1_fill_97 : decode cX1_fill 97 = .ok (.getfield 22, 3) := by decide +kernel
theorem dX1_fill_100 : decode cX1_fill 100 = .ok (.iload_n 1, 1) := by decide +kernel
theorem dX1_fill_101 : decode cX1_fill 101 = .ok (.sipush 324, 3) := by decide +kernel
theorem dX1_fill_104 : decode cX1_fill 104 = .ok (.imul, 1) := by decide +kernel
theorem dX1_fill_105 : decode cX1_fill 105 = .ok (.iload_n 3, 1) := by decide +kernel
theorem dX1_fill_106 : decode cX1_fill 106 = .ok (.iadd, 1) := by decide +kernel
theorem dX1_fill_107 : decode cX1_fill 107 = .ok (.lload 4, 2) := by decide +kernel
theorem dX1_fill_109 : decode cX1_fill 109 = .ok (.lastore, 1) := by decide +kernel
theorem dX1_fill_110 : decode cX1_fill 110 = .ok (.iinc 3 1, 3) := by decide +kernel
theorem dX1_fill_113 : decode cX1_fill 113 = .ok (.goto (-95), 3) := by decide +kernel
theorem dX1_fill_116 : decode cX1_fill 116 = .ok (.return_, 1) := by decide +kernel
theorem dX1_greatestFor_0 : decode cX1_greatestFor 0 = .ok (.aload_n 0, 1) := by decide +kernel
theorem dX1_greatestFor_1 : decode cX1_greatestFor 1 = .ok (.getfield 22, 3) := by decide +kernel
theorem dX1_greatestFor_4 : decode cX1_greatestFor 4 = .ok (.iload_n 2, 1) := by decide +kernel
theorem dX1_greatestFor_5 : decode cX1_greatestFor 5 = .ok (.iconst 1, 1) := by decide +kernel
theorem dX1_greatestFor_6 : decode cX1_greatestFor 6 = .ok (.isub, 1) := by decide +kernel
theorem dX1_greatestFor_7 : decode cX1_greatestFor 7 = .ok (.sipush 324, 3) := by decide +kernel
theorem dX1_greatestFor_10 : decode cX1_greatestFor 10 = .ok (.imul, 1) := by decide +kernel
theorem dX1_greatestFor_11 : decode cX1_greatestFor 11 = .ok (.iload_n 3, 1) := by decide +kernel
theorem dX1_greatestFor_12 : decode cX1_greatestFor 12 = .ok (.iadd, 1) := by decide +kernel
theorem dX1_greatestFor_13 : decode cX1_greatestFor 13 = .ok (.laload, 1) := by decide +kernel
theorem dX1_greatestFor_14 : decode cX1_greatestFor 14 = .ok (.lstore 4, 2) := by decide +kernel
theorem dX1_greatestFor_16 : decode cX1_greatestFor 16 = .ok (.iconst 0, 1) := by decide +kernel
theorem dX1_greatestFor_17 : decode cX1_greatestFor 17 = .ok (.istore 6, 2) := by decide +kernel
theorem dX1_greatestFor_19 : decode cX1_greatestFor 19 = .ok (.iload 6, 2) := by decide +kernel
theorem dX1_greatestFor_21 : decode cX1_greatestFor 21 = .ok (.aload_n 0, 1) := by decide +kernel
theorem dX1_greatestFor_22 : decode cX1_greatestFor 22 = .ok (.getfield 29, 3) := by decide +kernel
theorem dX1_greatestFor_25 : decode cX1_greatestFor 25 = .ok (.getfield 68, 3) := by decide +kernel
theorem dX1_greatestFor_28 : decode cX1_greatestFor 28 = .ok (.if_icmp .ge 51, 3) := by decide +kernel
theorem dX1_greatestFor_31 : decode cX1_greatestFor 31 = .ok (.aload_n 0, 1) := by decide +kernel
theorem dX1_greatestFor_32 : decode cX1_greatestFor 32 = .ok (.getfield 29, 3) := by decide +kernel
theorem dX1_greatestFor_35 : decode cX1_greatestFor 35 = .ok (.iload_n 1, 1) := by decide +kernel
theorem dX1_greatestFor_36 : decode cX1_greatestFor 36 = .ok (.iload 6, 2) := by decide +kernel
theorem dX1_greatestFor_38 : decode cX1_greatestFor 38 = .ok (.invokevirtual 71, 3) := by decide +kernel
theorem dX1_greatestFor_41 : decode cX1_greatestFor 41 = .ok (.ifCond .le 32, 3) := by decide +kernel
theorem dX1_greatestFor_44 : decode cX1_greatestFor 44 = .ok (.aload_n 0, 1) := by decide +kernel
theorem dX1_greatestFor_45 : decode cX1_greatestFor 45 = .ok (.getfield 18, 3) := by decide +kernel
theorem dX1_greatestFor_48 : decode cX1_greatestFor 48 = .ok (.iload_n 3, 1) := by decide +kernel
theorem dX1_greatestFor_49 : decode cX1_greatestFor 49 = .ok (.iload 6, 2) := by decide +kernel
theorem dX1_greatestFor_51 : decode cX1_greatestFor 51 = .ok (.invokevirtual 75, 3) := by decide +kernel
theorem dX1_greatestFor_54 : decode cX1_greatestFor 54 = .ok (.ifCond .eq 19, 3) := by decide +kernel
theorem dX1_greatestFor_57 : decode cX1_greatestFor 57 = .ok (.lload 4, 2) := by decide +kernel
theorem dX1_greatestFor_59 : decode cX1_greatestFor 59 = .ok (.aload_n 0, 1) := by decide +kernel
theorem dX1_greatestFor_60 : decode cX1_greatestFor 60 = .ok (.iload_n 1, 1) := by decide +kernel
theorem dX1_greatestFor_61 : decode cX1_greatestFor 61 = .ok (.iload_n 2, 1) := by decide +kernel
theorem dX1_greatestFor_62 : decode cX1_greatestFor 62 = .ok (.iload_n 3, 1) := by decide +kernel
theorem dX1_greatestFor_63 : decode cX1_greatestFor 63 = .ok (.iload 6, 2) := by decide +kernel
theorem dX1_greatestFor_65 : decode cX1_greatestFor 65 = .ok (.invokevirtual 79, 3) := by decide +kernel
theorem dX1_greatestFor_68 : decode cX1_greatestFor 68 = .ok (.invokestatic 83, 3) := by decide +kernel
theorem dX1_greatestFor_71 : decode cX1_greatestFor 71 = .ok (.lstore 4, 2) := by decide +kernel
theorem dX1_greatestFor_73 : decode cX1_greatestFor 73 = .ok (.iinc 6 1, 3) := by decide +kernel
theorem dX1_greatestFor_76 : decode cX1_greatestFor 76 = .ok (.goto (-57), 3) := by decide +kernel
theorem dX1_greatestFor_79 : decode cX1_greatestFor 79 = .ok (.lload 4, 2) := by decide +kernel
theorem dX1_greatestFor_81 : decode cX1_greatestFor 81 = .ok (.lreturn, 1) := by decide +kernel
theorem dX1_byPost_0 : decode cX1_byPost 0 = .ok (.aload_n 0, 1) := by decide +kernel
theorem dX1_byPost_1 : decode cX1_byPost 1 = .ok (.getfield 29, 3) := by decide +kernel
theorem dX1_byPost_4 : decode cX1_byPost 4 = .ok (.iload_n 1, 1) := by decide +kernel
theorem dX1_byPost_5 : decode cX1_byPost 5 = .ok (.iload 4, 2) := by decide +kernel
theorem dX1_byPost_7 : decode cX1_byPost 7 = .ok (.invokevirtual 71, 3) := by decide +kernel
theorem dX1_byPost_10 : decode cX1_byPost 10 = .ok (.i2l, 1) := by decide +kernel
theorem dX1_byPost_11 : decode cX1_byPost 11 = .ok (.aload_n 0, 1) := by decide +kernel
theorem dX1_byPost_12 : decode cX1_byPost 12 = .ok (.getfield 9, 3) := by decide +kernel
theorem dX1_byPost_15 : decode cX1_byPost 15 = .ok (.iload_n 2, 1) := by decide +kernel
theorem dX1_byPost_16 : decode cX1_byPost 16 = .ok (.iconst 1, 1) := by decide +kernel
theorem dX1_byPost_17 : decode cX1_byPost 17 = .ok (.isub, 1) := by decide +kernel
theorem dX1_byPost_18 : decode cX1_byPost 18 = .ok (.laload, 1) := by decide +kernel
theorem dX1_byPost_19 : decode cX1_byPost 19 = .ok (.lmul, 1) := by decide +kernel
theorem dX1_byPost_20 : decode cX1_byPost 20 = .ok (.aload_n 0, 1) := by decide +kernel
theorem dX1_byPost_21 : decode cX1_byPost 21 = .ok (.getfield 22, 3) := by decide +kernel
theorem dX1_byPost_24 : decode cX1_byPost 24 = .ok (.iload_n 2, 1) := by decide +kernel
theorem dX1_byPost_25 : decode cX1_byPost 25 = .ok (.iconst 1, 1) := by decide +kernel
theorem dX1_byPost_26 : decode cX1_byPost 26 = .ok (.isub, 1) := by decide +kernel
theorem dX1_byPost_27 : decode cX1_byPost 27 = .ok (.sipush 324, 3) := by decide +kernel
theorem dX1_byPost_30 : decode cX1_byPost 30 = .ok (.imul, 1) := by decide +kernel
theorem dX1_byPost_31 : decode cX1_byPost 31 = .ok (.iload_n 3, 1) := by decide +kernel
theorem dX1_byPost_32 : decode cX1_byPost 32 = .ok (.iadd, 1) := by decide +kernel
theorem dX1_byPost_33 : decode cX1_byPost 33 = .ok (.aload_n 0, 1) := by decide +kernel
theorem dX1_byPost_34 : decode cX1_byPost 34 = .ok (.getfield 18, 3) := by decide +kernel
theorem dX1_byPost_37 : decode cX1_byPost 37 = .ok (.getfield 89, 3) := by decide +kernel
theorem dX1_byPost_40 : decode cX1_byPost 40 = .ok (.iload 4, 2) := by decide +kernel
theorem dX1_byPost_42 : decode cX1_byPost 42 = .ok (.iaload, 1) := by decide +kernel
theorem dX1_byPost_43 : decode cX1_byPost 43 = .ok (.isub, 1) := by decide +kernel
theorem dX1_byPost_44 : decode cX1_byPost 44 = .ok (.laload, 1) := by decide +kernel
theorem dX1_byPost_45 : decode cX1_byPost 45 = .ok (.ladd, 1) := by decide +kernel
theorem dX1_byPost_46 : decode cX1_byPost 46 = .ok (.lreturn, 1) := by decide +kernel
theorem dX1_atStart_0 : decode cX1_atStart 0 = .ok (.aload_n 0, 1) := by decide +kernel
theorem dX1_atStart_1 : decode cX1_atStart 1 = .ok (.getfield 22, 3) := by decide +kernel
theorem dX1_atStart_4 : decode cX1_atStart 4 = .ok (.iload_n 1, 1) := by decide +kernel
theorem dX1_atStart_5 : decode cX1_atStart 5 = .ok (.sipush 324, 3) := by decide +kernel
theorem dX1_atStart_8 : decode cX1_atStart 8 = .ok (.imul, 1) := by decide +kernel
theorem dX1_atStart_9 : decode cX1_atStart 9 = .ok (.aload_n 0, 1) := by decide +kernel
theorem dX1_atStart_10 : decode cX1_atStart 10 = .ok (.getfield 18, 3) := by decide +kernel
theorem dX1_atStart_13 : decode cX1_atStart 13 = .ok (.invokevirtual 57, 3) := by decide +kernel
theorem dX1_atStart_16 : decode cX1_atStart 16 = .ok (.iadd, 1) := by decide +kernel
theorem dX1_atStart_17 : decode cX1_atStart 17 = .ok (.laload, 1) := by decide +kernel
theorem dX1_atStart_18 : decode cX1_atStart 18 = .ok (.lreturn, 1) := by decide +kernel
theorem dX1_firstPost_0 : decode cX1_firstPost 0 = .ok (.aload_n 0, 1) := by decide +kernel
theorem dX1_firstPost_1 : decode cX1_firstPost 1 = .ok (.getfield 18, 3) := by decide +kernel
theorem dX1_firstPost_4 : decode cX1_firstPost 4 = .ok (.invokevirtual 57, 3) := by decide +kernel
theorem dX1_firstPost_7 : decode cX1_firstPost 7 = .ok (.istore_n 3, 1) := by decide +kernel
theorem dX1_firstPost_8 : decode cX1_firstPost 8 = .ok (.aload_n 0, 1) := by decide +kernel
theorem dX1_firstPost_9 : decode cX1_firstPost 9 = .ok (.iload_n 1, 1) := by decide +kernel
theorem dX1_firstPost_10 : decode cX1_firstPost 10 = .ok (.iload_n 2, 1) := by decide +kernel
theorem dX1_firstPost_11 : decode cX1_firstPost 11 = .ok (.iload_n 3, 1) := by decide +kernel
theorem dX1_firstPost_12 : decode cX1_firstPost 12 = .ok (.invokevirtual 64, 3) := by decide +kernel
theorem dX1_firstPost_15 : decode cX1_firstPost 15 = .ok (.lstore 4, 2) := by decide +kernel
theorem dX1_firstPost_17 : decode cX1_firstPost 17 = .ok (.iconst 0, 1) := by decide +kernel
theorem dX1_firstPost_18 : decode cX1_firstPost 18 = .ok (.istore 6, 2) := by decide +kernel
theorem dX1_firstPost_20 : decode cX1_firstPost 20 = .ok (.iload 6, 2) := by decide +kernel
theorem dX1_firstPost_22 : decode cX1_firstPost 22 = .ok (.aload_n 0, 1) := by decide +kernel
theorem dX1_firstPost_23 : decode cX1_firstPost 23 = .ok (.getfield 29, 3) := by decide +kernel
theorem dX1_firstPost_26 : decode cX1_firstPost 26 = .ok (.getfield 68, 3) := by decide +kernel
theorem dX1_firstPost_29 : decode cX1_firstPost 29 = .ok (.if_icmp .ge 40, 3) := by decide +kernel
theorem dX1_firstPost_32 : decode cX1_firstPost 32 = .ok (.aload_n 0, 1) := by decide +kernel
theorem dX1_firstPost_33 : decode cX1_firstPost 33 = .ok (.getfield 29, 3) := by decide +kernel
theorem dX1_firstPost_36 : decode cX1_firstPost 36 = .ok (.iload_n 1, 1) := by decide +kernel
theorem dX1_firstPost_37 : decode cX1_firstPost 37 = .ok (.iload 6, 2) := by decide +kernel
theorem dX1_firstPost_39 : decode cX1_firstPost 39 = .ok (.invokevirtual 71, 3) := by decide +kernel
theorem dX1_firstPost_42 : decode cX1_firstPost 42 = .ok (.ifCond .le 21, 3) := by decide +kernel
theorem dX1_firstPost_45 : decode cX1_firstPost 45 = .ok (.aload_n 0, 1) := by decide +kernel
theorem dX1_firstPost_46 : decode cX1_firstPost 46 = .ok (.iload_n 1, 1) := by decide +kernel
theorem dX1_firstPost_47 : decode cX1_firstPost 47 = .ok (.iload_n 2, 1) := by decide +kernel
theorem dX1_firstPost_48 : decode cX1_firstPost 48 = .ok (.iload_n 3, 1) := by decide +kernel
theorem dX1_firstPost_49 : decode cX1_firstPost 49 = .ok (.iload 6, 2) := by decide +kernel
theorem dX1_firstPost_51 : decode cX1_firstPost 51 = .ok (.invokevirtual 79, 3) := by decide +kernel
theorem dX1_firstPost_54 : decode cX1_firstPost 54 = .ok (.lload 4, 2) := by decide +kernel
theorem dX1_firstPost_56 : decode cX1_firstPost 56 = .ok (.lcmp, 1) := by decide +kernel
theorem dX1_firstPost_57 : decode cX1_firstPost 57 = .ok (.ifCond .ne 6, 3) := by decide +kernel
theorem dX1_firstPost_60 : decode cX1_firstPost 60 = .ok (.iload 6, 2) := by decide +kernel
theorem dX1_firstPost_62 : decode cX1_firstPost 62 = .ok (.ireturn, 1) := by decide +kernel
theorem dX1_firstPost_63 : decode cX1_firstPost 63 = .ok (.iinc 6 1, 3) := by decide +kernel
theorem dX1_firstPost_66 : decode cX1_firstPost 66 = .ok (.goto (-46), 3) := by decide +kernel
theorem dX1_firstPost_69 : decode cX1_firstPost 69 = .ok (.bipush (-4), 2) := by decide +kernel
theorem dX1_firstPost_71 : decode cX1_firstPost 71 = .ok (.ireturn, 1) := by decide +kernel
theorem dX2_init_0 : decode cX2_init 0 = .ok (.aload_n 0, 1) := by decide +kernel
theorem dX2_init_1 : decode cX2_init 1 = .ok (.invokespecial 1, 3) := by decide +kernel
theorem dX2_init_4 : decode cX2_init 4 = .ok (.aload_n 0, 1) := by decide +kernel
theorem dX2_init_5 : decode cX2_init 5 = .ok (.iconst (-1), 1) := by decide +kernel
theorem dX2_init_6 : decode cX2_init 6 = .ok (.putfield 9, 3) := by decide +kernel
theorem dX2_init_9 : decode cX2_init 9 = .ok (.return_, 1) := by decide +kernel
theorem dX2_isStale_0 : decode cX2_isStale 0 = .ok (.aload_n 0, 1) := by decide +kernel
theorem dX2_isStale_1 : decode cX2_isStale 1 = .ok (.getfield 9, 3) := by decide +kernel
theorem dX2_isStale_4 : decode cX2_isStale 4 = .ok (.iload_n 1, 1) := by decide +kernel
theorem dX2_isStale_5 : decode cX2_isStale 5 = .ok (.if_icmp .eq 7, 3) := by decide +kernel
theorem dX2_isStale_8 : decode cX2_isStale 8 = .ok (.iconst 1, 1) := by decide +kernel
theorem dX2_isStale_9 : decode cX2_isStale 9 = .ok (.goto 4, 3) := by decide +kernel
theorem dX2_isStale_12 : decode cX2_isStale 12 = .ok (.iconst 0, 1) := by decide +kernel
theorem dX2_isStale_13 : decode cX2_isStale 13 = .ok (.ireturn, 1) := by decide +kernel
theorem dX2_start_0 : decode cX2_start 0 = .ok (.aload_n 0, 1) := by decide +kernel
theorem dX2_start_1 : decode cX2_start 1 = .ok (.iload_n 1, 1) := by decide +kernel
theorem dX2_start_2 : decode cX2_start 2 = .ok (.putfield 9, 3) := by decide +kernel
theorem dX2_start_5 : decode cX2_start 5 = .ok (.aload_n 0, 1) := by decide +kernel
theorem dX2_start_6 : decode cX2_start 6 = .ok (.lconst 0, 1) := by decide +kernel
theorem dX2_start_7 : decode cX2_start 7 = .ok (.putfield 13, 3) := by decide +kernel
theorem dX2_start_10 : decode cX2_start 10 = .ok (.aload_n 0, 1) := by decide +kernel
theorem dX2_start_11 : decode cX2_start 11 = .ok (.lconst 0, 1) := by decide +kernel
theorem dX2_start_12 : decode cX2_start 12 = .ok (.putfield 17, 3) := by decide +kernel
theorem dX2_start_15 : decode cX2_start 15 = .ok (.aload_n 0, 1) := by decide +kernel
theorem dX2_start_16 : decode cX2_start 16 = .ok (.iconst 0, 1) := by decide +kernel
theorem dX2_start_17 : decode cX2_start 17 = .ok (.putfield 20, 3) := by decide +kernel
theorem dX2_start_20 : decode cX2_start 20 = .ok (.aload_n 0, 1) := by decide +kernel
theorem dX2_start_21 : decode cX2_start 21 = .ok (.iconst 0, 1) := by decide +kernel
theorem dX2_start_22 : decode cX2_start 22 = .ok (.putfield 23, 3) := by decide +kernel
theorem dX2_start_25 : decode cX2_start 25 = .ok (.return_, 1) := by decide +kernel
theorem dX2_add_0 : decode cX2_add 0 = .ok (.aload_n 0, 1) := by decide +kernel
theorem dX2_add_1 : decode cX2_add 1 = .ok (.aload_n 0, 1) := by decide +kernel
theorem dX2_add_2 : decode cX2_add 2 = .ok (.getfield 17, 3) := by decide +kernel
theorem dX2_add_5 : decode cX2_add 5 = .ok (.lconst 0, 1) := by decide +kernel
theorem dX2_add_6 : decode cX2_add 6 = .ok (.lcmp, 1) := by decide +kernel
theorem dX2_add_7 : decode cX2_add 7 = .ok (.ifCond .ne 7, 3) := by decide +kernel
theorem dX2_add_10 : decode cX2_add 10 = .ok (.iload_n 1, 1) := by decide +kernel
theorem dX2_add_11 : decode cX2_add 11 = .ok (.goto 11, 3) := by decide +kernel
theorem dX2_add_14 : decode cX2_add 14 = .ok (.aload_n 0, 1) := by decide +kernel
theorem dX2_add_15 : decode cX2_add 15 = .ok (.getfield 20, 3) := by decide +kernel
theorem dX2_add_18 : decode cX2_add 18 = .ok (.iload_n 1, 1) := by decide +kernel
theorem dX2_add_19 : decode cX2_add 19 = .ok (.invokestatic 26, 3) := by decide +kernel
theorem dX2_add_22 : decode cX2_add 22 = .ok (.putfield 20, 3) := by decide +kernel
theorem dX2_add_25 : decode cX2_add 25 = .ok (.aload_n 0, 1) := by decide +kernel
theorem dX2_add_26 : decode cX2_add 26 = .ok (.aload_n 0, 1) := by decide +kernel
theorem dX2_add_27 : decode cX2_add 27 = .ok (.getfield 23, 3) := by decide +kernel
theorem dX2_add_30 : decode cX2_add 30 = .ok (.iload_n 1, 1) := by decide +kernel
theorem dX2_add_31 : decode cX2_add 31 = .ok (.invokestatic 32, 3) := by decide +kernel
theorem dX2_add_34 : decode cX2_add 34 = .ok (.putfield 23, 3) := by decide +kernel
theorem dX2_add_37 : decode cX2_add 37 = .ok (.aload_n 0, 1) := by decide +kernel
theorem dX2_add_38 : decode cX2_add 38 = .ok (.dup, 1) := by decide +kernel
theorem dX2_add_39 : decode cX2_add 39 = .ok (.getfield 13, 3) := by decide +kernel
theorem dX2_add_42 : decode cX2_add 42 = .ok (.iload_n 1, 1) := by decide +kernel
theorem dX2_add_43 : decode cX2_add 43 = .ok (.i2l, 1) := by decide +kernel
theorem dX2_add_44 : decode cX2_add 44 = .ok (.ladd, 1) := by decide +kernel
theorem dX2_add_45 : decode cX2_add 45 = .ok (.putfield 13, 3) := by decide +kernel
theorem dX2_add_48 : decode cX2_add 48 = .ok (.aload_n 0, 1) := by decide +kernel
theorem dX2_add_49 : decode cX2_add 49 = .ok (.dup, 1) := by decide +kernel
theorem dX2_add_50 : decode cX2_add 50 = .ok (.getfield 17, 3) := by decide +kernel
theorem dX2_add_53 : decode cX2_add 53 = .ok (.lconst 1, 1) := by decide +kernel
theorem dX2_add_54 : decode cX2_add 54 = .ok (.ladd, 1) := by decide +kernel
theorem dX2_add_55 : decode cX2_add 55 = .ok (.putfield 17, 3) := by decide +kernel
theorem dX2_add_58 : decode cX2_add 58 = .ok (.return_, 1) := by decide +kernel
theorem dX3_init_0 : decode cX3_init 0 = .ok (.aload_n 0, 1) := by decide +kernel
theorem dX3_init_1 : decode cX3_init 1 = .ok (.invokespecial 3, 3) := by decide +kernel
theorem dX3_init_4 : decode cX3_init 4 = .ok (.aload_n 0, 1) := by decide +kernel
theorem dX3_init_5 : decode cX3_init 5 = .ok (.bipush 9, 2) := by decide +kernel
theorem dX3_init_7 : decode cX3_init 7 = .ok (.newarray .int, 2) := by decide +kernel
theorem dX3_init_9 : decode cX3_init 9 = .ok (.putfield 9, 3) := by decide +kernel
theorem dX3_init_12 : decode cX3_init 12 = .ok (.aload_n 0, 1) := by decide +kernel
theorem dX3_init_13 : decode cX3_init 13 = .ok (.new 15, 3) := by decide +kernel
theorem dX3_init_16 : decode cX3_init 16 = .ok (.dup, 1) := by decide +kernel
theorem dX3_init_17 : decode cX3_init 17 = .ok (.invokespecial 17, 3) := by decide +kernel
theorem dX3_init_20 : decode cX3_init 20 = .ok (.putfield 18, 3) := by decide +kernel
theorem dX3_init_23 : decode cX3_init 23 = .ok (.aload_n 0, 1) := by decide +kernel
theorem dX3_init_24 : decode cX3_init 24 = .ok (.sipush 4860, 3) := by decide +kernel
theorem dX3_init_27 : decode cX3_init 27 = .ok (.newarray .int, 2) := by decide +kernel
theorem dX3_init_29 : decode cX3_init 29 = .ok (.putfield 22, 3) := by decide +kernel
theorem dX3_init_32 : decode cX3_init 32 = .ok (.aload_n 0, 1) := by decide +kernel
theorem dX3_init_33 : decode cX3_init 33 = .ok (.iconst (-1), 1) := by decide +kernel
theorem dX3_init_34 : decode cX3_init 34 = .ok (.putfield 25, 3) := by decide +kernel
theorem dX3_init_37 : decode cX3_init 37 = .ok (.return_, 1) := by decide +kernel
theorem dX3_makeBest_0 : decode cX3_makeBest 0 = .ok (.aload_n 0, 1) := by decide +kernel
theorem dX3_makeBest_1 : decode cX3_makeBest 1 = .ok (.aload_n 1, 1) := by decide +kernel
theorem dX3_makeBest_2 : decode cX3_makeBest 2 = .ok (.bipush 9, 2) := by decide +kernel
theorem dX3_makeBest_4 : decode cX3_makeBest 4 = .ok (.invokevirtual 29, 3) := by decide +kernel
theorem dX3_makeBest_7 : decode cX3_makeBest 7 = .ok (.return_, 1) := by decide +kernel
theorem dX3_make_0 : decode cX3_make 0 = .ok (.aload_n 0, 1) := by decide +kernel
theorem dX3_make_1 : decode cX3_make 1 = .ok (.getfield 25, 3) := by decide +kernel
theorem dX3_make_4 : decode cX3_make 4 = .ok (.aload_n 1, 1) := by decide +kernel
theorem dX3_make_5 : decode cX3_make 5 = .ok (.getfield 33, 3) := by decide +kernel
theorem dX3_make_8 : decode cX3_make 8 = .ok (.if_icmp .ne 11, 3) := by decide +kernel
theorem dX3_make_11 : decode cX3_make 11 = .ok (.aload_n 0, 1) := by decide +kernel
theorem dX3_make_12 : decode cX3_make 12 = .ok (.getfield 36, 3) := by decide +kernel
theorem dX3_make_15 : decode cX3_make 15 = .ok (.iload_n 2, 1) := by decide +kernel
theorem dX3_make_16 : decode cX3_make 16 = .ok (.if_icmp .eq 8, 3) := by decide +kernel
theorem dX3_make_19 : decode cX3_make 19 = .ok (.iload_n 2, 1) := by decide +kernel
theorem dX3_make_20 : decode cX3_make 20 = .ok (.iconst 1, 1) := by decide +kernel
theorem dX3_make_21 : decode cX3_make 21 = .ok (.if_icmp .ge 4, 3) := by decide +kernel
theorem dX3_make_24 : decode cX3_make 24 = .ok (.return_, 1) := by decide +kernel
theorem dX3_make_25 : decode cX3_make 25 = .ok (.aload_n 0, 1) := by decide +kernel
theorem dX3_make_26 : decode cX3_make 26 = .ok (.aload_n 1, 1) := by decide +kernel
theorem dX3_make_27 : decode cX3_make 27 = .ok (.getfield 33, 3) := by decide +kernel
theorem dX3_make_30 : decode cX3_make 30 = .ok (.putfield 25, 3) := by decide +kernel
theorem dX3_make_33 : decode cX3_make 33 = .ok (.aload_n 0, 1) := by decide +kernel
theorem dX3_make_34 : decode cX3_make 34 = .ok (.iload_n 2, 1) := by decide +kernel
theorem dX3_make_35 : decode cX3_make 35 = .ok (.putfield 36, 3) := by decide +kernel
theorem dX3_make_38 : decode cX3_make 38 = .ok (.aload_n 0, 1) := by decide +kernel
theorem dX3_make_39 : decode cX3_make 39 = .ok (.iconst 0, 1) := by decide +kernel
theorem dX3_make_40 : decode cX3_make 40 = .ok (.putfield 39, 3) := by decide +kernel
theorem dX3_make_43 : decode cX3_make 43 = .ok (.aload_n 0, 1) := by decide +kernel
theorem dX3_make_44 : decode cX3_make 44 = .ok (.getfield 18, 3) := by decide +kernel
theorem dX3_make_47 : decode cX3_make 47 = .ok (.aload_n 1, 1) := by decide +kernel
theorem dX3_make_48 : decode cX3_make 48 = .ok (.bipush (-4), 2) := by decide +kernel
theorem dX3_make_50 : decode cX3_make 50 = .ok (.invokevirtual 42, 3) := by decide +kernel
theorem dX3_make_53 : decode cX3_make 53 = .ok (.aload_n 0, 1) := by decide +kernel
theorem dX3_make_54 : decode cX3_make 54 = .ok (.getfield 18, 3) := by decide +kernel
theorem dX3_make_57 : decode cX3_make 57 = .ok (.invokevirtual 45, 3) := by decide +kernel
theorem dX3_make_60 : decode cX3_make 60 = .ok (.istore_n 3, 1) := by decide +kernel
theorem dX3_make_61 : decode cX3_make 61 = .ok (.iconst 0, 1) := by decide +kernel
theorem dX3_make_62 : decode cX3_make 62 = .ok (.istore 4, 2) := by decide +kernel
theorem dX3_make_64 : decode cX3_make 64 = .ok (.iload 4, 2) := by decide +kernel
theorem dX3_make_66 : decode cX3_make 66 = .ok (.aload_n 1, 1) := by decide +kernel
theorem dX3_make_67 : decode cX3_make 67 = .ok (.getfield 49, 3) := by decide +kernel
theorem dX3_make_70 : decode cX3_make 70 = .ok (.if_icmp .ge 67, 3) := by decide +kernel
theorem dX3_make_73 : decode cX3_make 73 = .ok (.iload 4, 2) := by decide +kernel
theorem dX3_make_75 : decode cX3_make 75 = .ok (.iload_n 2, 1) := by decide +kernel
theorem dX3_make_76 : decode cX3_make 76 = .ok (.iadd, 1) := by decide +kernel
theorem dX3_make_77 : decode cX3_make 77 = .ok (.aload_n 1, 1) := by decide +kernel
theorem dX3_make_78 : decode cX3_make 78 = .ok (.getfield 49, 3) := by decide +kernel
theorem dX3_make_81 : decode cX3_make 81 = .ok (.invokestatic 52, 3) := by decide +kernel
theorem dX3_make_84 : decode cX3_make 84 = .ok (.istore 5, 2) := by decide +kernel
theorem dX3_make_86 : decode cX3_make 86 = .ok (.aload_n 0, 1) := by decide +kernel
theorem dX3_make_87 : decode cX3_make 87 = .ok (.aload_n 1, 1) := by decide +kernel
theorem dX3_make_88 : decode cX3_make 88 = .ok (.iload 4, 2) := by decide +kernel
theorem dX3_make_90 : decode cX3_make 90 = .ok (.iload 5, 2) := by decide +kernel
theorem dX3_make_92 : decode cX3_make 92 = .ok (.invokevirtual 58, 3) := by decide +kernel
theorem dX3_make_95 : decode cX3_make 95 = .ok (.aload_n 0, 1) := by decide +kernel
theorem dX3_make_96 : decode cX3_make 96 = .ok (.dup, 1) := by decide +kernel
theorem dX3_make_97 : decode cX3_make 97 = .ok (.getfield 39, 3) := by decide +kernel
theorem dX3_make_100 : decode cX3_make 100 = .ok (.aload_n 0, 1) := by decide +kernel
theorem dX3_make_101 : decode cX3_make 101 = .ok (.getfield 22, 3) := by decide +kernel
theorem dX3_make_104 : decode cX3_make 104 = .ok (.iload 4, 2) := by decide +kernel
theorem dX3_make_106 : decode cX3_make 106 = .ok (.sipush 486, 3) := by decide +kernel
theorem dX3_make_109 : decode cX3_make 109 = .ok (.imul, 1) := by decide +kernel
theorem dX3_make_110 : decode cX3_make 110 = .ok (.iload_n 3, 1) := by decide +kernel
theorem dX3_make_111 : decode cX3_make 111 = .ok (.iadd, 1) := by decide +kernel
theorem dX3_make_112 : decode cX3_make 112 = .ok (.iaload, 1) := by decide +kernel
theorem dX3_make_113 : decode cX3_make 113 = .ok (.iadd, 1) := by decide +kernel
theorem dX3_make_114 : decode cX3_make 114 = .ok (.putfield 39, 3) := by decide +kernel
theorem dX3_make_117 : decode cX3_make 117 = .ok (.aload_n 0, 1) := by decide +kernel
theorem dX3_make_118 : decode cX3_make 118 = .ok (.aload_n 1, 1) := by decide +kernel
theorem dX3_make_119 : decode cX3_make 119 = .ok (.iload 4, 2) := by decide +kernel
theorem dX3_make_121 : decode cX3_make 121 = .ok (.iload 5, 2) := by decide +kernel
theorem dX3_make_123 : decode cX3_make 123 = .ok (.iload_n 3, 1) := by decide +kernel
theorem dX3_make_124 : decode cX3_make 124 = .ok (.invokevirtual 62, 3) := by decide +kernel
theorem dX3_make_127 : decode cX3_make 127 = .ok (.istore_n 3, 1) := by decide +kernel
theorem dX3_make_128 : decode cX3_make 128 = .ok (.iload 4, 2) := by decide +kernel
theorem dX3_make_130 : decode cX3_make 130 = .ok (.iload_n 2, 1) := by decide +kernel
theorem dX3_make_131 : decode cX3_make 131 = .ok (.iadd, 1) := by decide +kernel
theorem dX3_make_132 : decode cX3_make 132 = .ok (.istore 4, 2) := by decide +kernel
theorem dX3_make_134 : decode cX3_make 134 = .ok (.goto (-70), 3) := by decide +kernel
theorem dX3_make_137 : decode cX3_make 137 = .ok (.return_, 1) := by decide +kernel
theorem dX3_greatest_0 : decode cX3_greatest 0 = .ok (.aload_n 0, 1) := by decide +kernel
theorem dX3_greatest_1 : decode cX3_greatest 1 = .ok (.getfield 18, 3) := by decide +kernel
theorem dX3_greatest_4 : decode cX3_greatest 4 = .ok (.aload_n 1, 1) := by decide +kernel
theorem dX3_greatest_5 : decode cX3_greatest 5 = .ok (.iload_n 2, 1) := by decide +kernel
theorem dX3_greatest_6 : decode cX3_greatest 6 = .ok (.invokevirtual 42, 3) := by decide +kernel
theorem dX3_greatest_9 : decode cX3_greatest 9 = .ok (.aload_n 0, 1) := by decide +kernel
theorem dX3_greatest_10 : decode cX3_greatest 10 = .ok (.aload_n 1, 1) := by decide +kernel
theorem dX3_greatest_11 : decode cX3_greatest 11 = .ok (.iconst 0, 1) := by decide +kernel
theorem dX3_greatest_12 : decode cX3_greatest 12 = .ok (.aload_n 1, 1) := by decide +kernel
theorem dX3_greatest_13 : decode cX3_greatest 13 = .ok (.getfield 49, 3) := by decide +kernel
theorem dX3_greatest_16 : decode cX3_greatest 16 = .ok (.invokevirtual 58, 3) := by decide +kernel
theorem dX3_greatest_19 : decode cX3_greatest 19 = .ok (.aload_n 0, 1) := by decide +kernel
theorem dX3_greatest_20 : decode cX3_greatest 20 = .ok (.getfield 22, 3) := by decide +kernel
theorem dX3_greatest_23 : decode cX3_greatest 23 = .ok (.aload_n 0, 1) := by decide +kernel
theorem dX3_greatest_24 : decode cX3_greatest 24 = .ok (.getfield 18, 3) := by decide +kernel
theorem dX3_greatest_27 : decode cX3_greatest 27 = .ok (.invokevirtual 45, 3) := by decide +kernel
theorem dX3_greatest_30 : decode cX3_greatest 30 = .ok (.iaload, 1) := by decide +kernel
theorem dX3_greatest_31 : decode cX3_greatest 31 = .ok (.ireturn, 1) := by decide +kernel
theorem dX3_fill_0 : decode cX3_fill 0 = .ok (.iconst 0, 1) := by decide +kernel
theorem dX3_fill_1 : decode cX3_fill 1 = .ok (.istore 4, 2) := by decide +kernel
theorem dX3_fill_3 : decode cX3_fill 3 = .ok (.iload 4, 2) := by decide +kernel
theorem dX3_fill_5 : decode cX3_fill 5 = .ok (.aload_n 0, 1) := by decide +kernel
theorem dX3_fill_6 : decode cX3_fill 6 = .ok (.getfield 18, 3) := by decide +kernel
theorem dX3_fill_9 : decode cX3_fill 9 = .ok (.getfield 66, 3) := by decide +kernel
theorem dX3_fill_12 : decode cX3_fill 12 = .ok (.if_icmp .ge 23, 3) := by decide +kernel
theorem dX3_fill_15 : decode cX3_fill 15 = .ok (.aload_n 0, 1) := by decide +kernel
theorem dX3_fill_16 : decode cX3_fill 16 = .ok (.getfield 22, 3) := by decide +kernel
theorem dX3_fill_19 : decode cX3_fill 19 = .ok (.iload_n 3, 1) := by decide +kernel
theorem dX3_fill_20 : decode cX3_fill 20 = .ok (.sipush 486, 3) := by decide +kernel
theorem dX3_fill_23 : decode cX3_fill 23 = .ok (.imul, 1) := by decide +kernel
theorem dX3_fill_24 : decode cX3_fill 24 = .ok (.iload 4, 2) := by decide +kernel
theorem dX3_fill_26 : decode cX3_fill 26 = .ok (.iadd, 1) := by decide +kernel
theorem dX3_fill_27 : decode cX3_fill 27 = .ok (.iconst 0, 1) := by decide +kernel
theorem dX3_fill_28 : decode cX3_fill 28 = .ok (.iastore, 1) := by decide +kernel
theorem dX3_fill_29 : decode cX3_fill 29 = .ok (.iinc 4 1, 3) := by decide +kernel
theorem dX3_fill_32 : decode cX3_fill 32 = .ok (.goto (-29), 3) := by decide +kernel
theorem dX3_fill_35 : decode cX3_fill 35 = .ok (.iload_n 3, 1) := by decide +kernel
theorem dX3_fill_36 : decode cX3_fill 36 = .ok (.iconst 1, 1) := by decide +kernel
theorem dX3_fill_37 : decode cX3_fill 37 = .ok (.isub, 1) := by decide +kernel
theorem dX3_fill_38 : decode cX3_fill 38 = .ok (.istore 4, 2) := by decide +kernel
theorem dX3_fill_40 : decode cX3_fill 40 = .ok (.iload 4, 2) := by decide +kernel
theorem dX3_fill_42 : decode cX3_fill 42 = .ok (.iload_n 2, 1) := by decide +kernel
theorem dX3_fill_43 : decode cX3_fill 43 = .ok (.if_icmp .lt 53, 3) := by decide +kernel
theorem dX3_fill_46 : decode cX3_fill 46 = .ok (.iconst 0, 1) := by decide +kernel
theorem dX3_fill_47 : decode cX3_fill 47 = .ok (.istore 5, 2) := by decide +kernel
theorem dX3_fill_49 : decode cX3_fill 49 = .ok (.iload 5, 2) := by decide +kernel
theorem dX3_fill_51 : decode cX3_fill 51 = .ok (.aload_n 0, 1) := by decide +kernel
theorem dX3_fill_52 : decode cX3_fill 52 = .ok (.getfield 18, 3) := by decide +kernel
theorem dX3_fill_55 : decode cX3_fill 55 = .ok (.getfield 66, 3) := by decide +kernel
theorem dX3_fill_58 : decode cX3_fill 58 = .ok (.if_icmp .ge 32, 3) := by decide +kernel
theorem dX3_fill_61 : decode cX3_fill 61 = .ok (.aload_n 0, 1) := by decide +kernel
theorem dX3_fill_62 : decode cX3_fill 62 = .ok (.getfield 22, 3) := by decide +kernel
theorem dX3_fill_65 : decode cX3_fill 65 = .ok (.iload 4, 2) := by decide +kernel
theorem dX3_fill_67 : decode cX3_fill 67 = .ok (.sipush 486, 3) := by decide +kernel
theorem dX3_fill_70 : decode cX3_fill 70 = .ok (.imul, 1) := by decide +kernel
theorem dX3_fill_71 : decode cX3_fill 71 = .ok (.iload 5, 2) := by decide +kernel
theorem dX3_fill_73 : decode cX3_fill 73 = .ok (.iadd, 1) := by decide +kernel
theorem dX3_fill_74 : decode cX3_fill 74 = .ok (.aload_n 0, 1) := by decide +kernel
theorem dX3_fill_75 : decode cX3_fill 75 = .ok (.aload_n 1, 1) := by decide +kernel
theorem dX3_fill_76 : decode cX3_fill 76 = .ok (.iload 4, 2) := by decide +kernel
theorem dX3_fill_78 : decode cX3_fill 78 = .ok (.iload 5, 2) := by decide +kernel
theorem dX3_fill_80 : decode cX3_fill 80 = .ok (.invokevirtual 69, 3) := by decide +kernel
theorem dX3_fill_83 : decode cX3_fill 83 = .ok (.iastore, 1) := by decide +kernel
theorem dX3_fill_84 : decode cX3_fill 84 = .ok (.iinc 5 1, 3) := by decide +kernel
theorem dX3_fill_87 : decode cX3_fill 87 = .ok (.goto (-38), 3) := by decide +kernel
theorem dX3_fill_90 : decode cX3_fill 90 = .ok (.iinc 4 (-1), 3) := by decide +kernel
theorem dX3_fill_93 : decode cX3_fill 93 = .ok (.goto (-53), 3) := by decide +kernel
theorem dX3_fill_96 : decode cX3_fill 96 = .ok (.return_, 1) := by decide +kernel
theorem dX3_greatestFrom_0 : decode cX3_greatestFrom 0 = .ok (.iload_n 2, 1) := by decide +kernel
theorem dX3_greatestFrom_1 : decode cX3_greatestFrom 1 = .ok (.iconst 1, 1) := by decide +kernel
theorem dX3_greatestFrom_2 : decode cX3_greatestFrom 2 = .ok (.iadd, 1) := by decide +kernel
theorem dX3_greatestFrom_3 : decode cX3_greatestFrom 3 = .ok (.sipush 486, 3) := by decide +kernel
theorem dX3_greatestFrom_6 : decode cX3_greatestFrom 6 = .ok (.imul, 1) := by decide +kernel
theorem dX3_greatestFrom_7 : decode cX3_greatestFrom 7 = .ok (.iload_n 3, 1) := by decide +kernel
theorem dX3_greatestFrom_8 : decode cX3_greatestFrom 8 = .ok (.iadd, 1) := by decide +kernel
theorem dX3_greatestFrom_9 : decode cX3_greatestFrom 9 = .ok (.istore 4, 2) := by decide +kernel
theorem dX3_greatestFrom_11 : decode cX3_greatestFrom 11 = .ok (.aload_n 0, 1) := by decide +kernel
theorem dX3_greatestFrom_12 : decode cX3_greatestFrom 12 = .ok (.getfield 22, 3) := by decide +kernel
theorem dX3_greatestFrom_15 : decode cX3_greatestFrom 15 = .ok (.iload 4, 2) := by decide +kernel
theorem dX3_greatestFrom_17 : decode cX3_greatestFrom 17 = .ok (.iaload, 1) := by decide +kernel
theorem dX3_greatestFrom_18 : decode cX3_greatestFrom 18 = .ok (.istore 5, 2) := by decide +kernel
theorem dX3_greatestFrom_20 : decode cX3_greatestFrom 20 = .ok (.iconst 0, 1) := by decide +kernel
theorem dX3_greatestFrom_21 : decode cX3_greatestFrom 21 = .ok (.istore 6, 2) := by decide +kernel
theorem dX3_greatestFrom_23 : decode cX3_greatestFrom 23 = .ok (.iload 6, 2) := by decide +kernel
theorem dX3_greatestFrom_25 : decode cX3_greatestFrom 25 = .ok (.aload_n 1, 1) := by decide +kernel
theorem dX3_greatestFrom_26 : decode cX3_greatestFrom 26 = .ok (.getfield 73, 3) := by decide +kernel
theorem dX3_greatestFrom_29 : decode cX3_greatestFrom 29 = .ok (.if_icmp .ge 69, 3) := by decide +kernel
theorem dX3_greatestFrom_32 : decode cX3_greatestFrom 32 = .ok (.aload_n 1, 1) := by decide +kernel
theorem dX3_greatestFrom_33 : decode cX3_greatestFrom 33 = .ok (.getfield 76, 3) := by decide +kernel
theorem dX3_greatestFrom_36 : decode cX3_greatestFrom 36 = .ok (.iload_n 2, 1) := by decide +kernel
theorem dX3_greatestFrom_37 : decode cX3_greatestFrom 37 = .ok (.bipush 6, 2) := by decide +kernel
theorem dX3_greatestFrom_39 : decode cX3_greatestFrom 39 = .ok (.imul, 1) := by decide +kernel
theorem dX3_greatestFrom_40 : decode cX3_greatestFrom 40 = .ok (.iload 6, 2) := by decide +kernel
theorem dX3_greatestFrom_42 : decode cX3_greatestFrom 42 = .ok (.iadd, 1) := by decide +kernel
theorem dX3_greatestFrom_43 : decode cX3_greatestFrom 43 = .ok (.iaload, 1) := by decide +kernel
theorem dX3_greatestFrom_44 : decode cX3_greatestFrom 44 = .ok (.istore 7, 2) := by decide +kernel
theorem dX3_greatestFrom_46 : decode cX3_greatestFrom 46 = .ok (.iload 7, 2) := by decide +kernel
theorem dX3_greatestFrom_48 : decode cX3_greatestFrom 48 = .ok (.ifCond .le 44, 3) := by decide +kernel
theorem dX3_greatestFrom_51 : decode cX3_greatestFrom 51 = .ok (.aload_n 0, 1) := by decide +kernel
theorem dX3_greatestFrom_52 : decode cX3_greatestFrom 52 = .ok (.getfield 18, 3) := by decide +kernel
theorem dX3_greatestFrom_55 : decode cX3_greatestFrom 55 = .ok (.iload_n 3, 1) := by decide +kernel
theorem dX3_greatestFrom_56 : decode cX3_greatestFrom 56 = .ok (.iload 6, 2) := by decide +kernel
theorem dX3_greatestFrom_58 : decode cX3_greatestFrom 58 = .ok (.invokevirtual 79, 3) := by decide +kernel
theorem dX3_greatestFrom_61 : decode cX3_greatestFrom 61 = .ok (.ifCond .eq 31, 3) := by decide +kernel
theorem dX3_greatestFrom_64 : decode cX3_greatestFrom 64 = .ok (.iload 5, 2) := by decide +kernel
theorem dX3_greatestFrom_66 : decode cX3_greatestFrom 66 = .ok (.iload 7, 2) := by decide +kernel
theorem dX3_greatestFrom_68 : decode cX3_greatestFrom 68 = .ok (.aload_n 0, 1) := by decide +kernel
theorem dX3_greatestFrom_69 : decode cX3_greatestFrom 69 = .ok (.getfield 22, 3) := by decide +kernel
theorem dX3_greatestFrom_72 : decode cX3_greatestFrom 72 = .ok (.iload 4, 2) := by decide +kernel
theorem dX3_greatestFrom_74 : decode cX3_greatestFrom 74 = .ok (.aload_n 0, 1) := by decide +kernel
theorem dX3_greatestFrom_75 : decode cX3_greatestFrom 75 = .ok (.getfield 18, 3) := by decide +kernel
theorem dX3_greatestFrom_78 : decode cX3_greatestFrom 78 = .ok (.getfield 83, 3) := by decide +kernel
theorem dX3_greatestFrom_81 : decode cX3_greatestFrom 81 = .ok (.iload 6, 2) := by decide +kernel
theorem dX3_greatestFrom_83 : decode cX3_greatestFrom 83 = .ok (.iaload, 1) := by decide +kernel
theorem dX3_greatestFrom_84 : decode cX3_greatestFrom 84 = .ok (.isub, 1) := by decide +kernel
theorem dX3_greatestFrom_85 : decode cX3_greatestFrom 85 = .ok (.iaload, 1) := by decide +kernel
theorem dX3_greatestFrom_86 : decode cX3_greatestFrom 86 = .ok (.iadd, 1) := by decide +kernel
theorem dX3_greatestFrom_87 : decode cX3_greatestFrom 87 = .ok (.invokestatic 86, 3) := by decide +kernel
theorem dX3_greatestFrom_90 : decode cX3_greatestFrom 90 = .ok (.istore 5, 2) := by decide +kernel
theorem dX3_greatestFrom_92 : decode cX3_greatestFrom 92 = .ok (.iinc 6 1, 3) := by decide +kernel
theorem dX3_greatestFrom_95 : decode cX3_greatestFrom 95 = .ok (.goto (-72), 3) := by decide +kernel
theorem dX3_greatestFrom_98 : decode cX3_greatestFrom 98 = .ok (.iload 5, 2) := by decide +kernel
theorem dX3_greatestFrom_100 : decode cX3_greatestFrom 100 = .ok (.ireturn, 1) := by decide +kernel
theorem dX3_pair_0 : decode cX3_pair 0 = .ok (.iload 4, 2) := by decide +kernel
theorem dX3_pair_2 : decode cX3_pair 2 = .ok (.istore 5, 2) := by decide +kernel
theorem dX3_pair_4 : decode cX3_pair 4 = .ok (.iload_n 2, 1) := by decide +kernel
theorem dX3_pair_5 : decode cX3_pair 5 = .ok (.istore 6, 2) := by decide +kernel
theorem dX3_pair_7 : decode cX3_pair 7 = .ok (.iload 6, 2) := by decide +kernel
theorem dX3_pair_9 : decode cX3_pair 9 = .ok (.iload_n 3, 1) := by decide +kernel
theorem dX3_pair_10 : decode cX3_pair 10 = .ok (.if_icmp .ge 51, 3) := by decide +kernel
theorem dX3_pair_13 : decode cX3_pair 13 = .ok (.aload_n 0, 1) := by decide +kernel
theorem dX3_pair_14 : decode cX3_pair 14 = .ok (.aload_n 1, 1) := by decide +kernel
theorem dX3_pair_15 : decode cX3_pair 15 = .ok (.iload 6, 2) := by decide +kernel
theorem dX3_pair_17 : decode cX3_pair 17 = .ok (.iload 5, 2) := by decide +kernel
theorem dX3_pair_19 : decode cX3_pair 19 = .ok (.invokevirtual 89, 3) := by decide +kernel
theorem dX3_pair_22 : decode cX3_pair 22 = .ok (.istore 7, 2) := by decide +kernel
theorem dX3_pair_24 : decode cX3_pair 24 = .ok (.aload_n 0, 1) := by decide +kernel
theorem dX3_pair_25 : decode cX3_pair 25 = .ok (.getfield 9, 3) := by decide +kernel
theorem dX3_pair_28 : decode cX3_pair 28 = .ok (.iload 6, 2) := by decide +kernel
theorem dX3_pair_30 : decode cX3_pair 30 = .ok (.iload 7, 2) := by decide +kernel
theorem dX3_pair_32 : decode cX3_pair 32 = .ok (.iastore, 1) := by decide +kernel
theorem dX3_pair_33 : decode cX3_pair 33 = .ok (.iload 7, 2) := by decide +kernel
theorem dX3_pair_35 : decode cX3_pair 35 = .ok (.bipush (-4), 2) := by decide +kernel
theorem dX3_pair_37 : decode cX3_pair 37 = .ok (.if_icmp .eq 18, 3) := by decide +kernel
theorem dX3_pair_40 : decode cX3_pair 40 = .ok (.iload 5, 2) := by decide +kernel
theorem dX3_pair_42 : decode cX3_pair 42 = .ok (.aload_n 0, 1) := by decide +kernel
theorem dX3_pair_43 : decode cX3_pair 43 = .ok (.getfield 18, 3) := by decide +kernel
theorem dX3_pair_46 : decode cX3_pair 46 = .ok (.getfield 83, 3) := by decide +kernel
theorem dX3_pair_49 : decode cX3_pair 49 = .ok (.iload 7, 2) := by decide +kernel
theorem dX3_pair_51 : decode cX3_pair 51 = .ok (.iaload, 1) := by decide +kernel
theorem dX3_pair_52 : decode cX3_pair 52 = .ok (.isub, 1) := by decide +kernel
theorem dX3_pair_53 : decode cX3_pair 53 = .ok (.istore 5, 2) := by decide +kernel
theorem dX3_pair_55 : decode cX3_pair 55 = .ok (.iinc 6 1, 3) := by decide +kernel
theorem dX3_pair_58 : decode cX3_pair 58 = .ok (.goto (-51), 3) := by decide +kernel
theorem dX3_pair_61 : decode cX3_pair 61 = .ok (.iload 5, 2) := by decide +kernel
theorem dX3_pair_63 : decode cX3_pair 63 = .ok (.ireturn, 1) := by decide +kernel
theorem dX3_leastPost_0 : decode cX3_leastPost 0 = .ok (.iload_n 2, 1) := by decide +kernel
theorem dX3_leastPost_1 : decode cX3_leastPost 1 = .ok (.iconst 1, 1) := by decide +kernel
theorem dX3_leastPost_2 : decode cX3_leastPost 2 = .ok (.iadd, 1) := by decide +kernel
theorem dX3_leastPost_3 : decode cX3_leastPost 3 = .ok (.sipush 486, 3) := by decide +kernel
theorem dX3_leastPost_6 : decode cX3_leastPost 6 = .ok (.imul, 1) := by decide +kernel
theorem dX3_leastPost_7 : decode cX3_leastPost 7 = .ok (.iload_n 3, 1) := by decide +kernel
theorem dX3_leastPost_8 : decode cX3_leastPost 8 = .ok (.iadd, 1) := by decide +kernel
theorem dX3_leastPost_9 : decode cX3_leastPost 9 = .ok (.istore 4, 2) := by decide +kernel
theorem dX3_leastPost_11 : decode cX3_leastPost 11 = .ok (.iconst 0, 1) := by decide +kernel
theorem dX3_leastPost_12 : decode cX3_leastPost 12 = .ok (.istore 5, 2) := by decide +kernel
theorem dX3_leastPost_14 : decode cX3_leastPost 14 = .ok (.iload 5, 2) := by decide +kernel
theorem dX3_leastPost_16 : decode cX3_leastPost 16 = .ok (.aload_n 1, 1) := by decide +kernel
theorem dX3_leastPost_17 : decode cX3_leastPost 17 = .ok (.getfield 73, 3) := by decide +kernel
theorem dX3_leastPost_20 : decode cX3_leastPost 20 = .ok (.if_icmp .ge 80, 3) := by decide +kernel
theorem dX3_leastPost_23 : decode cX3_leastPost 23 = .ok (.aload_n 1, 1) := by decide +kernel
theorem dX3_leastPost_24 : decode cX3_leastPost 24 = .ok (.getfield 76, 3) := by decide +kernel
theorem dX3_leastPost_27 : decode cX3_leastPost 27 = .ok (.iload_n 2, 1) := by decide +kernel
theorem dX3_leastPost_28 : decode cX3_leastPost 28 = .ok (.bipush 6, 2) := by decide +kernel
theorem dX3_leastPost_30 : decode cX3_leastPost 30 = .ok (.imul, 1) := by decide +kernel
theorem dX3_leastPost_31 : decode cX3_leastPost 31 = .ok (.iload 5, 2) := by decide +kernel
theorem dX3_leastPost_33 : decode cX3_leastPost 33 = .ok (.iadd, 1) := by decide +kernel
theorem dX3_leastPost_34 : decode cX3_leastPost 34 = .ok (.iaload, 1) := by decide +kernel
theorem dX3_leastPost_35 : decode cX3_leastPost 35 = .ok (.istore 6, 2) := by decide +kernel
theorem dX3_leastPost_37 : decode cX3_leastPost 37 = .ok (.iload 6, 2) := by decide +kernel
theorem dX3_leastPost_39 : decode cX3_leastPost 39 = .ok (.ifCond .le 55, 3) := by decide +kernel
theorem dX3_leastPost_42 : decode cX3_leastPost 42 = .ok (.aload_n 0, 1) := by decide +kernel
theorem dX3_leastPost_43 : decode cX3_leastPost 43 = .ok (.getfield 18, 3) := by decide +kernel
theorem dX3_leastPost_46 : decode cX3_leastPost 46 = .ok (.iload_n 3, 1) := by decide +kernel
theorem dX3_leastPost_47 : decode cX3_leastPost 47 = .ok (.iload 5, 2) := by decide +kernel
theorem dX3_leastPost_49 : decode cX3_leastPost 49 = .ok (.invokevirtual 79, 3) := by decide +kernel
theorem dX3_leastPost_52 : decode cX3_leastPost 52 = .ok (.ifCond .eq 42, 3) := by decide +kernel
theorem dX3_leastPost_55 : decode cX3_leastPost 55 = .ok (.iload 6, 2) := by decide +kernel
theorem dX3_leastPost_57 : decode cX3_leastPost 57 = .ok (.aload_n 0, 1) := by decide +kernel
theorem dX3_leastPost_58 : decode cX3_leastPost 58 = .ok (.getfield 22, 3) := by decide +kernel
theorem dX3_leastPost_61 : decode cX3_leastPost 61 = .ok (.iload 4, 2) := by decide +kernel
theorem dX3_leastPost_63 : decode cX3_leastPost 63 = .ok (.aload_n 0, 1) := by decide +kernel
theorem dX3_leastPost_64 : decode cX3_leastPost 64 = .ok (.getfield 18, 3) := by decide +kernel
theorem dX3_leastPost_67 : decode cX3_leastPost 67 = .ok (.getfield 83, 3) := by decide +kernel
theorem dX3_leastPost_70 : decode cX3_leastPost 70 = .ok (.iload 5, 2) := by decide +kernel
theorem dX3_leastPost_72 : decode cX3_leastPost 72 = .ok (.iaload, 1) := by decide +kernel
theorem dX3_leastPost_73 : decode cX3_leastPost 73 = .ok (.isub, 1) := by decide +kernel
theorem dX3_leastPost_74 : decode cX3_leastPost 74 = .ok (.iaload, 1) := by decide +kernel
theorem dX3_leastPost_75 : decode cX3_leastPost 75 = .ok (.iadd, 1) := by decide +kernel
theorem dX3_leastPost_76 : decode cX3_leastPost 76 = .ok (.aload_n 0, 1) := by decide +kernel
theorem dX3_leastPost_77 : decode cX3_leastPost 77 = .ok (.getfield 22, 3) := by decide +kernel
theorem dX3_leastPost_80 : decode cX3_leastPost 80 = .ok (.iload_n 2, 1) := by decide +kernel
theorem dX3_leastPost_81 : decode cX3_leastPost 81 = .ok (.sipush 486, 3) := by decide +kernel
theorem dX3_leastPost_84 : decode cX3_leastPost 84 = .ok (.imul, 1) := by decide +kernel
theorem dX3_leastPost_85 : decode cX3_leastPost 85 = .ok (.iload_n 3, 1) := by decide +kernel
theorem dX3_leastPost_86 : decode cX3_leastPost 86 = .ok (.iadd, 1) := by decide +kernel
theorem dX3_leastPost_87 : decode cX3_leastPost 87 = .ok (.iaload, 1) := by decide +kernel
theorem dX3_leastPost_88 : decode cX3_leastPost 88 = .ok (.if_icmp .ne 6, 3) := by decide +kernel
theorem dX3_leastPost_91 : decode cX3_leastPost 91 = .ok (.iload 5, 2) := by decide +kernel
theorem dX3_leastPost_93 : decode cX3_leastPost 93 = .ok (.ireturn, 1) := by decide +kernel
theorem dX3_leastPost_94 : decode cX3_leastPost 94 = .ok (.iinc 5 1, 3) := by decide +kernel
theorem dX3_leastPost_97 : decode cX3_leastPost 97 = .ok (.goto (-83), 3) := by decide +kernel
theorem dX3_leastPost_100 : decode cX3_leastPost 100 = .ok (.bipush (-4), 2) := by decide +kernel
theorem dX3_leastPost_102 : decode cX3_leastPost 102 = .ok (.ireturn, 1) := by decide +kernel
theorem dX4_init_0 : decode cX4_init 0 = .ok (.aload_n 0, 1) := by decide +kernel
theorem dX4_init_1 : decode cX4_init 1 = .ok (.invokespecial 3, 3) := by decide +kernel
theorem dX4_init_4 : decode cX4_init 4 = .ok (.aload_n 0, 1) := by decide +kernel
theorem dX4_init_5 : decode cX4_init 5 = .ok (.bipush 6, 2) := by decide +kernel
theorem dX4_init_7 : decode cX4_init 7 = .ok (.newarray .int, 2) := by decide +kernel
theorem dX4_init_9 : decode cX4_init 9 = .ok (.putfield 9, 3) := by decide +kernel
theorem dX4_init_12 : decode cX4_init 12 = .ok (.aload_n 0, 1) := by decide +kernel
theorem dX4_init_13 : decode cX4_init 13 = .ok (.sipush 486, 3) := by decide +kernel
theorem dX4_init_16 : decode cX4_init 16 = .ok (.newarray .int, 2) := by decide +kernel
theorem dX4_init_18 : decode cX4_init 18 = .ok (.putfield 15, 3) := by decide +kernel
theorem dX4_init_21 : decode cX4_init 21 = .ok (.aload_n 0, 1) := by decide +kernel
theorem dX4_init_22 : decode cX4_init 22 = .ok (.sipush 486, 3) := by decide +kernel
theorem dX4_init_25 : decode cX4_init 25 = .ok (.newarray .int, 2) := by decide +kernel
theorem dX4_init_27 : decode cX4_init 27 = .ok (.putfield 18, 3) := by decide +kernel
theorem dX4_init_30 : decode cX4_init 30 = .ok (.return_, 1) := by decide +kernel
theorem dX4_shape_0 : decode cX4_shape 0 = .ok (.aload_n 0, 1) := by decide +kernel
theorem dX4_shape_1 : decode cX4_shape 1 = .ok (.iconst 1, 1) := by decide +kernel
theorem dX4_shape_2 : decode cX4_shape 2 = .ok (.putfield 21, 3) := by decide +kernel
theorem dX4_shape_5 : decode cX4_shape 5 = .ok (.aload_n 0, 1) := by decide +kernel
theorem dX4_shape_6 : decode cX4_shape 6 = .ok (.getfield 15, 3) := by decide +kernel
theorem dX4_shape_9 : decode cX4_shape 9 = .ok (.iconst 0, 1) := by decide +kernel
theorem dX4_shape_10 : decode cX4_shape 10 = .ok (.iconst 0, 1) := by decide +kernel
theorem dX4_shape_11 : decode cX4_shape 11 = .ok (.iastore, 1) := by decide +kernel
theorem dX4_shape_12 : decode cX4_shape 12 = .ok (.aload_n 0, 1) := by decide +kernel
theorem dX4_shape_13 : decode cX4_shape 13 = .ok (.getfield 18, 3) := by decide +kernel
theorem dX4_shape_16 : decode cX4_shape 16 = .ok (.iconst 0, 1) := by decide +kernel
theorem dX4_shape_17 : decode cX4_shape 17 = .ok (.iconst 0, 1) := by decide +kernel
theorem dX4_shape_18 : decode cX4_shape 18 = .ok (.iastore, 1) := by decide +kernel
theorem dX4_shape_19 : decode cX4_shape 19 = .ok (.iconst 0, 1) := by decide +kernel
theorem dX4_shape_20 : decode cX4_shape 20 = .ok (.istore_n 3, 1) := by decide +kernel
theorem dX4_shape_21 : decode cX4_shape 21 = .ok (.iload_n 3, 1) := by decide +kernel
theorem dX4_shape_22 : decode cX4_shape 22 = .ok (.aload_n 1, 1) := by decide +kernel
theorem dX4_shape_23 : decode cX4_shape 23 = .ok (.getfield 25, 3) := by decide +kernel
theorem dX4_shape_26 : decode cX4_shape 26 = .ok (.if_icmp .ge 76, 3) := by decide +kernel
theorem dX4_shape_29 : decode cX4_shape 29 = .ok (.aload_n 0, 1) := by decide +kernel
theorem dX4_shape_30 : decode cX4_shape 30 = .ok (.getfield 9, 3) := by decide +kernel
theorem dX4_shape_33 : decode cX4_shape 33 = .ok (.iload_n 3, 1) := by decide +kernel
theorem dX4_shape_34 : decode cX4_shape 34 = .ok (.aload_n 0, 1) := by decide +kernel
theorem dX4_shape_35 : decode cX4_shape 35 = .ok (.getfield 21, 3) := by decide +kernel
theorem dX4_shape_38 : decode cX4_shape 38 = .ok (.iastore, 1) := by decide +kernel
theorem dX4_shape_39 : decode cX4_shape 39 = .ok (.aload_n 1, 1) := by decide +kernel
theorem dX4_shape_40 : decode cX4_shape 40 = .ok (.getfield 30, 3) := by decide +kernel
theorem dX4_shape_43 : decode cX4_shape 43 = .ok (.iload_n 3, 1) := by decide +kernel
theorem dX4_shape_44 : decode cX4_shape 44 = .ok (.iaload, 1) := by decide +kernel
theorem dX4_shape_45 : decode cX4_shape 45 = .ok (.iload_n 3, 1) := by decide +kernel
theorem dX4_shape_46 : decode cX4_shape 46 = .ok (.iload_n 2, 1) := by decide +kernel
theorem dX4_shape_47 : decode cX4_shape 47 = .ok (.if_icmp .ne 7, 3) := by decide +kernel
theorem dX4_shape_50 : decode cX4_shape 50 = .ok (.iconst 1, 1) := by decide +kernel
theorem dX4_shape_51 : decode cX4_shape 51 = .ok (.goto 4, 3) := by decide +kernel
theorem dX4_shape_54 : decode cX4_shape 54 = .ok (.iconst 0, 1) := by decide +kernel
theorem dX4_shape_55 : decode cX4_shape 55 = .ok (.iadd, 1) := by decide +kernel
theorem dX4_shape_56 : decode cX4_shape 56 = .ok (.istore 4, 2) := by decide +kernel
theorem dX4_shape_58 : decode cX4_shape 58 = .ok (.iconst 1, 1) := by decide +kernel
theorem dX4_shape_59 : decode cX4_shape 59 = .ok (.istore 5, 2) := by decide +kernel
theorem dX4_shape_61 : decode cX4_shape 61 = .ok (.iload 5, 2) := by decide +kernel
theorem dX4_shape_63 : decode cX4_shape 63 = .ok (.iload 4, 2) := by decide +kernel
theorem dX4_shape_65 : decode cX4_shape 65 = .ok (.if_icmp .gt 16, 3) := by decide +kernel
theorem dX4_shape_68 : decode cX4_shape 68 = .ok (.aload_n 0, 1) := by decide +kernel
theorem dX4_shape_69 : decode cX4_shape 69 = .ok (.iload_n 3, 1) := by decide +kernel
theorem dX4_shape_70 : decode cX4_shape 70 = .ok (.iload 5, 2) := by decide +kernel
theorem dX4_shape_72 : decode cX4_shape 72 = .ok (.invokevirtual 33, 3) := by decide +kernel
theorem dX4_shape_75 : decode cX4_shape 75 = .ok (.iinc 5 1, 3) := by decide +kernel
theorem dX4_shape_78 : decode cX4_shape 78 = .ok (.goto (-17), 3) := by decide +kernel
theorem dX4_shape_81 : decode cX4_shape 81 = .ok (.aload_n 0, 1) := by decide +kernel
theorem dX4_shape_82 : decode cX4_shape 82 = .ok (.aload_n 0, 1) := by decide +kernel
theorem dX4_shape_83 : decode cX4_shape 83 = .ok (.getfield 9, 3) := by decide +kernel
theorem dX4_shape_86 : decode cX4_shape 86 = .ok (.iload_n 3, 1) := by decide +kernel
theorem dX4_shape_87 : decode cX4_shape 87 = .ok (.iaload, 1) := by decide +kernel
theorem dX4_shape_88 : decode cX4_shape 88 = .ok (.iload 4, 2) := by decide +kernel
theorem dX4_shape_90 : decode cX4_shape 90 = .ok (.iconst 1, 1) := by decide +kernel
theorem dX4_shape_91 : decode cX4_shape 91 = .ok (.iadd, 1) := by decide +kernel
theorem dX4_shape_92 : decode cX4_shape 92 = .ok (.imul, 1) := by decide +kernel
theorem dX4_shape_93 : decode cX4_shape 93 = .ok (.putfield 21, 3) := by decide +kernel
theorem dX4_shape_96 : decode cX4_shape 96 = .ok (.iinc 3 1, 3) := by decide +kernel
theorem dX4_shape_99 : decode cX4_shape 99 = .ok (.goto (-78), 3) := by decide +kernel
theorem dX4_shape_102 : decode cX4_shape 102 = .ok (.return_, 1) := by decide +kernel
theorem dX4_addLayer_0 : decode cX4_addLayer 0 = .ok (.aload_n 0, 1) := by decide +kernel
theorem dX4_addLayer_1 : decode cX4_addLayer 1 = .ok (.getfield 9, 3) := by decide +kernel
theorem dX4_addLayer_4 : decode cX4_addLayer 4 = .ok (.iload_n 1, 1) := by decide +kernel
theorem dX4_addLayer_5 : decode cX4_addLayer 5 = .ok (.iaload, 1) := by decide +kernel
theorem dX4_addLayer_6 : decode cX4_addLayer 6 = .ok (.iload_n 2, 1) := by decide +kernel
theorem dX4_addLayer_7 : decode cX4_addLayer 7 = .ok (.imul, 1) := by decide +kernel
theorem dX4_addLayer_8 : decode cX4_addLayer 8 = .ok (.istore_n 3, 1) := by decide +kernel
theorem dX4_addLayer_9 : decode cX4_addLayer 9 = .ok (.iconst 0, 1) := by decide +kernel
theorem dX4_addLayer_10 : decode cX4_addLayer 10 = .ok (.istore 4, 2) := by decide +kernel
theorem dX4_addLayer_12 : decode cX4_addLayer 12 = .ok (.iload 4, 2) := by decide +kernel
theorem dX4_addLayer_14 : decode cX4_addLayer 14 = .ok (.aload_n 0, 1) := by decide +kernel
theorem dX4_addLayer_15 : decode cX4_addLayer 15 = .ok (.getfield 9, 3) := by decide +kernel
theorem dX4_addLayer_18 : decode cX4_addLayer 18 = .ok (.iload_n 1, 1) := by decide +kernel
theorem dX4_addLayer_19 : decode cX4_addLayer 19 = .ok (.iaload, 1) := by decide +kernel
theorem dX4_addLayer_20 : decode cX4_addLayer 20 = .ok (.if_icmp .ge 57, 3) := by decide +kernel
theorem dX4_addLayer_23 : decode cX4_addLayer 23 = .ok (.iload_n 3, 1) := by decide +kernel
theorem dX4_addLayer_24 : decode cX4_addLayer 24 = .ok (.iload 4, 2) := by decide +kernel
theorem dX4_addLayer_26 : decode cX4_addLayer 26 = .ok (.iadd, 1) := by decide +kernel
theorem dX4_addLayer_27 : decode cX4_addLayer 27 = .ok (.sipush 486, 3) := by decide +kernel
theorem dX4_addLayer_30 : decode cX4_addLayer 30 = .ok (.if_icmp .ge 47, 3) := by decide +kernel
theorem dX4_addLayer_33 : decode cX4_addLayer 33 = .ok (.aload_n 0, 1) := by decide +kernel
theorem dX4_addLayer_34 : decode cX4_addLayer 34 = .ok (.getfield 15, 3) := by decide +kernel
theorem dX4_addLayer_37 : decode cX4_addLayer 37 = .ok (.iload_n 3, 1) := by decide +kernel
theorem dX4_addLayer_38 : decode cX4_addLayer 38 = .ok (.iload 4, 2) := by decide +kernel
theorem dX4_addLayer_40 : decode cX4_addLayer 40 = .ok (.iadd, 1) := by decide +kernel
theorem dX4_addLayer_41 : decode cX4_addLayer 41 = .ok (.aload_n 0, 1) := by decide +kernel
theorem dX4_addLayer_42 : decode cX4_addLayer 42 = .ok (.getfield 15, 3) := by decide +kernel
theorem dX4_addLayer_45 : decode cX4_addLayer 45 = .ok (.iload 4, 2) := by decide +kernel
theorem dX4_addLayer_47 : decode cX4_addLayer 47 = .ok (.iaload, 1) := by decide +kernel
theorem dX4_addLayer_48 : decode cX4_addLayer 48 = .ok (.iconst 1, 1) := by decide +kernel
theorem dX4_addLayer_49 : decode cX4_addLayer 49 = .ok (.iload_n 1, 1) := by decide +kernel
theorem dX4_addLayer_50 : decode cX4_addLayer 50 = .ok (.ishl, 1) := by decide +kernel
theorem dX4_addLayer_51 : decode cX4_addLayer 51 = .ok (.ior, 1) := by decide +kernel
theorem dX4_addLayer_52 : decode cX4_addLayer 52 = .ok (.iastore, 1) := by decide +kernel
theorem dX4_addLayer_53 : decode cX4_addLayer 53 = .ok (.aload_n 0, 1) := by decide +kernel
theorem dX4_addLayer_54 : decode cX4_addLayer 54 = .ok (.getfield 18, 3) := by decide +kernel
theorem dX4_addLayer_57 : decode cX4_addLayer 57 = .ok (.iload_n 3, 1) := by decide +kernel
theorem dX4_addLayer_58 : decode cX4_addLayer 58 = .ok (.iload 4, 2) := by decide +kernel
theorem dX4_addLayer_60 : decode cX4_addLayer 60 = .ok (.iadd, 1) := by decide +kernel
theorem dX4_addLayer_61 : decode cX4_addLayer 61 = .ok (.aload_n 0, 1) := by decide +kernel
theorem dX4_addLayer_62 : decode cX4_addLayer 62 = .ok (.getfield 18, 3) := by decide +kernel
theorem dX4_addLayer_65 : decode cX4_addLayer 65 = .ok (.iload 4, 2) := by decide +kernel
theorem dX4_addLayer_67 : decode cX4_addLayer 67 = .ok (.iaload, 1) := by decide +kernel
theorem dX4_addLayer_68 : decode cX4_addLayer 68 = .ok (.iload_n 2, 1) := by decide +kernel
theorem dX4_addLayer_69 : decode cX4_addLayer 69 = .ok (.iadd, 1) := by decide +kernel
theorem dX4_addLayer_70 : decode cX4_addLayer 70 = .ok (.iastore, 1) := by decide +kernel
theorem dX4_addLayer_71 : decode cX4_addLayer 71 = .ok (.iinc 4 1, 3) := by decide +kernel
theorem dX4_addLayer_74 : decode cX4_addLayer 74 = .ok (.goto (-62), 3) := by decide +kernel
theorem dX4_addLayer_77 : decode cX4_addLayer 77 = .ok (.return_, 1) := by decide +kernel
theorem dX4_isOpen_0 : decode cX4_isOpen 0 = .ok (.aload_n 0, 1) := by decide +kernel
theorem dX4_isOpen_1 : decode cX4_isOpen 1 = .ok (.getfield 15, 3) := by decide +kernel
theorem dX4_isOpen_4 : decode cX4_isOpen 4 = .ok (.iload_n 1, 1) := by decide +kernel
theorem dX4_isOpen_5 : decode cX4_isOpen 5 = .ok (.iaload, 1) := by decide +kernel
theorem dX4_isOpen_6 : decode cX4_isOpen 6 = .ok (.iload_n 2, 1) := by decide +kernel
theorem dX4_isOpen_7 : decode cX4_isOpen 7 = .ok (.ishr, 1) := by decide +kernel
theorem dX4_isOpen_8 : decode cX4_isOpen 8 = .ok (.iconst 1, 1) := by decide +kernel
theorem dX4_isOpen_9 : decode cX4_isOpen 9 = .ok (.iand, 1) := by decide +kernel
theorem dX4_isOpen_10 : decode cX4_isOpen 10 = .ok (.ifCond .eq 7, 3) := by decide +kernel
theorem dX4_isOpen_13 : decode cX4_isOpen 13 = .ok (.iconst 1, 1) := by decide +kernel
theorem dX4_isOpen_14 : decode cX4_isOpen 14 = .ok (.goto 4, 3) := by decide +kernel
theorem dX4_isOpen_17 : decode cX4_isOpen 17 = .ok (.iconst 0, 1) := by decide +kernel
theorem dX4_isOpen_18 : decode cX4_isOpen 18 = .ok (.ireturn, 1) := by decide +kernel
theorem dX4_allFree_0 : decode cX4_allFree 0 = .ok (.aload_n 0, 1) := by decide +kernel
theorem dX4_allFree_1 : decode cX4_allFree 1 = .ok (.getfield 21, 3) := by decide +kernel
theorem dX4_allFree_4 : decode cX4_allFree 4 = .ok (.iconst 1, 1) := by decide +kernel
theorem dX4_allFree_5 : decode cX4_allFree 5 = .ok (.isub, 1) := by decide +kernel
theorem dX4_allFree_6 : decode cX4_allFree 6 = .ok (.ireturn, 1) := by decide +kernel
theorem dX5_init_0 : decode cX5_init 0 = .ok (.aload_n 0, 1) := by decide +kernel
theorem dX5_init_1 : decode cX5_init 1 = .ok (.invokespecial 3, 3) := by decide +kernel
theorem dX5_init_4 : decode cX5_init 4 = .ok (.aload_n 0, 1) := by decide +kernel
theorem dX5_init_5 : decode cX5_init 5 = .ok (.bipush 6, 2) := by decide +kernel
theorem dX5_init_7 : decode cX5_init 7 = .ok (.newarray .int, 2) := by decide +kernel
theorem dX5_init_9 : decode cX5_init 9 = .ok (.putfield 11, 3) := by decide +kernel
theorem dX5_init_12 : decode cX5_init 12 = .ok (.aload_n 0, 1) := by decide +kernel
theorem dX5_init_13 : decode cX5_init 13 = .ok (.bipush 6, 2) := by decide +kernel
theorem dX5_init_15 : decode cX5_init 15 = .ok (.newarray .boolean, 2) := by decide +kernel
theorem dX5_init_17 : decode cX5_init 17 = .ok (.putfield 17, 3) := by decide +kernel
theorem dX5_init_20 : decode cX5_init 20 = .ok (.aload_n 0, 1) := by decide +kernel
theorem dX5_init_21 : decode cX5_init 21 = .ok (.iconst 4, 1) := by decide +kernel
theorem dX5_init_22 : decode cX5_init 22 = .ok (.newarray .int, 2) := by decide +kernel
theorem dX5_init_24 : decode cX5_init 24 = .ok (.putfield 21, 3) := by decide +kernel
theorem dX5_init_27 : decode cX5_init 27 = .ok (.aload_n 0, 1) := by decide +kernel
theorem dX5_init_28 : decode cX5_init 28 = .ok (.iconst 4, 1) := by decide +kernel
theorem dX5_init_29 : decode cX5_init 29 = .ok (.newarray .boolean, 2) := by decide +kernel
theorem dX5_init_31 : decode cX5_init 31 = .ok (.putfield 24, 3) := by decide +kernel
theorem dX5_init_34 : decode cX5_init 34 = .ok (.aload_n 0, 1) := by decide +kernel
theorem dX5_init_35 : decode cX5_init 35 = .ok (.iconst 4, 1) := by decide +kernel
theorem dX5_init_36 : decode cX5_init 36 = .ok (.newarray .int, 2) := by decide +kernel
theorem dX5_init_38 : decode cX5_init 38 = .ok (.putfield 27, 3) := by decide +kernel
theorem dX5_init_41 : decode cX5_init 41 = .ok (.aload_n 0, 1) := by decide +kernel
theorem dX5_init_42 : decode cX5_init 42 = .ok (.new 30, 3) := by decide +kernel
theorem dX5_init_45 : decode cX5_init 45 = .ok (.dup, 1) := by decide +kernel
theorem dX5_init_46 : decode cX5_init 46 = .ok (.invokespecial 32, 3) := by decide +kernel
theorem dX5_init_49 : decode cX5_init 49 = .ok (.putfield 33, 3) := by decide +kernel
theorem dX5_init_52 : decode cX5_init 52 = .ok (.aload_n 0, 1) := by decide +kernel
theorem dX5_init_53 : decode cX5_init 53 = .ok (.new 30, 3) := by decide +kernel
theorem dX5_init_56 : decode cX5_init 56 = .ok (.dup, 1) := by decide +kernel
theorem dX5_init_57 : decode cX5_init 57 = .ok (.invokespecial 32, 3) := by decide +kernel
theorem dX5_init_60 : decode cX5_init 60 = .ok (.putfield 37, 3) := by decide +kernel
theorem dX5_init_63 : decode cX5_init 63 = .ok (.aload_n 0, 1) := by decide +kernel
theorem dX5_init_64 : decode cX5_init 64 = .ok (.iconst 3, 1) := by decide +kernel
theorem dX5_init_65 : decode cX5_init 65 = .ok (.anewarray 40, 3) := by decide +kernel
theorem dX5_init_68 : decode cX5_init 68 = .ok (.putfield 42, 3) := by decide +kernel
theorem dX5_init_71 : decode cX5_init 71 = .ok (.iconst 0, 1) := by decide +kernel
theorem dX5_init_72 : decode cX5_init 72 = .ok (.istore_n 1, 1) := by decide +kernel
theorem dX5_init_73 : decode cX5_init 73 = .ok (.iload_n 1, 1) := by decide +kernel
theorem dX5_init_74 : decode cX5_init 74 = .ok (.iconst 3, 1) := by decide +kernel
theorem dX5_init_75 : decode cX5_init 75 = .ok (.if_icmp .ge 22, 3) := by decide +kernel
theorem dX5_init_78 : decode cX5_init 78 = .ok (.aload_n 0, 1) := by decide +kernel
theorem dX5_init_79 : decode cX5_init 79 = .ok (.getfield 42, 3) := by decide +kernel
theorem dX5_init_82 : decode cX5_init 82 = .ok (.iload_n 1, 1) := by decide +kernel
theorem dX5_init_83 : decode cX5_init 83 = .ok (.new 40, 3) := by decide +kernel
theorem dX5_init_86 : decode cX5_init 86 = .ok (.dup, 1) := by decide +kernel
theorem dX5_init_87 : decode cX5_init 87 = .ok (.invokespecial 46, 3) := by decide +kernel
theorem dX5_init_90 : decode cX5_init 90 = .ok (.aastore, 1) := by decide +kernel
theorem dX5_init_91 : decode cX5_init 91 = .ok (.iinc 1 1, 3) := by decide +kernel
theorem dX5_init_94 : decode cX5_init 94 = .ok (.goto (-21), 3) := by decide +kernel
theorem dX5_init_97 : decode cX5_init 97 = .ok (.return_, 1) := by decide +kernel
theorem dX5_clear_0 : decode cX5_clear 0 = .ok (.aload_n 0, 1) := by decide +kernel
theorem dX5_clear_1 : decode cX5_clear 1 = .ok (.iconst 0, 1) := by decide +kernel
theorem dX5_clear_2 : decode cX5_clear 2 = .ok (.putfield 47, 3) := by decide +kernel
theorem dX5_clear_5 : decode cX5_clear 5 = .ok (.aload_n 0, 1) := by decide +kernel
theorem dX5_clear_6 : decode cX5_clear 6 = .ok (.iconst 0, 1) := by decide +kernel
theorem dX5_clear_7 : decode cX5_clear 7 = .ok (.putfield 51, 3) := by decide +kernel
theorem dX5_clear_10 : decode cX5_clear 10 = .ok (.aload_n 0, 1) := by decide +kernel
theorem dX5_clear_11 : decode cX5_clear 11 = .ok (.iconst 0, 1) := by decide +kernel
theorem dX5_clear_12 : decode cX5_clear 12 = .ok (.putfield 54, 3) := by decide +kernel
theorem dX5_clear_15 : decode cX5_clear 15 = .ok (.return_, 1) := by decide +kernel
theorem dX5_hasKey_0 : decode cX5_hasKey 0 = .ok (.iconst 0, 1) := by decide +kernel
theorem dX5_hasKey_1 : decode cX5_hasKey 1 = .ok (.istore_n 2, 1) := by decide +kernel
theorem dX5_hasKey_2 : decode cX5_hasKey 2 = .ok (.iload_n 2, 1) := by decide +kernel
theorem dX5_hasKey_3 : decode cX5_hasKey 3 = .ok (.aload_n 0, 1) := by decide +kernel
theorem dX5_hasKey_4 : decode cX5_hasKey 4 = .ok (.getfield 47, 3) := by decide +kernel
theorem dX5_hasKey_7 : decode cX5_hasKey 7 = .ok (.if_icmp .ge 21, 3) := by decide +kernel
theorem dX5_hasKey_10 : decode cX5_hasKey 10 = .ok (.aload_n 0, 1) := by decide +kernel
theorem dX5_hasKey_11 : decode cX5_hasKey 11 = .ok (.getfield 11, 3) := by decide +kernel
theorem dX5_hasKey_14 : decode cX5_hasKey 14 = .ok (.iload_n 2, 1) := by decide +kernel
theorem dX5_hasKey_15 : decode cX5_hasKey 15 = .ok (.iaload, 1) := by decide +kernel
theorem dX5_hasKey_16 : decode cX5_hasKey 16 = .ok (.iload_n 1, 1) := by decide +kernel
theorem dX5_hasKey_17 : decode cX5_hasKey 17 = .ok (.if_icmp .ne 5, 3) := by decide +kernel
theorem dX5_hasKey_20 : decode cX5_hasKey 20 = .ok (.iconst 1, 1) := by decide +kernel
theorem dX5_hasKey_21 : decode cX5_hasKey 21 = .ok (.ireturn, 1) := by decide +kernel
theorem dX5_hasKey_22 : decode cX5_hasKey 22 = .ok (.iinc 2 1, 3) := by decide +kernel
theorem dX5_hasKey_25 : decode cX5_hasKey 25 = .ok (.goto (-23), 3) := by decide +kernel
theorem dX5_hasKey_28 : decode cX5_hasKey 28 = .ok (.iconst 0, 1) := by decide +kernel
theorem dX5_hasKey_29 : decode cX5_hasKey 29 = .ok (.ireturn, 1) := by decide +kernel
theorem dX5_asksRank_0 : decode cX5_asksRank 0 = .ok (.iconst 0, 1) := by decide +kernel
theorem dX5_asksRank_1 : decode cX5_asksRank 1 = .ok (.istore_n 1, 1) := by decide +kernel
theorem dX5_asksRank_2 : decode cX5_asksRank 2 = .ok (.iload_n 1, 1) := by decide +kernel
theorem dX5_asksRank_3 : decode cX5_asksRank 3 = .ok (.aload_n 0, 1) := by decide +kernel
theorem dX5_asksRank_4 : decode cX5_asksRank 4 = .ok (.getfield 51, 3) := by decide +kernel
theorem dX5_asksRank_7 : decode cX5_asksRank 7 = .ok (.if_icmp .ge 21, 3) := by decide +kernel
theorem dX5_asksRank_10 : decode cX5_asksRank 10 = .ok (.aload_n 0, 1) := by decide +kernel
theorem dX5_asksRank_11 : decode cX5_asksRank 11 = .ok (.getfield 21, 3) := by decide +kernel
theorem dX5_asksRank_14 : decode cX5_asksRank 14 = .ok (.iload_n 1, 1) := by decide +kernel
theorem dX5_asksRank_15 : decode cX5_asksRank 15 = .ok (.iaload, 1) := by decide +kernel
theorem dX5_asksRank_16 : decode cX5_asksRank 16 = .ok (.iconst 3, 1) := by decide +kernel
theorem dX5_asksRank_17 : decode cX5_asksRank 17 = .ok (.if_icmp .ne 5, 3) := by decide +kernel
theorem dX5_asksRank_20 : decode cX5_asksRank 20 = .ok (.iconst 1, 1) := by decide +kernel
theorem dX5_asksRank_21 : decode cX5_asksRank 21 = .ok (.ireturn, 1) := by decide +kernel
theorem dX5_asksRank_22 : decode cX5_asksRank 22 = .ok (.iinc 1 1, 3) := by decide +kernel
theorem dX5_asksRank_25 : decode cX5_asksRank 25 = .ok (.goto (-23), 3) := by decide +kernel
theorem dX5_asksRank_28 : decode cX5_asksRank 28 = .ok (.aload_n 0, 1) := by decide +kernel
theorem dX5_asksRank_29 : decode cX5_asksRank 29 = .ok (.iconst 3, 1) := by decide +kernel
theorem dX5_asksRank_30 : decode cX5_asksRank 30 = .ok (.invokevirtual 58, 3) := by decide +kernel
theorem dX5_asksRank_33 : decode cX5_asksRank 33 = .ok (.ireturn, 1) := by decide +kernel
theorem dX5_addKey_0 : decode cX5_addKey 0 = .ok (.aload_n 0, 1) := by decide +kernel
theorem dX5_addKey_1 : decode cX5_addKey 1 = .ok (.getfield 47, 3) := by decide +kernel
theorem dX5_addKey_4 : decode cX5_addKey 4 = .ok (.bipush 6, 2) := by decide +kernel
theorem dX5_addKey_6 : decode cX5_addKey 6 = .ok (.if_icmp .ge 33, 3) := by decide +kernel
theorem dX5_addKey_9 : decode cX5_addKey 9 = .ok (.aload_n 0, 1) := by decide +kernel
theorem dX5_addKey_10 : decode cX5_addKey 10 = .ok (.getfield 11, 3) := by decide +kernel
theorem dX5_addKey_13 : decode cX5_addKey 13 = .ok (.aload_n 0, 1) := by decide +kernel
theorem dX5_addKey_14 : decode cX5_addKey 14 = .ok (.getfield 47, 3) := by decide +kernel
theorem dX5_addKey_17 : decode cX5_addKey 17 = .ok (.iload_n 1, 1) := by decide +kernel
theorem dX5_addKey_18 : decode cX5_addKey 18 = .ok (.iastore, 1) := by decide +kernel
theorem dX5_addKey_19 : decode cX5_addKey 19 = .ok (.aload_n 0, 1) := by decide +kernel
theorem dX5_addKey_20 : decode cX5_addKey 20 = .ok (.getfield 17, 3) := by decide +kernel
theorem dX5_addKey_23 : decode cX5_addKey 23 = .ok (.aload_n 0, 1) := by decide +kernel
theorem dX5_addKey_24 : decode cX5_addKey 24 = .ok (.getfield 47, 3) := by decide +kernel
theorem dX5_addKey_27 : decode cX5_addKey 27 = .ok (.iload_n 2, 1) := by decide +kernel
theorem dX5_addKey_28 : decode cX5_addKey 28 = .ok (.bastore, 1) := by decide +kernel
theorem dX5_addKey_29 : decode cX5_addKey 29 = .ok (.aload_n 0, 1) := by decide +kernel
theorem dX5_addKey_30 : decode cX5_addKey 30 = .ok (.dup, 1) := by decide +kernel
theorem dX5_addKey_31 : decode cX5_addKey 31 = .ok (.getfield 47, 3) := by decide +kernel
theorem dX5_addKey_34 : decode cX5_addKey 34 = .ok (.iconst 1, 1) := by decide +kernel
theorem dX5_addKey_35 : decode cX5_addKey 35 = .ok (.iadd, 1) := by decide +kernel
theorem dX5_addKey_36 : decode cX5_addKey 36 = .ok (.putfield 47, 3) := by decide +kernel
theorem dX5_addKey_39 : decode cX5_addKey 39 = .ok (.return_, 1) := by decide +kernel
theorem dX5_addTest_0 : decode cX5_addTest 0 = .ok (.aload_n 0, 1) := by decide +kernel
theorem dX5_addTest_1 : decode cX5_addTest 1 = .ok (.getfield 51, 3) := by decide +kernel
theorem dX5_addTest_4 : decode cX5_addTest 4 = .ok (.iconst 4, 1) := by decide +kernel
theorem dX5_addTest_5 : decode cX5_addTest 5 = .ok (.if_icmp .ge 43, 3) := by decide +kernel
theorem dX5_addTest_8 : decode cX5_addTest 8 = .ok (.aload_n 0, 1) := by decide +kernel
theorem dX5_addTest_9 : decode cX5_addTest 9 = .ok (.getfield 21, 3) := by decide +kernel
theorem dX5_addTest_12 : decode cX5_addTest 12 = .ok (.aload_n 0, 1) := by decide +kernel
theorem dX5_addTest_13 : decode cX5_addTest 13 = .ok (.getfield 51, 3) := by decide +kernel
theorem dX5_addTest_16 : decode cX5_addTest 16 = .ok (.iload_n 1, 1) := by decide +kernel
theorem dX5_addTest_17 : decode cX5_addTest 17 = .ok (.iastore, 1) := by decide +kernel
theorem dX5_addTest_18 : decode cX5_addTest 18 = .ok (.aload_n 0, 1) := by decide +kernel
theorem dX5_addTest_19 : decode cX5_addTest 19 = .ok (.getfield 24, 3) := by decide +kernel
theorem dX5_addTest_22 : decode cX5_addTest 22 = .ok (.aload_n 0, 1) := by decide +kernel
theorem dX5_addTest_23 : decode cX5_addTest 23 = .ok (.getfield 51, 3) := by decide +kernel
theorem dX5_addTest_26 : decode cX5_addTest 26 = .ok (.iload_n 2, 1) := by decide +kernel
theorem dX5_addTest_27 : decode cX5_addTest 27 = .ok (.bastore, 1) := by decide +kernel
theorem dX5_addTest_28 : decode cX5_addTest 28 = .ok (.aload_n 0, 1) := by decide +kernel
theorem dX5_addTest_29 : decode cX5_addTest 29 = .ok (.getfield 27, 3) := by decide +kernel
theorem dX5_addTest_32 : decode cX5_addTest 32 = .ok (.aload_n 0, 1) := by decide +kernel
theorem dX5_addTest_33 : decode cX5_addTest 33 = .ok (.getfield 51, 3) := by decide +kernel
theorem dX5_addTest_36 : decode cX5_addTest 36 = .ok (.iload_n 3, 1) := by decide +kernel
theorem dX5_addTest_37 : decode cX5_addTest 37 = .ok (.iastore, 1) := by decide +kernel
theorem dX5_addTest_38 : decode cX5_addTest 38 = .ok (.aload_n 0, 1) := by decide +kernel
theorem dX5_addTest_39 : decode cX5_addTest 39 = .ok (.dup, 1) := by decide +kernel
theorem dX5_addTest_40 : decode cX5_addTest 40 = .ok (.getfield 51, 3) := by decide +kernel
theorem dX5_addTest_43 : decode cX5_addTest 43 = .ok (.iconst 1, 1) := by decide +kernel
theorem dX5_addTest_44 : decode cX5_addTest 44 = .ok (.iadd, 1) := by decide +kernel
theorem dX5_addTest_45 : decode cX5_addTest 45 = .ok (.putfield 51, 3) := by decide +kernel
theorem dX5_addTest_48 : decode cX5_addTest 48 = .ok (.return_, 1) := by decide +kernel
theorem dX6_init_0 : decode cX6_init 0 = .ok (.aload_n 0, 1) := by decide +kernel
theorem dX6_init_1 : decode cX6_init 1 = .ok (.invokespecial 3, 3) := by decide +kernel
theorem dX6_init_4 : decode cX6_init 4 = .ok (.aload_n 0, 1) := by decide +kernel
theorem dX6_init_5 : decode cX6_init 5 = .ok (.bipush 64, 2) := by decide +kernel
theorem dX6_init_7 : decode cX6_init 7 = .ok (.newarray .int, 2) := by decide +kernel
theorem dX6_init_9 : decode cX6_init 9 = .ok (.putfield 9, 3) := by decide +kernel
theorem dX6_init_12 : decode cX6_init 12 = .ok (.aload_n 0, 1) := by decide +kernel
theorem dX6_init_13 : decode cX6_init 13 = .ok (.bipush (-4), 2) := by decide +kernel
theorem dX6_init_15 : decode cX6_init 15 = .ok (.putfield 15, 3) := by decide +kernel
theorem dX6_init_18 : decode cX6_init 18 = .ok (.return_, 1) := by decide +kernel
theorem dX6_isNothing_0 : decode cX6_isNothing 0 = .ok (.aload_n 0, 1) := by decide +kernel
theorem dX6_isNothing_1 : decode cX6_isNothing 1 = .ok (.getfield 15, 3) := by decide +kernel
theorem dX6_isNothing_4 : decode cX6_isNothing 4 = .ok (.bipush (-4), 2) := by decide +kernel
theorem dX6_isNothing_6 : decode cX6_isNothing 6 = .ok (.if_icmp .ne 7, 3) := by decide +kernel
theorem dX6_isNothing_9 : decode cX6_isNothing 9 = .ok (.iconst 1, 1) := by decide +kernel
theorem dX6_isNothing_10 : decode cX6_isNothing 10 = .ok (.goto 4, 3) := by decide +kernel
theorem dX6_isNothing_13 : decode cX6_isNothing 13 = .ok (.iconst 0, 1) := by decide +kernel
theorem dX6_isNothing_14 : decode cX6_isNothing 14 = .ok (.ireturn, 1) := by decide +kernel
theorem dX6_hasCell_0 : decode cX6_hasCell 0 = .ok (.iload_n 1, 1) := by decide +kernel
theorem dX6_hasCell_1 : decode cX6_hasCell 1 = .ok (.ifCond .lt 15, 3) := by decide +kernel
theorem dX6_hasCell_4 : decode cX6_hasCell 4 = .ok (.iload_n 1, 1) := by decide +kernel
theorem dX6_hasCell_5 : decode cX6_hasCell 5 = .ok (.aload_n 0, 1) := by decide +kernel
theorem dX6_hasCell_6 : decode cX6_hasCell 6 = .ok (.getfield 19, 3) := by decide +kernel
theorem dX6_hasCell_9 : decode cX6_hasCell 9 = .ok (.if_icmp .ge 7, 3) := by decide +kernel
theorem dX6_hasCell_12 : decode cX6_hasCell 12 = .ok (.iconst 1, 1) := by decide +kernel
theorem dX6_hasCell_13 : decode cX6_hasCell 13 = .ok (.goto 4, 3) := by decide +kernel
theorem dX6_hasCell_16 : decode cX6_hasCell 16 = .ok (.iconst 0, 1) := by decide +kernel
theorem dX6_hasCell_17 : decode cX6_hasCell 17 = .ok (.ireturn, 1) := by decide +kernel
theorem dX6_renew_0 : decode cX6_renew 0 = .ok (.aload_n 0, 1) := by decide +kernel
theorem dX6_renew_1 : decode cX6_renew 1 = .ok (.iload_n 1, 1) := by decide +kernel
theorem dX6_renew_2 : decode cX6_renew 2 = .ok (.putfield 15, 3) := by decide +kernel
theorem dX6_renew_5 : decode cX6_renew 5 = .ok (.aload_n 0, 1) := by decide +kernel
theorem dX6_renew_6 : decode cX6_renew 6 = .ok (.iload_n 2, 1) := by decide +kernel
theorem dX6_renew_7 : decode cX6_renew 7 = .ok (.putfield 19, 3) := by decide +kernel
theorem dX6_renew_10 : decode cX6_renew 10 = .ok (.aload_n 0, 1) := by decide +kernel
theorem dX6_renew_11 : decode cX6_renew 11 = .ok (.getfield 9, 3) := by decide +kernel
theorem dX6_renew_14 : decode cX6_renew 14 = .ok (.iconst 0, 1) := by decide +kernel
theorem dX6_renew_15 : decode cX6_renew 15 = .ok (.invokestatic 22, 3) := by decide +kernel
theorem dX6_renew_18 : decode cX6_renew 18 = .ok (.return_, 1) := by decide +kernel
theorem dX6_put_0 : decode cX6_put 0 = .ok (.aload_n 0, 1) := by decide +kernel
theorem dX6_put_1 : decode cX6_put 1 = .ok (.getfield 9, 3) := by decide +kernel
theorem dX6_put_4 : decode cX6_put 4 = .ok (.iload_n 1, 1) := by decide +kernel
theorem dX6_put_5 : decode cX6_put 5 = .ok (.aload_n 0, 1) := by decide +kernel
theorem dX6_put_6 : decode cX6_put 6 = .ok (.getfield 15, 3) := by decide +kernel
theorem dX6_put_9 : decode cX6_put 9 = .ok (.ifCond .ne 8, 3) := by decide +kernel
theorem dX6_put_12 : decode cX6_put 12 = .ok (.iload_n 2, 1) := by decide +kernel
theorem dX6_put_13 : decode cX6_put 13 = .ok (.i2b, 1) := by decide +kernel
theorem dX6_put_14 : decode cX6_put 14 = .ok (.goto 17, 3) := by decide +kernel
theorem dX6_put_17 : decode cX6_put 17 = .ok (.aload_n 0, 1) := by decide +kernel
theorem dX6_put_18 : decode cX6_put 18 = .ok (.getfield 15, 3) := by decide +kernel
theorem dX6_put_21 : decode cX6_put 21 = .ok (.iconst 1, 1) := by decide +kernel
theorem dX6_put_22 : decode cX6_put 22 = .ok (.if_icmp .ne 8, 3) := by decide +kernel
theorem dX6_put_25 : decode cX6_put 25 = .ok (.iload_n 2, 1) := by decide +kernel
theorem dX6_put_26 : decode cX6_put 26 = .ok (.i2s, 1) := by decide +kernel
theorem dX6_put_27 : decode cX6_put 27 = .ok (.goto 4, 3) := by decide +kernel
theorem dX6_put_30 : decode cX6_put 30 = .ok (.iload_n 2, 1) := by decide +kernel
theorem dX6_put_31 : decode cX6_put 31 = .ok (.iastore, 1) := by decide +kernel
theorem dX6_put_32 : decode cX6_put 32 = .ok (.return_, 1) := by decide +kernel
theorem dX7_init_0 : decode cX7_init 0 = .ok (.aload_n 0, 1) := by decide +kernel
theorem dX7_init_1 : decode cX7_init 1 = .ok (.invokespecial 3, 3) := by decide +kernel
theorem dX7_init_4 : decode cX7_init 4 = .ok (.aload_n 0, 1) := by decide +kernel
theorem dX7_init_5 : decode cX7_init 5 = .ok (.bipush 6, 2) := by decide +kernel
theorem dX7_init_7 : decode cX7_init 7 = .ok (.newarray .int, 2) := by decide +kernel
theorem dX7_init_9 : decode cX7_init 9 = .ok (.putfield 9, 3) := by decide +kernel
theorem dX7_init_12 : decode cX7_init 12 = .ok (.aload_n 0, 1) := by decide +kernel
theorem dX7_init_13 : decode cX7_init 13 = .ok (.bipush 6, 2) := by decide +kernel
theorem dX7_init_15 : decode cX7_init 15 = .ok (.newarray .int, 2) := by decide +kernel
theorem dX7_init_17 : decode cX7_init 17 = .ok (.putfield 15, 3) := by decide +kernel
theorem dX7_init_20 : decode cX7_init 20 = .ok (.aload_n 0, 1) := by decide +kernel
theorem dX7_init_21 : decode cX7_init 21 = .ok (.bipush 9, 2) := by decide +kernel
theorem dX7_init_23 : decode cX7_init 23 = .ok (.newarray .int, 2) := by decide +kernel
theorem dX7_init_25 : decode cX7_init 25 = .ok (.putfield 18, 3) := by decide +kernel
theorem dX7_init_28 : decode cX7_init 28 = .ok (.aload_n 0, 1) := by decide +kernel
theorem dX7_init_29 : decode cX7_init 29 = .ok (.bipush 9, 2) := by decide +kernel
theorem dX7_init_31 : decode cX7_init 31 = .ok (.newarray .int, 2) := by decide +kernel
theorem dX7_init_33 : decode cX7_init 33 = .ok (.putfield 21, 3) := by decide +kernel
theorem dX7_init_36 : decode cX7_init 36 = .ok (.aload_n 0, 1) := by decide +kernel
theorem dX7_init_37 : decode cX7_init 37 = .ok (.bipush 18, 2) := by decide +kernel
theorem dX7_init_39 : decode cX7_init 39 = .ok (.newarray .int, 2) := by decide +kernel
theorem dX7_init_41 : decode cX7_init 41 = .ok (.putfield 24, 3) := by decide +kernel
theorem dX7_init_44 : decode cX7_init 44 = .ok (.aload_n 0, 1) := by decide +kernel
theorem dX7_init_45 : decode cX7_init 45 = .ok (.bipush 18, 2) := by decide +kernel
theorem dX7_init_47 : decode cX7_init 47 = .ok (.newarray .int, 2) := by decide +kernel
theorem dX7_init_49 : decode cX7_init 49 = .ok (.putfield 27, 3) := by decide +kernel
theorem dX7_init_52 : decode cX7_init 52 = .ok (.aload_n 0, 1) := by decide +kernel
theorem dX7_init_53 : decode cX7_init 53 = .ok (.bipush 18, 2) := by decide +kernel
theorem dX7_init_55 : decode cX7_init 55 = .ok (.newarray .int, 2) := by decide +kernel
theorem dX7_init_57 : decode cX7_init 57 = .ok (.putfield 30, 3) := by decide +kernel
theorem dX7_init_60 : decode cX7_init 60 = .ok (.aload_n 0, 1) := by decide +kernel
theorem dX7_init_61 : decode cX7_init 61 = .ok (.bipush 18, 2) := by decide +kernel
theorem dX7_init_63 : decode cX7_init 63 = .ok (.newarray .int, 2) := by decide +kernel
theorem dX7_init_65 : decode cX7_init 65 = .ok (.putfield 33, 3) := by decide +kernel
theorem dX7_init_68 : decode cX7_init 68 = .ok (.aload_n 0, 1) := by decide +kernel
theorem dX7_init_69 : decode cX7_init 69 = .ok (.bipush 18, 2) := by decide +kernel
theorem dX7_init_71 : decode cX7_init 71 = .ok (.newarray .boolean, 2) := by decide +kernel
theorem dX7_init_73 : decode cX7_init 73 = .ok (.putfield 36, 3) := by decide +kernel
theorem dX7_init_76 : decode cX7_init 76 = .ok (.aload_n 0, 1) := by decide +kernel
theorem dX7_init_77 : decode cX7_init 77 = .ok (.aload_n 1, 1) := by decide +kernel
theorem dX7_init_78 : decode cX7_init 78 = .ok (.putfield 40, 3) := by decide +kernel
theorem dX7_init_81 : decode cX7_init 81 = .ok (.aload_n 0, 1) := by decide +kernel
theorem dX7_init_82 : decode cX7_init 82 = .ok (.getfield 18, 3) := by decide +kernel
theorem dX7_init_85 : decode cX7_init 85 = .ok (.bipush (-4), 2) := by decide +kernel
theorem dX7_init_87 : decode cX7_init 87 = .ok (.invokestatic 44, 3) := by decide +kernel
theorem dX7_init_90 : decode cX7_init 90 = .ok (.return_, 1) := by decide +kernel
theorem dX7_clear_0 : decode cX7_clear 0 = .ok (.aload_n 0, 1) := by decide +kernel
theorem dX7_clear_1 : decode cX7_clear 1 = .ok (.getfield 9, 3) := by decide +kernel
theorem dX7_clear_4 : decode cX7_clear 4 = .ok (.iconst 0, 1) := by decide +kernel
theorem dX7_clear_5 : decode cX7_clear 5 = .ok (.invokestatic 44, 3) := by decide +kernel
theorem dX7_clear_8 : decode cX7_clear 8 = .ok (.aload_n 0, 1) := by decide +kernel
theorem dX7_clear_9 : decode cX7_clear 9 = .ok (.getfield 15, 3) := by decide +kernel
theorem dX7_clear_12 : decode cX7_clear 12 = .ok (.iconst 0, 1) := by decide +kernel
theorem dX7_clear_13 : decode cX7_clear 13 = .ok (.invokestatic 44, 3) := by decide +kernel
theorem dX7_clear_16 : decode cX7_clear 16 = .ok (.aload_n 0, 1) := by decide +kernel
theorem dX7_clear_17 : decode cX7_clear 17 = .ok (.getfield 18, 3) := by decide +kernel
theorem dX7_clear_20 : decode cX7_clear 20 = .ok (.bipush (-4), 2) := by decide +kernel
theorem dX7_clear_22 : decode cX7_clear 22 = .ok (.invokestatic 44, 3) := by decide +kernel
theorem dX7_clear_25 : decode cX7_clear 25 = .ok (.aload_n 0, 1) := by decide +kernel
theorem dX7_clear_26 : decode cX7_clear 26 = .ok (.getfield 21, 3) := by decide +kernel
theorem dX7_clear_29 : decode cX7_clear 29 = .ok (.iconst 0, 1) := by decide +kernel
theorem dX7_clear_30 : decode cX7_clear 30 = .ok (.invokestatic 44, 3) := by decide +kernel
theorem dX7_clear_33 : decode cX7_clear 33 = .ok (.aload_n 0, 1) := by decide +kernel
theorem dX7_clear_34 : decode cX7_clear 34 = .ok (.iconst 0, 1) := by decide +kernel
theorem dX7_clear_35 : decode cX7_clear 35 = .ok (.putfield 50, 3) := by decide +kernel
theorem dX7_clear_38 : decode cX7_clear 38 = .ok (.aload_n 0, 1) := by decide +kernel
theorem dX7_clear_39 : decode cX7_clear 39 = .ok (.iconst 0, 1) := by decide +kernel
theorem dX7_clear_40 : decode cX7_clear 40 = .ok (.putfield 54, 3) := by decide +kernel
theorem dX7_clear_43 : decode cX7_clear 43 = .ok (.aload_n 0, 1) := by decide +kernel
theorem dX7_clear_44 : decode cX7_clear 44 = .ok (.iconst 0, 1) := by decide +kernel
theorem dX7_clear_45 : decode cX7_clear 45 = .ok (.putfield 57, 3) := by decide +kernel
theorem dX7_clear_48 : decode cX7_clear 48 = .ok (.return_, 1) := by decide +kernel
theorem dX7_runByNumbers_0 : decode cX7_runByNumbers 0 = .ok (.aload_n 0, 1) := by decide +kernel
theorem dX7_runByNumbers_1 : decode cX7_runByNumbers 1 = .ok (.invokevirtual 60, 3) := by decide +kernel
theorem dX7_runByNumbers_4 : decode cX7_runByNumbers 4 = .ok (.iconst 0, 1) := by decide +kernel
theorem dX7_runByNumbers_5 : decode cX7_runByNumbers 5 = .ok (.istore_n 2, 1) := by decide +kernel
theorem dX7_runByNumbers_6 : decode cX7_runByNumbers 6 = .ok (.iload_n 2, 1) := by decide +kernel
theorem dX7_runByNumbers_7 : decode cX7_runByNumbers 7 = .ok (.aload_n 0, 1) := by decide +kernel
theorem dX7_runByNumbers_8 : decode cX7_runByNumbers 8 = .ok (.getfield 40, 3) := by decide +kernel
theorem dX7_runByNumbers_11 : decode cX7_runByNumbers 11 = .ok (.getfield 63, 3) := by decide +kernel
theorem dX7_runByNumbers_14 : decode cX7_runByNumbers 14 = .ok (.if_icmp .ge 16, 3) := by decide +kernel
theorem dX7_runByNumbers_17 : decode cX7_runByNumbers 17 = .ok (.aload_n 0, 1) := by decide +kernel
theorem dX7_runByNumbers_18 : decode cX7_runByNumbers 18 = .ok (.iload_n 2, 1) := by decide +kernel
theorem dX7_runByNumbers_19 : decode cX7_runByNumbers 19 = .ok (.aload_n 1, 1) := by decide +kernel
theorem dX7_runByNumbers_20 : decode cX7_runByNumbers 20 = .ok (.invokevirtual 68, 3) := by decide +kernel
theorem dX7_runByNumbers_23 : decode cX7_runByNumbers 23 = .ok (.pop, 1) := by decide +kernel
theorem dX7_runByNumbers_24 : decode cX7_runByNumbers 24 = .ok (.iinc 2 1, 3) := by decide +kernel
theorem dX7_runByNumbers_27 : decode cX7_runByNumbers 27 = .ok (.goto (-21), 3) := by decide +kernel
theorem dX7_runByNumbers_30 : decode cX7_runByNumbers 30 = .ok (.return_, 1) := by decide +kernel
theorem dX7_hasCome_0 : decode cX7_hasCome 0 = .ok (.aload_n 0, 1) := by decide +kernel
theorem dX7_hasCome_1 : decode cX7_hasCome 1 = .ok (.getfield 21, 3) := by decide +kernel
theorem dX7_hasCome_4 : decode cX7_hasCome 4 = .ok (.iload_n 1, 1) := by decide +kernel
theorem dX7_hasCome_5 : decode cX7_hasCome 5 = .ok (.iaload, 1) := by decide +kernel
theorem dX7_hasCome_6 : decode cX7_hasCome 6 = .ok (.ifCond .le 7, 3) := by decide +kernel
theorem dX7_hasCome_9 : decode cX7_hasCome 9 = .ok (.iconst 1, 1) := by decide +kernel
theorem dX7_hasCome_10 : decode cX7_hasCome 10 = .ok (.goto 4, 3) := by decide +kernel
theorem dX7_hasCome_13 : decode cX7_hasCome 13 = .ok (.iconst 0, 1) := by decide +kernel
theorem dX7_hasCome_14 : decode cX7_hasCome 14 = .ok (.ireturn, 1) := by decide +kernel
theorem dX7_freeAt_0 : decode cX7_freeAt 0 = .ok (.aload_n 0, 1) := by decide +kernel
theorem dX7_freeAt_1 : decode cX7_freeAt 1 = .ok (.getfield 40, 3) := by decide +kernel
theorem dX7_freeAt_4 : decode cX7_freeAt 4 = .ok (.getfield 72, 3) := by decide +kernel
theorem dX7_freeAt_7 : decode cX7_freeAt 7 = .ok (.iload_n 1, 1) := by decide +kernel
theorem dX7_freeAt_8 : decode cX7_freeAt 8 = .ok (.iaload, 1) := by decide +kernel
theorem dX7_freeAt_9 : decode cX7_freeAt 9 = .ok (.aload_n 0, 1) := by decide +kernel
theorem dX7_freeAt_10 : decode cX7_freeAt 10 = .ok (.getfield 9, 3) := by decide +kernel
theorem dX7_freeAt_13 : decode cX7_freeAt 13 = .ok (.iload_n 1, 1) := by decide +kernel
theorem dX7_freeAt_14 : decode cX7_freeAt 14 = .ok (.iaload, 1) := by decide +kernel
theorem dX7_freeAt_15 : decode cX7_freeAt 15 = .ok (.isub, 1) := by decide +kernel
theorem dX7_freeAt_16 : decode cX7_freeAt 16 = .ok (.ireturn, 1) := by decide +kernel
theorem dX7_heldBits_0 : decode cX7_heldBits 0 = .ok (.iconst 0, 1) := by decide +kernel
theorem dX7_heldBits_1 : decode cX7_heldBits 1 = .ok (.istore_n 2, 1) := by decide +kernel
theorem dX7_heldBits_2 : decode cX7_heldBits 2 = .ok (.iconst 0, 1) := by decide +kernel
theorem dX7_heldBits_3 : decode cX7_heldBits 3 = .ok (.istore_n 3, 1) := by decide +kernel
theorem dX7_heldBits_4 : decode cX7_heldBits 4 = .ok (.iload_n 3, 1) := by decide +kernel
theorem dX7_heldBits_5 : decode cX7_heldBits 5 = .ok (.aload_n 0, 1) := by decide +kernel
theorem dX7_heldBits_6 : decode cX7_heldBits 6 = .ok (.getfield 40, 3) := by decide +kernel
theorem dX7_heldBits_9 : decode cX7_heldBits 9 = .ok (.getfield 63, 3) := by decide +kernel
theorem dX7_heldBits_12 : decode cX7_heldBits 12 = .ok (.if_icmp .ge 25, 3) := by decide +kernel
theorem dX7_heldBits_15 : decode cX7_heldBits 15 = .ok (.aload_n 0, 1) := by decide +kernel
theorem dX7_heldBits_16 : decode cX7_heldBits 16 = .ok (.getfield 18, 3) := by decide +kernel
theorem dX7_heldBits_19 : decode cX7_heldBits 19 = .ok (.iload_n 3, 1) := by decide +kernel
theorem dX7_heldBits_20 : decode cX7_heldBits 20 = .ok (.iaload, 1) := by decide +kernel
theorem dX7_heldBits_21 : decode cX7_heldBits 21 = .ok (.iload_n 1, 1) := by decide +kernel
theorem dX7_heldBits_22 : decode cX7_heldBits 22 = .ok (.if_icmp .ne 9, 3) := by decide +kernel
theorem dX7_heldBits_25 : decode cX7_heldBits 25 = .ok (.iload_n 2, 1) := by decide +kernel
theorem dX7_heldBits_26 : decode cX7_heldBits 26 = .ok (.iconst 1, 1) := by decide +kernel
theorem dX7_heldBits_27 : decode cX7_heldBits 27 = .ok (.iload_n 3, 1) := by decide +kernel
theorem dX7_heldBits_28 : decode cX7_heldBits 28 = .ok (.ishl, 1) := by decide +kernel
theorem dX7_heldBits_29 : decode cX7_heldBits 29 = .ok (.ior, 1) := by decide +kernel
theorem dX7_heldBits_30 : decode cX7_heldBits 30 = .ok (.istore_n 2, 1) := by decide +kernel
theorem dX7_heldBits_31 : decode cX7_heldBits 31 = .ok (.iinc 3 1, 3) := by decide +kernel
theorem dX7_heldBits_34 : decode cX7_heldBits 34 = .ok (.goto (-30), 3) := by decide +kernel
theorem dX7_heldBits_37 : decode cX7_heldBits 37 = .ok (.iload_n 2, 1) := by decide +kernel
theorem dX7_heldBits_38 : decode cX7_heldBits 38 = .ok (.ireturn, 1) := by decide +kernel
theorem dX7_value_0 : decode cX7_value 0 = .ok (.iconst 0, 1) := by decide +kernel
theorem dX7_value_1 : decode cX7_value 1 = .ok (.istore_n 1, 1) := by decide +kernel
theorem dX7_value_2 : decode cX7_value 2 = .ok (.iconst 0, 1) := by decide +kernel
theorem dX7_value_3 : decode cX7_value 3 = .ok (.istore_n 2, 1) := by decide +kernel
theorem dX7_value_4 : decode cX7_value 4 = .ok (.iload_n 2, 1) := by decide +kernel
theorem dX7_value_5 : decode cX7_value 5 = .ok (.aload_n 0, 1) := by decide +kernel
theorem dX7_value_6 : decode cX7_value 6 = .ok (.getfield 40, 3) := by decide +kernel
theorem dX7_value_9 : decode cX7_value 9 = .ok (.getfield 75, 3) := by decide +kernel
theorem dX7_value_12 : decode cX7_value 12 = .ok (.if_icmp .ge 18, 3) := by decide +kernel
theorem dX7_value_15 : decode cX7_value 15 = .ok (.iload_n 1, 1) := by decide +kernel
theorem dX7_value_16 : decode cX7_value 16 = .ok (.aload_n 0, 1) := by decide +kernel
theorem dX7_value_17 : decode cX7_value 17 = .ok (.getfield 15, 3) := by decide +kernel
theorem dX7_value_20 : decode cX7_value 20 = .ok (.iload_n 2, 1) := by decide +kernel
theorem dX7_value_21 : decode cX7_value 21 = .ok (.iaload, 1) := by decide +kernel
theorem dX7_value_22 : decode cX7_value 22 = .ok (.iadd, 1) := by decide +kernel
theorem dX7_value_23 : decode cX7_value 23 = .ok (.istore_n 1, 1) := by decide +kernel
theorem dX7_value_24 : decode cX7_value 24 = .ok (.iinc 2 1, 3) := by decide +kernel
theorem dX7_value_27 : decode cX7_value 27 = .ok (.goto (-23), 3) := by decide +kernel
theorem dX7_value_30 : decode cX7_value 30 = .ok (.iload_n 1, 1) := by decide +kernel
theorem dX7_value_31 : decode cX7_value 31 = .ok (.ireturn, 1) := by decide +kernel
theorem dX7_kept_0 : decode cX7_kept 0 = .ok (.iconst 0, 1) := by decide +kernel
theorem dX7_kept_1 : decode cX7_kept 1 = .ok (.istore_n 1, 1) := by decide +kernel
theorem dX7_kept_2 : decode cX7_kept 2 = .ok (.iconst 0, 1) := by decide +kernel
theorem dX7_kept_3 : decode cX7_kept 3 = .ok (.istore_n 2, 1) := by decide +kernel
theorem dX7_kept_4 : decode cX7_kept 4 = .ok (.iload_n 2, 1) := by decide +kernel
theorem dX7_kept_5 : decode cX7_kept 5 = .ok (.aload_n 0, 1) := by decide +kernel
theorem dX7_kept_6 : decode cX7_kept 6 = .ok (.getfield 40, 3) := by decide +kernel
theorem dX7_kept_9 : decode cX7_kept 9 = .ok (.getfield 63, 3) := by decide +kernel
theorem dX7_kept_12 : decode cX7_kept 12 = .ok (.if_icmp .ge 37, 3) := by decide +kernel
theorem dX7_kept_15 : decode cX7_kept 15 = .ok (.aload_n 0, 1) := by decide +kernel
theorem dX7_kept_16 : decode cX7_kept 16 = .ok (.getfield 18, 3) := by decide +kernel
theorem dX7_kept_19 : decode cX7_kept 19 = .ok (.iload_n 2, 1) := by decide +kernel
theorem dX7_kept_20 : decode cX7_kept 20 = .ok (.iaload, 1) := by decide +kernel
theorem dX7_kept_21 : decode cX7_kept 21 = .ok (.bipush (-4), 2) := by decide +kernel
theorem dX7_kept_23 : decode cX7_kept 23 = .ok (.if_icmp .eq 20, 3) := by decide +kernel
theorem dX7_kept_26 : decode cX7_kept 26 = .ok (.iload_n 1, 1) := by decide +kernel
theorem dX7_kept_27 : decode cX7_kept 27 = .ok (.aload_n 0, 1) := by decide +kernel
theorem dX7_kept_28 : decode cX7_kept 28 = .ok (.getfield 40, 3) := by decide +kernel
theorem dX7_kept_31 : decode cX7_kept 31 = .ok (.iload_n 2, 1) := by decide +kernel
theorem dX7_kept_32 : decode cX7_kept 32 = .ok (.aload_n 0, 1) := by decide +kernel
theorem dX7_kept_33 : decode cX7_kept 33 = .ok (.getfield 18, 3) := by decide +kernel
theorem dX7_kept_36 : decode cX7_kept 36 = .ok (.iload_n 2, 1) := by decide +kernel
theorem dX7_kept_37 : decode cX7_kept 37 = .ok (.iaload, 1) := by decide +kernel
theorem dX7_kept_38 : decode cX7_kept 38 = .ok (.invokevirtual 78, 3) := by decide +kernel
theorem dX7_kept_41 : decode cX7_kept 41 = .ok (.iadd, 1) := by decide +kernel
theorem dX7_kept_42 : decode cX7_kept 42 = .ok (.istore_n 1, 1) := by decide +kernel
theorem dX7_kept_43 : decode cX7_kept 43 = .ok (.iinc 2 1, 3) := by decide +kernel
theorem dX7_kept_46 : decode cX7_kept 46 = .ok (.goto (-42), 3) := by decide +kernel
theorem dX7_kept_49 : decode cX7_kept 49 = .ok (.iload_n 1, 1) := by decide +kernel
theorem dX7_kept_50 : decode cX7_kept 50 = .ok (.ireturn, 1) := by decide +kernel
theorem dX7_paired_0 : decode cX7_paired 0 = .ok (.iconst 0, 1) := by decide +kernel
theorem dX7_paired_1 : decode cX7_paired 1 = .ok (.istore_n 1, 1) := by decide +kernel
theorem dX7_paired_2 : decode cX7_paired 2 = .ok (.iconst 0, 1) := by decide +kernel
theorem dX7_paired_3 : decode cX7_paired 3 = .ok (.istore_n 2, 1) := by decide +kernel
theorem dX7_paired_4 : decode cX7_paired 4 = .ok (.iload_n 2, 1) := by decide +kernel
theorem dX7_paired_5 : decode cX7_paired 5 = .ok (.aload_n 0, 1) := by decide +kernel
theorem dX7_paired_6 : decode cX7_paired 6 = .ok (.getfield 40, 3) := by decide +kernel
theorem dX7_paired_9 : decode cX7_paired 9 = .ok (.getfield 63, 3) := by decide +kernel
theorem dX7_paired_12 : decode cX7_paired 12 = .ok (.if_icmp .ge 23, 3) := by decide +kernel
theorem dX7_paired_15 : decode cX7_paired 15 = .ok (.aload_n 0, 1) := by decide +kernel
theorem dX7_paired_16 : decode cX7_paired 16 = .ok (.getfield 18, 3) := by decide +kernel
theorem dX7_paired_19 : decode cX7_paired 19 = .ok (.iload_n 2, 1) := by decide +kernel
theorem dX7_paired_20 : decode cX7_paired 20 = .ok (.iaload, 1) := by decide +kernel
theorem dX7_paired_21 : decode cX7_paired 21 = .ok (.bipush (-4), 2) := by decide +kernel
theorem dX7_paired_23 : decode cX7_paired 23 = .ok (.if_icmp .eq 6, 3) := by decide +kernel
theorem dX7_paired_26 : decode cX7_paired 26 = .ok (.iinc 1 1, 3) := by decide +kernel
theorem dX7_paired_29 : decode cX7_paired 29 = .ok (.iinc 2 1, 3) := by decide +kernel
theorem dX7_paired_32 : decode cX7_paired 32 = .ok (.goto (-28), 3) := by decide +kernel
theorem dX7_paired_35 : decode cX7_paired 35 = .ok (.iload_n 1, 1) := by decide +kernel
theorem dX7_paired_36 : decode cX7_paired 36 = .ok (.ireturn, 1) := by decide +kernel
theorem dX7_canTake_0 : decode cX7_canTake 0 = .ok (.aload_n 0, 1) := by decide +kernel
theorem dX7_canTake_1 : decode cX7_canTake 1 = .ok (.getfield 40, 3) := by decide +kernel
theorem dX7_canTake_4 : decode cX7_canTake 4 = .ok (.iload_n 1, 1) := by decide +kernel
theorem dX7_canTake_5 : decode cX7_canTake 5 = .ok (.iload_n 2, 1) := by decide +kernel
theorem dX7_canTake_6 : decode cX7_canTake 6 = .ok (.invokevirtual 78, 3) := by decide +kernel
theorem dX7_canTake_9 : decode cX7_canTake 9 = .ok (.ifCond .le 33, 3) := by decide +kernel
theorem dX7_canTake_12 : decode cX7_canTake 12 = .ok (.aload_n 0, 1) := by decide +kernel
theorem dX7_canTake_13 : decode cX7_canTake 13 = .ok (.iload_n 2, 1) := by decide +kernel
theorem dX7_canTake_14 : decode cX7_canTake 14 = .ok (.invokevirtual 82, 3) := by decide +kernel
theorem dX7_canTake_17 : decode cX7_canTake 17 = .ok (.ifCond .le 25, 3) := by decide +kernel
theorem dX7_canTake_20 : decode cX7_canTake 20 = .ok (.aload_n 0, 1) := by decide +kernel
theorem dX7_canTake_21 : decode cX7_canTake 21 = .ok (.getfield 15, 3) := by decide +kernel
theorem dX7_canTake_24 : decode cX7_canTake 24 = .ok (.iload_n 2, 1) := by decide +kernel
theorem dX7_canTake_25 : decode cX7_canTake 25 = .ok (.iaload, 1) := by decide +kernel
theorem dX7_canTake_26 : decode cX7_canTake 26 = .ok (.aload_n 0, 1) := by decide +kernel
theorem dX7_canTake_27 : decode cX7_canTake 27 = .ok (.getfield 40, 3) := by decide +kernel
theorem dX7_canTake_30 : decode cX7_canTake 30 = .ok (.getfield 86, 3) := by decide +kernel
theorem dX7_canTake_33 : decode cX7_canTake 33 = .ok (.iload_n 2, 1) := by decide +kernel
theorem dX7_canTake_34 : decode cX7_canTake 34 = .ok (.iaload, 1) := by decide +kernel
theorem dX7_canTake_35 : decode cX7_canTake 35 = .ok (.if_icmp .ge 7, 3) := by decide +kernel
theorem dX7_canTake_38 : decode cX7_canTake 38 = .ok (.iconst 1, 1) := by decide +kernel
theorem dX7_canTake_39 : decode cX7_canTake 39 = .ok (.goto 4, 3) := by decide +kernel
theorem dX7_canTake_42 : decode cX7_canTake 42 = .ok (.iconst 0, 1) := by decide +kernel
theorem dX7_canTake_43 : decode cX7_canTake 43 = .ok (.ireturn, 1) := by decide +kernel
theorem dX7_comeBy_0 : decode cX7_comeBy 0 = .ok (.aload_n 0, 1) := by decide +kernel
theorem dX7_comeBy_1 : decode cX7_comeBy 1 = .ok (.iload_n 1, 1) := by decide +kernel
theorem dX7_comeBy_2 : decode cX7_comeBy 2 = .ok (.aload_n 2, 1) := by decide +kernel
theorem dX7_comeBy_3 : decode cX7_comeBy 3 = .ok (.invokevirtual 89, 3) := by decide +kernel
theorem dX7_comeBy_6 : decode cX7_comeBy 6 = .ok (.istore_n 3, 1) := by decide +kernel
theorem dX7_comeBy_7 : decode cX7_comeBy 7 = .ok (.aload_n 0, 1) := by decide +kernel
theorem dX7_comeBy_8 : decode cX7_comeBy 8 = .ok (.iload_n 1, 1) := by decide +kernel
theorem dX7_comeBy_9 : decode cX7_comeBy 9 = .ok (.iload_n 3, 1) := by decide +kernel
theorem dX7_comeBy_10 : decode cX7_comeBy 10 = .ok (.invokevirtual 92, 3) := by decide +kernel
theorem dX7_comeBy_13 : decode cX7_comeBy 13 = .ok (.pop, 1) := by decide +kernel
theorem dX7_comeBy_14 : decode cX7_comeBy 14 = .ok (.iload_n 3, 1) := by decide +kernel
theorem dX7_comeBy_15 : decode cX7_comeBy 15 = .ok (.ireturn, 1) := by decide +kernel
theorem dX7_choose_0 : decode cX7_choose 0 = .ok (.bipush (-4), 2) := by decide +kernel
theorem dX7_choose_2 : decode cX7_choose 2 = .ok (.istore_n 3, 1) := by decide +kernel
theorem dX7_choose_3 : decode cX7_choose 3 = .ok (.iconst 0, 1) := by decide +kernel
theorem dX7_choose_4 : decode cX7_choose 4 = .ok (.istore 4, 2) := by decide +kernel
theorem dX7_choose_6 : decode cX7_choose 6 = .ok (.iload 4, 2) := by decide +kernel
theorem dX7_choose_8 : decode cX7_choose 8 = .ok (.aload_n 0, 1) := by decide +kernel
theorem dX7_choose_9 : decode cX7_choose 9 = .ok (.getfield 40, 3) := by decide +kernel
theorem dX7_choose_12 : decode cX7_choose 12 = .ok (.getfield 75, 3) := by decide +kernel
theorem dX7_choose_15 : decode cX7_choose 15 = .ok (.if_icmp .ge 80, 3) := by decide +kernel
theorem dX7_choose_18 : decode cX7_choose 18 = .ok (.aload_n 0, 1) := by decide +kernel
theorem dX7_choose_19 : decode cX7_choose 19 = .ok (.iload_n 1, 1) := by decide +kernel
theorem dX7_choose_20 : decode cX7_choose 20 = .ok (.iload 4, 2) := by decide +kernel
theorem dX7_choose_22 : decode cX7_choose 22 = .ok (.invokevirtual 95, 3) := by decide +kernel
theorem dX7_choose_25 : decode cX7_choose 25 = .ok (.ifCond .ne 20, 3) := by decide +kernel
theorem dX7_choose_28 : decode cX7_choose 28 = .ok (.aload_n 2, 1) := by decide +kernel
theorem dX7_choose_29 : decode cX7_choose 29 = .ok (.getfield 99, 3) := by decide +kernel
theorem dX7_choose_32 : decode cX7_choose 32 = .ok (.ifCond .eq 17, 3) := by decide +kernel
theorem dX7_choose_35 : decode cX7_choose 35 = .ok (.aload_n 0, 1) := by decide +kernel
theorem dX7_choose_36 : decode cX7_choose 36 = .ok (.iload_n 1, 1) := by decide +kernel
theorem dX7_choose_37 : decode cX7_choose 37 = .ok (.iload 4, 2) := by decide +kernel
theorem dX7_choose_39 : decode cX7_choose 39 = .ok (.invokevirtual 105, 3) := by decide +kernel
theorem dX7_choose_42 : decode cX7_choose 42 = .ok (.ifCond .eq 7, 3) := by decide +kernel
theorem dX7_choose_45 : decode cX7_choose 45 = .ok (.iconst 1, 1) := by decide +kernel
theorem dX7_choose_46 : decode cX7_choose 46 = .ok (.goto 4, 3) := by decide +kernel
theorem dX7_choose_49 : decode cX7_choose 49 = .ok (.iconst 0, 1) := by decide +kernel
theorem dX7_choose_50 : decode cX7_choose 50 = .ok (.istore 5, 2) := by decide +kernel
theorem dX7_choose_52 : decode cX7_choose 52 = .ok (.iload 5, 2) := by decide +kernel
theorem dX7_choose_54 : decode cX7_choose 54 = .ok (.ifCond .eq 35, 3) := by decide +kernel
theorem dX7_choose_57 : decode cX7_choose 57 = .ok (.aload_n 0, 1) := by decide +kernel
theorem dX7_choose_58 : decode cX7_choose 58 = .ok (.iload_n 1, 1) := by decide +kernel
theorem dX7_choose_59 : decode cX7_choose 59 = .ok (.iload 4, 2) := by decide +kernel
theorem dX7_choose_61 : decode cX7_choose 61 = .ok (.aload_n 2, 1) := by decide +kernel
theorem dX7_choose_62 : decode cX7_choose 62 = .ok (.invokevirtual 108, 3) := by decide +kernel
theorem dX7_choose_65 : decode cX7_choose 65 = .ok (.ifCond .eq 24, 3) := by decide +kernel
theorem dX7_choose_68 : decode cX7_choose 68 = .ok (.iload_n 3, 1) := by decide +kernel
theorem dX7_choose_69 : decode cX7_choose 69 = .ok (.bipush (-4), 2) := by decide +kernel
theorem dX7_choose_71 : decode cX7_choose 71 = .ok (.if_icmp .eq 15, 3) := by decide +kernel
theorem dX7_choose_74 : decode cX7_choose 74 = .ok (.aload_n 0, 1) := by decide +kernel
theorem dX7_choose_75 : decode cX7_choose 75 = .ok (.iload_n 1, 1) := by decide +kernel
theorem dX7_choose_76 : decode cX7_choose 76 = .ok (.iload 4, 2) := by decide +kernel
theorem dX7_choose_78 : decode cX7_choose 78 = .ok (.iload_n 3, 1) := by decide +kernel
theorem dX7_choose_79 : decode cX7_choose 79 = .ok (.aload_n 2, 1) := by decide +kernel
theorem dX7_choose_80 : decode cX7_choose 80 = .ok (.invokevirtual 112, 3) := by decide +kernel
theorem dX7_choose_83 : decode cX7_choose 83 = .ok (.ifCond .eq 6, 3) := by decide +kernel
theorem dX7_choose_86 : decode cX7_choose 86 = .ok (.iload 4, 2) := by decide +kernel
theorem dX7_choose_88 : decode cX7_choose 88 = .ok (.istore_n 3, 1) := by decide +kernel
theorem dX7_choose_89 : decode cX7_choose 89 = .ok (.iinc 4 1, 3) := by decide +kernel
theorem dX7_choose_92 : decode cX7_choose 92 = .ok (.goto (-86), 3) := by decide +kernel
theorem dX7_choose_95 : decode cX7_choose 95 = .ok (.iload_n 3, 1) := by decide +kernel
theorem dX7_choose_96 : decode cX7_choose 96 = .ok (.ireturn, 1) := by decide +kernel
theorem dX7_canTakeByDrop_0 : decode cX7_canTakeByDrop 0 = .ok (.aload_n 0, 1) := by decide +kernel
theorem dX7_canTakeByDrop_1 : decode cX7_canTakeByDrop 1 = .ok (.iload_n 2, 1) := by decide +kernel
theorem dX7_canTakeByDrop_2 : decode cX7_canTakeByDrop 2 = .ok (.invokevirtual 82, 3) := by decide +kernel
theorem dX7_canTakeByDrop_5 : decode cX7_canTakeByDrop 5 = .ok (.ifCond .gt 21, 3) := by decide +kernel
theorem dX7_canTakeByDrop_8 : decode cX7_canTakeByDrop 8 = .ok (.aload_n 0, 1) := by decide +kernel
theorem dX7_canTakeByDrop_9 : decode cX7_canTakeByDrop 9 = .ok (.getfield 15, 3) := by decide +kernel
theorem dX7_canTakeByDrop_12 : decode cX7_canTakeByDrop 12 = .ok (.iload_n 2, 1) := by decide +kernel
theorem dX7_canTakeByDrop_13 : decode cX7_canTakeByDrop 13 = .ok (.iaload, 1) := by decide +kernel
theorem dX7_canTakeByDrop_14 : decode cX7_canTakeByDrop 14 = .ok (.aload_n 0, 1) := by decide +kernel
theorem dX7_canTakeByDrop_15 : decode cX7_canTakeByDrop 15 = .ok (.getfield 40, 3) := by decide +kernel
theorem dX7_canTakeByDrop_18 : decode cX7_canTakeByDrop 18 = .ok (.getfield 86, 3) := by decide +kernel
theorem dX7_canTakeByDrop_21 : decode cX7_canTakeByDrop 21 = .ok (.iload_n 2, 1) := by decide +kernel
theorem dX7_canTakeByDrop_22 : decode cX7_canTakeByDrop 22 = .ok (.iaload, 1) := by decide +kernel
theorem dX7_canTakeByDrop_23 : decode cX7_canTakeByDrop 23 = .ok (.if_icmp .lt 5, 3) := by decide +kernel
theorem dX7_canTakeByDrop_26 : decode cX7_canTakeByDrop 26 = .ok (.iconst 0, 1) := by decide +kernel
theorem dX7_canTakeByDrop_27 : decode cX7_canTakeByDrop 27 = .ok (.ireturn, 1) := by decide +kernel
theorem dX7_canTakeByDrop_28 : decode cX7_canTakeByDrop 28 = .ok (.aload_n 0, 1) := by decide +kernel
theorem dX7_canTakeByDrop_29 : decode cX7_canTakeByDrop 29 = .ok (.iload_n 2, 1) := by decide +kernel
theorem dX7_canTakeByDrop_30 : decode cX7_canTakeByDrop 30 = .ok (.invokevirtual 116, 3) := by decide +kernel
theorem dX7_canTakeByDrop_33 : decode cX7_canTakeByDrop 33 = .ok (.istore_n 3, 1) := by decide +kernel
theorem dX7_canTakeByDrop_34 : decode cX7_canTakeByDrop 34 = .ok (.iload_n 3, 1) := by decide +kernel
theorem dX7_canTakeByDrop_35 : decode cX7_canTakeByDrop 35 = .ok (.bipush (-4), 2) := by decide +kernel
theorem dX7_canTakeByDrop_37 : decode cX7_canTakeByDrop 37 = .ok (.if_icmp .eq 28, 3) := by decide +kernel
theorem dX7_canTakeByDrop_40 : decode cX7_canTakeByDrop 40 = .ok (.aload_n 0, 1) := by decide +kernel
theorem dX7_canTakeByDrop_41 : decode cX7_canTakeByDrop 41 = .ok (.getfield 40, 3) := by decide +kernel
theorem dX7_canTakeByDrop_44 : decode cX7_canTakeByDrop 44 = .ok (.iload_n 3, 1) := by decide +kernel
theorem dX7_canTakeByDrop_45 : decode cX7_canTakeByDrop 45 = .ok (.iload_n 2, 1) := by decide +kernel
theorem dX7_canTakeByDrop_46 : decode cX7_canTakeByDrop 46 = .ok (.invokevirtual 78, 3) := by decide +kernel
theorem dX7_canTakeByDrop_49 : decode cX7_canTakeByDrop 49 = .ok (.aload_n 0, 1) := by decide +kernel
theorem dX7_canTakeByDrop_50 : decode cX7_canTakeByDrop 50 = .ok (.getfield 40, 3) := by decide +kernel
theorem dX7_canTakeByDrop_53 : decode cX7_canTakeByDrop 53 = .ok (.iload_n 1, 1) := by decide +kernel
theorem dX7_canTakeByDrop_54 : decode cX7_canTakeByDrop 54 = .ok (.iload_n 2, 1) := by decide +kernel
theorem dX7_canTakeByDrop_55 : decode cX7_canTakeByDrop 55 = .ok (.invokevirtual 78, 3) := by decide +kernel
theorem dX7_canTakeByDrop_58 : decode cX7_canTakeByDrop 58 = .ok (.if_icmp .ge 7, 3) := by decide +kernel
theorem dX7_canTakeByDrop_61 : decode cX7_canTakeByDrop 61 = .ok (.iconst 1, 1) := by decide +kernel
theorem dX7_canTakeByDrop_62 : decode cX7_canTakeByDrop 62 = .ok (.goto 4, 3) := by decide +kernel
theorem dX7_canTakeByDrop_65 : decode cX7_canTakeByDrop 65 = .ok (.iconst 0, 1) := by decide +kernel
theorem dX7_canTakeByDrop_66 : decode cX7_canTakeByDrop 66 = .ok (.ireturn, 1) := by decide +kernel
theorem dX7_weakestAt_0 : decode cX7_weakestAt 0 = .ok (.bipush (-4), 2) := by decide +kernel
theorem dX7_weakestAt_2 : decode cX7_weakestAt 2 = .ok (.istore_n 2, 1) := by decide +kernel
theorem dX7_weakestAt_3 : decode cX7_weakestAt 3 = .ok (.iconst 0, 1) := by decide +kernel
theorem dX7_weakestAt_4 : decode cX7_weakestAt 4 = .ok (.istore_n 3, 1) := by decide +kernel
theorem dX7_weakestAt_5 : decode cX7_weakestAt 5 = .ok (.iconst 0, 1) := by decide +kernel
theorem dX7_weakestAt_6 : decode cX7_weakestAt 6 = .ok (.istore 4, 2) := by decide +kernel
theorem dX7_weakestAt_8 : decode cX7_weakestAt 8 = .ok (.iload 4, 2) := by decide +kernel
theorem dX7_weakestAt_10 : decode cX7_weakestAt 10 = .ok (.aload_n 0, 1) := by decide +kernel
theorem dX7_weakestAt_11 : decode cX7_weakestAt 11 = .ok (.getfield 40, 3) := by decide +kernel
theorem dX7_weakestAt_14 : decode cX7_weakestAt 14 = .ok (.getfield 63, 3) := by decide +kernel
theorem dX7_weakestAt_17 : decode cX7_weakestAt 17 = .ok (.if_icmp .ge 72, 3) := by decide +kernel
theorem dX7_weakestAt_20 : decode cX7_weakestAt 20 = .ok (.aload_n 0, 1) := by decide +kernel
theorem dX7_weakestAt_21 : decode cX7_weakestAt 21 = .ok (.getfield 18, 3) := by decide +kernel
theorem dX7_weakestAt_24 : decode cX7_weakestAt 24 = .ok (.iload 4, 2) := by decide +kernel
theorem dX7_weakestAt_26 : decode cX7_weakestAt 26 = .ok (.iaload, 1) := by decide +kernel
theorem dX7_weakestAt_27 : decode cX7_weakestAt 27 = .ok (.iload_n 1, 1) := by decide +kernel
theorem dX7_weakestAt_28 : decode cX7_weakestAt 28 = .ok (.if_icmp .ne 55, 3) := by decide +kernel
theorem dX7_weakestAt_31 : decode cX7_weakestAt 31 = .ok (.aload_n 0, 1) := by decide +kernel
theorem dX7_weakestAt_32 : decode cX7_weakestAt 32 = .ok (.getfield 40, 3) := by decide +kernel
theorem dX7_weakestAt_35 : decode cX7_weakestAt 35 = .ok (.iload 4, 2) := by decide +kernel
theorem dX7_weakestAt_37 : decode cX7_weakestAt 37 = .ok (.iload_n 1, 1) := by decide +kernel
theorem dX7_weakestAt_38 : decode cX7_weakestAt 38 = .ok (.invokevirtual 78, 3) := by decide +kernel
theorem dX7_weakestAt_41 : decode cX7_weakestAt 41 = .ok (.istore 5, 2) := by decide +kernel
theorem dX7_weakestAt_43 : decode cX7_weakestAt 43 = .ok (.iload_n 2, 1) := by decide +kernel
theorem dX7_weakestAt_44 : decode cX7_weakestAt 44 = .ok (.bipush (-4), 2) := by decide +kernel
theorem dX7_weakestAt_46 : decode cX7_weakestAt 46 = .ok (.if_icmp .eq 31, 3) := by decide +kernel
theorem dX7_weakestAt_49 : decode cX7_weakestAt 49 = .ok (.iload 5, 2) := by decide +kernel
theorem dX7_weakestAt_51 : decode cX7_weakestAt 51 = .ok (.iload_n 3, 1) := by decide +kernel
theorem dX7_weakestAt_52 : decode cX7_weakestAt 52 = .ok (.if_icmp .lt 25, 3) := by decide +kernel
theorem dX7_weakestAt_55 : decode cX7_weakestAt 55 = .ok (.iload 5, 2) := by decide +kernel
theorem dX7_weakestAt_57 : decode cX7_weakestAt 57 = .ok (.iload_n 3, 1) := by decide +kernel
theorem dX7_weakestAt_58 : decode cX7_weakestAt 58 = .ok (.if_icmp .ne 25, 3) := by decide +kernel
theorem dX7_weakestAt_61 : decode cX7_weakestAt 61 = .ok (.aload_n 0, 1) := by decide +kernel
theorem dX7_weakestAt_62 : decode cX7_weakestAt 62 = .ok (.getfield 21, 3) := by decide +kernel
theorem dX7_weakestAt_65 : decode cX7_weakestAt 65 = .ok (.iload 4, 2) := by decide +kernel
theorem dX7_weakestAt_67 : decode cX7_weakestAt 67 = .ok (.iaload, 1) := by decide +kernel
theorem dX7_weakestAt_68 : decode cX7_weakestAt 68 = .ok (.aload_n 0, 1) := by decide +kernel
theorem dX7_weakestAt_69 : decode cX7_weakestAt 69 = .ok (.getfield 21, 3) := by decide +kernel
theorem dX7_weakestAt_72 : decode cX7_weakestAt 72 = .ok (.iload_n 2, 1) := by decide +kernel
theorem dX7_weakestAt_73 : decode cX7_weakestAt 73 = .ok (.iaload, 1) := by decide +kernel
theorem dX7_weakestAt_74 : decode cX7_weakestAt 74 = .ok (.if_icmp .le 9, 3) := by decide +kernel
theorem dX7_weakestAt_77 : decode cX7_weakestAt 77 = .ok (.iload 4, 2) := by decide +kernel
theorem dX7_weakestAt_79 : decode cX7_weakestAt 79 = .ok (.istore_n 2, 1) := by decide +kernel
theorem dX7_weakestAt_80 : decode cX7_weakestAt 80 = .ok (.iload 5, 2) := by decide +kernel
theorem dX7_weakestAt_82 : decode cX7_weakestAt 82 = .ok (.istore_n 3, 1) := by decide +kernel
theorem dX7_weakestAt_83 : decode cX7_weakestAt 83 = .ok (.iinc 4 1, 3) := by decide +kernel
theorem dX7_weakestAt_86 : decode cX7_weakestAt 86 = .ok (.goto (-78), 3) := by decide +kernel
theorem dX7_weakestAt_89 : decode cX7_weakestAt 89 = .ok (.iload_n 2, 1) := by decide +kernel
theorem dX7_weakestAt_90 : decode cX7_weakestAt 90 = .ok (.ireturn, 1) := by decide +kernel
theorem dX7_passes_0 : decode cX7_passes 0 = .ok (.iconst 0, 1) := by decide +kernel
theorem dX7_passes_1 : decode cX7_passes 1 = .ok (.istore 4, 2) := by decide +kernel
theorem dX7_passes_3 : decode cX7_passes 3 = .ok (.iload 4, 2) := by decide +kernel
theorem dX7_passes_5 : decode cX7_passes 5 = .ok (.aload_n 3, 1) := by decide +kernel
theorem dX7_passes_6 : decode cX7_passes 6 = .ok (.getfield 119, 3) := by decide +kernel
theorem dX7_passes_9 : decode cX7_passes 9 = .ok (.if_icmp .ge 62, 3) := by decide +kernel
theorem dX7_passes_12 : decode cX7_passes 12 = .ok (.aload_n 0, 1) := by decide +kernel
theorem dX7_passes_13 : decode cX7_passes 13 = .ok (.aload_n 3, 1) := by decide +kernel
theorem dX7_passes_14 : decode cX7_passes 14 = .ok (.getfield 122, 3) := by decide +kernel
theorem dX7_passes_17 : decode cX7_passes 17 = .ok (.iload 4, 2) := by decide +kernel
theorem dX7_passes_19 : decode cX7_passes 19 = .ok (.iaload, 1) := by decide +kernel
theorem dX7_passes_20 : decode cX7_passes 20 = .ok (.iload_n 1, 1) := by decide +kernel
theorem dX7_passes_21 : decode cX7_passes 21 = .ok (.iload_n 2, 1) := by decide +kernel
theorem dX7_passes_22 : decode cX7_passes 22 = .ok (.invokevirtual 125, 3) := by decide +kernel
theorem dX7_passes_25 : decode cX7_passes 25 = .ok (.istore 5, 2) := by decide +kernel
theorem dX7_passes_27 : decode cX7_passes 27 = .ok (.aload_n 3, 1) := by decide +kernel
theorem dX7_passes_28 : decode cX7_passes 28 = .ok (.getfield 129, 3) := by decide +kernel
theorem dX7_passes_31 : decode cX7_passes 31 = .ok (.iload 4, 2) := by decide +kernel
theorem dX7_passes_33 : decode cX7_passes 33 = .ok (.iaload, 1) := by decide +kernel
theorem dX7_passes_34 : decode cX7_passes 34 = .ok (.istore 6, 2) := by decide +kernel
theorem dX7_passes_36 : decode cX7_passes 36 = .ok (.aload_n 3, 1) := by decide +kernel
theorem dX7_passes_37 : decode cX7_passes 37 = .ok (.getfield 132, 3) := by decide +kernel
theorem dX7_passes_40 : decode cX7_passes 40 = .ok (.iload 4, 2) := by decide +kernel
theorem dX7_passes_42 : decode cX7_passes 42 = .ok (.baload, 1) := by decide +kernel
theorem dX7_passes_43 : decode cX7_passes 43 = .ok (.ifCond .eq 13, 3) := by decide +kernel
theorem dX7_passes_46 : decode cX7_passes 46 = .ok (.iload 5, 2) := by decide +kernel
theorem dX7_passes_48 : decode cX7_passes 48 = .ok (.iload 6, 2) := by decide +kernel
theorem dX7_passes_50 : decode cX7_passes 50 = .ok (.if_icmp .lt 15, 3) := by decide +kernel
theorem dX7_passes_53 : decode cX7_passes 53 = .ok (.goto 10, 3) := by decide +kernel
theorem dX7_passes_56 : decode cX7_passes 56 = .ok (.iload 5, 2) := by decide +kernel
theorem dX7_passes_58 : decode cX7_passes 58 = .ok (.iload 6, 2) := by decide +kernel
theorem dX7_passes_60 : decode cX7_passes 60 = .ok (.if_icmp .gt 5, 3) := by decide +kernel
theorem dX7_passes_63 : decode cX7_passes 63 = .ok (.iconst 0, 1) := by decide +kernel
theorem dX7_passes_64 : decode cX7_passes 64 = .ok (.ireturn, 1) := by decide +kernel
theorem dX7_passes_65 : decode cX7_passes 65 = .ok (.iinc 4 1, 3) := by decide +kernel
theorem dX7_passes_68 : decode cX7_passes 68 = .ok (.goto (-65), 3) := by decide +kernel
theorem dX7_passes_71 : decode cX7_passes 71 = .ok (.iconst 1, 1) := by decide +kernel
theorem dX7_passes_72 : decode cX7_passes 72 = .ok (.ireturn, 1) := by decide +kernel
theorem dX7_isAhead_0 : decode cX7_isAhead 0 = .ok (.iconst 0, 1) := by decide +kernel
theorem dX7_isAhead_1 : decode cX7_isAhead 1 = .ok (.istore 5, 2) := by decide +kernel
theorem dX7_isAhead_3 : decode cX7_isAhead 3 = .ok (.iload 5, 2) := by decide +kernel
theorem dX7_isAhead_5 : decode cX7_isAhead 5 = .ok (.aload 4, 2) := by decide +kernel
theorem dX7_isAhead_7 : decode cX7_isAhead 7 = .ok (.getfield 135, 3) := by decide +kernel
theorem dX7_isAhead_10 : decode cX7_isAhead 10 = .ok (.if_icmp .ge 87, 3) := by decide +kernel
theorem dX7_isAhead_13 : decode cX7_isAhead 13 = .ok (.aload_n 0, 1) := by decide +kernel
theorem dX7_isAhead_14 : decode cX7_isAhead 14 = .ok (.aload 4, 2) := by decide +kernel
theorem dX7_isAhead_16 : decode cX7_isAhead 16 = .ok (.getfield 138, 3) := by decide +kernel
theorem dX7_isAhead_19 : decode cX7_isAhead 19 = .ok (.iload 5, 2) := by decide +kernel
theorem dX7_isAhead_21 : decode cX7_isAhead 21 = .ok (.iaload, 1) := by decide +kernel
theorem dX7_isAhead_22 : decode cX7_isAhead 22 = .ok (.iload_n 1, 1) := by decide +kernel
theorem dX7_isAhead_23 : decode cX7_isAhead 23 = .ok (.iload_n 2, 1) := by decide +kernel
theorem dX7_isAhead_24 : decode cX7_isAhead 24 = .ok (.invokevirtual 125, 3) := by decide +kernel
theorem dX7_isAhead_27 : decode cX7_isAhead 27 = .ok (.istore 6, 2) := by decide +kernel
theorem dX7_isAhead_29 : decode cX7_isAhead 29 = .ok (.aload_n 0, 1) := by decide +kernel
theorem dX7_isAhead_30 : decode cX7_isAhead 30 = .ok (.aload 4, 2) := by decide +kernel
theorem dX7_isAhead_32 : decode cX7_isAhead 32 = .ok (.getfield 138, 3) := by decide +kernel
theorem dX7_isAhead_35 : decode cX7_isAhead 35 = .ok (.iload 5, 2) := by decide +kernel
theorem dX7_isAhead_37 : decode cX7_isAhead 37 = .ok (.iaload, 1) := by decide +kernel
theorem dX7_isAhead_38 : decode cX7_isAhead 38 = .ok (.iload_n 1, 1) := by decide +kernel
theorem dX7_isAhead_39 : decode cX7_isAhead 39 = .ok (.iload_n 3, 1) := by decide +kernel
theorem dX7_isAhead_40 : decode cX7_isAhead 40 = .ok (.invokevirtual 125, 3) := by decide +kernel
theorem dX7_isAhead_43 : decode cX7_isAhead 43 = .ok (.istore 7, 2) := by decide +kernel
theorem dX7_isAhead_45 : decode cX7_isAhead 45 = .ok (.iload 6, 2) := by decide +kernel
theorem dX7_isAhead_47 : decode cX7_isAhead 47 = .ok (.iload 7, 2) := by decide +kernel
theorem dX7_isAhead_49 : decode cX7_isAhead 49 = .ok (.if_icmp .eq 42, 3) := by decide +kernel
theorem dX7_isAhead_52 : decode cX7_isAhead 52 = .ok (.aload 4, 2) := by decide +kernel
theorem dX7_isAhead_54 : decode cX7_isAhead 54 = .ok (.getfield 141, 3) := by decide +kernel
theorem dX7_isAhead_57 : decode cX7_isAhead 57 = .ok (.iload 5, 2) := by decide +kernel
theorem dX7_isAhead_59 : decode cX7_isAhead 59 = .ok (.baload, 1) := by decide +kernel
theorem dX7_isAhead_60 : decode cX7_isAhead 60 = .ok (.ifCond .eq 18, 3) := by decide +kernel
theorem dX7_isAhead_63 : decode cX7_isAhead 63 = .ok (.iload 6, 2) := by decide +kernel
theorem dX7_isAhead_65 : decode cX7_isAhead 65 = .ok (.iload 7, 2) := by decide +kernel
theorem dX7_isAhead_67 : decode cX7_isAhead 67 = .ok (.if_icmp .ge 7, 3) := by decide +kernel
theorem dX7_isAhead_70 : decode cX7_isAhead 70 = .ok (.iconst 1, 1) := by decide +kernel
theorem dX7_isAhead_71 : decode cX7_isAhead 71 = .ok (.goto 19, 3) := by decide +kernel
theorem dX7_isAhead_74 : decode cX7_isAhead 74 = .ok (.iconst 0, 1) := by decide +kernel
theorem dX7_isAhead_75 : decode cX7_isAhead 75 = .ok (.goto 15, 3) := by decide +kernel
theorem dX7_isAhead_78 : decode cX7_isAhead 78 = .ok (.iload 6, 2) := by decide +kernel
theorem dX7_isAhead_80 : decode cX7_isAhead 80 = .ok (.iload 7, 2) := by decide +kernel
theorem dX7_isAhead_82 : decode cX7_isAhead 82 = .ok (.if_icmp .le 7, 3) := by decide +kernel
theorem dX7_isAhead_85 : decode cX7_isAhead 85 = .ok (.iconst 1, 1) := by decide +kernel
theorem dX7_isAhead_86 : decode cX7_isAhead 86 = .ok (.goto 4, 3) := by decide +kernel
theorem dX7_isAhead_89 : decode cX7_isAhead 89 = .ok (.iconst 0, 1) := by decide +kernel
theorem dX7_isAhead_90 : decode cX7_isAhead 90 = .ok (.ireturn, 1) := by decide +kernel
theorem dX7_isAhead_91 : decode cX7_isAhead 91 = .ok (.iinc 5 1, 3) := by decide +kernel
theorem dX7_isAhead_94 : decode cX7_isAhead 94 = .ok (.goto (-91), 3) := by decide +kernel
theorem dX7_isAhead_97 : decode cX7_isAhead 97 = .ok (.iconst 0, 1) := by decide +kernel
theorem dX7_isAhead_98 : decode cX7_isAhead 98 = .ok (.ireturn, 1) := by decide +kernel
theorem dX7_keyOf_0 : decode cX7_keyOf 0 = .ok (.iload_n 1, 1) := by decide +kernel
theorem dX7_keyOf_1 : decode cX7_keyOf 1 = .ok (.tableswitch 103 0 4 #[35, 45, 80, 86, 96], 35) := by decide +kernel
theorem dX7_keyOf_36 : decode cX7_keyOf 36 = .ok (.aload_n 0, 1) := by decide +kernel
theorem dX7_keyOf_37 : decode cX7_keyOf 37 = .ok (.getfield 40, 3) := by decide +kernel
theorem dX7_keyOf_40 : decode cX7_keyOf 40 = .ok (.iload_n 2, 1) := by decide +kernel
theorem dX7_keyOf_41 : decode cX7_keyOf 41 = .ok (.iload_n 3, 1) := by decide +kernel
theorem dX7_keyOf_42 : decode cX7_keyOf 42 = .ok (.invokevirtual 78, 3) := by decide +kernel
theorem dX7_keyOf_45 : decode cX7_keyOf 45 = .ok (.ireturn, 1) := by decide +kernel
theorem dX7_keyOf_46 : decode cX7_keyOf 46 = .ok (.aload_n 0, 1) := by decide +kernel
theorem dX7_keyOf_47 : decode cX7_keyOf 47 = .ok (.getfield 40, 3) := by decide +kernel
theorem dX7_keyOf_50 : decode cX7_keyOf 50 = .ok (.getfield 72, 3) := by decide +kernel
theorem dX7_keyOf_53 : decode cX7_keyOf 53 = .ok (.iload_n 3, 1) := by decide +kernel
theorem dX7_keyOf_54 : decode cX7_keyOf 54 = .ok (.iaload, 1) := by decide +kernel
theorem dX7_keyOf_55 : decode cX7_keyOf 55 = .ok (.ifCond .le 24, 3) := by decide +kernel
theorem dX7_keyOf_58 : decode cX7_keyOf 58 = .ok (.bipush 100, 2) := by decide +kernel
theorem dX7_keyOf_60 : decode cX7_keyOf 60 = .ok (.aload_n 0, 1) := by decide +kernel
theorem dX7_keyOf_61 : decode cX7_keyOf 61 = .ok (.iload_n 3, 1) := by decide +kernel
theorem dX7_keyOf_62 : decode cX7_keyOf 62 = .ok (.invokevirtual 82, 3) := by decide +kernel
theorem dX7_keyOf_65 : decode cX7_keyOf 65 = .ok (.imul, 1) := by decide +kernel
theorem dX7_keyOf_66 : decode cX7_keyOf 66 = .ok (.aload_n 0, 1) := by decide +kernel
theorem dX7_keyOf_67 : decode cX7_keyOf 67 = .ok (.getfield 40, 3) := by decide +kernel
theorem dX7_keyOf_70 : decode cX7_keyOf 70 = .ok (.getfield 72, 3) := by decide +kernel
theorem dX7_keyOf_73 : decode cX7_keyOf 73 = .ok (.iload_n 3, 1) := by decide +kernel
theorem dX7_keyOf_74 : decode cX7_keyOf 74 = .ok (.iaload, 1) := by decide +kernel
theorem dX7_keyOf_75 : decode cX7_keyOf 75 = .ok (.idiv, 1) := by decide +kernel
theorem dX7_keyOf_76 : decode cX7_keyOf 76 = .ok (.goto 4, 3) := by decide +kernel
theorem dX7_keyOf_79 : decode cX7_keyOf 79 = .ok (.iconst 0, 1) := by decide +kernel
theorem dX7_keyOf_80 : decode cX7_keyOf 80 = .ok (.ireturn, 1) := by decide +kernel
theorem dX7_keyOf_81 : decode cX7_keyOf 81 = .ok (.aload_n 0, 1) := by decide +kernel
theorem dX7_keyOf_82 : decode cX7_keyOf 82 = .ok (.iload_n 3, 1) := by decide +kernel
theorem dX7_keyOf_83 : decode cX7_keyOf 83 = .ok (.invokevirtual 82, 3) := by decide +kernel
theorem dX7_keyOf_86 : decode cX7_keyOf 86 = .ok (.ireturn, 1) := by decide +kernel
theorem dX7_keyOf_87 : decode cX7_keyOf 87 = .ok (.aload_n 0, 1) := by decide +kernel
theorem dX7_keyOf_88 : decode cX7_keyOf 88 = .ok (.getfield 40, 3) := by decide +kernel
theorem dX7_keyOf_91 : decode cX7_keyOf 91 = .ok (.getfield 144, 3) := by decide +kernel
theorem dX7_keyOf_94 : decode cX7_keyOf 94 = .ok (.iload_n 3, 1) := by decide +kernel
theorem dX7_keyOf_95 : decode cX7_keyOf 95 = .ok (.iaload, 1) := by decide +kernel
theorem dX7_keyOf_96 : decode cX7_keyOf 96 = .ok (.ireturn, 1) := by decide +kernel
theorem dX7_keyOf_97 : decode cX7_keyOf 97 = .ok (.aload_n 0, 1) := by decide +kernel
theorem dX7_keyOf_98 : decode cX7_keyOf 98 = .ok (.getfield 15, 3) := by decide +kernel
theorem dX7_keyOf_101 : decode cX7_keyOf 101 = .ok (.iload_n 3, 1) := by decide +kernel
theorem dX7_keyOf_102 : decode cX7_keyOf 102 = .ok (.iaload, 1) := by decide +kernel
theorem dX7_keyOf_103 : decode cX7_keyOf 103 = .ok (.ireturn, 1) := by decide +kernel
theorem dX7_keyOf_104 : decode cX7_keyOf 104 = .ok (.iload_n 3, 1) := by decide +kernel
theorem dX7_keyOf_105 : decode cX7_keyOf 105 = .ok (.ireturn, 1) := by decide +kernel
theorem dX7_enter_0 : decode cX7_enter 0 = .ok (.bipush (-4), 2) := by decide +kernel
theorem dX7_enter_2 : decode cX7_enter 2 = .ok (.istore_n 3, 1) := by decide +kernel
theorem dX7_enter_3 : decode cX7_enter 3 = .ok (.iconst 0, 1) := by decide +kernel
theorem dX7_enter_4 : decode cX7_enter 4 = .ok (.istore 4, 2) := by decide +kernel
theorem dX7_enter_6 : decode cX7_enter 6 = .ok (.iload_n 2, 1) := by decide +kernel
theorem dX7_enter_7 : decode cX7_enter 7 = .ok (.bipush (-4), 2) := by decide +kernel
theorem dX7_enter_9 : decode cX7_enter 9 = .ok (.if_icmp .eq 81, 3) := by decide +kernel
theorem dX7_enter_12 : decode cX7_enter 12 = .ok (.aload_n 0, 1) := by decide +kernel
theorem dX7_enter_13 : decode cX7_enter 13 = .ok (.iload_n 2, 1) := by decide +kernel
theorem dX7_enter_14 : decode cX7_enter 14 = .ok (.invokevirtual 82, 3) := by decide +kernel
theorem dX7_enter_17 : decode cX7_enter 17 = .ok (.ifCond .gt 15, 3) := by decide +kernel
theorem dX7_enter_20 : decode cX7_enter 20 = .ok (.aload_n 0, 1) := by decide +kernel
theorem dX7_enter_21 : decode cX7_enter 21 = .ok (.iload_n 2, 1) := by decide +kernel
theorem dX7_enter_22 : decode cX7_enter 22 = .ok (.invokevirtual 116, 3) := by decide +kernel
theorem dX7_enter_25 : decode cX7_enter 25 = .ok (.istore_n 3, 1) := by decide +kernel
theorem dX7_enter_26 : decode cX7_enter 26 = .ok (.aload_n 0, 1) := by decide +kernel
theorem dX7_enter_27 : decode cX7_enter 27 = .ok (.iload_n 3, 1) := by decide +kernel
theorem dX7_enter_28 : decode cX7_enter 28 = .ok (.iload_n 2, 1) := by decide +kernel
theorem dX7_enter_29 : decode cX7_enter 29 = .ok (.invokevirtual 147, 3) := by decide +kernel
theorem dX7_enter_32 : decode cX7_enter 32 = .ok (.aload_n 0, 1) := by decide +kernel
theorem dX7_enter_33 : decode cX7_enter 33 = .ok (.getfield 40, 3) := by decide +kernel
theorem dX7_enter_36 : decode cX7_enter 36 = .ok (.iload_n 1, 1) := by decide +kernel
theorem dX7_enter_37 : decode cX7_enter 37 = .ok (.iload_n 2, 1) := by decide +kernel
theorem dX7_enter_38 : decode cX7_enter 38 = .ok (.invokevirtual 78, 3) := by decide +kernel
theorem dX7_enter_41 : decode cX7_enter 41 = .ok (.aload_n 0, 1) := by decide +kernel
theorem dX7_enter_42 : decode cX7_enter 42 = .ok (.getfield 40, 3) := by decide +kernel
theorem dX7_enter_45 : decode cX7_enter 45 = .ok (.getfield 86, 3) := by decide +kernel
theorem dX7_enter_48 : decode cX7_enter 48 = .ok (.iload_n 2, 1) := by decide +kernel
theorem dX7_enter_49 : decode cX7_enter 49 = .ok (.iaload, 1) := by decide +kernel
theorem dX7_enter_50 : decode cX7_enter 50 = .ok (.aload_n 0, 1) := by decide +kernel
theorem dX7_enter_51 : decode cX7_enter 51 = .ok (.getfield 15, 3) := by decide +kernel
theorem dX7_enter_54 : decode cX7_enter 54 = .ok (.iload_n 2, 1) := by decide +kernel
theorem dX7_enter_55 : decode cX7_enter 55 = .ok (.iaload, 1) := by decide +kernel
theorem dX7_enter_56 : decode cX7_enter 56 = .ok (.isub, 1) := by decide +kernel
theorem dX7_enter_57 : decode cX7_enter 57 = .ok (.invokestatic 151, 3) := by decide +kernel
theorem dX7_enter_60 : decode cX7_enter 60 = .ok (.istore 4, 2) := by decide +kernel
theorem dX7_enter_62 : decode cX7_enter 62 = .ok (.aload_n 0, 1) := by decide +kernel
theorem dX7_enter_63 : decode cX7_enter 63 = .ok (.getfield 18, 3) := by decide +kernel
theorem dX7_enter_66 : decode cX7_enter 66 = .ok (.iload_n 1, 1) := by decide +kernel
theorem dX7_enter_67 : decode cX7_enter 67 = .ok (.iload_n 2, 1) := by decide +kernel
theorem dX7_enter_68 : decode cX7_enter 68 = .ok (.iastore, 1) := by decide +kernel
theorem dX7_enter_69 : decode cX7_enter 69 = .ok (.aload_n 0, 1) := by decide +kernel
theorem dX7_enter_70 : decode cX7_enter 70 = .ok (.getfield 9, 3) := by decide +kernel
theorem dX7_enter_73 : decode cX7_enter 73 = .ok (.iload_n 2, 1) := by decide +kernel
theorem dX7_enter_74 : decode cX7_enter 74 = .ok (.dup2, 1) := by decide +kernel
theorem dX7_enter_75 : decode cX7_enter 75 = .ok (.iaload, 1) := by decide +kernel
theorem dX7_enter_76 : decode cX7_enter 76 = .ok (.iconst 1, 1) := by decide +kernel
theorem dX7_enter_77 : decode cX7_enter 77 = .ok (.iadd, 1) := by decide +kernel
theorem dX7_enter_78 : decode cX7_enter 78 = .ok (.iastore, 1) := by decide +kernel
theorem dX7_enter_79 : decode cX7_enter 79 = .ok (.aload_n 0, 1) := by decide +kernel
theorem dX7_enter_80 : decode cX7_enter 80 = .ok (.getfield 15, 3) := by decide +kernel
theorem dX7_enter_83 : decode cX7_enter 83 = .ok (.iload_n 2, 1) := by decide +kernel
theorem dX7_enter_84 : decode cX7_enter 84 = .ok (.dup2, 1) := by decide +kernel
theorem dX7_enter_85 : decode cX7_enter 85 = .ok (.iaload, 1) := by decide +kernel
theorem dX7_enter_86 : decode cX7_enter 86 = .ok (.iload 4, 2) := by decide +kernel
theorem dX7_enter_88 : decode cX7_enter 88 = .ok (.iadd, 1) := by decide +kernel
theorem dX7_enter_89 : decode cX7_enter 89 = .ok (.iastore, 1) := by decide +kernel
theorem dX7_enter_90 : decode cX7_enter 90 = .ok (.aload_n 0, 1) := by decide +kernel
theorem dX7_enter_91 : decode cX7_enter 91 = .ok (.dup, 1) := by decide +kernel
theorem dX7_enter_92 : decode cX7_enter 92 = .ok (.getfield 50, 3) := by decide +kernel
theorem dX7_enter_95 : decode cX7_enter 95 = .ok (.iconst 1, 1) := by decide +kernel
theorem dX7_enter_96 : decode cX7_enter 96 = .ok (.iadd, 1) := by decide +kernel
theorem dX7_enter_97 : decode cX7_enter 97 = .ok (.putfield 50, 3) := by decide +kernel
theorem dX7_enter_100 : decode cX7_enter 100 = .ok (.aload_n 0, 1) := by decide +kernel
theorem dX7_enter_101 : decode cX7_enter 101 = .ok (.getfield 21, 3) := by decide +kernel
theorem dX7_enter_104 : decode cX7_enter 104 = .ok (.iload_n 1, 1) := by decide +kernel
theorem dX7_enter_105 : decode cX7_enter 105 = .ok (.aload_n 0, 1) := by decide +kernel
theorem dX7_enter_106 : decode cX7_enter 106 = .ok (.getfield 50, 3) := by decide +kernel
theorem dX7_enter_109 : decode cX7_enter 109 = .ok (.iastore, 1) := by decide +kernel
theorem dX7_enter_110 : decode cX7_enter 110 = .ok (.aload_n 0, 1) := by decide +kernel
theorem dX7_enter_111 : decode cX7_enter 111 = .ok (.iload_n 1, 1) := by decide +kernel
theorem dX7_enter_112 : decode cX7_enter 112 = .ok (.iload_n 2, 1) := by decide +kernel
theorem dX7_enter_113 : decode cX7_enter 113 = .ok (.iload 4, 2) := by decide +kernel
theorem dX7_enter_115 : decode cX7_enter 115 = .ok (.iload_n 3, 1) := by decide +kernel
theorem dX7_enter_116 : decode cX7_enter 116 = .ok (.iconst 0, 1) := by decide +kernel
theorem dX7_enter_117 : decode cX7_enter 117 = .ok (.invokevirtual 156, 3) := by decide +kernel
theorem dX7_enter_120 : decode cX7_enter 120 = .ok (.iload 4, 2) := by decide +kernel
theorem dX7_enter_122 : decode cX7_enter 122 = .ok (.ireturn, 1) := by decide +kernel
theorem dX7_drop_0 : decode cX7_drop 0 = .ok (.iload_n 1, 1) := by decide +kernel
theorem dX7_drop_1 : decode cX7_drop 1 = .ok (.bipush (-4), 2) := by decide +kernel
theorem dX7_drop_3 : decode cX7_drop 3 = .ok (.if_icmp .eq 31, 3) := by decide +kernel
theorem dX7_drop_6 : decode cX7_drop 6 = .ok (.aload_n 0, 1) := by decide +kernel
theorem dX7_drop_7 : decode cX7_drop 7 = .ok (.getfield 18, 3) := by decide +kernel
theorem dX7_drop_10 : decode cX7_drop 10 = .ok (.iload_n 1, 1) := by decide +kernel
theorem dX7_drop_11 : decode cX7_drop 11 = .ok (.bipush (-4), 2) := by decide +kernel
theorem dX7_drop_13 : decode cX7_drop 13 = .ok (.iastore, 1) := by decide +kernel
theorem dX7_drop_14 : decode cX7_drop 14 = .ok (.aload_n 0, 1) := by decide +kernel
theorem dX7_drop_15 : decode cX7_drop 15 = .ok (.getfield 9, 3) := by decide +kernel
theorem dX7_drop_18 : decode cX7_drop 18 = .ok (.iload_n 2, 1) := by decide +kernel
theorem dX7_drop_19 : decode cX7_drop 19 = .ok (.dup2, 1) := by decide +kernel
theorem dX7_drop_20 : decode cX7_drop 20 = .ok (.iaload, 1) := by decide +kernel
theorem dX7_drop_21 : decode cX7_drop 21 = .ok (.iconst 1, 1) := by decide +kernel
theorem dX7_drop_22 : decode cX7_drop 22 = .ok (.isub, 1) := by decide +kernel
theorem dX7_drop_23 : decode cX7_drop 23 = .ok (.iastore, 1) := by decide +kernel
theorem dX7_drop_24 : decode cX7_drop 24 = .ok (.aload_n 0, 1) := by decide +kernel
theorem dX7_drop_25 : decode cX7_drop 25 = .ok (.dup, 1) := by decide +kernel
theorem dX7_drop_26 : decode cX7_drop 26 = .ok (.getfield 54, 3) := by decide +kernel
theorem dX7_drop_29 : decode cX7_drop 29 = .ok (.iconst 1, 1) := by decide +kernel
theorem dX7_drop_30 : decode cX7_drop 30 = .ok (.iadd, 1) := by decide +kernel
theorem dX7_drop_31 : decode cX7_drop 31 = .ok (.putfield 54, 3) := by decide +kernel
theorem dX7_drop_34 : decode cX7_drop 34 = .ok (.return_, 1) := by decide +kernel
theorem dX7_goAway_0 : decode cX7_goAway 0 = .ok (.aload_n 0, 1) := by decide +kernel
theorem dX7_goAway_1 : decode cX7_goAway 1 = .ok (.getfield 18, 3) := by decide +kernel
theorem dX7_goAway_4 : decode cX7_goAway 4 = .ok (.iload_n 1, 1) := by decide +kernel
theorem dX7_goAway_5 : decode cX7_goAway 5 = .ok (.iaload, 1) := by decide +kernel
theorem dX7_goAway_6 : decode cX7_goAway 6 = .ok (.istore_n 2, 1) := by decide +kernel
theorem dX7_goAway_7 : decode cX7_goAway 7 = .ok (.aload_n 0, 1) := by decide +kernel
theorem dX7_goAway_8 : decode cX7_goAway 8 = .ok (.getfield 18, 3) := by decide +kernel
theorem dX7_goAway_11 : decode cX7_goAway 11 = .ok (.iload_n 1, 1) := by decide +kernel
theorem dX7_goAway_12 : decode cX7_goAway 12 = .ok (.bipush (-4), 2) := by decide +kernel
theorem dX7_goAway_14 : decode cX7_goAway 14 = .ok (.iastore, 1) := by decide +kernel
theorem dX7_goAway_15 : decode cX7_goAway 15 = .ok (.aload_n 0, 1) := by decide +kernel
theorem dX7_goAway_16 : decode cX7_goAway 16 = .ok (.getfield 9, 3) := by decide +kernel
theorem dX7_goAway_19 : decode cX7_goAway 19 = .ok (.iload_n 2, 1) := by decide +kernel
theorem dX7_goAway_20 : decode cX7_goAway 20 = .ok (.dup2, 1) := by decide +kernel
theorem dX7_goAway_21 : decode cX7_goAway 21 = .ok (.iaload, 1) := by decide +kernel
theorem dX7_goAway_22 : decode cX7_goAway 22 = .ok (.iconst 1, 1) := by decide +kernel
theorem dX7_goAway_23 : decode cX7_goAway 23 = .ok (.isub, 1) := by decide +kernel
theorem dX7_goAway_24 : decode cX7_goAway 24 = .ok (.iastore, 1) := by decide +kernel
theorem dX7_goAway_25 : decode cX7_goAway 25 = .ok (.aload_n 0, 1) := by decide +kernel
theorem dX7_goAway_26 : decode cX7_goAway 26 = .ok (.iload_n 1, 1) := by decide +kernel
theorem dX7_goAway_27 : decode cX7_goAway 27 = .ok (.iload_n 2, 1) := by decide +kernel
theorem dX7_goAway_28 : decode cX7_goAway 28 = .ok (.iconst 0, 1) := by decide +kernel
theorem dX7_goAway_29 : decode cX7_goAway 29 = .ok (.bipush (-4), 2) := by decide +kernel
theorem dX7_goAway_31 : decode cX7_goAway 31 = .ok (.iconst 1, 1) := by decide +kernel
theorem dX7_goAway_32 : decode cX7_goAway 32 = .ok (.invokevirtual 156, 3) := by decide +kernel
theorem dX7_goAway_35 : decode cX7_goAway 35 = .ok (.iload_n 2, 1) := by decide +kernel
theorem dX7_goAway_36 : decode cX7_goAway 36 = .ok (.ireturn, 1) := by decide +kernel
theorem dX7_note_0 : decode cX7_note 0 = .ok (.aload_n 0, 1) := by decide +kernel
theorem dX7_note_1 : decode cX7_note 1 = .ok (.getfield 57, 3) := by decide +kernel
theorem dX7_note_4 : decode cX7_note 4 = .ok (.bipush 18, 2) := by decide +kernel
theorem dX7_note_6 : decode cX7_note 6 = .ok (.if_icmp .ge 65, 3) := by decide +kernel
theorem dX7_note_9 : decode cX7_note 9 = .ok (.aload_n 0, 1) := by decide +kernel
theorem dX7_note_10 : decode cX7_note 10 = .ok (.getfield 24, 3) := by decide +kernel
theorem dX7_note_13 : decode cX7_note 13 = .ok (.aload_n 0, 1) := by decide +kernel
theorem dX7_note_14 : decode cX7_note 14 = .ok (.getfield 57, 3) := by decide +kernel
theorem dX7_note_17 : decode cX7_note 17 = .ok (.iload_n 1, 1) := by decide +kernel
theorem dX7_note_18 : decode cX7_note 18 = .ok (.iastore, 1) := by decide +kernel
theorem dX7_note_19 : decode cX7_note 19 = .ok (.aload_n 0, 1) := by decide +kernel
theorem dX7_note_20 : decode cX7_note 20 = .ok (.getfield 27, 3) := by decide +kernel
theorem dX7_note_23 : decode cX7_note 23 = .ok (.aload_n 0, 1) := by decide +kernel
theorem dX7_note_24 : decode cX7_note 24 = .ok (.getfield 57, 3) := by decide +kernel
theorem dX7_note_27 : decode cX7_note 27 = .ok (.iload_n 2, 1) := by decide +kernel
theorem dX7_note_28 : decode cX7_note 28 = .ok (.iastore, 1) := by decide +kernel
theorem dX7_note_29 : decode cX7_note 29 = .ok (.aload_n 0, 1) := by decide +kernel
theorem dX7_note_30 : decode cX7_note 30 = .ok (.getfield 30, 3) := by decide +kernel
theorem dX7_note_33 : decode cX7_note 33 = .ok (.aload_n 0, 1) := by decide +kernel
theorem dX7_note_34 : decode cX7_note 34 = .ok (.getfield 57, 3) := by decide +kernel
theorem dX7_note_37 : decode cX7_note 37 = .ok (.iload_n 3, 1) := by decide +kernel
theorem dX7_note_38 : decode cX7_note 38 = .ok (.iastore, 1) := by decide +kernel
theorem dX7_note_39 : decode cX7_note 39 = .ok (.aload_n 0, 1) := by decide +kernel
theorem dX7_note_40 : decode cX7_note 40 = .ok (.getfield 33, 3) := by decide +kernel
theorem dX7_note_43 : decode cX7_note 43 = .ok (.aload_n 0, 1) := by decide +kernel
theorem dX7_note_44 : decode cX7_note 44 = .ok (.getfield 57, 3) := by decide +kernel
theorem dX7_note_47 : decode cX7_note 47 = .ok (.iload 4, 2) := by decide +kernel
theorem dX7_note_49 : decode cX7_note 49 = .ok (.iastore, 1) := by decide +kernel
theorem dX7_note_50 : decode cX7_note 50 = .ok (.aload_n 0, 1) := by decide +kernel
theorem dX7_note_51 : decode cX7_note 51 = .ok (.getfield 36, 3) := by decide +kernel
theorem dX7_note_54 : decode cX7_note 54 = .ok (.aload_n 0, 1) := by decide +kernel
theorem dX7_note_55 : decode cX7_note 55 = .ok (.getfield 57, 3) := by decide +kernel
theorem dX7_note_58 : decode cX7_note 58 = .ok (.iload 5, 2) := by decide +kernel
theorem dX7_note_60 : decode cX7_note 60 = .ok (.bastore, 1) := by decide +kernel
theorem dX7_note_61 : decode cX7_note 61 = .ok (.aload_n 0, 1) := by decide +kernel
theorem dX7_note_62 : decode cX7_note 62 = .ok (.dup, 1) := by decide +kernel
theorem dX7_note_63 : decode cX7_note 63 = .ok (.getfield 57, 3) := by decide +kernel
theorem dX7_note_66 : decode cX7_note 66 = .ok (.iconst 1, 1) := by decide +kernel
theorem dX7_note_67 : decode cX7_note 67 = .ok (.iadd, 1) := by decide +kernel
theorem dX7_note_68 : decode cX7_note 68 = .ok (.putfield 57, 3) := by decide +kernel
theorem dX7_note_71 : decode cX7_note 71 = .ok (.return_, 1) := by decide +kernel
theorem dX7_takeBack_0 : decode cX7_takeBack 0 = .ok (.aload_n 0, 1) := by decide +kernel
theorem dX7_takeBack_1 : decode cX7_takeBack 1 = .ok (.getfield 57, 3) := by decide +kernel
theorem dX7_takeBack_4 : decode cX7_takeBack 4 = .ok (.ifCond .gt 4, 3) := by decide +kernel
theorem dX7_takeBack_7 : decode cX7_takeBack 7 = .ok (.return_, 1) := by decide +kernel
theorem dX7_takeBack_8 : decode cX7_takeBack 8 = .ok (.aload_n 0, 1) := by decide +kernel
theorem dX7_takeBack_9 : decode cX7_takeBack 9 = .ok (.dup, 1) := by decide +kernel
theorem dX7_takeBack_10 : decode cX7_takeBack 10 = .ok (.getfield 57, 3) := by decide +kernel
theorem dX7_takeBack_13 : decode cX7_takeBack 13 = .ok (.iconst 1, 1) := by decide +kernel
theorem dX7_takeBack_14 : decode cX7_takeBack 14 = .ok (.isub, 1) := by decide +kernel
theorem dX7_takeBack_15 : decode cX7_takeBack 15 = .ok (.putfield 57, 3) := by decide +kernel
theorem dX7_takeBack_18 : decode cX7_takeBack 18 = .ok (.aload_n 0, 1) := by decide +kernel
theorem dX7_takeBack_19 : decode cX7_takeBack 19 = .ok (.getfield 24, 3) := by decide +kernel
theorem dX7_takeBack_22 : decode cX7_takeBack 22 = .ok (.aload_n 0, 1) := by decide +kernel
theorem dX7_takeBack_23 : decode cX7_takeBack 23 = .ok (.getfield 57, 3) := by decide +kernel
theorem dX7_takeBack_26 : decode cX7_takeBack 26 = .ok (.iaload, 1) := by decide +kernel
theorem dX7_takeBack_27 : decode cX7_takeBack 27 = .ok (.istore_n 1, 1) := by decide +kernel
theorem dX7_takeBack_28 : decode cX7_takeBack 28 = .ok (.aload_n 0, 1) := by decide +kernel
theorem dX7_takeBack_29 : decode cX7_takeBack 29 = .ok (.getfield 27, 3) := by decide +kernel
theorem dX7_takeBack_32 : decode cX7_takeBack 32 = .ok (.aload_n 0, 1) := by decide +kernel
theorem dX7_takeBack_33 : decode cX7_takeBack 33 = .ok (.getfield 57, 3) := by decide +kernel
theorem dX7_takeBack_36 : decode cX7_takeBack 36 = .ok (.iaload, 1) := by decide +kernel
theorem dX7_takeBack_37 : decode cX7_takeBack 37 = .ok (.istore_n 2, 1) := by decide +kernel
theorem dX7_takeBack_38 : decode cX7_takeBack 38 = .ok (.aload_n 0, 1) := by decide +kernel
theorem dX7_takeBack_39 : decode cX7_takeBack 39 = .ok (.getfield 36, 3) := by decide +kernel
theorem dX7_takeBack_42 : decode cX7_takeBack 42 = .ok (.aload_n 0, 1) := by decide +kernel
theorem dX7_takeBack_43 : decode cX7_takeBack 43 = .ok (.getfield 57, 3) := by decide +kernel
theorem dX7_takeBack_46 : decode cX7_takeBack 46 = .ok (.baload, 1) := by decide +kernel
theorem dX7_takeBack_47 : decode cX7_takeBack 47 = .ok (.ifCond .eq 21, 3) := by decide +kernel
theorem dX7_takeBack_50 : decode cX7_takeBack 50 = .ok (.aload_n 0, 1) := by decide +kernel
theorem dX7_takeBack_51 : decode cX7_takeBack 51 = .ok (.getfield 18, 3) := by decide +kernel
theorem dX7_takeBack_54 : decode cX7_takeBack 54 = .ok (.iload_n 1, 1) := by decide +kernel
theorem dX7_takeBack_55 : decode cX7_takeBack 55 = .ok (.iload_n 2, 1) := by decide +kernel
theorem dX7_takeBack_56 : decode cX7_takeBack 56 = .ok (.iastore, 1) := by decide +kernel
theorem dX7_takeBack_57 : decode cX7_takeBack 57 = .ok (.aload_n 0, 1) := by decide +kernel
theorem dX7_takeBack_58 : decode cX7_takeBack 58 = .ok (.getfield 9, 3) := by decide +kernel
theorem dX7_takeBack_61 : decode cX7_takeBack 61 = .ok (.iload_n 2, 1) := by decide +kernel
theorem dX7_takeBack_62 : decode cX7_takeBack 62 = .ok (.dup2, 1) := by decide +kernel
theorem dX7_takeBack_63 : decode cX7_takeBack 63 = .ok (.iaload, 1) := by decide +kernel
theorem dX7_takeBack_64 : decode cX7_takeBack 64 = .ok (.iconst 1, 1) := by decide +kernel
theorem dX7_takeBack_65 : decode cX7_takeBack 65 = .ok (.iadd, 1) := by decide +kernel
theorem dX7_takeBack_66 : decode cX7_takeBack 66 = .ok (.iastore, 1) := by decide +kernel
theorem dX7_takeBack_67 : decode cX7_takeBack 67 = .ok (.return_, 1) := by decide +kernel
theorem dX7_takeBack_68 : decode cX7_takeBack 68 = .ok (.aload_n 0, 1) := by decide +kernel
theorem dX7_takeBack_69 : decode cX7_takeBack 69 = .ok (.dup, 1) := by decide +kernel
theorem dX7_takeBack_70 : decode cX7_takeBack 70 = .ok (.getfield 50, 3) := by decide +kernel
theorem dX7_takeBack_73 : decode cX7_takeBack 73 = .ok (.iconst 1, 1) := by decide +kernel
theorem dX7_takeBack_74 : decode cX7_takeBack 74 = .ok (.isub, 1) := by decide +kernel
theorem dX7_takeBack_75 : decode cX7_takeBack 75 = .ok (.putfield 50, 3) := by decide +kernel
theorem dX7_takeBack_78 : decode cX7_takeBack 78 = .ok (.aload_n 0, 1) := by decide +kernel
theorem dX7_takeBack_79 : decode cX7_takeBack 79 = .ok (.getfield 21, 3) := by decide +kernel
theorem dX7_takeBack_82 : decode cX7_takeBack 82 = .ok (.iload_n 1, 1) := by decide +kernel
theorem dX7_takeBack_83 : decode cX7_takeBack 83 = .ok (.iconst 0, 1) := by decide +kernel
theorem dX7_takeBack_84 : decode cX7_takeBack 84 = .ok (.iastore, 1) := by decide +kernel
theorem dX7_takeBack_85 : decode cX7_takeBack 85 = .ok (.iload_n 2, 1) := by decide +kernel
theorem dX7_takeBack_86 : decode cX7_takeBack 86 = .ok (.bipush (-4), 2) := by decide +kernel
theorem dX7_takeBack_88 : decode cX7_takeBack 88 = .ok (.if_icmp .eq 53, 3) := by decide +kernel
theorem dX7_takeBack_91 : decode cX7_takeBack 91 = .ok (.aload_n 0, 1) := by decide +kernel
theorem dX7_takeBack_92 : decode cX7_takeBack 92 = .ok (.getfield 18, 3) := by decide +kernel
theorem dX7_takeBack_95 : decode cX7_takeBack 95 = .ok (.iload_n 1, 1) := by decide +kernel
theorem dX7_takeBack_96 : decode cX7_takeBack 96 = .ok (.bipush (-4), 2) := by decide +kernel
theorem dX7_takeBack_98 : decode cX7_takeBack 98 = .ok (.iastore, 1) := by decide +kernel
theorem dX7_takeBack_99 : decode cX7_takeBack 99 = .ok (.aload_n 0, 1) := by decide +kernel
theorem dX7_takeBack_100 : decode cX7_takeBack 100 = .ok (.getfield 9, 3) := by decide +kernel
theorem dX7_takeBack_103 : decode cX7_takeBack 103 = .ok (.iload_n 2, 1) := by decide +kernel
theorem dX7_takeBack_104 : decode cX7_takeBack 104 = .ok (.dup2, 1) := by decide +kernel
theorem dX7_takeBack_105 : decode cX7_takeBack 105 = .ok (.iaload, 1) := by decide +kernel
theorem dX7_takeBack_106 : decode cX7_takeBack 106 = .ok (.iconst 1, 1) := by decide +kernel
theorem dX7_takeBack_107 : decode cX7_takeBack 107 = .ok (.isub, 1) := by decide +kernel
theorem dX7_takeBack_108 : decode cX7_takeBack 108 = .ok (.iastore, 1) := by decide +kernel
theorem dX7_takeBack_109 : decode cX7_takeBack 109 = .ok (.aload_n 0, 1) := by decide +kernel
theorem dX7_takeBack_110 : decode cX7_takeBack 110 = .ok (.getfield 15, 3) := by decide +kernel
theorem dX7_takeBack_113 : decode cX7_takeBack 113 = .ok (.iload_n 2, 1) := by decide +kernel
theorem dX7_takeBack_114 : decode cX7_takeBack 114 = .ok (.dup2, 1) := by decide +kernel
theorem dX7_takeBack_115 : decode cX7_takeBack 115 = .ok (.iaload, 1) := by decide +kernel
theorem dX7_takeBack_116 : decode cX7_takeBack 116 = .ok (.aload_n 0, 1) := by decide +kernel
theorem dX7_takeBack_117 : decode cX7_takeBack 117 = .ok (.getfield 30, 3) := by decide +kernel
theorem dX7_takeBack_120 : decode cX7_takeBack 120 = .ok (.aload_n 0, 1) := by decide +kernel
theorem dX7_takeBack_121 : decode cX7_takeBack 121 = .ok (.getfield 57, 3) := by decide +kernel
theorem dX7_takeBack_124 : decode cX7_takeBack 124 = .ok (.iaload, 1) := by decide +kernel
theorem dX7_takeBack_125 : decode cX7_takeBack 125 = .ok (.isub, 1) := by decide +kernel
theorem dX7_takeBack_126 : decode cX7_takeBack 126 = .ok (.iastore, 1) := by decide +kernel
theorem dX7_takeBack_127 : decode cX7_takeBack 127 = .ok (.aload_n 0, 1) := by decide +kernel
theorem dX7_takeBack_128 : decode cX7_takeBack 128 = .ok (.aload_n 0, 1) := by decide +kernel
theorem dX7_takeBack_129 : decode cX7_takeBack 129 = .ok (.getfield 33, 3) := by decide +kernel
theorem dX7_takeBack_132 : decode cX7_takeBack 132 = .ok (.aload_n 0, 1) := by decide +kernel
theorem dX7_takeBack_133 : decode cX7_takeBack 133 = .ok (.getfield 57, 3) := by decide +kernel
theorem dX7_takeBack_136 : decode cX7_takeBack 136 = .ok (.iaload, 1) := by decide +kernel
theorem dX7_takeBack_137 : decode cX7_takeBack 137 = .ok (.iload_n 2, 1) := by decide +kernel
theorem dX7_takeBack_138 : decode cX7_takeBack 138 = .ok (.invokevirtual 160, 3) := by decide +kernel
theorem dX7_takeBack_141 : decode cX7_takeBack 141 = .ok (.return_, 1) := by decide +kernel
theorem dX7_takeBackDrop_0 : decode cX7_takeBackDrop 0 = .ok (.iload_n 1, 1) := by decide +kernel
theorem dX7_takeBackDrop_1 : decode cX7_takeBackDrop 1 = .ok (.bipush (-4), 2) := by decide +kernel
theorem dX7_takeBackDrop_3 : decode cX7_takeBackDrop 3 = .ok (.if_icmp .eq 30, 3) := by decide +kernel
theorem dX7_takeBackDrop_6 : decode cX7_takeBackDrop 6 = .ok (.aload_n 0, 1) := by decide +kernel
theorem dX7_takeBackDrop_7 : decode cX7_takeBackDrop 7 = .ok (.getfield 18, 3) := by decide +kernel
theorem dX7_takeBackDrop_10 : decode cX7_takeBackDrop 10 = .ok (.iload_n 1, 1) := by decide +kernel
theorem dX7_takeBackDrop_11 : decode cX7_takeBackDrop 11 = .ok (.iload_n 2, 1) := by decide +kernel
theorem dX7_takeBackDrop_12 : decode cX7_takeBackDrop 12 = .ok (.iastore, 1) := by decide +kernel
theorem dX7_takeBackDrop_13 : decode cX7_takeBackDrop 13 = .ok (.aload_n 0, 1) := by decide +kernel
theorem dX7_takeBackDrop_14 : decode cX7_takeBackDrop 14 = .ok (.getfield 9, 3) := by decide +kernel
theorem dX7_takeBackDrop_17 : decode cX7_takeBackDrop 17 = .ok (.iload_n 2, 1) := by decide +kernel
theorem dX7_takeBackDrop_18 : decode cX7_takeBackDrop 18 = .ok (.dup2, 1) := by decide +kernel
theorem dX7_takeBackDrop_19 : decode cX7_takeBackDrop 19 = .ok (.iaload, 1) := by decide +kernel
theorem dX7_takeBackDrop_20 : decode cX7_takeBackDrop 20 = .ok (.iconst 1, 1) := by decide +kernel
theorem dX7_takeBackDrop_21 : decode cX7_takeBackDrop 21 = .ok (.iadd, 1) := by decide +kernel
theorem dX7_takeBackDrop_22 : decode cX7_takeBackDrop 22 = .ok (.iastore, 1) := by decide +kernel
theorem dX7_takeBackDrop_23 : decode cX7_takeBackDrop 23 = .ok (.aload_n 0, 1) := by decide +kernel
theorem dX7_takeBackDrop_24 : decode cX7_takeBackDrop 24 = .ok (.dup, 1) := by decide +kernel
theorem dX7_takeBackDrop_25 : decode cX7_takeBackDrop 25 = .ok (.getfield 54, 3) := by decide +kernel
theorem dX7_takeBackDrop_28 : decode cX7_takeBackDrop 28 = .ok (.iconst 1, 1) := by decide +kernel
theorem dX7_takeBackDrop_29 : decode cX7_takeBackDrop 29 = .ok (.isub, 1) := by decide +kernel
theorem dX7_takeBackDrop_30 : decode cX7_takeBackDrop 30 = .ok (.putfield 54, 3) := by decide +kernel
theorem dX7_takeBackDrop_33 : decode cX7_takeBackDrop 33 = .ok (.return_, 1) := by decide +kernel
theorem dX8_init_0 : decode cX8_init 0 = .ok (.aload_n 0, 1) := by decide +kernel
theorem dX8_init_1 : decode cX8_init 1 = .ok (.invokespecial 3, 3) := by decide +kernel
theorem dX8_init_4 : decode cX8_init 4 = .ok (.aload_n 0, 1) := by decide +kernel
theorem dX8_init_5 : decode cX8_init 5 = .ok (.sipush 160, 3) := by decide +kernel
theorem dX8_init_8 : decode cX8_init 8 = .ok (.newarray .int, 2) := by decide +kernel
theorem dX8_init_10 : decode cX8_init 10 = .ok (.putfield 9, 3) := by decide +kernel
theorem dX8_init_13 : decode cX8_init 13 = .ok (.return_, 1) := by decide +kernel
theorem dX8_addEight_0 : decode cX8_addEight 0 = .ok (.bipush 56, 2) := by decide +kernel
theorem dX8_addEight_2 : decode cX8_addEight 2 = .ok (.istore_n 3, 1) := by decide +kernel
theorem dX8_addEight_3 : decode cX8_addEight 3 = .ok (.iload_n 3, 1) := by decide +kernel
theorem dX8_addEight_4 : decode cX8_addEight 4 = .ok (.ifCond .lt 46, 3) := by decide +kernel
theorem dX8_addEight_7 : decode cX8_addEight 7 = .ok (.aload_n 0, 1) := by decide +kernel
theorem dX8_addEight_8 : decode cX8_addEight 8 = .ok (.getfield 15, 3) := by decide +kernel
theorem dX8_addEight_11 : decode cX8_addEight 11 = .ok (.sipush 160, 3) := by decide +kernel
theorem dX8_addEight_14 : decode cX8_addEight 14 = .ok (.if_icmp .ge 36, 3) := by decide +kernel
theorem dX8_addEight_17 : decode cX8_addEight 17 = .ok (.aload_n 0, 1) := by decide +kernel
theorem dX8_addEight_18 : decode cX8_addEight 18 = .ok (.getfield 9, 3) := by decide +kernel
theorem dX8_addEight_21 : decode cX8_addEight 21 = .ok (.aload_n 0, 1) := by decide +kernel
theorem dX8_addEight_22 : decode cX8_addEight 22 = .ok (.getfield 15, 3) := by decide +kernel
theorem dX8_addEight_25 : decode cX8_addEight 25 = .ok (.lload_n 1, 1) := by decide +kernel
theorem dX8_addEight_26 : decode cX8_addEight 26 = .ok (.iload_n 3, 1) := by decide +kernel
theorem dX8_addEight_27 : decode cX8_addEight 27 = .ok (.lushr, 1) := by decide +kernel
theorem dX8_addEight_28 : decode cX8_addEight 28 = .ok (.l2i, 1) := by decide +kernel
theorem dX8_addEight_29 : decode cX8_addEight 29 = .ok (.sipush 255, 3) := by decide +kernel
theorem dX8_addEight_32 : decode cX8_addEight 32 = .ok (.iand, 1) := by decide +kernel
theorem dX8_addEight_33 : decode cX8_addEight 33 = .ok (.iastore, 1) := by decide +kernel
theorem dX8_addEight_34 : decode cX8_addEight 34 = .ok (.aload_n 0, 1) := by decide +kernel
theorem dX8_addEight_35 : decode cX8_addEight 35 = .ok (.dup, 1) := by decide +kernel
theorem dX8_addEight_36 : decode cX8_addEight 36 = .ok (.getfield 15, 3) := by decide +kernel
theorem dX8_addEight_39 : decode cX8_addEight 39 = .ok (.iconst 1, 1) := by decide +kernel
theorem dX8_addEight_40 : decode cX8_addEight 40 = .ok (.iadd, 1) := by decide +kernel
theorem dX8_addEight_41 : decode cX8_addEight 41 = .ok (.putfield 15, 3) := by decide +kernel
theorem dX8_addEight_44 : decode cX8_addEight 44 = .ok (.iinc 3 (-8), 3) := by decide +kernel
theorem dX8_addEight_47 : decode cX8_addEight 47 = .ok (.goto (-44), 3) := by decide +kernel
theorem dX8_addEight_50 : decode cX8_addEight 50 = .ok (.return_, 1) := by decide +kernel
theorem dX8_readInto_0 : decode cX8_readInto 0 = .ok (.aload_n 0, 1) := by decide +kernel
theorem dX8_readInto_1 : decode cX8_readInto 1 = .ok (.iconst 0, 1) := by decide +kernel
theorem dX8_readInto_2 : decode cX8_readInto 2 = .ok (.putfield 19, 3) := by decide +kernel
theorem dX8_readInto_5 : decode cX8_readInto 5 = .ok (.aload_n 0, 1) := by decide +kernel
theorem dX8_readInto_6 : decode cX8_readInto 6 = .ok (.iconst 0, 1) := by decide +kernel
theorem dX8_readInto_7 : decode cX8_readInto 7 = .ok (.putfield 22, 3) := by decide +kernel
theorem dX8_readInto_10 : decode cX8_readInto 10 = .ok (.aload_n 0, 1) := by decide +kernel
theorem dX8_readInto_11 : decode cX8_readInto 11 = .ok (.iconst 0, 1) := by decide +kernel
theorem dX8_readInto_12 : decode cX8_readInto 12 = .ok (.putfield 25, 3) := by decide +kernel
theorem dX8_readInto_15 : decode cX8_readInto 15 = .ok (.aload_n 1, 1) := by decide +kernel
theorem dX8_readInto_16 : decode cX8_readInto 16 = .ok (.invokevirtual 28, 3) := by decide +kernel
theorem dX8_readInto_19 : decode cX8_readInto 19 = .ok (.aload_n 0, 1) := by decide +kernel
theorem dX8_readInto_20 : decode cX8_readInto 20 = .ok (.invokevirtual 33, 3) := by decide +kernel
theorem dX8_readInto_23 : decode cX8_readInto 23 = .ok (.aload_n 0, 1) := by decide +kernel
theorem dX8_readInto_24 : decode cX8_readInto 24 = .ok (.bipush 6, 2) := by decide +kernel
theorem dX8_readInto_26 : decode cX8_readInto 26 = .ok (.invokevirtual 36, 3) := by decide +kernel
theorem dX8_readInto_29 : decode cX8_readInto 29 = .ok (.aload_n 0, 1) := by decide +kernel
theorem dX8_readInto_30 : decode cX8_readInto 30 = .ok (.aload_n 1, 1) := by decide +kernel
theorem dX8_readInto_31 : decode cX8_readInto 31 = .ok (.invokevirtual 40, 3) := by decide +kernel
theorem dX8_readInto_34 : decode cX8_readInto 34 = .ok (.iconst 0, 1) := by decide +kernel
theorem dX8_readInto_35 : decode cX8_readInto 35 = .ok (.istore_n 2, 1) := by decide +kernel
theorem dX8_readInto_36 : decode cX8_readInto 36 = .ok (.aload_n 0, 1) := by decide +kernel
theorem dX8_readInto_37 : decode cX8_readInto 37 = .ok (.getfield 44, 3) := by decide +kernel
theorem dX8_readInto_40 : decode cX8_readInto 40 = .ok (.bipush 12, 2) := by decide +kernel
theorem dX8_readInto_42 : decode cX8_readInto 42 = .ok (.if_icmp .ne 25, 3) := by decide +kernel
theorem dX8_readInto_45 : decode cX8_readInto 45 = .ok (.iload_n 2, 1) := by decide +kernel
theorem dX8_readInto_46 : decode cX8_readInto 46 = .ok (.sipush 160, 3) := by decide +kernel
theorem dX8_readInto_49 : decode cX8_readInto 49 = .ok (.if_icmp .ge 18, 3) := by decide +kernel
theorem dX8_readInto_52 : decode cX8_readInto 52 = .ok (.aload_n 0, 1) := by decide +kernel
theorem dX8_readInto_53 : decode cX8_readInto 53 = .ok (.invokevirtual 33, 3) := by decide +kernel
theorem dX8_readInto_56 : decode cX8_readInto 56 = .ok (.aload_n 0, 1) := by decide +kernel
theorem dX8_readInto_57 : decode cX8_readInto 57 = .ok (.aload_n 1, 1) := by decide +kernel
theorem dX8_readInto_58 : decode cX8_readInto 58 = .ok (.invokevirtual 40, 3) := by decide +kernel
theorem dX8_readInto_61 : decode cX8_readInto 61 = .ok (.iinc 2 1, 3) := by decide +kernel
theorem dX8_readInto_64 : decode cX8_readInto 64 = .ok (.goto (-28), 3) := by decide +kernel
theorem dX8_readInto_67 : decode cX8_readInto 67 = .ok (.aload_n 0, 1) := by decide +kernel
theorem dX8_readInto_68 : decode cX8_readInto 68 = .ok (.getfield 44, 3) := by decide +kernel
theorem dX8_readInto_71 : decode cX8_readInto 71 = .ok (.bipush 7, 2) := by decide +kernel
theorem dX8_readInto_73 : decode cX8_readInto 73 = .ok (.if_icmp .ne 45, 3) := by decide +kernel
theorem dX8_readInto_76 : decode cX8_readInto 76 = .ok (.aload_n 0, 1) := by decide +kernel
theorem dX8_readInto_77 : decode cX8_readInto 77 = .ok (.invokevirtual 33, 3) := by decide +kernel
theorem dX8_readInto_80 : decode cX8_readInto 80 = .ok (.aload_n 0, 1) := by decide +kernel
theorem dX8_readInto_81 : decode cX8_readInto 81 = .ok (.aload_n 1, 1) := by decide +kernel
theorem dX8_readInto_82 : decode cX8_readInto 82 = .ok (.invokevirtual 47, 3) := by decide +kernel
theorem dX8_readInto_85 : decode cX8_readInto 85 = .ok (.iconst 0, 1) := by decide +kernel
theorem dX8_readInto_86 : decode cX8_readInto 86 = .ok (.istore_n 2, 1) := by decide +kernel
theorem dX8_readInto_87 : decode cX8_readInto 87 = .ok (.aload_n 0, 1) := by decide +kernel
theorem dX8_readInto_88 : decode cX8_readInto 88 = .ok (.getfield 44, 3) := by decide +kernel
theorem dX8_readInto_91 : decode cX8_readInto 91 = .ok (.bipush 8, 2) := by decide +kernel
theorem dX8_readInto_93 : decode cX8_readInto 93 = .ok (.if_icmp .ne 25, 3) := by decide +kernel
theorem dX8_readInto_96 : decode cX8_readInto 96 = .ok (.iload_n 2, 1) := by decide +kernel
theorem dX8_readInto_97 : decode cX8_readInto 97 = .ok (.sipush 160, 3) := by decide +kernel
theorem dX8_readInto_100 : decode cX8_readInto 100 = .ok (.if_icmp .ge 18, 3) := by decide +kernel
theorem dX8_readInto_103 : decode cX8_readInto 103 = .ok (.aload_n 0, 1) := by decide +kernel
theorem dX8_readInto_104 : decode cX8_readInto 104 = .ok (.invokevirtual 33, 3) := by decide +kernel
theorem dX8_readInto_107 : decode cX8_readInto 107 = .ok (.aload_n 0, 1) := by decide +kernel
theorem dX8_readInto_108 : decode cX8_readInto 108 = .ok (.aload_n 1, 1) := by decide +kernel
theorem dX8_readInto_109 : decode cX8_readInto 109 = .ok (.invokevirtual 47, 3) := by decide +kernel
theorem dX8_readInto_112 : decode cX8_readInto 112 = .ok (.iinc 2 1, 3) := by decide +kernel
theorem dX8_readInto_115 : decode cX8_readInto 115 = .ok (.goto (-28), 3) := by decide +kernel
theorem dX8_readInto_118 : decode cX8_readInto 118 = .ok (.aload_n 0, 1) := by decide +kernel
theorem dX8_readInto_119 : decode cX8_readInto 119 = .ok (.getfield 44, 3) := by decide +kernel
theorem dX8_readInto_122 : decode cX8_readInto 122 = .ok (.bipush 9, 2) := by decide +kernel
theorem dX8_readInto_124 : decode cX8_readInto 124 = .ok (.if_icmp .ne 12, 3) := by decide +kernel
theorem dX8_readInto_127 : decode cX8_readInto 127 = .ok (.aload_n 1, 1) := by decide +kernel
theorem dX8_readInto_128 : decode cX8_readInto 128 = .ok (.iconst 1, 1) := by decide +kernel
theorem dX8_readInto_129 : decode cX8_readInto 129 = .ok (.putfield 50, 3) := by decide +kernel
theorem dX8_readInto_132 : decode cX8_readInto 132 = .ok (.aload_n 0, 1) := by decide +kernel
theorem dX8_readInto_133 : decode cX8_readInto 133 = .ok (.invokevirtual 33, 3) := by decide +kernel
theorem dX8_readInto_136 : decode cX8_readInto 136 = .ok (.aload_n 0, 1) := by decide +kernel
theorem dX8_readInto_137 : decode cX8_readInto 137 = .ok (.bipush 15, 2) := by decide +kernel
theorem dX8_readInto_139 : decode cX8_readInto 139 = .ok (.invokevirtual 36, 3) := by decide +kernel
theorem dX8_readInto_142 : decode cX8_readInto 142 = .ok (.aload_n 0, 1) := by decide +kernel
theorem dX8_readInto_143 : decode cX8_readInto 143 = .ok (.getfield 44, 3) := by decide +kernel
theorem dX8_readInto_146 : decode cX8_readInto 146 = .ok (.bipush 17, 2) := by decide +kernel
theorem dX8_readInto_148 : decode cX8_readInto 148 = .ok (.if_icmp .eq 8, 3) := by decide +kernel
theorem dX8_readInto_151 : decode cX8_readInto 151 = .ok (.aload_n 0, 1) := by decide +kernel
theorem dX8_readInto_152 : decode cX8_readInto 152 = .ok (.iconst 5, 1) := by decide +kernel
theorem dX8_readInto_153 : decode cX8_readInto 153 = .ok (.invokevirtual 54, 3) := by decide +kernel
theorem dX8_readInto_156 : decode cX8_readInto 156 = .ok (.return_, 1) := by decide +kernel
theorem dX8_readKey_0 : decode cX8_readKey 0 = .ok (.aload_n 0, 1) := by decide +kernel
theorem dX8_readKey_1 : decode cX8_readKey 1 = .ok (.getfield 44, 3) := by decide +kernel
theorem dX8_readKey_4 : decode cX8_readKey 4 = .ok (.bipush 11, 2) := by decide +kernel
theorem dX8_readKey_6 : decode cX8_readKey 6 = .ok (.if_icmp .ne 7, 3) := by decide +kernel
theorem dX8_readKey_9 : decode cX8_readKey 9 = .ok (.iconst 1, 1) := by decide +kernel
theorem dX8_readKey_10 : decode cX8_readKey 10 = .ok (.goto 4, 3) := by decide +kernel
theorem dX8_readKey_13 : decode cX8_readKey 13 = .ok (.iconst 0, 1) := by decide +kernel
theorem dX8_readKey_14 : decode cX8_readKey 14 = .ok (.istore_n 2, 1) := by decide +kernel
theorem dX8_readKey_15 : decode cX8_readKey 15 = .ok (.aload_n 0, 1) := by decide +kernel
theorem dX8_readKey_16 : decode cX8_readKey 16 = .ok (.iload_n 2, 1) := by decide +kernel
theorem dX8_readKey_17 : decode cX8_readKey 17 = .ok (.ifCond .eq 8, 3) := by decide +kernel
theorem dX8_readKey_20 : decode cX8_readKey 20 = .ok (.bipush 11, 2) := by decide +kernel
theorem dX8_readKey_22 : decode cX8_readKey 22 = .ok (.goto 5, 3) := by decide +kernel
theorem dX8_readKey_25 : decode cX8_readKey 25 = .ok (.bipush 10, 2) := by decide +kernel
theorem dX8_readKey_27 : decode cX8_readKey 27 = .ok (.invokevirtual 36, 3) := by decide +kernel
theorem dX8_readKey_30 : decode cX8_readKey 30 = .ok (.aload_n 0, 1) := by decide +kernel
theorem dX8_readKey_31 : decode cX8_readKey 31 = .ok (.getfield 44, 3) := by decide +kernel
theorem dX8_readKey_34 : decode cX8_readKey 34 = .ok (.istore_n 3, 1) := by decide +kernel
theorem dX8_readKey_35 : decode cX8_readKey 35 = .ok (.iload_n 3, 1) := by decide +kernel
theorem dX8_readKey_36 : decode cX8_readKey 36 = .ok (.invokestatic 57, 3) := by decide +kernel
theorem dX8_readKey_39 : decode cX8_readKey 39 = .ok (.ifCond .ne 11, 3) := by decide +kernel
theorem dX8_readKey_42 : decode cX8_readKey 42 = .ok (.aload_n 0, 1) := by decide +kernel
theorem dX8_readKey_43 : decode cX8_readKey 43 = .ok (.iconst 2, 1) := by decide +kernel
theorem dX8_readKey_44 : decode cX8_readKey 44 = .ok (.invokevirtual 54, 3) := by decide +kernel
theorem dX8_readKey_47 : decode cX8_readKey 47 = .ok (.goto 29, 3) := by decide +kernel
theorem dX8_readKey_50 : decode cX8_readKey 50 = .ok (.aload_n 1, 1) := by decide +kernel
theorem dX8_readKey_51 : decode cX8_readKey 51 = .ok (.iload_n 3, 1) := by decide +kernel
theorem dX8_readKey_52 : decode cX8_readKey 52 = .ok (.invokevirtual 61, 3) := by decide +kernel
theorem dX8_readKey_55 : decode cX8_readKey 55 = .ok (.ifCond .eq 11, 3) := by decide +kernel
theorem dX8_readKey_58 : decode cX8_readKey 58 = .ok (.aload_n 0, 1) := by decide +kernel
theorem dX8_readKey_59 : decode cX8_readKey 59 = .ok (.iconst 3, 1) := by decide +kernel
theorem dX8_readKey_60 : decode cX8_readKey 60 = .ok (.invokevirtual 54, 3) := by decide +kernel
theorem dX8_readKey_63 : decode cX8_readKey 63 = .ok (.goto 13, 3) := by decide +kernel
theorem dX8_readKey_66 : decode cX8_readKey 66 = .ok (.aload_n 1, 1) := by decide +kernel
theorem dX8_readKey_67 : decode cX8_readKey 67 = .ok (.iload_n 3, 1) := by decide +kernel
theorem dX8_readKey_68 : decode cX8_readKey 68 = .ok (.iload_n 2, 1) := by decide +kernel
theorem dX8_readKey_69 : decode cX8_readKey 69 = .ok (.invokevirtual 64, 3) := by decide +kernel
theorem dX8_readKey_72 : decode cX8_readKey 72 = .ok (.aload_n 0, 1) := by decide +kernel
theorem dX8_readKey_73 : decode cX8_readKey 73 = .ok (.invokevirtual 33, 3) := by decide +kernel
theorem dX8_readKey_76 : decode cX8_readKey 76 = .ok (.return_, 1) := by decide +kernel
theorem dX8_readTest_0 : decode cX8_readTest 0 = .ok (.aload_n 0, 1) := by decide +kernel
theorem dX8_readTest_1 : decode cX8_readTest 1 = .ok (.getfield 44, 3) := by decide +kernel
theorem dX8_readTest_4 : decode cX8_readTest 4 = .ok (.istore_n 2, 1) := by decide +kernel
theorem dX8_readTest_5 : decode cX8_readTest 5 = .ok (.iload_n 2, 1) := by decide +kernel
theorem dX8_readTest_6 : decode cX8_readTest 6 = .ok (.invokestatic 57, 3) := by decide +kernel
theorem dX8_readTest_9 : decode cX8_readTest 9 = .ok (.ifCond .ne 11, 3) := by decide +kernel
theorem dX8_readTest_12 : decode cX8_readTest 12 = .ok (.aload_n 0, 1) := by decide +kernel
theorem dX8_readTest_13 : decode cX8_readTest 13 = .ok (.iconst 2, 1) := by decide +kernel
theorem dX8_readTest_14 : decode cX8_readTest 14 = .ok (.invokevirtual 54, 3) := by decide +kernel
theorem dX8_readTest_17 : decode cX8_readTest 17 = .ok (.goto 23, 3) := by decide +kernel
theorem dX8_readTest_20 : decode cX8_readTest 20 = .ok (.aload_n 1, 1) := by decide +kernel
theorem dX8_readTest_21 : decode cX8_readTest 21 = .ok (.getfield 68, 3) := by decide +kernel
theorem dX8_readTest_24 : decode cX8_readTest 24 = .ok (.iconst 4, 1) := by decide +kernel
theorem dX8_readTest_25 : decode cX8_readTest 25 = .ok (.if_icmp .lt 11, 3) := by decide +kernel
theorem dX8_readTest_28 : decode cX8_readTest 28 = .ok (.aload_n 0, 1) := by decide +kernel
theorem dX8_readTest_29 : decode cX8_readTest 29 = .ok (.iconst 4, 1) := by decide +kernel
theorem dX8_readTest_30 : decode cX8_readTest 30 = .ok (.invokevirtual 54, 3) := by decide +kernel
theorem dX8_readTest_33 : decode cX8_readTest 33 = .ok (.goto 7, 3) := by decide +kernel
theorem dX8_readTest_36 : decode cX8_readTest 36 = .ok (.aload_n 0, 1) := by decide +kernel
theorem dX8_readTest_37 : decode cX8_readTest 37 = .ok (.invokevirtual 33, 3) := by decide +kernel
theorem dX8_readTest_40 : decode cX8_readTest 40 = .ok (.aload_n 0, 1) := by decide +kernel
theorem dX8_readTest_41 : decode cX8_readTest 41 = .ok (.getfield 44, 3) := by decide +kernel
theorem dX8_readTest_44 : decode cX8_readTest 44 = .ok (.bipush 13, 2) := by decide +kernel
theorem dX8_readTest_46 : decode cX8_readTest 46 = .ok (.if_icmp .ne 7, 3) := by decide +kernel
theorem dX8_readTest_49 : decode cX8_readTest 49 = .ok (.iconst 1, 1) := by decide +kernel
theorem dX8_readTest_50 : decode cX8_readTest 50 = .ok (.goto 4, 3) := by decide +kernel
theorem dX8_readTest_53 : decode cX8_readTest 53 = .ok (.iconst 0, 1) := by decide +kernel
theorem dX8_readTest_54 : decode cX8_readTest 54 = .ok (.istore_n 3, 1) := by decide +kernel
theorem dX8_readTest_55 : decode cX8_readTest 55 = .ok (.aload_n 0, 1) := by decide +kernel
theorem dX8_readTest_56 : decode cX8_readTest 56 = .ok (.iload_n 3, 1) := by decide +kernel
theorem dX8_readTest_57 : decode cX8_readTest 57 = .ok (.ifCond .eq 8, 3) := by decide +kernel
theorem dX8_readTest_60 : decode cX8_readTest 60 = .ok (.bipush 13, 2) := by decide +kernel
theorem dX8_readTest_62 : decode cX8_readTest 62 = .ok (.goto 5, 3) := by decide +kernel
theorem dX8_readTest_65 : decode cX8_readTest 65 = .ok (.bipush 14, 2) := by decide +kernel
theorem dX8_readTest_67 : decode cX8_readTest 67 = .ok (.invokevirtual 36, 3) := by decide +kernel
theorem dX8_readTest_70 : decode cX8_readTest 70 = .ok (.aload_n 0, 1) := by decide +kernel
theorem dX8_readTest_71 : decode cX8_readTest 71 = .ok (.getfield 71, 3) := by decide +kernel
theorem dX8_readTest_74 : decode cX8_readTest 74 = .ok (.istore 4, 2) := by decide +kernel
theorem dX8_readTest_76 : decode cX8_readTest 76 = .ok (.aload_n 0, 1) := by decide +kernel
theorem dX8_readTest_77 : decode cX8_readTest 77 = .ok (.bipush 16, 2) := by decide +kernel
theorem dX8_readTest_79 : decode cX8_readTest 79 = .ok (.invokevirtual 36, 3) := by decide +kernel
theorem dX8_readTest_82 : decode cX8_readTest 82 = .ok (.aload_n 1, 1) := by decide +kernel
theorem dX8_readTest_83 : decode cX8_readTest 83 = .ok (.iload_n 2, 1) := by decide +kernel
theorem dX8_readTest_84 : decode cX8_readTest 84 = .ok (.iload_n 3, 1) := by decide +kernel
theorem dX8_readTest_85 : decode cX8_readTest 85 = .ok (.iload 4, 2) := by decide +kernel
theorem dX8_readTest_87 : decode cX8_readTest 87 = .ok (.invokevirtual 74, 3) := by decide +kernel
theorem dX8_readTest_90 : decode cX8_readTest 90 = .ok (.return_, 1) := by decide +kernel
theorem dX8_isKey_0 : decode cX8_isKey 0 = .ok (.iload_n 0, 1) := by decide +kernel
theorem dX8_isKey_1 : decode cX8_isKey 1 = .ok (.ifCond .lt 13, 3) := by decide +kernel
theorem dX8_isKey_4 : decode cX8_isKey 4 = .ok (.iload_n 0, 1) := by decide +kernel
theorem dX8_isKey_5 : decode cX8_isKey 5 = .ok (.bipush 6, 2) := by decide +kernel
theorem dX8_isKey_7 : decode cX8_isKey 7 = .ok (.if_icmp .ge 7, 3) := by decide +kernel
theorem dX8_isKey_10 : decode cX8_isKey 10 = .ok (.iconst 1, 1) := by decide +kernel
theorem dX8_isKey_11 : decode cX8_isKey 11 = .ok (.goto 4, 3) := by decide +kernel
theorem dX8_isKey_14 : decode cX8_isKey 14 = .ok (.iconst 0, 1) := by decide +kernel
theorem dX8_isKey_15 : decode cX8_isKey 15 = .ok (.ireturn, 1) := by decide +kernel
theorem dX8_expect_0 : decode cX8_expect 0 = .ok (.aload_n 0, 1) := by decide +kernel
theorem dX8_expect_1 : decode cX8_expect 1 = .ok (.getfield 44, 3) := by decide +kernel
theorem dX8_expect_4 : decode cX8_expect 4 = .ok (.iload_n 1, 1) := by decide +kernel
theorem dX8_expect_5 : decode cX8_expect 5 = .ok (.if_icmp .ne 10, 3) := by decide +kernel
theorem dX8_expect_8 : decode cX8_expect 8 = .ok (.aload_n 0, 1) := by decide +kernel
theorem dX8_expect_9 : decode cX8_expect 9 = .ok (.invokevirtual 33, 3) := by decide +kernel
theorem dX8_expect_12 : decode cX8_expect 12 = .ok (.goto 8, 3) := by decide +kernel
theorem dX8_expect_15 : decode cX8_expect 15 = .ok (.aload_n 0, 1) := by decide +kernel
theorem dX8_expect_16 : decode cX8_expect 16 = .ok (.iconst 2, 1) := by decide +kernel
theorem dX8_expect_17 : decode cX8_expect 17 = .ok (.invokevirtual 54, 3) := by decide +kernel
theorem dX8_expect_20 : decode cX8_expect 20 = .ok (.return_, 1) := by decide +kernel
theorem dX8_fail_0 : decode cX8_fail 0 = .ok (.aload_n 0, 1) := by decide +kernel
theorem dX8_fail_1 : decode cX8_fail 1 = .ok (.getfield 22, 3) := by decide +kernel
theorem dX8_fail_4 : decode cX8_fail 4 = .ok (.ifCond .ne 16, 3) := by decide +kernel
theorem dX8_fail_7 : decode cX8_fail 7 = .ok (.aload_n 0, 1) := by decide +kernel
theorem dX8_fail_8 : decode cX8_fail 8 = .ok (.iload_n 1, 1) := by decide +kernel
theorem dX8_fail_9 : decode cX8_fail 9 = .ok (.putfield 22, 3) := by decide +kernel
theorem dX8_fail_12 : decode cX8_fail 12 = .ok (.aload_n 0, 1) := by decide +kernel
theorem dX8_fail_13 : decode cX8_fail 13 = .ok (.aload_n 0, 1) := by decide +kernel
theorem dX8_fail_14 : decode cX8_fail 14 = .ok (.getfield 78, 3) := by decide +kernel
theorem dX8_fail_17 : decode cX8_fail 17 = .ok (.putfield 25, 3) := by decide +kernel
theorem dX8_fail_20 : decode cX8_fail 20 = .ok (.aload_n 0, 1) := by decide +kernel
theorem dX8_fail_21 : decode cX8_fail 21 = .ok (.bipush 18, 2) := by decide +kernel
theorem dX8_fail_23 : decode cX8_fail 23 = .ok (.putfield 44, 3) := by decide +kernel
theorem dX8_fail_26 : decode cX8_fail 26 = .ok (.return_, 1) := by decide +kernel
theorem dX8_advance_0 : decode cX8_advance 0 = .ok (.aload_n 0, 1) := by decide +kernel
theorem dX8_advance_1 : decode cX8_advance 1 = .ok (.getfield 22, 3) := by decide +kernel
theorem dX8_advance_4 : decode cX8_advance 4 = .ok (.ifCond .eq 4, 3) := by decide +kernel
theorem dX8_advance_7 : decode cX8_advance 7 = .ok (.return_, 1) := by decide +kernel
theorem dX8_advance_8 : decode cX8_advance 8 = .ok (.aload_n 0, 1) := by decide +kernel
theorem dX8_advance_9 : decode cX8_advance 9 = .ok (.getfield 19, 3) := by decide +kernel
theorem dX8_advance_12 : decode cX8_advance 12 = .ok (.aload_n 0, 1) := by decide +kernel
theorem dX8_advance_13 : decode cX8_advance 13 = .ok (.getfield 15, 3) := by decide +kernel
theorem dX8_advance_16 : decode cX8_advance 16 = .ok (.if_icmp .ge 30, 3) := by decide +kernel
theorem dX8_advance_19 : decode cX8_advance 19 = .ok (.aload_n 0, 1) := by decide +kernel
theorem dX8_advance_20 : decode cX8_advance 20 = .ok (.getfield 9, 3) := by decide +kernel
theorem dX8_advance_23 : decode cX8_advance 23 = .ok (.aload_n 0, 1) := by decide +kernel
theorem dX8_advance_24 : decode cX8_advance 24 = .ok (.getfield 19, 3) := by decide +kernel
theorem dX8_advance_27 : decode cX8_advance 27 = .ok (.iaload, 1) := by decide +kernel
theorem dX8_advance_28 : decode cX8_advance 28 = .ok (.bipush 32, 2) := by decide +kernel
theorem dX8_advance_30 : decode cX8_advance 30 = .ok (.if_icmp .ne 16, 3) := by decide +kernel
theorem dX8_advance_33 : decode cX8_advance 33 = .ok (.aload_n 0, 1) := by decide +kernel
theorem dX8_advance_34 : decode cX8_advance 34 = .ok (.dup, 1) := by decide +kernel
theorem dX8_advance_35 : decode cX8_advance 35 = .ok (.getfield 19, 3) := by decide +kernel
theorem dX8_advance_38 : decode cX8_advance 38 = .ok (.iconst 1, 1) := by decide +kernel
theorem dX8_advance_39 : decode cX8_advance 39 = .ok (.iadd, 1) := by decide +kernel
theorem dX8_advance_40 : decode cX8_advance 40 = .ok (.putfield 19, 3) := by decide +kernel
theorem dX8_advance_43 : decode cX8_advance 43 = .ok (.goto (-35), 3) := by decide +kernel
theorem dX8_advance_46 : decode cX8_advance 46 = .ok (.aload_n 0, 1) := by decide +kernel
theorem dX8_advance_47 : decode cX8_advance 47 = .ok (.aload_n 0, 1) := by decide +kernel
theorem dX8_advance_48 : decode cX8_advance 48 = .ok (.getfield 19, 3) := by decide +kernel
theorem dX8_advance_51 : decode cX8_advance 51 = .ok (.putfield 78, 3) := by decide +kernel
theorem dX8_advance_54 : decode cX8_advance 54 = .ok (.aload_n 0, 1) := by decide +kernel
theorem dX8_advance_55 : decode cX8_advance 55 = .ok (.getfield 19, 3) := by decide +kernel
theorem dX8_advance_58 : decode cX8_advance 58 = .ok (.aload_n 0, 1) := by decide +kernel
theorem dX8_advance_59 : decode cX8_advance 59 = .ok (.getfield 15, 3) := by decide +kernel
theorem dX8_advance_62 : decode cX8_advance 62 = .ok (.if_icmp .lt 12, 3) := by decide +kernel
theorem dX8_advance_65 : decode cX8_advance 65 = .ok (.aload_n 0, 1) := by decide +kernel
theorem dX8_advance_66 : decode cX8_advance 66 = .ok (.bipush 17, 2) := by decide +kernel
theorem dX8_advance_68 : decode cX8_advance 68 = .ok (.putfield 44, 3) := by decide +kernel
theorem dX8_advance_71 : decode cX8_advance 71 = .ok (.goto 51, 3) := by decide +kernel
theorem dX8_advance_74 : decode cX8_advance 74 = .ok (.aload_n 0, 1) := by decide +kernel
theorem dX8_advance_75 : decode cX8_advance 75 = .ok (.getfield 9, 3) := by decide +kernel
theorem dX8_advance_78 : decode cX8_advance 78 = .ok (.aload_n 0, 1) := by decide +kernel
theorem dX8_advance_79 : decode cX8_advance 79 = .ok (.getfield 19, 3) := by decide +kernel
theorem dX8_advance_82 : decode cX8_advance 82 = .ok (.iaload, 1) := by decide +kernel
theorem dX8_advance_83 : decode cX8_advance 83 = .ok (.invokestatic 81, 3) := by decide +kernel
theorem dX8_advance_86 : decode cX8_advance 86 = .ok (.ifCond .eq 10, 3) := by decide +kernel
theorem dX8_advance_89 : decode cX8_advance 89 = .ok (.aload_n 0, 1) := by decide +kernel
theorem dX8_advance_90 : decode cX8_advance 90 = .ok (.invokevirtual 84, 3) := by decide +kernel
theorem dX8_advance_93 : decode cX8_advance 93 = .ok (.goto 29, 3) := by decide +kernel
theorem dX8_advance_96 : decode cX8_advance 96 = .ok (.aload_n 0, 1) := by decide +kernel
theorem dX8_advance_97 : decode cX8_advance 97 = .ok (.getfield 9, 3) := by decide +kernel
theorem dX8_advance_100 : decode cX8_advance 100 = .ok (.aload_n 0, 1) := by decide +kernel
theorem dX8_advance_101 : decode cX8_advance 101 = .ok (.getfield 19, 3) := by decide +kernel
theorem dX8_advance_104 : decode cX8_advance 104 = .ok (.iaload, 1) := by decide +kernel
theorem dX8_advance_105 : decode cX8_advance 105 = .ok (.invokestatic 87, 3) := by decide +kernel
theorem dX8_advance_108 : decode cX8_advance 108 = .ok (.ifCond .eq 10, 3) := by decide +kernel
theorem dX8_advance_111 : decode cX8_advance 111 = .ok (.aload_n 0, 1) := by decide +kernel
theorem dX8_advance_112 : decode cX8_advance 112 = .ok (.invokevirtual 90, 3) := by decide +kernel
theorem dX8_advance_115 : decode cX8_advance 115 = .ok (.goto 7, 3) := by decide +kernel
theorem dX8_advance_118 : decode cX8_advance 118 = .ok (.aload_n 0, 1) := by decide +kernel
theorem dX8_advance_119 : decode cX8_advance 119 = .ok (.invokevirtual 93, 3) := by decide +kernel
theorem dX8_advance_122 : decode cX8_advance 122 = .ok (.return_, 1) := by decide +kernel
theorem dX8_isLetter_0 : decode cX8_isLetter 0 = .ok (.iload_n 0, 1) := by decide +kernel
theorem dX8_isLetter_1 : decode cX8_isLetter 1 = .ok (.bipush 97, 2) := by decide +kernel
theorem dX8_isLetter_3 : decode cX8_isLetter 3 = .ok (.if_icmp .lt 13, 3) := by decide +kernel
theorem dX8_isLetter_6 : decode cX8_isLetter 6 = .ok (.iload_n 0, 1) := by decide +kernel
theorem dX8_isLetter_7 : decode cX8_isLetter 7 = .ok (.bipush 122, 2) := by decide +kernel
theorem dX8_isLetter_9 : decode cX8_isLetter 9 = .ok (.if_icmp .gt 7, 3) := by decide +kernel
theorem dX8_isLetter_12 : decode cX8_isLetter 12 = .ok (.iconst 1, 1) := by decide +kernel
theorem dX8_isLetter_13 : decode cX8_isLetter 13 = .ok (.goto 4, 3) := by decide +kernel
theorem dX8_isLetter_16 : decode cX8_isLetter 16 = .ok (.iconst 0, 1) := by decide +kernel
theorem dX8_isLetter_17 : decode cX8_isLetter 17 = .ok (.ireturn, 1) := by decide +kernel
theorem dX8_isFigure_0 : decode cX8_isFigure 0 = .ok (.iload_n 0, 1) := by decide +kernel
theorem dX8_isFigure_1 : decode cX8_isFigure 1 = .ok (.bipush 48, 2) := by decide +kernel
theorem dX8_isFigure_3 : decode cX8_isFigure 3 = .ok (.if_icmp .lt 13, 3) := by decide +kernel
theorem dX8_isFigure_6 : decode cX8_isFigure 6 = .ok (.iload_n 0, 1) := by decide +kernel
theorem dX8_isFigure_7 : decode cX8_isFigure 7 = .ok (.bipush 57, 2) := by decide +kernel
theorem dX8_isFigure_9 : decode cX8_isFigure 9 = .ok (.if_icmp .gt 7, 3) := by decide +kernel
theorem dX8_isFigure_12 : decode cX8_isFigure 12 = .ok (.iconst 1, 1) := by decide +kernel
theorem dX8_isFigure_13 : decode cX8_isFigure 13 = .ok (.goto 4, 3) := by decide +kernel
theorem dX8_isFigure_16 : decode cX8_isFigure 16 = .ok (.iconst 0, 1) := by decide +kernel
theorem dX8_isFigure_17 : decode cX8_isFigure 17 = .ok (.ireturn, 1) := by decide +kernel
theorem dX8_readName_0 : decode cX8_readName 0 = .ok (.aload_n 0, 1) := by decide +kernel
theorem dX8_readName_1 : decode cX8_readName 1 = .ok (.getfield 19, 3) := by decide +kernel
theorem dX8_readName_4 : decode cX8_readName 4 = .ok (.aload_n 0, 1) := by decide +kernel
theorem dX8_readName_5 : decode cX8_readName 5 = .ok (.getfield 15, 3) := by decide +kernel
theorem dX8_readName_8 : decode cX8_readName 8 = .ok (.if_icmp .ge 31, 3) := by decide +kernel
theorem dX8_readName_11 : decode cX8_readName 11 = .ok (.aload_n 0, 1) := by decide +kernel
theorem dX8_readName_12 : decode cX8_readName 12 = .ok (.getfield 9, 3) := by decide +kernel
theorem dX8_readName_15 : decode cX8_readName 15 = .ok (.aload_n 0, 1) := by decide +kernel
theorem dX8_readName_16 : decode cX8_readName 16 = .ok (.getfield 19, 3) := by decide +kernel
theorem dX8_readName_19 : decode cX8_readName 19 = .ok (.iaload, 1) := by decide +kernel
theorem dX8_readName_20 : decode cX8_readName 20 = .ok (.invokestatic 81, 3) := by decide +kernel
theorem dX8_readName_23 : decode cX8_readName 23 = .ok (.ifCond .eq 16, 3) := by decide +kernel
theorem dX8_readName_26 : decode cX8_readName 26 = .ok (.aload_n 0, 1) := by decide +kernel
theorem dX8_readName_27 : decode cX8_readName 27 = .ok (.dup, 1) := by decide +kernel
theorem dX8_readName_28 : decode cX8_readName 28 = .ok (.getfield 19, 3) := by decide +kernel
theorem dX8_readName_31 : decode cX8_readName 31 = .ok (.iconst 1, 1) := by decide +kernel
theorem dX8_readName_32 : decode cX8_readName 32 = .ok (.iadd, 1) := by decide +kernel
theorem dX8_readName_33 : decode cX8_readName 33 = .ok (.putfield 19, 3) := by decide +kernel
theorem dX8_readName_36 : decode cX8_readName 36 = .ok (.goto (-36), 3) := by decide +kernel
theorem dX8_readName_39 : decode cX8_readName 39 = .ok (.iconst 0, 1) := by decide +kernel
theorem dX8_readName_40 : decode cX8_readName 40 = .ok (.istore_n 1, 1) := by decide +kernel
theorem dX8_readName_41 : decode cX8_readName 41 = .ok (.iload_n 1, 1) := by decide +kernel
theorem dX8_readName_42 : decode cX8_readName 42 = .ok (.bipush 10, 2) := by decide +kernel
theorem dX8_readName_44 : decode cX8_readName 44 = .ok (.if_icmp .ge 23, 3) := by decide +kernel
theorem dX8_readName_47 : decode cX8_readName 47 = .ok (.aload_n 0, 1) := by decide +kernel
theorem dX8_readName_48 : decode cX8_readName 48 = .ok (.iload_n 1, 1) := by decide +kernel
theorem dX8_readName_49 : decode cX8_readName 49 = .ok (.invokevirtual 96, 3) := by decide +kernel
theorem dX8_readName_52 : decode cX8_readName 52 = .ok (.ifCond .eq 9, 3) := by decide +kernel
theorem dX8_readName_55 : decode cX8_readName 55 = .ok (.aload_n 0, 1) := by decide +kernel
theorem dX8_readName_56 : decode cX8_readName 56 = .ok (.iload_n 1, 1) := by decide +kernel
theorem dX8_readName_57 : decode cX8_readName 57 = .ok (.putfield 44, 3) := by decide +kernel
theorem dX8_readName_60 : decode cX8_readName 60 = .ok (.return_, 1) := by decide +kernel
theorem dX8_readName_61 : decode cX8_readName 61 = .ok (.iinc 1 1, 3) := by decide +kernel
theorem dX8_readName_64 : decode cX8_readName 64 = .ok (.goto (-23), 3) := by decide +kernel
theorem dX8_readName_67 : decode cX8_readName 67 = .ok (.aload_n 0, 1) := by decide +kernel
theorem dX8_readName_68 : decode cX8_readName 68 = .ok (.iconst 1, 1) := by decide +kernel
theorem dX8_readName_69 : decode cX8_readName 69 = .ok (.invokevirtual 54, 3) := by decide +kernel
theorem dX8_readName_72 : decode cX8_readName 72 = .ok (.return_, 1) := by decide +kernel
theorem dX8_isName_0 : decode cX8_isName 0 = .ok (.aload_n 0, 1) := by decide +kernel
theorem dX8_isName_1 : decode cX8_isName 1 = .ok (.getfield 19, 3) := by decide +kernel
theorem dX8_isName_4 : decode cX8_isName 4 = .ok (.aload_n 0, 1) := by decide +kernel
theorem dX8_isName_5 : decode cX8_isName 5 = .ok (.getfield 78, 3) := by decide +kernel
theorem dX8_isName_8 : decode cX8_isName 8 = .ok (.isub, 1) := by decide +kernel
theorem dX8_isName_9 : decode cX8_isName 9 = .ok (.istore_n 2, 1) := by decide +kernel
theorem dX8_isName_10 : decode cX8_isName 10 = .ok (.iload_n 2, 1) := by decide +kernel
theorem dX8_isName_11 : decode cX8_isName 11 = .ok (.bipush 6, 2) := by decide +kernel
theorem dX8_isName_13 : decode cX8_isName 13 = .ok (.if_icmp .le 5, 3) := by decide +kernel
theorem dX8_isName_16 : decode cX8_isName 16 = .ok (.iconst 0, 1) := by decide +kernel
theorem dX8_isName_17 : decode cX8_isName 17 = .ok (.ireturn, 1) := by decide +kernel
theorem dX8_isName_18 : decode cX8_isName 18 = .ok (.iconst 0, 1) := by decide +kernel
theorem dX8_isName_19 : decode cX8_isName 19 = .ok (.istore_n 3, 1) := by decide +kernel
theorem dX8_isName_20 : decode cX8_isName 20 = .ok (.iload_n 3, 1) := by decide +kernel
theorem dX8_isName_21 : decode cX8_isName 21 = .ok (.bipush 6, 2) := by decide +kernel
theorem dX8_isName_23 : decode cX8_isName 23 = .ok (.if_icmp .ge 50, 3) := by decide +kernel
theorem dX8_isName_26 : decode cX8_isName 26 = .ok (.iload_n 3, 1) := by decide +kernel
theorem dX8_isName_27 : decode cX8_isName 27 = .ok (.iload_n 2, 1) := by decide +kernel
theorem dX8_isName_28 : decode cX8_isName 28 = .ok (.if_icmp .ge 17, 3) := by decide +kernel
theorem dX8_isName_31 : decode cX8_isName 31 = .ok (.aload_n 0, 1) := by decide +kernel
theorem dX8_isName_32 : decode cX8_isName 32 = .ok (.getfield 9, 3) := by decide +kernel
theorem dX8_isName_35 : decode cX8_isName 35 = .ok (.aload_n 0, 1) := by decide +kernel
theorem dX8_isName_36 : decode cX8_isName 36 = .ok (.getfield 78, 3) := by decide +kernel
theorem dX8_isName_39 : decode cX8_isName 39 = .ok (.iload_n 3, 1) := by decide +kernel
theorem dX8_isName_40 : decode cX8_isName 40 = .ok (.iadd, 1) := by decide +kernel
theorem dX8_isName_41 : decode cX8_isName 41 = .ok (.iaload, 1) := by decide +kernel
theorem dX8_isName_42 : decode cX8_isName 42 = .ok (.goto 5, 3) := by decide +kernel
theorem dX8_isName_45 : decode cX8_isName 45 = .ok (.bipush 32, 2) := by decide +kernel
theorem dX8_isName_47 : decode cX8_isName 47 = .ok (.istore 4, 2) := by decide +kernel
theorem dX8_isName_49 : decode cX8_isName 49 = .ok (.iload 4, 2) := by decide +kernel
theorem dX8_isName_51 : decode cX8_isName 51 = .ok (.ldc 99, 2) := by decide +kernel
theorem dX8_isName_53 : decode cX8_isName 53 = .ok (.iload_n 1, 1) := by decide +kernel
theorem dX8_isName_54 : decode cX8_isName 54 = .ok (.bipush 6, 2) := by decide +kernel
theorem dX8_isName_56 : decode cX8_isName 56 = .ok (.imul, 1) := by decide +kernel
theorem dX8_isName_57 : decode cX8_isName 57 = .ok (.iload_n 3, 1) := by decide +kernel
theorem dX8_isName_58 : decode cX8_isName 58 = .ok (.iadd, 1) := by decide +kernel
theorem dX8_isName_59 : decode cX8_isName 59 = .ok (.invokevirtual 101, 3) := by decide +kernel
theorem dX8_isName_62 : decode cX8_isName 62 = .ok (.if_icmp .eq 5, 3) := by decide +kernel
theorem dX8_isName_65 : decode cX8_isName 65 = .ok (.iconst 0, 1) := by decide +kernel
theorem dX8_isName_66 : decode cX8_isName 66 = .ok (.ireturn, 1) := by decide +kernel
theorem dX8_isName_67 : decode cX8_isName 67 = .ok (.iinc 3 1, 3) := by decide +kernel
theorem dX8_isName_70 : decode cX8_isName 70 = .ok (.goto (-50), 3) := by decide +kernel
theorem dX8_isName_73 : decode cX8_isName 73 = .ok (.iconst 1, 1) := by decide +kernel
theorem dX8_isName_74 : decode cX8_isName 74 = .ok (.ireturn, 1) := by decide +kernel
theorem dX8_readNumber_0 : decode cX8_readNumber 0 = .ok (.aload_n 0, 1) := by decide +kernel
theorem dX8_readNumber_1 : decode cX8_readNumber 1 = .ok (.iconst 0, 1) := by decide +kernel
theorem dX8_readNumber_2 : decode cX8_readNumber 2 = .ok (.putfield 71, 3) := by decide +kernel
theorem dX8_readNumber_5 : decode cX8_readNumber 5 = .ok (.aload_n 0, 1) := by decide +kernel
theorem dX8_readNumber_6 : decode cX8_readNumber 6 = .ok (.getfield 19, 3) := by decide +kernel
theorem dX8_readNumber_9 : decode cX8_readNumber 9 = .ok (.aload_n 0, 1) := by decide +kernel
theorem dX8_readNumber_10 : decode cX8_readNumber 10 = .ok (.getfield 15, 3) := by decide +kernel
theorem dX8_readNumber_13 : decode cX8_readNumber 13 = .ok (.if_icmp .ge 55, 3) := by decide +kernel
theorem dX8_readNumber_16 : decode cX8_readNumber 16 = .ok (.aload_n 0, 1) := by decide +kernel
theorem dX8_readNumber_17 : decode cX8_readNumber 17 = .ok (.getfield 9, 3) := by decide +kernel
theorem dX8_readNumber_20 : decode cX8_readNumber 20 = .ok (.aload_n 0, 1) := by decide +kernel
theorem dX8_readNumber_21 : decode cX8_readNumber 21 = .ok (.getfield 19, 3) := by decide +kernel
theorem dX8_readNumber_24 : decode cX8_readNumber 24 = .ok (.iaload, 1) := by decide +kernel
theorem dX8_readNumber_25 : decode cX8_readNumber 25 = .ok (.invokestatic 87, 3) := by decide +kernel
theorem dX8_readNumber_28 : decode cX8_readNumber 28 = .ok (.ifCond .eq 40, 3) := by decide +kernel
theorem dX8_readNumber_31 : decode cX8_readNumber 31 = .ok (.aload_n 0, 1) := by decide +kernel
theorem dX8_readNumber_32 : decode cX8_readNumber 32 = .ok (.aload_n 0, 1) := by decide +kernel
theorem dX8_readNumber_33 : decode cX8_readNumber 33 = .ok (.getfield 71, 3) := by decide +kernel
theorem dX8_readNumber_36 : decode cX8_readNumber 36 = .ok (.bipush 10, 2) := by decide +kernel
theorem dX8_readNumber_38 : decode cX8_readNumber 38 = .ok (.imul, 1) := by decide +kernel
theorem dX8_readNumber_39 : decode cX8_readNumber 39 = .ok (.aload_n 0, 1) := by decide +kernel
theorem dX8_readNumber_40 : decode cX8_readNumber 40 = .ok (.getfield 9, 3) := by decide +kernel
theorem dX8_readNumber_43 : decode cX8_readNumber 43 = .ok (.aload_n 0, 1) := by decide +kernel
theorem dX8_readNumber_44 : decode cX8_readNumber 44 = .ok (.getfield 19, 3) := by decide +kernel
theorem dX8_readNumber_47 : decode cX8_readNumber 47 = .ok (.iaload, 1) := by decide +kernel
theorem dX8_readNumber_48 : decode cX8_readNumber 48 = .ok (.iadd, 1) := by decide +kernel
theorem dX8_readNumber_49 : decode cX8_readNumber 49 = .ok (.bipush 48, 2) := by decide +kernel
theorem dX8_readNumber_51 : decode cX8_readNumber 51 = .ok (.isub, 1) := by decide +kernel
theorem dX8_readNumber_52 : decode cX8_readNumber 52 = .ok (.putfield 71, 3) := by decide +kernel
theorem dX8_readNumber_55 : decode cX8_readNumber 55 = .ok (.aload_n 0, 1) := by decide +kernel
theorem dX8_readNumber_56 : decode cX8_readNumber 56 = .ok (.dup, 1) := by decide +kernel
theorem dX8_readNumber_57 : decode cX8_readNumber 57 = .ok (.getfield 19, 3) := by decide +kernel
theorem dX8_readNumber_60 : decode cX8_readNumber 60 = .ok (.iconst 1, 1) := by decide +kernel
theorem dX8_readNumber_61 : decode cX8_readNumber 61 = .ok (.iadd, 1) := by decide +kernel
theorem dX8_readNumber_62 : decode cX8_readNumber 62 = .ok (.putfield 19, 3) := by decide +kernel
theorem dX8_readNumber_65 : decode cX8_readNumber 65 = .ok (.goto (-60), 3) := by decide +kernel
theorem dX8_readNumber_68 : decode cX8_readNumber 68 = .ok (.aload_n 0, 1) := by decide +kernel
theorem dX8_readNumber_69 : decode cX8_readNumber 69 = .ok (.getfield 19, 3) := by decide +kernel
theorem dX8_readNumber_72 : decode cX8_readNumber 72 = .ok (.aload_n 0, 1) := by decide +kernel
theorem dX8_readNumber_73 : decode cX8_readNumber 73 = .ok (.getfield 78, 3) := by decide +kernel
theorem dX8_readNumber_76 : decode cX8_readNumber 76 = .ok (.isub, 1) := by decide +kernel
theorem dX8_readNumber_77 : decode cX8_readNumber 77 = .ok (.iconst 3, 1) := by decide +kernel
theorem dX8_readNumber_78 : decode cX8_readNumber 78 = .ok (.if_icmp .le 11, 3) := by decide +kernel
theorem dX8_readNumber_81 : decode cX8_readNumber 81 = .ok (.aload_n 0, 1) := by decide +kernel
theorem dX8_readNumber_82 : decode cX8_readNumber 82 = .ok (.iconst 1, 1) := by decide +kernel
theorem dX8_readNumber_83 : decode cX8_readNumber 83 = .ok (.invokevirtual 54, 3) := by decide +kernel
theorem dX8_readNumber_86 : decode cX8_readNumber 86 = .ok (.goto 9, 3) := by decide +kernel
theorem dX8_readNumber_89 : decode cX8_readNumber 89 = .ok (.aload_n 0, 1) := by decide +kernel
theorem dX8_readNumber_90 : decode cX8_readNumber 90 = .ok (.bipush 16, 2) := by decide +kernel
theorem dX8_readNumber_92 : decode cX8_readNumber 92 = .ok (.putfield 44, 3) := by decide +kernel
theorem dX8_readNumber_95 : decode cX8_readNumber 95 = .ok (.return_, 1) := by decide +kernel
theorem dX8_readSign_0 : decode cX8_readSign 0 = .ok (.ldc 107, 2) := by decide +kernel
theorem dX8_readSign_2 : decode cX8_readSign 2 = .ok (.aload_n 0, 1) := by decide +kernel
theorem dX8_readSign_3 : decode cX8_readSign 3 = .ok (.getfield 9, 3) := by decide +kernel
theorem dX8_readSign_6 : decode cX8_readSign 6 = .ok (.aload_n 0, 1) := by decide +kernel
theorem dX8_readSign_7 : decode cX8_readSign 7 = .ok (.getfield 19, 3) := by decide +kernel
theorem dX8_readSign_10 : decode cX8_readSign 10 = .ok (.iaload, 1) := by decide +kernel
theorem dX8_readSign_11 : decode cX8_readSign 11 = .ok (.i2c, 1) := by decide +kernel
theorem dX8_readSign_12 : decode cX8_readSign 12 = .ok (.invokevirtual 109, 3) := by decide +kernel
theorem dX8_readSign_15 : decode cX8_readSign 15 = .ok (.istore_n 1, 1) := by decide +kernel
theorem dX8_readSign_16 : decode cX8_readSign 16 = .ok (.iload_n 1, 1) := by decide +kernel
theorem dX8_readSign_17 : decode cX8_readSign 17 = .ok (.ifCond .ge 11, 3) := by decide +kernel
theorem dX8_readSign_20 : decode cX8_readSign 20 = .ok (.aload_n 0, 1) := by decide +kernel
theorem dX8_readSign_21 : decode cX8_readSign 21 = .ok (.iconst 1, 1) := by decide +kernel
theorem dX8_readSign_22 : decode cX8_readSign 22 = .ok (.invokevirtual 54, 3) := by decide +kernel
theorem dX8_readSign_25 : decode cX8_readSign 25 = .ok (.goto 21, 3) := by decide +kernel
theorem dX8_readSign_28 : decode cX8_readSign 28 = .ok (.aload_n 0, 1) := by decide +kernel
theorem dX8_readSign_29 : decode cX8_readSign 29 = .ok (.bipush 10, 2) := by decide +kernel
theorem dX8_readSign_31 : decode cX8_readSign 31 = .ok (.iload_n 1, 1) := by decide +kernel
theorem dX8_readSign_32 : decode cX8_readSign 32 = .ok (.iadd, 1) := by decide +kernel
theorem dX8_readSign_33 : decode cX8_readSign 33 = .ok (.putfield 44, 3) := by decide +kernel
theorem dX8_readSign_36 : decode cX8_readSign 36 = .ok (.aload_n 0, 1) := by decide +kernel
theorem dX8_readSign_37 : decode cX8_readSign 37 = .ok (.dup, 1) := by decide +kernel
theorem dX8_readSign_38 : decode cX8_readSign 38 = .ok (.getfield 19, 3) := by decide +kernel
theorem dX8_readSign_41 : decode cX8_readSign 41 = .ok (.iconst 1, 1) := by decide +kernel
theorem dX8_readSign_42 : decode cX8_readSign 42 = .ok (.iadd, 1) := by decide +kernel
theorem dX8_readSign_43 : decode cX8_readSign 43 = .ok (.putfield 19, 3) := by decide +kernel
theorem dX8_readSign_46 : decode cX8_readSign 46 = .ok (.return_, 1) := by decide +kernel
theorem dX9_init_0 : decode cX9_init 0 = .ok (.aload_n 0, 1) := by decide +kernel
theorem dX9_init_1 : decode cX9_init 1 = .ok (.invokespecial 1, 3) := by decide +kernel
theorem dX9_init_4 : decode cX9_init 4 = .ok (.return_, 1) := by decide +kernel
theorem dX9_isKnown_0 : decode cX9_isKnown 0 = .ok (.aload_n 0, 1) := by decide +kernel
theorem dX9_isKnown_1 : decode cX9_isKnown 1 = .ok (.getfield 7, 3) := by decide +kernel
theorem dX9_isKnown_4 : decode cX9_isKnown 4 = .ok (.ifCond .le 7, 3) := by decide +kernel
theorem dX9_isKnown_7 : decode cX9_isKnown 7 = .ok (.iconst 1, 1) := by decide +kernel
theorem dX9_isKnown_8 : decode cX9_isKnown 8 = .ok (.goto 4, 3) := by decide +kernel
theorem dX9_isKnown_11 : decode cX9_isKnown 11 = .ok (.iconst 0, 1) := by decide +kernel
theorem dX9_isKnown_12 : decode cX9_isKnown 12 = .ok (.ireturn, 1) := by decide +kernel
theorem dX9_add_0 : decode cX9_add 0 = .ok (.iload_n 2, 1) := by decide +kernel
theorem dX9_add_1 : decode cX9_add 1 = .ok (.ifCond .gt 4, 3) := by decide +kernel
theorem dX9_add_4 : decode cX9_add 4 = .ok (.return_, 1) := by decide +kernel
theorem dX9_add_5 : decode cX9_add 5 = .ok (.iload_n 1, 1) := by decide +kernel
theorem dX9_add_6 : decode cX9_add 6 = .ok (.iload_n 2, 1) := by decide +kernel
theorem dX9_add_7 : decode cX9_add 7 = .ok (.if_icmp .ne 13, 3) := by decide +kernel
theorem dX9_add_10 : decode cX9_add 10 = .ok (.aload_n 0, 1) := by decide +kernel
theorem dX9_add_11 : decode cX9_add 11 = .ok (.dup, 1) := by decide +kernel
theorem dX9_add_12 : decode cX9_add 12 = .ok (.getfield 13, 3) := by decide +kernel
theorem dX9_add_15 : decode cX9_add 15 = .ok (.iconst 1, 1) := by decide +kernel
theorem dX9_add_16 : decode cX9_add 16 = .ok (.iadd, 1) := by decide +kernel
theorem dX9_add_17 : decode cX9_add 17 = .ok (.putfield 13, 3) := by decide +kernel
theorem dX9_add_20 : decode cX9_add 20 = .ok (.aload_n 0, 1) := by decide +kernel
theorem dX9_add_21 : decode cX9_add 21 = .ok (.getfield 7, 3) := by decide +kernel
theorem dX9_add_24 : decode cX9_add 24 = .ok (.ifCond .eq 18, 3) := by decide +kernel
theorem dX9_add_27 : decode cX9_add 27 = .ok (.iload_n 1, 1) := by decide +kernel
theorem dX9_add_28 : decode cX9_add 28 = .ok (.aload_n 0, 1) := by decide +kernel
theorem dX9_add_29 : decode cX9_add 29 = .ok (.getfield 7, 3) := by decide +kernel
theorem dX9_add_32 : decode cX9_add 32 = .ok (.imul, 1) := by decide +kernel
theorem dX9_add_33 : decode cX9_add 33 = .ok (.aload_n 0, 1) := by decide +kernel
theorem dX9_add_34 : decode cX9_add 34 = .ok (.getfield 16, 3) := by decide +kernel
theorem dX9_add_37 : decode cX9_add 37 = .ok (.iload_n 2, 1) := by decide +kernel
theorem dX9_add_38 : decode cX9_add 38 = .ok (.imul, 1) := by decide +kernel
theorem dX9_add_39 : decode cX9_add 39 = .ok (.if_icmp .ge 18, 3) := by decide +kernel
theorem dX9_add_42 : decode cX9_add 42 = .ok (.aload_n 0, 1) := by decide +kernel
theorem dX9_add_43 : decode cX9_add 43 = .ok (.iload_n 1, 1) := by decide +kernel
theorem dX9_add_44 : decode cX9_add 44 = .ok (.putfield 16, 3) := by decide +kernel
theorem dX9_add_47 : decode cX9_add 47 = .ok (.aload_n 0, 1) := by decide +kernel
theorem dX9_add_48 : decode cX9_add 48 = .ok (.iload_n 2, 1) := by decide +kernel
theorem dX9_add_49 : decode cX9_add 49 = .ok (.putfield 7, 3) := by decide +kernel
theorem dX9_add_52 : decode cX9_add 52 = .ok (.aload_n 0, 1) := by decide +kernel
theorem dX9_add_53 : decode cX9_add 53 = .ok (.iload_n 3, 1) := by decide +kernel
theorem dX9_add_54 : decode cX9_add 54 = .ok (.putfield 19, 3) := by decide +kernel
theorem dX9_add_57 : decode cX9_add 57 = .ok (.return_, 1) := by decide +kernel
theorem dJ11_isValidCodePoint_9a6ad_0 : decode cJ11_isValidCodePoint_9a6ad 0 = .ok (.iload_n 0, 1) := by decide +kernel
theorem dJ11_isValidCodePoint_9a6ad_1 : decode cJ11_isValidCodePoint_9a6ad 1 = .ok (.bipush 16, 2) := by decide +kernel
theorem dJ11_isValidCodePoint_9a6ad_3 : decode cJ11_isValidCodePoint_9a6ad 3 = .ok (.iushr, 1) := by decide +kernel
theorem dJ11_isValidCodePoint_9a6ad_4 : decode cJ11_isValidCodePoint_9a6ad 4 = .ok (.istore_n 1, 1) := by decide +kernel
theorem dJ11_isValidCodePoint_9a6ad_5 : decode cJ11_isValidCodePoint_9a6ad 5 = .ok (.iload_n 1, 1) := by decide +kernel
theorem dJ11_isValidCodePoint_9a6ad_6 : decode cJ11_isValidCodePoint_9a6ad 6 = .ok (.bipush 17, 2) := by decide +kernel
theorem dJ11_isValidCodePoint_9a6ad_8 : decode cJ11_isValidCodePoint_9a6ad 8 = .ok (.if_icmp .ge 7, 3) := by decide +kernel
theorem dJ11_isValidCodePoint_9a6ad_11 : decode cJ11_isValidCodePoint_9a6ad 11 = .ok (.iconst 1, 1) := by decide +kernel
theorem dJ11_isValidCodePoint_9a6ad_12 : decode cJ11_isValidCodePoint_9a6ad 12 = .ok (.goto 4, 3) := by decide +kernel
theorem dJ11_isValidCodePoint_9a6ad_15 : decode cJ11_isValidCodePoint_9a6ad 15 = .ok (.iconst 0, 1) := by decide +kernel
theorem dJ11_isValidCodePoint_9a6ad_16 : decode cJ11_isValidCodePoint_9a6ad 16 = .ok (.ireturn, 1) := by decide +kernel
theorem dJ11_highSurrogate_5068e_0 : decode cJ11_highSurrogate_5068e 0 = .ok (.iload_n 0, 1) := by decide +kernel
theorem dJ11_highSurrogate_5068e_1 : decode cJ11_highSurrogate_5068e 1 = .ok (.bipush 10, 2) := by decide +kernel
theorem dJ11_highSurrogate_5068e_3 : decode cJ11_highSurrogate_5068e 3 = .ok (.iushr, 1) := by decide +kernel
theorem dJ11_highSurrogate_5068e_4 : decode cJ11_highSurrogate_5068e 4 = .ok (.ldc 110, 2) := by decide +kernel
theorem dJ11_highSurrogate_5068e_6 : decode cJ11_highSurrogate_5068e 6 = .ok (.iadd, 1) := by decide +kernel
theorem dJ11_highSurrogate_5068e_7 : decode cJ11_highSurrogate_5068e 7 = .ok (.i2c, 1) := by decide +kernel
theorem dJ11_highSurrogate_5068e_8 : decode cJ11_highSurrogate_5068e 8 = .ok (.ireturn, 1) := by decide +kernel
theorem dJ11_lowSurrogate_5068e_0 : decode cJ11_lowSurrogate_5068e 0 = .ok (.iload_n 0, 1) := by decide +kernel
theorem dJ11_lowSurrogate_5068e_1 : decode cJ11_lowSurrogate_5068e 1 = .ok (.sipush 1023, 3) := by decide +kernel
theorem dJ11_lowSurrogate_5068e_4 : decode cJ11_lowSurrogate_5068e 4 = .ok (.iand, 1) := by decide +kernel
theorem dJ11_lowSurrogate_5068e_5 : decode cJ11_lowSurrogate_5068e 5 = .ok (.ldc 76, 2) := by decide +kernel
theorem dJ11_lowSurrogate_5068e_7 : decode cJ11_lowSurrogate_5068e 7 = .ok (.iadd, 1) := by decide +kernel
theorem dJ11_lowSurrogate_5068e_8 : decode cJ11_lowSurrogate_5068e 8 = .ok (.i2c, 1) := by decide +kernel
theorem dJ11_lowSurrogate_5068e_9 : decode cJ11_lowSurrogate_5068e 9 = .ok (.ireturn, 1) := by decide +kernel
theorem dJ9_max_7cf53_0 : decode cJ9_max_7cf53 0 = .ok (.iload_n 0, 1) := by decide +kernel
theorem dJ9_max_7cf53_1 : decode cJ9_max_7cf53 1 = .ok (.iload_n 1, 1) := by decide +kernel
theorem dJ9_max_7cf53_2 : decode cJ9_max_7cf53 2 = .ok (.if_icmp .lt 7, 3) := by decide +kernel
theorem dJ9_max_7cf53_5 : decode cJ9_max_7cf53 5 = .ok (.iload_n 0, 1) := by decide +kernel
theorem dJ9_max_7cf53_6 : decode cJ9_max_7cf53 6 = .ok (.goto 4, 3) := by decide +kernel
theorem dJ9_max_7cf53_9 : decode cJ9_max_7cf53 9 = .ok (.iload_n 1, 1) := by decide +kernel
theorem dJ9_max_7cf53_10 : decode cJ9_max_7cf53 10 = .ok (.ireturn, 1) := by decide +kernel
theorem dJ9_max_f86c9_0 : decode cJ9_max_f86c9 0 = .ok (.lload_n 0, 1) := by decide +kernel
theorem dJ9_max_f86c9_1 : decode cJ9_max_f86c9 1 = .ok (.lload_n 2, 1) := by decide +kernel
theorem dJ9_max_f86c9_2 : decode cJ9_max_f86c9 2 = .ok (.lcmp, 1) := by decide +kernel
theorem dJ9_max_f86c9_3 : decode cJ9_max_f86c9 3 = .ok (.ifCond .lt 7, 3) := by decide +kernel
theorem dJ9_max_f86c9_6 : decode cJ9_max_f86c9 6 = .ok (.lload_n 0, 1) := by decide +kernel
theorem dJ9_max_f86c9_7 : decode cJ9_max_f86c9 7 = .ok (.goto 4, 3) := by decide +kernel
theorem dJ9_max_f86c9_10 : decode cJ9_max_f86c9 10 = .ok (.lload_n 2, 1) := by decide +kernel
theorem dJ9_max_f86c9_11 : decode cJ9_max_f86c9 11 = .ok (.lreturn, 1) := by decide +kernel
theorem dJ9_min_7cf53_0 : decode cJ9_min_7cf53 0 = .ok (.iload_n 0, 1) := by decide +kernel
theorem dJ9_min_7cf53_1 : decode cJ9_min_7cf53 1 = .ok (.iload_n 1, 1) := by decide +kernel
theorem dJ9_min_7cf53_2 : decode cJ9_min_7cf53 2 = .ok (.if_icmp .gt 7, 3) := by decide +kernel
theorem dJ9_min_7cf53_5 : decode cJ9_min_7cf53 5 = .ok (.iload_n 0, 1) := by decide +kernel
theorem dJ9_min_7cf53_6 : decode cJ9_min_7cf53 6 = .ok (.goto 4, 3) := by decide +kernel
theorem dJ9_min_7cf53_9 : decode cJ9_min_7cf53 9 = .ok (.iload_n 1, 1) := by decide +kernel
theorem dJ9_min_7cf53_10 : decode cJ9_min_7cf53 10 = .ok (.ireturn, 1) := by decide +kernel
theorem dJ0_length_8abf5_0 : decode cJ0_length_8abf5 0 = .ok (.aload_n 0, 1) := by decide +kernel
theorem dJ0_length_8abf5_1 : decode cJ0_length_8abf5 1 = .ok (.getfield 9, 3) := by decide +kernel
theorem dJ0_length_8abf5_4 : decode cJ0_length_8abf5 4 = .ok (.arraylength, 1) := by decide +kernel
theorem dJ0_length_8abf5_5 : decode cJ0_length_8abf5 5 = .ok (.aload_n 0, 1) := by decide +kernel
theorem dJ0_length_8abf5_6 : decode cJ0_length_8abf5 6 = .ok (.invokevirtual 335, 3) := by decide +kernel
theorem dJ0_length_8abf5_9 : decode cJ0_length_8abf5 9 = .ok (.ishr, 1) := by decide +kernel
theorem dJ0_length_8abf5_10 : decode cJ0_length_8abf5 10 = .ok (.ireturn, 1) := by decide +kernel
theorem dJ0_charAt_5068e_0 : decode cJ0_charAt_5068e 0 = .ok (.aload_n 0, 1) := by decide +kernel
theorem dJ0_charAt_5068e_1 : decode cJ0_charAt_5068e 1 = .ok (.invokevirtual 492, 3) := by decide +kernel
theorem dJ0_charAt_5068e_4 : decode cJ0_charAt_5068e 4 = .ok (.ifCond .eq 12, 3) := by decide +kernel
theorem dJ0_charAt_5068e_7 : decode cJ0_charAt_5068e 7 = .ok (.aload_n 0, 1) := by decide +kernel
theorem dJ0_charAt_5068e_8 : decode cJ0_charAt_5068e 8 = .ok (.getfield 9, 3) := by decide +kernel
theorem dJ0_charAt_5068e_11 : decode cJ0_charAt_5068e 11 = .ok (.iload_n 1, 1) := by decide +kernel
theorem dJ0_charAt_5068e_12 : decode cJ0_charAt_5068e 12 = .ok (.invokestatic 495, 3) := by decide +kernel
theorem dJ0_charAt_5068e_15 : decode cJ0_charAt_5068e 15 = .ok (.ireturn, 1) := by decide +kernel
theorem dJ0_charAt_5068e_16 : decode cJ0_charAt_5068e 16 = .ok (.aload_n 0, 1) := by decide +kernel
theorem dJ0_charAt_5068e_17 : decode cJ0_charAt_5068e 17 = .ok (.getfield 9, 3) := by decide +kernel
theorem dJ0_charAt_5068e_20 : decode cJ0_charAt_5068e 20 = .ok (.iload_n 1, 1) := by decide +kernel
theorem dJ0_charAt_5068e_21 : decode cJ0_charAt_5068e 21 = .ok (.invokestatic 498, 3) := by decide +kernel
theorem dJ0_charAt_5068e_24 : decode cJ0_charAt_5068e 24 = .ok (.ireturn, 1) := by decide +kernel
theorem dJ0_indexOf_0f7a4_0 : decode cJ0_indexOf_0f7a4 0 = .ok (.aload_n 0, 1) := by decide +kernel
theorem dJ0_indexOf_0f7a4_1 : decode cJ0_indexOf_0f7a4 1 = .ok (.iload_n 1, 1) := by decide +kernel
theorem dJ0_indexOf_0f7a4_2 : decode cJ0_indexOf_0f7a4 2 = .ok (.iconst 0, 1) := by decide +kernel
theorem dJ0_indexOf_0f7a4_3 : decode cJ0_indexOf_0f7a4 3 = .ok (.invokevirtual 633, 3) := by decide +kernel
theorem dJ0_indexOf_0f7a4_6 : decode cJ0_indexOf_0f7a4 6 = .ok (.ireturn, 1) := by decide +kernel
theorem dJ0_indexOf_7cf53_0 : decode cJ0_indexOf_7cf53 0 = .ok (.aload_n 0, 1) := by decide +kernel
theorem dJ0_indexOf_7cf53_1 : decode cJ0_indexOf_7cf53 1 = .ok (.invokevirtual 492, 3) := by decide +kernel
theorem dJ0_indexOf_7cf53_4 : decode cJ0_indexOf_7cf53 4 = .ok (.ifCond .eq 19, 3) := by decide +kernel
theorem dJ0_indexOf_7cf53_7 : decode cJ0_indexOf_7cf53 7 = .ok (.aload_n 0, 1) := by decide +kernel
theorem dJ0_indexOf_7cf53_8 : decode cJ0_indexOf_7cf53 8 = .ok (.getfield 9, 3) := by decide +kernel
theorem dJ0_indexOf_7cf53_11 : decode cJ0_indexOf_7cf53 11 = .ok (.iload_n 1, 1) := by decide +kernel
theorem dJ0_indexOf_7cf53_12 : decode cJ0_indexOf_7cf53 12 = .ok (.iload_n 2, 1) := by decide +kernel
theorem dJ0_indexOf_7cf53_13 : decode cJ0_indexOf_7cf53 13 = .ok (.aload_n 0, 1) := by decide +kernel
theorem dJ0_indexOf_7cf53_14 : decode cJ0_indexOf_7cf53 14 = .ok (.invokevirtual 505, 3) := by decide +kernel
theorem dJ0_indexOf_7cf53_17 : decode cJ0_indexOf_7cf53 17 = .ok (.invokestatic 637, 3) := by decide +kernel
theorem dJ0_indexOf_7cf53_20 : decode cJ0_indexOf_7cf53 20 = .ok (.goto 16, 3) := by decide +kernel
theorem dJ0_indexOf_7cf53_23 : decode cJ0_indexOf_7cf53 23 = .ok (.aload_n 0, 1) := by decide +kernel
theorem dJ0_indexOf_7cf53_24 : decode cJ0_indexOf_7cf53 24 = .ok (.getfield 9, 3) := by decide +kernel
theorem dJ0_indexOf_7cf53_27 : decode cJ0_indexOf_7cf53 27 = .ok (.iload_n 1, 1) := by decide +kernel
theorem dJ0_indexOf_7cf53_28 : decode cJ0_indexOf_7cf53 28 = .ok (.iload_n 2, 1) := by decide +kernel
theorem dJ0_indexOf_7cf53_29 : decode cJ0_indexOf_7cf53 29 = .ok (.aload_n 0, 1) := by decide +kernel
theorem dJ0_indexOf_7cf53_30 : decode cJ0_indexOf_7cf53 30 = .ok (.invokevirtual 505, 3) := by decide +kernel
theorem dJ0_indexOf_7cf53_33 : decode cJ0_indexOf_7cf53 33 = .ok (.invokestatic 640, 3) := by decide +kernel
theorem dJ0_indexOf_7cf53_36 : decode cJ0_indexOf_7cf53 36 = .ok (.ireturn, 1) := by decide +kernel
theorem dJ0_coder_7d493_0 : decode cJ0_coder_7d493 0 = .ok (.getstatic 38, 3) := by decide +kernel
theorem dJ0_coder_7d493_3 : decode cJ0_coder_7d493 3 = .ok (.ifCond .eq 10, 3) := by decide +kernel
theorem dJ0_coder_7d493_6 : decode cJ0_coder_7d493 6 = .ok (.aload_n 0, 1) := by decide +kernel
theorem dJ0_coder_7d493_7 : decode cJ0_coder_7d493 7 = .ok (.getfield 15, 3) := by decide +kernel
theorem dJ0_coder_7d493_10 : decode cJ0_coder_7d493 10 = .ok (.goto 4, 3) := by decide +kernel
theorem dJ0_coder_7d493_13 : decode cJ0_coder_7d493 13 = .ok (.iconst 1, 1) := by decide +kernel
theorem dJ0_coder_7d493_14 : decode cJ0_coder_7d493 14 = .ok (.ireturn, 1) := by decide +kernel
theorem dJ0_isLatin1_aae02_0 : decode cJ0_isLatin1_aae02 0 = .ok (.getstatic 38, 3) := by decide +kernel
theorem dJ0_isLatin1_aae02_3 : decode cJ0_isLatin1_aae02 3 = .ok (.ifCond .eq 14, 3) := by decide +kernel
theorem dJ0_isLatin1_aae02_6 : decode cJ0_isLatin1_aae02 6 = .ok (.aload_n 0, 1) := by decide +kernel
theorem dJ0_isLatin1_aae02_7 : decode cJ0_isLatin1_aae02 7 = .ok (.getfield 15, 3) := by decide +kernel
theorem dJ0_isLatin1_aae02_10 : decode cJ0_isLatin1_aae02 10 = .ok (.ifCond .ne 7, 3) := by decide +kernel
theorem dJ0_isLatin1_aae02_13 : decode cJ0_isLatin1_aae02 13 = .ok (.iconst 1, 1) := by decide +kernel
theorem dJ0_isLatin1_aae02_14 : decode cJ0_isLatin1_aae02 14 = .ok (.goto 4, 3) := by decide +kernel
theorem dJ0_isLatin1_aae02_17 : decode cJ0_isLatin1_aae02 17 = .ok (.iconst 0, 1) := by decide +kernel
theorem dJ0_isLatin1_aae02_18 : decode cJ0_isLatin1_aae02 18 = .ok (.ireturn, 1) := by decide +kernel
theorem dJ0_checkIndex_df160_0 : decode cJ0_checkIndex_df160 0 = .ok (.iload_n 0, 1) := by decide +kernel
theorem dJ0_checkIndex_df160_1 : decode cJ0_checkIndex_df160 1 = .ok (.iload_n 1, 1) := by decide +kernel
theorem dJ0_checkIndex_df160_2 : decode cJ0_checkIndex_df160 2 = .ok (.getstatic 1053, 3) := by decide +kernel
theorem dJ0_checkIndex_df160_5 : decode cJ0_checkIndex_df160 5 = .ok (.invokestatic 1059, 3) := by decide +kernel
theorem dJ0_checkIndex_df160_8 : decode cJ0_checkIndex_df160 8 = .ok (.pop, 1) := by decide +kernel
theorem dJ0_checkIndex_df160_9 : decode cJ0_checkIndex_df160 9 = .ok (.return_, 1) := by decide +kernel
theorem dJ0_checkBoundsBeginEnd_23922_0 : decode cJ0_checkBoundsBeginEnd_23922 0 = .ok (.iload_n 0, 1) := by decide +kernel
theorem dJ0_checkBoundsBeginEnd_23922_1 : decode cJ0_checkBoundsBeginEnd_23922 1 = .ok (.iload_n 1, 1) := by decide +kernel
theorem dJ0_checkBoundsBeginEnd_23922_2 : decode cJ0_checkBoundsBeginEnd_23922 2 = .ok (.iload_n 2, 1) := by decide +kernel
theorem dJ0_checkBoundsBeginEnd_23922_3 : decode cJ0_checkBoundsBeginEnd_23922 3 = .ok (.getstatic 1053, 3) := by decide +kernel
theorem dJ0_checkBoundsBeginEnd_23922_6 : decode cJ0_checkBoundsBeginEnd_23922 6 = .ok (.invokestatic 1062, 3) := by decide +kernel
theorem dJ0_checkBoundsBeginEnd_23922_9 : decode cJ0_checkBoundsBeginEnd_23922 9 = .ok (.pop, 1) := by decide +kernel
theorem dJ0_checkBoundsBeginEnd_23922_10 : decode cJ0_checkBoundsBeginEnd_23922 10 = .ok (.return_, 1) := by decide +kernel
theorem dJ1_charAt_3b067_0 : decode cJ1_charAt_3b067 0 = .ok (.iload_n 1, 1) := by decide +kernel
theorem dJ1_charAt_3b067_1 : decode cJ1_charAt_3b067 1 = .ok (.aload_n 0, 1) := by decide +kernel
theorem dJ1_charAt_3b067_2 : decode cJ1_charAt_3b067 2 = .ok (.arraylength, 1) := by decide +kernel
theorem dJ1_charAt_3b067_3 : decode cJ1_charAt_3b067 3 = .ok (.invokestatic 9, 3) := by decide +kernel
theorem dJ1_charAt_3b067_6 : decode cJ1_charAt_3b067 6 = .ok (.aload_n 0, 1) := by decide +kernel
theorem dJ1_charAt_3b067_7 : decode cJ1_charAt_3b067 7 = .ok (.iload_n 1, 1) := by decide +kernel
theorem dJ1_charAt_3b067_8 : decode cJ1_charAt_3b067 8 = .ok (.baload, 1) := by decide +kernel
theorem dJ1_charAt_3b067_9 : decode cJ1_charAt_3b067 9 = .ok (.sipush 255, 3) := by decide +kernel
theorem dJ1_charAt_3b067_12 : decode cJ1_charAt_3b067 12 = .ok (.iand, 1) := by decide +kernel
theorem dJ1_charAt_3b067_13 : decode cJ1_charAt_3b067 13 = .ok (.i2c, 1) := by decide +kernel
theorem dJ1_charAt_3b067_14 : decode cJ1_charAt_3b067 14 = .ok (.ireturn, 1) := by decide +kernel
theorem dJ1_canEncode_9a6ad_0 : decode cJ1_canEncode_9a6ad 0 = .ok (.iload_n 0, 1) := by decide +kernel
theorem dJ1_canEncode_9a6ad_1 : decode cJ1_canEncode_9a6ad 1 = .ok (.ifCond .lt 14, 3) := by decide +kernel
theorem dJ1_canEncode_9a6ad_4 : decode cJ1_canEncode_9a6ad 4 = .ok (.iload_n 0, 1) := by decide +kernel
theorem dJ1_canEncode_9a6ad_5 : decode cJ1_canEncode_9a6ad 5 = .ok (.sipush 255, 3) := by decide +kernel
theorem dJ1_canEncode_9a6ad_8 : decode cJ1_canEncode_9a6ad 8 = .ok (.if_icmp .gt 7, 3) := by decide +kernel
theorem dJ1_canEncode_9a6ad_11 : decode cJ1_canEncode_9a6ad 11 = .ok (.iconst 1, 1) := by decide +kernel
theorem dJ1_canEncode_9a6ad_12 : decode cJ1_canEncode_9a6ad 12 = .ok (.goto 4, 3) := by decide +kernel
theorem dJ1_canEncode_9a6ad_15 : decode cJ1_canEncode_9a6ad 15 = .ok (.iconst 0, 1) := by decide +kernel
theorem dJ1_canEncode_9a6ad_16 : decode cJ1_canEncode_9a6ad 16 = .ok (.ireturn, 1) := by decide +kernel
theorem dJ1_indexOf_4cfef_0 : decode cJ1_indexOf_4cfef 0 = .ok (.iload_n 1, 1) := by decide +kernel
theorem dJ1_indexOf_4cfef_1 : decode cJ1_indexOf_4cfef 1 = .ok (.invokestatic 88, 3) := by decide +kernel
theorem dJ1_indexOf_4cfef_4 : decode cJ1_indexOf_4cfef 4 = .ok (.ifCond .ne 5, 3) := by decide +kernel
theorem dJ1_indexOf_4cfef_7 : decode cJ1_indexOf_4cfef 7 = .ok (.iconst (-1), 1) := by decide +kernel
theorem dJ1_indexOf_4cfef_8 : decode cJ1_indexOf_4cfef 8 = .ok (.ireturn, 1) := by decide +kernel
theorem dJ1_indexOf_4cfef_9 : decode cJ1_indexOf_4cfef 9 = .ok (.iload_n 2, 1) := by decide +kernel
theorem dJ1_indexOf_4cfef_10 : decode cJ1_indexOf_4cfef 10 = .ok (.iconst 0, 1) := by decide +kernel
theorem dJ1_indexOf_4cfef_11 : decode cJ1_indexOf_4cfef 11 = .ok (.invokestatic 92, 3) := by decide +kernel
theorem dJ1_indexOf_4cfef_14 : decode cJ1_indexOf_4cfef 14 = .ok (.istore_n 2, 1) := by decide +kernel
theorem dJ1_indexOf_4cfef_15 : decode cJ1_indexOf_4cfef 15 = .ok (.iload_n 3, 1) := by decide +kernel
theorem dJ1_indexOf_4cfef_16 : decode cJ1_indexOf_4cfef 16 = .ok (.aload_n 0, 1) := by decide +kernel
theorem dJ1_indexOf_4cfef_17 : decode cJ1_indexOf_4cfef 17 = .ok (.arraylength, 1) := by decide +kernel
theorem dJ1_indexOf_4cfef_18 : decode cJ1_indexOf_4cfef 18 = .ok (.invokestatic 38, 3) := by decide +kernel
theorem dJ1_indexOf_4cfef_21 : decode cJ1_indexOf_4cfef 21 = .ok (.istore_n 3, 1) := by decide +kernel
theorem dJ1_indexOf_4cfef_22 : decode cJ1_indexOf_4cfef 22 = .ok (.iload_n 2, 1) := by decide +kernel
theorem dJ1_indexOf_4cfef_23 : decode cJ1_indexOf_4cfef 23 = .ok (.iload_n 3, 1) := by decide +kernel
theorem dJ1_indexOf_4cfef_24 : decode cJ1_indexOf_4cfef 24 = .ok (.if_icmp .lt 5, 3) := by decide +kernel
theorem dJ1_indexOf_4cfef_27 : decode cJ1_indexOf_4cfef 27 = .ok (.iconst (-1), 1) := by decide +kernel
theorem dJ1_indexOf_4cfef_28 : decode cJ1_indexOf_4cfef 28 = .ok (.ireturn, 1) := by decide +kernel
theorem dJ1_indexOf_4cfef_29 : decode cJ1_indexOf_4cfef 29 = .ok (.aload_n 0, 1) := by decide +kernel
theorem dJ1_indexOf_4cfef_30 : decode cJ1_indexOf_4cfef 30 = .ok (.iload_n 1, 1) := by decide +kernel
theorem dJ1_indexOf_4cfef_31 : decode cJ1_indexOf_4cfef 31 = .ok (.iload_n 2, 1) := by decide +kernel
theorem dJ1_indexOf_4cfef_32 : decode cJ1_indexOf_4cfef 32 = .ok (.iload_n 3, 1) := by decide +kernel
theorem dJ1_indexOf_4cfef_33 : decode cJ1_indexOf_4cfef 33 = .ok (.invokestatic 95, 3) := by decide +kernel
theorem dJ1_indexOf_4cfef_36 : decode cJ1_indexOf_4cfef 36 = .ok (.ireturn, 1) := by decide +kernel
theorem dJ1_indexOfChar_4cfef_0 : decode cJ1_indexOfChar_4cfef 0 = .ok (.iload_n 1, 1) := by decide +kernel
theorem dJ1_indexOfChar_4cfef_1 : decode cJ1_indexOfChar_4cfef 1 = .ok (.i2b, 1) := by decide +kernel
theorem dJ1_indexOfChar_4cfef_2 : decode cJ1_indexOfChar_4cfef 2 = .ok (.istore 4, 2) := by decide +kernel
theorem dJ1_indexOfChar_4cfef_4 : decode cJ1_indexOfChar_4cfef 4 = .ok (.iload_n 2, 1) := by decide +kernel
theorem dJ1_indexOfChar_4cfef_5 : decode cJ1_indexOfChar_4cfef 5 = .ok (.istore 5, 2) := by decide +kernel
theorem dJ1_indexOfChar_4cfef_7 : decode cJ1_indexOfChar_4cfef 7 = .ok (.iload 5, 2) := by decide +kernel
theorem dJ1_indexOfChar_4cfef_9 : decode cJ1_indexOfChar_4cfef 9 = .ok (.iload_n 3, 1) := by decide +kernel
theorem dJ1_indexOfChar_4cfef_10 : decode cJ1_indexOfChar_4cfef 10 = .ok (.if_icmp .ge 21, 3) := by decide +kernel
theorem dJ1_indexOfChar_4cfef_13 : decode cJ1_indexOfChar_4cfef 13 = .ok (.aload_n 0, 1) := by decide +kernel
theorem dJ1_indexOfChar_4cfef_14 : decode cJ1_indexOfChar_4cfef 14 = .ok (.iload 5, 2) := by decide +kernel
theorem dJ1_indexOfChar_4cfef_16 : decode cJ1_indexOfChar_4cfef 16 = .ok (.baload, 1) := by decide +kernel
theorem dJ1_indexOfChar_4cfef_17 : decode cJ1_indexOfChar_4cfef 17 = .ok (.iload 4, 2) := by decide +kernel
theorem dJ1_indexOfChar_4cfef_19 : decode cJ1_indexOfChar_4cfef 19 = .ok (.if_icmp .ne 6, 3) := by decide +kernel
theorem dJ1_indexOfChar_4cfef_22 : decode cJ1_indexOfChar_4cfef 22 = .ok (.iload 5, 2) := by decide +kernel
theorem dJ1_indexOfChar_4cfef_24 : decode cJ1_indexOfChar_4cfef 24 = .ok (.ireturn, 1) := by decide +kernel
theorem dJ1_indexOfChar_4cfef_25 : decode cJ1_indexOfChar_4cfef 25 = .ok (.iinc 5 1, 3) := by decide +kernel
theorem dJ1_indexOfChar_4cfef_28 : decode cJ1_indexOfChar_4cfef 28 = .ok (.goto (-21), 3) := by decide +kernel
theorem dJ1_indexOfChar_4cfef_31 : decode cJ1_indexOfChar_4cfef 31 = .ok (.iconst (-1), 1) := by decide +kernel
theorem dJ1_indexOfChar_4cfef_32 : decode cJ1_indexOfChar_4cfef 32 = .ok (.ireturn, 1) := by decide +kernel
theorem dJ2_getChar_3b067_0 : decode cJ2_getChar_3b067 0 = .ok (.getstatic 44, 3) := by decide +kernel
theorem dJ2_getChar_3b067_3 : decode cJ2_getChar_3b067 3 = .ok (.ifCond .ne 25, 3) := by decide +kernel
theorem dJ2_getChar_3b067_6 : decode cJ2_getChar_3b067 6 = .ok (.iload_n 1, 1) := by decide +kernel
theorem dJ2_getChar_3b067_7 : decode cJ2_getChar_3b067 7 = .ok (.ifCond .lt 11, 3) := by decide +kernel
theorem dJ2_getChar_3b067_10 : decode cJ2_getChar_3b067 10 = .ok (.iload_n 1, 1) := by decide +kernel
theorem dJ2_getChar_3b067_11 : decode cJ2_getChar_3b067 11 = .ok (.aload_n 0, 1) := by decide +kernel
theorem dJ2_getChar_3b067_12 : decode cJ2_getChar_3b067 12 = .ok (.invokestatic 48, 3) := by decide +kernel
theorem dJ2_getChar_3b067_15 : decode cJ2_getChar_3b067 15 = .ok (.if_icmp .lt 13, 3) := by decide +kernel
theorem dJ2_getChar_3b067_18 : decode cJ2_getChar_3b067 18 = .ok (.new 52, 3) := by decide +kernel
theorem dJ2_getChar_3b067_21 : decode cJ2_getChar_3b067 21 = .ok (.dup, 1) := by decide +kernel
theorem dJ2_getChar_3b067_22 : decode cJ2_getChar_3b067 22 = .ok (.ldc 54, 2) := by decide +kernel
theorem dJ2_getChar_3b067_24 : decode cJ2_getChar_3b067 24 = .ok (.invokespecial 56, 3) := by decide +kernel
theorem dJ2_getChar_3b067_27 : decode cJ2_getChar_3b067 27 = .ok (.athrow, 1) := by decide +kernel
theorem dJ2_getChar_3b067_28 : decode cJ2_getChar_3b067 28 = .ok (.iload_n 1, 1) := by decide +kernel
theorem dJ2_getChar_3b067_29 : decode cJ2_getChar_3b067 29 = .ok (.iconst 1, 1) := by decide +kernel
theorem dJ2_getChar_3b067_30 : decode cJ2_getChar_3b067 30 = .ok (.ishl, 1) := by decide +kernel
theorem dJ2_getChar_3b067_31 : decode cJ2_getChar_3b067 31 = .ok (.istore_n 1, 1) := by decide +kernel
theorem dJ2_getChar_3b067_32 : decode cJ2_getChar_3b067 32 = .ok (.aload_n 0, 1) := by decide +kernel
theorem dJ2_getChar_3b067_33 : decode cJ2_getChar_3b067 33 = .ok (.iload_n 1, 1) := by decide +kernel
theorem dJ2_getChar_3b067_34 : decode cJ2_getChar_3b067 34 = .ok (.iinc 1 1, 3) := by decide +kernel
theorem dJ2_getChar_3b067_37 : decode cJ2_getChar_3b067 37 = .ok (.baload, 1) := by decide +kernel
theorem dJ2_getChar_3b067_38 : decode cJ2_getChar_3b067 38 = .ok (.sipush 255, 3) := by decide +kernel
theorem dJ2_getChar_3b067_41 : decode cJ2_getChar_3b067 41 = .ok (.iand, 1) := by decide +kernel
theorem dJ2_getChar_3b067_42 : decode cJ2_getChar_3b067 42 = .ok (.getstatic 59, 3) := by decide +kernel
theorem dJ2_getChar_3b067_45 : decode cJ2_getChar_3b067 45 = .ok (.ishl, 1) := by decide +kernel
theorem dJ2_getChar_3b067_46 : decode cJ2_getChar_3b067 46 = .ok (.aload_n 0, 1) := by decide +kernel
theorem dJ2_getChar_3b067_47 : decode cJ2_getChar_3b067 47 = .ok (.iload_n 1, 1) := by decide +kernel
theorem dJ2_getChar_3b067_48 : decode cJ2_getChar_3b067 48 = .ok (.baload, 1) := by decide +kernel
theorem dJ2_getChar_3b067_49 : decode cJ2_getChar_3b067 49 = .ok (.sipush 255, 3) := by decide +kernel
theorem dJ2_getChar_3b067_52 : decode cJ2_getChar_3b067 52 = .ok (.iand, 1) := by decide +kernel
theorem dJ2_getChar_3b067_53 : decode cJ2_getChar_3b067 53 = .ok (.getstatic 63, 3) := by decide +kernel
theorem dJ2_getChar_3b067_56 : decode cJ2_getChar_3b067 56 = .ok (.ishl, 1) := by decide +kernel
theorem dJ2_getChar_3b067_57 : decode cJ2_getChar_3b067 57 = .ok (.ior, 1) := by decide +kernel
theorem dJ2_getChar_3b067_58 : decode cJ2_getChar_3b067 58 = .ok (.i2c, 1) := by decide +kernel
theorem dJ2_getChar_3b067_59 : decode cJ2_getChar_3b067 59 = .ok (.ireturn, 1) := by decide +kernel
theorem dJ2_length_9d52b_0 : decode cJ2_length_9d52b 0 = .ok (.aload_n 0, 1) := by decide +kernel
theorem dJ2_length_9d52b_1 : decode cJ2_length_9d52b 1 = .ok (.arraylength, 1) := by decide +kernel
theorem dJ2_length_9d52b_2 : decode cJ2_length_9d52b 2 = .ok (.iconst 1, 1) := by decide +kernel
theorem dJ2_length_9d52b_3 : decode cJ2_length_9d52b 3 = .ok (.ishr, 1) := by decide +kernel
theorem dJ2_length_9d52b_4 : decode cJ2_length_9d52b 4 = .ok (.ireturn, 1) := by decide +kernel
theorem dJ2_indexOf_4cfef_0 : decode cJ2_indexOf_4cfef 0 = .ok (.iload_n 2, 1) := by decide +kernel
theorem dJ2_indexOf_4cfef_1 : decode cJ2_indexOf_4cfef 1 = .ok (.iconst 0, 1) := by decide +kernel
theorem dJ2_indexOf_4cfef_2 : decode cJ2_indexOf_4cfef 2 = .ok (.invokestatic 224, 3) := by decide +kernel
theorem dJ2_indexOf_4cfef_5 : decode cJ2_indexOf_4cfef 5 = .ok (.istore_n 2, 1) := by decide +kernel
theorem dJ2_indexOf_4cfef_6 : decode cJ2_indexOf_4cfef 6 = .ok (.iload_n 3, 1) := by decide +kernel
theorem dJ2_indexOf_4cfef_7 : decode cJ2_indexOf_4cfef 7 = .ok (.aload_n 0, 1) := by decide +kernel
theorem dJ2_indexOf_4cfef_8 : decode cJ2_indexOf_4cfef 8 = .ok (.arraylength, 1) := by decide +kernel
theorem dJ2_indexOf_4cfef_9 : decode cJ2_indexOf_4cfef 9 = .ok (.iconst 1, 1) := by decide +kernel
theorem dJ2_indexOf_4cfef_10 : decode cJ2_indexOf_4cfef 10 = .ok (.ishr, 1) := by decide +kernel
theorem dJ2_indexOf_4cfef_11 : decode cJ2_indexOf_4cfef 11 = .ok (.invokestatic 183, 3) := by decide +kernel
theorem dJ2_indexOf_4cfef_14 : decode cJ2_indexOf_4cfef 14 = .ok (.istore_n 3, 1) := by decide +kernel
theorem dJ2_indexOf_4cfef_15 : decode cJ2_indexOf_4cfef 15 = .ok (.iload_n 2, 1) := by decide +kernel
theorem dJ2_indexOf_4cfef_16 : decode cJ2_indexOf_4cfef 16 = .ok (.iload_n 3, 1) := by decide +kernel
theorem dJ2_indexOf_4cfef_17 : decode cJ2_indexOf_4cfef 17 = .ok (.if_icmp .lt 5, 3) := by decide +kernel
theorem dJ2_indexOf_4cfef_20 : decode cJ2_indexOf_4cfef 20 = .ok (.iconst (-1), 1) := by decide +kernel
theorem dJ2_indexOf_4cfef_21 : decode cJ2_indexOf_4cfef 21 = .ok (.ireturn, 1) := by decide +kernel
theorem dJ2_indexOf_4cfef_22 : decode cJ2_indexOf_4cfef 22 = .ok (.iload_n 1, 1) := by decide +kernel
theorem dJ2_indexOf_4cfef_23 : decode cJ2_indexOf_4cfef 23 = .ok (.ldc 227, 2) := by decide +kernel
theorem dJ2_indexOf_4cfef_25 : decode cJ2_indexOf_4cfef 25 = .ok (.if_icmp .ge 11, 3) := by decide +kernel
theorem dJ2_indexOf_4cfef_28 : decode cJ2_indexOf_4cfef 28 = .ok (.aload_n 0, 1) := by decide +kernel
theorem dJ2_indexOf_4cfef_29 : decode cJ2_indexOf_4cfef 29 = .ok (.iload_n 1, 1) := by decide +kernel
theorem dJ2_indexOf_4cfef_30 : decode cJ2_indexOf_4cfef 30 = .ok (.iload_n 2, 1) := by decide +kernel
theorem dJ2_indexOf_4cfef_31 : decode cJ2_indexOf_4cfef 31 = .ok (.iload_n 3, 1) := by decide +kernel
theorem dJ2_indexOf_4cfef_32 : decode cJ2_indexOf_4cfef 32 = .ok (.invokestatic 228, 3) := by decide +kernel
theorem dJ2_indexOf_4cfef_35 : decode cJ2_indexOf_4cfef 35 = .ok (.ireturn, 1) := by decide +kernel
theorem dJ2_indexOf_4cfef_36 : decode cJ2_indexOf_4cfef 36 = .ok (.aload_n 0, 1) := by decide +kernel
theorem dJ2_indexOf_4cfef_37 : decode cJ2_indexOf_4cfef 37 = .ok (.iload_n 1, 1) := by decide +kernel
theorem dJ2_indexOf_4cfef_38 : decode cJ2_indexOf_4cfef 38 = .ok (.iload_n 2, 1) := by decide +kernel
theorem dJ2_indexOf_4cfef_39 : decode cJ2_indexOf_4cfef 39 = .ok (.iload_n 3, 1) := by decide +kernel
theorem dJ2_indexOf_4cfef_40 : decode cJ2_indexOf_4cfef 40 = .ok (.invokestatic 232, 3) := by decide +kernel
theorem dJ2_indexOf_4cfef_43 : decode cJ2_indexOf_4cfef 43 = .ok (.ireturn, 1) := by decide +kernel
theorem dJ2_indexOfChar_4cfef_0 : decode cJ2_indexOfChar_4cfef 0 = .ok (.iload_n 2, 1) := by decide +kernel
theorem dJ2_indexOfChar_4cfef_1 : decode cJ2_indexOfChar_4cfef 1 = .ok (.iload_n 3, 1) := by decide +kernel
theorem dJ2_indexOfChar_4cfef_2 : decode cJ2_indexOfChar_4cfef 2 = .ok (.aload_n 0, 1) := by decide +kernel
theorem dJ2_indexOfChar_4cfef_3 : decode cJ2_indexOfChar_4cfef 3 = .ok (.invokestatic 96, 3) := by decide +kernel
theorem dJ2_indexOfChar_4cfef_6 : decode cJ2_indexOfChar_4cfef 6 = .ok (.aload_n 0, 1) := by decide +kernel
theorem dJ2_indexOfChar_4cfef_7 : decode cJ2_indexOfChar_4cfef 7 = .ok (.iload_n 1, 1) := by decide +kernel
theorem dJ2_indexOfChar_4cfef_8 : decode cJ2_indexOfChar_4cfef 8 = .ok (.iload_n 2, 1) := by decide +kernel
theorem dJ2_indexOfChar_4cfef_9 : decode cJ2_indexOfChar_4cfef 9 = .ok (.iload_n 3, 1) := by decide +kernel
theorem dJ2_indexOfChar_4cfef_10 : decode cJ2_indexOfChar_4cfef 10 = .ok (.invokestatic 244, 3) := by decide +kernel
theorem dJ2_indexOfChar_4cfef_13 : decode cJ2_indexOfChar_4cfef 13 = .ok (.ireturn, 1) := by decide +kernel
theorem dJ2_indexOfCharUnsafe_4cfef_0 : decode cJ2_indexOfCharUnsafe_4cfef 0 = .ok (.iload_n 2, 1) := by decide +kernel
theorem dJ2_indexOfCharUnsafe_4cfef_1 : decode cJ2_indexOfCharUnsafe_4cfef 1 = .ok (.istore 4, 2) := by decide +kernel
theorem dJ2_indexOfCharUnsafe_4cfef_3 : decode cJ2_indexOfCharUnsafe_4cfef 3 = .ok (.iload 4, 2) := by decide +kernel
theorem dJ2_indexOfCharUnsafe_4cfef_5 : decode cJ2_indexOfCharUnsafe_4cfef 5 = .ok (.iload_n 3, 1) := by decide +kernel
theorem dJ2_indexOfCharUnsafe_4cfef_6 : decode cJ2_indexOfCharUnsafe_4cfef 6 = .ok (.if_icmp .ge 22, 3) := by decide +kernel
theorem dJ2_indexOfCharUnsafe_4cfef_9 : decode cJ2_indexOfCharUnsafe_4cfef 9 = .ok (.aload_n 0, 1) := by decide +kernel
theorem dJ2_indexOfCharUnsafe_4cfef_10 : decode cJ2_indexOfCharUnsafe_4cfef 10 = .ok (.iload 4, 2) := by decide +kernel
theorem dJ2_indexOfCharUnsafe_4cfef_12 : decode cJ2_indexOfCharUnsafe_4cfef 12 = .ok (.invokestatic 71, 3) := by decide +kernel
theorem dJ2_indexOfCharUnsafe_4cfef_15 : decode cJ2_indexOfCharUnsafe_4cfef 15 = .ok (.iload_n 1, 1) := by decide +kernel
theorem dJ2_indexOfCharUnsafe_4cfef_16 : decode cJ2_indexOfCharUnsafe_4cfef 16 = .ok (.if_icmp .ne 6, 3) := by decide +kernel
theorem dJ2_indexOfCharUnsafe_4cfef_19 : decode cJ2_indexOfCharUnsafe_4cfef 19 = .ok (.iload 4, 2) := by decide +kernel
theorem dJ2_indexOfCharUnsafe_4cfef_21 : decode cJ2_indexOfCharUnsafe_4cfef 21 = .ok (.ireturn, 1) := by decide +kernel
theorem dJ2_indexOfCharUnsafe_4cfef_22 : decode cJ2_indexOfCharUnsafe_4cfef 22 = .ok (.iinc 4 1, 3) := by decide +kernel
theorem dJ2_indexOfCharUnsafe_4cfef_25 : decode cJ2_indexOfCharUnsafe_4cfef 25 = .ok (.goto (-22), 3) := by decide +kernel
theorem dJ2_indexOfCharUnsafe_4cfef_28 : decode cJ2_indexOfCharUnsafe_4cfef 28 = .ok (.iconst (-1), 1) := by decide +kernel
theorem dJ2_indexOfCharUnsafe_4cfef_29 : decode cJ2_indexOfCharUnsafe_4cfef 29 = .ok (.ireturn, 1) := by decide +kernel
theorem dJ2_indexOfSupplementary_4cfef_0 : decode cJ2_indexOfSupplementary_4cfef 0 = .ok (.iload_n 1, 1) := by decide +kernel
theorem dJ2_indexOfSupplementary_4cfef_1 : decode cJ2_indexOfSupplementary_4cfef 1 = .ok (.invokestatic 164, 3) := by decide +kernel
theorem dJ2_indexOfSupplementary_4cfef_4 : decode cJ2_indexOfSupplementary_4cfef 4 = .ok (.ifCond .eq 65, 3) := by decide +kernel
theorem dJ2_indexOfSupplementary_4cfef_7 : decode cJ2_indexOfSupplementary_4cfef 7 = .ok (.iload_n 1, 1) := by decide +kernel
theorem dJ2_indexOfSupplementary_4cfef_8 : decode cJ2_indexOfSupplementary_4cfef 8 = .ok (.invokestatic 157, 3) := by decide +kernel
theorem dJ2_indexOfSupplementary_4cfef_11 : decode cJ2_indexOfSupplementary_4cfef 11 = .ok (.istore 4, 2) := by decide +kernel
theorem dJ2_indexOfSupplementary_4cfef_13 : decode cJ2_indexOfSupplementary_4cfef 13 = .ok (.iload_n 1, 1) := by decide +kernel
theorem dJ2_indexOfSupplementary_4cfef_14 : decode cJ2_indexOfSupplementary_4cfef 14 = .ok (.invokestatic 161, 3) := by decide +kernel
theorem dJ2_indexOfSupplementary_4cfef_17 : decode cJ2_indexOfSupplementary_4cfef 17 = .ok (.istore 5, 2) := by decide +kernel
theorem dJ2_indexOfSupplementary_4cfef_19 : decode cJ2_indexOfSupplementary_4cfef 19 = .ok (.iload_n 2, 1) := by decide +kernel
theorem dJ2_indexOfSupplementary_4cfef_20 : decode cJ2_indexOfSupplementary_4cfef 20 = .ok (.iload_n 3, 1) := by decide +kernel
theorem dJ2_indexOfSupplementary_4cfef_21 : decode cJ2_indexOfSupplementary_4cfef 21 = .ok (.aload_n 0, 1) := by decide +kernel
theorem dJ2_indexOfSupplementary_4cfef_22 : decode cJ2_indexOfSupplementary_4cfef 22 = .ok (.invokestatic 96, 3) := by decide +kernel
theorem dJ2_indexOfSupplementary_4cfef_25 : decode cJ2_indexOfSupplementary_4cfef 25 = .ok (.iload_n 2, 1) := by decide +kernel
theorem dJ2_indexOfSupplementary_4cfef_26 : decode cJ2_indexOfSupplementary_4cfef 26 = .ok (.istore 6, 2) := by decide +kernel
theorem dJ2_indexOfSupplementary_4cfef_28 : decode cJ2_indexOfSupplementary_4cfef 28 = .ok (.iload 6, 2) := by decide +kernel
theorem dJ2_indexOfSupplementary_4cfef_30 : decode cJ2_indexOfSupplementary_4cfef 30 = .ok (.iload_n 3, 1) := by decide +kernel
theorem dJ2_indexOfSupplementary_4cfef_31 : decode cJ2_indexOfSupplementary_4cfef 31 = .ok (.iconst 1, 1) := by decide +kernel
theorem dJ2_indexOfSupplementary_4cfef_32 : decode cJ2_indexOfSupplementary_4cfef 32 = .ok (.isub, 1) := by decide +kernel
theorem dJ2_indexOfSupplementary_4cfef_33 : decode cJ2_indexOfSupplementary_4cfef 33 = .ok (.if_icmp .ge 36, 3) := by decide +kernel
theorem dJ2_indexOfSupplementary_4cfef_36 : decode cJ2_indexOfSupplementary_4cfef 36 = .ok (.aload_n 0, 1) := by decide +kernel
theorem dJ2_indexOfSupplementary_4cfef_37 : decode cJ2_indexOfSupplementary_4cfef 37 = .ok (.iload 6, 2) := by decide +kernel
theorem dJ2_indexOfSupplementary_4cfef_39 : decode cJ2_indexOfSupplementary_4cfef 39 = .ok (.invokestatic 71, 3) := by decide +kernel
theorem dJ2_indexOfSupplementary_4cfef_42 : decode cJ2_indexOfSupplementary_4cfef 42 = .ok (.iload 4, 2) := by decide +kernel
theorem dJ2_indexOfSupplementary_4cfef_44 : decode cJ2_indexOfSupplementary_4cfef 44 = .ok (.if_icmp .ne 19, 3) := by decide +kernel
theorem dJ2_indexOfSupplementary_4cfef_47 : decode cJ2_indexOfSupplementary_4cfef 47 = .ok (.aload_n 0, 1) := by decide +kernel
theorem dJ2_indexOfSupplementary_4cfef_48 : decode cJ2_indexOfSupplementary_4cfef 48 = .ok (.iload 6, 2) := by decide +kernel
theorem dJ2_indexOfSupplementary_4cfef_50 : decode cJ2_indexOfSupplementary_4cfef 50 = .ok (.iconst 1, 1) := by decide +kernel
theorem dJ2_indexOfSupplementary_4cfef_51 : decode cJ2_indexOfSupplementary_4cfef 51 = .ok (.iadd, 1) := by decide +kernel
theorem dJ2_indexOfSupplementary_4cfef_52 : decode cJ2_indexOfSupplementary_4cfef 52 = .ok (.invokestatic 71, 3) := by decide +kernel
theorem dJ2_indexOfSupplementary_4cfef_55 : decode cJ2_indexOfSupplementary_4cfef 55 = .ok (.iload 5, 2) := by decide +kernel
theorem dJ2_indexOfSupplementary_4cfef_57 : decode cJ2_indexOfSupplementary_4cfef 57 = .ok (.if_icmp .ne 6, 3) := by decide +kernel
theorem dJ2_indexOfSupplementary_4cfef_60 : decode cJ2_indexOfSupplementary_4cfef 60 = .ok (.iload 6, 2) := by decide +kernel
theorem dJ2_indexOfSupplementary_4cfef_62 : decode cJ2_indexOfSupplementary_4cfef 62 = .ok (.ireturn, 1) := by decide +kernel
theorem dJ2_indexOfSupplementary_4cfef_63 : decode cJ2_indexOfSupplementary_4cfef 63 = .ok (.iinc 6 1, 3) := by decide +kernel
theorem dJ2_indexOfSupplementary_4cfef_66 : decode cJ2_indexOfSupplementary_4cfef 66 = .ok (.goto (-38), 3) := by decide +kernel
theorem dJ2_indexOfSupplementary_4cfef_69 : decode cJ2_indexOfSupplementary_4cfef 69 = .ok (.iconst (-1), 1) := by decide +kernel
theorem dJ2_indexOfSupplementary_4cfef_70 : decode cJ2_indexOfSupplementary_4cfef 70 = .ok (.ireturn, 1) := by decide +kernel
theorem dJ2_charAt_3b067_0 : decode cJ2_charAt_3b067 0 = .ok (.iload_n 1, 1) := by decide +kernel
theorem dJ2_charAt_3b067_1 : decode cJ2_charAt_3b067 1 = .ok (.aload_n 0, 1) := by decide +kernel
theorem dJ2_charAt_3b067_2 : decode cJ2_charAt_3b067 2 = .ok (.invokestatic 67, 3) := by decide +kernel
theorem dJ2_charAt_3b067_5 : decode cJ2_charAt_3b067 5 = .ok (.aload_n 0, 1) := by decide +kernel
theorem dJ2_charAt_3b067_6 : decode cJ2_charAt_3b067 6 = .ok (.iload_n 1, 1) := by decide +kernel
theorem dJ2_charAt_3b067_7 : decode cJ2_charAt_3b067 7 = .ok (.invokestatic 71, 3) := by decide +kernel
theorem dJ2_charAt_3b067_10 : decode cJ2_charAt_3b067 10 = .ok (.ireturn, 1) := by decide +kernel
theorem dJ2_checkIndex_2214a_0 : decode cJ2_checkIndex_2214a 0 = .ok (.iload_n 0, 1) := by decide +kernel
theorem dJ2_checkIndex_2214a_1 : decode cJ2_checkIndex_2214a 1 = .ok (.aload_n 1, 1) := by decide +kernel
theorem dJ2_checkIndex_2214a_2 : decode cJ2_checkIndex_2214a 2 = .ok (.invokestatic 48, 3) := by decide +kernel
theorem dJ2_checkIndex_2214a_5 : decode cJ2_checkIndex_2214a 5 = .ok (.invokestatic 414, 3) := by decide +kernel
theorem dJ2_checkIndex_2214a_8 : decode cJ2_checkIndex_2214a 8 = .ok (.return_, 1) := by decide +kernel
theorem dJ2_checkBoundsBeginEnd_d044e_0 : decode cJ2_checkBoundsBeginEnd_d044e 0 = .ok (.iload_n 0, 1) := by decide +kernel
theorem dJ2_checkBoundsBeginEnd_d044e_1 : decode cJ2_checkBoundsBeginEnd_d044e 1 = .ok (.iload_n 1, 1) := by decide +kernel
theorem dJ2_checkBoundsBeginEnd_d044e_2 : decode cJ2_checkBoundsBeginEnd_d044e 2 = .ok (.aload_n 2, 1) := by decide +kernel
theorem dJ2_checkBoundsBeginEnd_d044e_3 : decode cJ2_checkBoundsBeginEnd_d044e 3 = .ok (.invokestatic 48, 3) := by decide +kernel
theorem dJ2_checkBoundsBeginEnd_d044e_6 : decode cJ2_checkBoundsBeginEnd_d044e 6 = .ok (.invokestatic 241, 3) := by decide +kernel
theorem dJ2_checkBoundsBeginEnd_d044e_9 : decode cJ2_checkBoundsBeginEnd_d044e 9 = .ok (.return_, 1) := by decide +kernel
theorem dJ7_fill_53178_0 : decode cJ7_fill_53178 0 = .ok (.iconst 0, 1) := by decide +kernel
theorem dJ7_fill_53178_1 : decode cJ7_fill_53178 1 = .ok (.istore_n 2, 1) := by decide +kernel
theorem dJ7_fill_53178_2 : decode cJ7_fill_53178 2 = .ok (.aload_n 0, 1) := by decide +kernel
theorem dJ7_fill_53178_3 : decode cJ7_fill_53178 3 = .ok (.arraylength, 1) := by decide +kernel
theorem dJ7_fill_53178_4 : decode cJ7_fill_53178 4 = .ok (.istore_n 3, 1) := by decide +kernel
theorem dJ7_fill_53178_5 : decode cJ7_fill_53178 5 = .ok (.iload_n 2, 1) := by decide +kernel
theorem dJ7_fill_53178_6 : decode cJ7_fill_53178 6 = .ok (.iload_n 3, 1) := by decide +kernel
theorem dJ7_fill_53178_7 : decode cJ7_fill_53178 7 = .ok (.if_icmp .ge 13, 3) := by decide +kernel
theorem dJ7_fill_53178_10 : decode cJ7_fill_53178 10 = .ok (.aload_n 0, 1) := by decide +kernel
theorem dJ7_fill_53178_11 : decode cJ7_fill_53178 11 = .ok (.iload_n 2, 1) := by decide +kernel
theorem dJ7_fill_53178_12 : decode cJ7_fill_53178 12 = .ok (.iload_n 1, 1) := by decide +kernel
theorem dJ7_fill_53178_13 : decode cJ7_fill_53178 13 = .ok (.iastore, 1) := by decide +kernel
theorem dJ7_fill_53178_14 : decode cJ7_fill_53178 14 = .ok (.iinc 2 1, 3) := by decide +kernel
theorem dJ7_fill_53178_17 : decode cJ7_fill_53178 17 = .ok (.goto (-12), 3) := by decide +kernel
theorem dJ7_fill_53178_20 : decode cJ7_fill_53178 20 = .ok (.return_, 1) := by decide +kernel
theorem dJ3_checkIndex_8e157_0 : decode cJ3_checkIndex_8e157 0 = .ok (.iload_n 0, 1) := by decide +kernel
theorem dJ3_checkIndex_8e157_1 : decode cJ3_checkIndex_8e157 1 = .ok (.ifCond .lt 8, 3) := by decide +kernel
theorem dJ3_checkIndex_8e157_4 : decode cJ3_checkIndex_8e157 4 = .ok (.iload_n 0, 1) := by decide +kernel
theorem dJ3_checkIndex_8e157_5 : decode cJ3_checkIndex_8e157 5 = .ok (.iload_n 1, 1) := by decide +kernel
theorem dJ3_checkIndex_8e157_6 : decode cJ3_checkIndex_8e157 6 = .ok (.if_icmp .lt 10, 3) := by decide +kernel
theorem dJ3_checkIndex_8e157_9 : decode cJ3_checkIndex_8e157 9 = .ok (.aload_n 2, 1) := by decide +kernel
theorem dJ3_checkIndex_8e157_10 : decode cJ3_checkIndex_8e157 10 = .ok (.iload_n 0, 1) := by decide +kernel
theorem dJ3_checkIndex_8e157_11 : decode cJ3_checkIndex_8e157 11 = .ok (.iload_n 1, 1) := by decide +kernel
theorem dJ3_checkIndex_8e157_12 : decode cJ3_checkIndex_8e157 12 = .ok (.invokestatic 95, 3) := by decide +kernel
theorem dJ3_checkIndex_8e157_15 : decode cJ3_checkIndex_8e157 15 = .ok (.athrow, 1) := by decide +kernel
theorem dJ3_checkIndex_8e157_16 : decode cJ3_checkIndex_8e157 16 = .ok (.iload_n 0, 1) := by decide +kernel
theorem dJ3_checkIndex_8e157_17 : decode cJ3_checkIndex_8e157 17 = .ok (.ireturn, 1) := by decide +kernel
theorem dJ3_checkFromToIndex_8c36e_0 : decode cJ3_checkFromToIndex_8c36e 0 = .ok (.iload_n 0, 1) := by decide +kernel
theorem dJ3_checkFromToIndex_8c36e_1 : decode cJ3_checkFromToIndex_8c36e 1 = .ok (.ifCond .lt 13, 3) := by decide +kernel
theorem dJ3_checkFromToIndex_8c36e_4 : decode cJ3_checkFromToIndex_8c36e 4 = .ok (.iload_n 0, 1) := by decide +kernel
theorem dJ3_checkFromToIndex_8c36e_5 : decode cJ3_checkFromToIndex_8c36e 5 = .ok (.iload_n 1, 1) := by decide +kernel
theorem dJ3_checkFromToIndex_8c36e_6 : decode cJ3_checkFromToIndex_8c36e 6 = .ok (.if_icmp .gt 8, 3) := by decide +kernel
theorem dJ3_checkFromToIndex_8c36e_9 : decode cJ3_checkFromToIndex_8c36e 9 = .ok (.iload_n 1, 1) := by decide +kernel
theorem dJ3_checkFromToIndex_8c36e_10 : decode cJ3_checkFromToIndex_8c36e 10 = .ok (.iload_n 2, 1) := by decide +kernel
theorem dJ3_checkFromToIndex_8c36e_11 : decode cJ3_checkFromToIndex_8c36e 11 = .ok (.if_icmp .le 11, 3) := by decide +kernel
theorem dJ3_checkFromToIndex_8c36e_14 : decode cJ3_checkFromToIndex_8c36e 14 = .ok (.aload_n 3, 1) := by decide +kernel
theorem dJ3_checkFromToIndex_8c36e_15 : decode cJ3_checkFromToIndex_8c36e 15 = .ok (.iload_n 0, 1) := by decide +kernel
theorem dJ3_checkFromToIndex_8c36e_16 : decode cJ3_checkFromToIndex_8c36e 16 = .ok (.iload_n 1, 1) := by decide +kernel
theorem dJ3_checkFromToIndex_8c36e_17 : decode cJ3_checkFromToIndex_8c36e 17 = .ok (.iload_n 2, 1) := by decide +kernel
theorem dJ3_checkFromToIndex_8c36e_18 : decode cJ3_checkFromToIndex_8c36e 18 = .ok (.invokestatic 99, 3) := by decide +kernel
theorem dJ3_checkFromToIndex_8c36e_21 : decode cJ3_checkFromToIndex_8c36e 21 = .ok (.athrow, 1) := by decide +kernel
theorem dJ3_checkFromToIndex_8c36e_22 : decode cJ3_checkFromToIndex_8c36e 22 = .ok (.iload_n 0, 1) := by decide +kernel
theorem dJ3_checkFromToIndex_8c36e_23 : decode cJ3_checkFromToIndex_8c36e 23 = .ok (.ireturn, 1) := by decide +kernel
