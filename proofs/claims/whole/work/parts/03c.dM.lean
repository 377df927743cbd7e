theorem dX6_thrown_0 : decode cX6_thrown 0 = .ok (.aload_n 0, 1) := by decide +kernel
theorem dX6_thrown_1 : decode cX6_thrown 1 = .ok (.getfield 1, 3) := by decide +kernel
theorem dX6_thrown_4 : decode cX6_thrown 4 = .ok (.ireturn, 1) := by decide +kernel
theorem dX6_fails_0 : decode cX6_fails 0 = .ok (.aload_n 0, 1) := by decide +kernel
theorem dX6_fails_1 : decode cX6_fails 1 = .ok (.iload_n 1, 1) := by decide +kernel
theorem dX6_fails_2 : decode cX6_fails 2 = .ok (.putfield 1, 3) := by decide +kernel
theorem dX6_fails_5 : decode cX6_fails 5 = .ok (.iload_n 1, 1) := by decide +kernel
theorem dX6_fails_6 : decode cX6_fails 6 = .ok (.ifCond .le 7, 3) := by decide +kernel
theorem dX6_fails_9 : decode cX6_fails 9 = .ok (.iconst 1, 1) := by decide +kernel
theorem dX6_fails_10 : decode cX6_fails 10 = .ok (.goto 4, 3) := by decide +kernel
theorem dX6_fails_13 : decode cX6_fails 13 = .ok (.iconst 0, 1) := by decide +kernel
theorem dX6_fails_14 : decode cX6_fails 14 = .ok (.ireturn, 1) := by decide +kernel
theorem dX6_in_0 : decode cX6_in 0 = .ok (.iload_n 0, 1) := by decide +kernel
theorem dX6_in_1 : decode cX6_in 1 = .ok (.iload_n 1, 1) := by decide +kernel
theorem dX6_in_2 : decode cX6_in 2 = .ok (.if_icmp .lt 12, 3) := by decide +kernel
theorem dX6_in_5 : decode cX6_in 5 = .ok (.iload_n 0, 1) := by decide +kernel
theorem dX6_in_6 : decode cX6_in 6 = .ok (.iload_n 2, 1) := by decide +kernel
theorem dX6_in_7 : decode cX6_in 7 = .ok (.if_icmp .gt 7, 3) := by decide +kernel
theorem dX6_in_10 : decode cX6_in 10 = .ok (.iconst 1, 1) := by decide +kernel
theorem dX6_in_11 : decode cX6_in 11 = .ok (.goto 4, 3) := by decide +kernel
theorem dX6_in_14 : decode cX6_in 14 = .ok (.iconst 0, 1) := by decide +kernel
theorem dX6_in_15 : decode cX6_in 15 = .ok (.ireturn, 1) := by decide +kernel
theorem dX6_init_0 : decode cX6_init 0 = .ok (.aload_n 0, 1) := by decide +kernel
theorem dX6_init_1 : decode cX6_init 1 = .ok (.invokespecial 7, 3) := by decide +kernel
theorem dX6_init_4 : decode cX6_init 4 = .ok (.aload_n 0, 1) := by decide +kernel
theorem dX6_init_5 : decode cX6_init 5 = .ok (.bipush 24, 2) := by decide +kernel
theorem dX6_init_7 : decode cX6_init 7 = .ok (.newarray .char, 2) := by decide +kernel
theorem dX6_init_9 : decode cX6_init 9 = .ok (.putfield 13, 3) := by decide +kernel
theorem dX6_init_12 : decode cX6_init 12 = .ok (.aload_n 0, 1) := by decide +kernel
theorem dX6_init_13 : decode cX6_init 13 = .ok (.sipush 240, 3) := by decide +kernel
theorem dX6_init_16 : decode cX6_init 16 = .ok (.newarray .char, 2) := by decide +kernel
theorem dX6_init_18 : decode cX6_init 18 = .ok (.putfield 17, 3) := by decide +kernel
theorem dX6_init_21 : decode cX6_init 21 = .ok (.aload_n 0, 1) := by decide +kernel
theorem dX6_init_22 : decode cX6_init 22 = .ok (.bipush 18, 2) := by decide +kernel
theorem dX6_init_24 : decode cX6_init 24 = .ok (.newarray .char, 2) := by decide +kernel
theorem dX6_init_26 : decode cX6_init 26 = .ok (.putfield 20, 3) := by decide +kernel
theorem dX6_init_29 : decode cX6_init 29 = .ok (.aload_n 0, 1) := by decide +kernel
theorem dX6_init_30 : decode cX6_init 30 = .ok (.bipush 72, 2) := by decide +kernel
theorem dX6_init_32 : decode cX6_init 32 = .ok (.newarray .char, 2) := by decide +kernel
theorem dX6_init_34 : decode cX6_init 34 = .ok (.putfield 23, 3) := by decide +kernel
theorem dX6_init_37 : decode cX6_init 37 = .ok (.aload_n 0, 1) := by decide +kernel
theorem dX6_init_38 : decode cX6_init 38 = .ok (.bipush 24, 2) := by decide +kernel
theorem dX6_init_40 : decode cX6_init 40 = .ok (.newarray .int, 2) := by decide +kernel
theorem dX6_init_42 : decode cX6_init 42 = .ok (.putfield 26, 3) := by decide +kernel
theorem dX6_init_45 : decode cX6_init 45 = .ok (.aload_n 0, 1) := by decide +kernel
theorem dX6_init_46 : decode cX6_init 46 = .ok (.bipush 24, 2) := by decide +kernel
theorem dX6_init_48 : decode cX6_init 48 = .ok (.newarray .int, 2) := by decide +kernel
theorem dX6_init_50 : decode cX6_init 50 = .ok (.putfield 30, 3) := by decide +kernel
theorem dX6_init_53 : decode cX6_init 53 = .ok (.aload_n 0, 1) := by decide +kernel
theorem dX6_init_54 : decode cX6_init 54 = .ok (.bipush 6, 2) := by decide +kernel
theorem dX6_init_56 : decode cX6_init 56 = .ok (.newarray .int, 2) := by decide +kernel
theorem dX6_init_58 : decode cX6_init 58 = .ok (.putfield 33, 3) := by decide +kernel
theorem dX6_init_61 : decode cX6_init 61 = .ok (.aload_n 0, 1) := by decide +kernel
theorem dX6_init_62 : decode cX6_init 62 = .ok (.bipush 24, 2) := by decide +kernel
theorem dX6_init_64 : decode cX6_init 64 = .ok (.newarray .int, 2) := by decide +kernel
theorem dX6_init_66 : decode cX6_init 66 = .ok (.putfield 36, 3) := by decide +kernel
theorem dX6_init_69 : decode cX6_init 69 = .ok (.aload_n 0, 1) := by decide +kernel
theorem dX6_init_70 : decode cX6_init 70 = .ok (.bipush 24, 2) := by decide +kernel
theorem dX6_init_72 : decode cX6_init 72 = .ok (.newarray .int, 2) := by decide +kernel
theorem dX6_init_74 : decode cX6_init 74 = .ok (.putfield 39, 3) := by decide +kernel
theorem dX6_init_77 : decode cX6_init 77 = .ok (.aload_n 0, 1) := by decide +kernel
theorem dX6_init_78 : decode cX6_init 78 = .ok (.bipush 25, 2) := by decide +kernel
theorem dX6_init_80 : decode cX6_init 80 = .ok (.newarray .long, 2) := by decide +kernel
theorem dX6_init_82 : decode cX6_init 82 = .ok (.putfield 42, 3) := by decide +kernel
theorem dX6_init_85 : decode cX6_init 85 = .ok (.aload_n 0, 1) := by decide +kernel
theorem dX6_init_86 : decode cX6_init 86 = .ok (.bipush 25, 2) := by decide +kernel
theorem dX6_init_88 : decode cX6_init 88 = .ok (.newarray .int, 2) := by decide +kernel
theorem dX6_init_90 : decode cX6_init 90 = .ok (.putfield 46, 3) := by decide +kernel
theorem dX6_init_93 : decode cX6_init 93 = .ok (.iconst 0, 1) := by decide +kernel
theorem dX6_init_94 : decode cX6_init 94 = .ok (.istore_n 1, 1) := by decide +kernel
theorem dX6_init_95 : decode cX6_init 95 = .ok (.iload_n 1, 1) := by decide +kernel
theorem dX6_init_96 : decode cX6_init 96 = .ok (.bipush 6, 2) := by decide +kernel
theorem dX6_init_98 : decode cX6_init 98 = .ok (.if_icmp .ge 29, 3) := by decide +kernel
theorem dX6_init_101 : decode cX6_init 101 = .ok (.aload_n 0, 1) := by decide +kernel
theorem dX6_init_102 : decode cX6_init 102 = .ok (.getfield 20, 3) := by decide +kernel
theorem dX6_init_105 : decode cX6_init 105 = .ok (.iconst 3, 1) := by decide +kernel
theorem dX6_init_106 : decode cX6_init 106 = .ok (.iload_n 1, 1) := by decide +kernel
theorem dX6_init_107 : decode cX6_init 107 = .ok (.imul, 1) := by decide +kernel
theorem dX6_init_108 : decode cX6_init 108 = .ok (.bipush 97, 2) := by decide +kernel
theorem dX6_init_110 : decode cX6_init 110 = .ok (.iload_n 1, 1) := by decide +kernel
theorem dX6_init_111 : decode cX6_init 111 = .ok (.iadd, 1) := by decide +kernel
theorem dX6_init_112 : decode cX6_init 112 = .ok (.i2c, 1) := by decide +kernel
theorem dX6_init_113 : decode cX6_init 113 = .ok (.castore, 1) := by decide +kernel
theorem dX6_init_114 : decode cX6_init 114 = .ok (.aload_n 0, 1) := by decide +kernel
theorem dX6_init_115 : decode cX6_init 115 = .ok (.getfield 33, 3) := by decide +kernel
theorem dX6_init_118 : decode cX6_init 118 = .ok (.iload_n 1, 1) := by decide +kernel
theorem dX6_init_119 : decode cX6_init 119 = .ok (.iconst 1, 1) := by decide +kernel
theorem dX6_init_120 : decode cX6_init 120 = .ok (.iastore, 1) := by decide +kernel
theorem dX6_init_121 : decode cX6_init 121 = .ok (.iinc 1 1, 3) := by decide +kernel
theorem dX6_init_124 : decode cX6_init 124 = .ok (.goto (-29), 3) := by decide +kernel
theorem dX6_init_127 : decode cX6_init 127 = .ok (.return_, 1) := by decide +kernel
theorem dX6_isSign_0 : decode cX6_isSign 0 = .ok (.iload_n 0, 1) := by decide +kernel
theorem dX6_isSign_1 : decode cX6_isSign 1 = .ok (.bipush 97, 2) := by decide +kernel
theorem dX6_isSign_3 : decode cX6_isSign 3 = .ok (.if_icmp .lt 13, 3) := by decide +kernel
theorem dX6_isSign_6 : decode cX6_isSign 6 = .ok (.iload_n 0, 1) := by decide +kernel
theorem dX6_isSign_7 : decode cX6_isSign 7 = .ok (.bipush 102, 2) := by decide +kernel
theorem dX6_isSign_9 : decode cX6_isSign 9 = .ok (.if_icmp .gt 7, 3) := by decide +kernel
theorem dX6_isSign_12 : decode cX6_isSign 12 = .ok (.iconst 1, 1) := by decide +kernel
theorem dX6_isSign_13 : decode cX6_isSign 13 = .ok (.goto 4, 3) := by decide +kernel
theorem dX6_isSign_16 : decode cX6_isSign 16 = .ok (.iconst 0, 1) := by decide +kernel
theorem dX6_isSign_17 : decode cX6_isSign 17 = .ok (.ireturn, 1) := by decide +kernel
theorem dX6_like_0 : decode cX6_like 0 = .ok (.iconst 0, 1) := by decide +kernel
theorem dX6_like_1 : decode cX6_like 1 = .ok (.istore_n 3, 1) := by decide +kernel
theorem dX6_like_2 : decode cX6_like 2 = .ok (.iload_n 3, 1) := by decide +kernel
theorem dX6_like_3 : decode cX6_like 3 = .ok (.aload_n 0, 1) := by decide +kernel
theorem dX6_like_4 : decode cX6_like 4 = .ok (.getfield 26, 3) := by decide +kernel
theorem dX6_like_7 : decode cX6_like 7 = .ok (.iload_n 1, 1) := by decide +kernel
theorem dX6_like_8 : decode cX6_like 8 = .ok (.iaload, 1) := by decide +kernel
theorem dX6_like_9 : decode cX6_like 9 = .ok (.if_icmp .ge 41, 3) := by decide +kernel
theorem dX6_like_12 : decode cX6_like 12 = .ok (.iload_n 2, 1) := by decide +kernel
theorem dX6_like_13 : decode cX6_like 13 = .ok (.iload_n 3, 1) := by decide +kernel
theorem dX6_like_14 : decode cX6_like 14 = .ok (.iadd, 1) := by decide +kernel
theorem dX6_like_15 : decode cX6_like 15 = .ok (.aload_n 0, 1) := by decide +kernel
theorem dX6_like_16 : decode cX6_like 16 = .ok (.getfield 49, 3) := by decide +kernel
theorem dX6_like_19 : decode cX6_like 19 = .ok (.if_icmp .ge 31, 3) := by decide +kernel
theorem dX6_like_22 : decode cX6_like 22 = .ok (.aload_n 0, 1) := by decide +kernel
theorem dX6_like_23 : decode cX6_like 23 = .ok (.getfield 17, 3) := by decide +kernel
theorem dX6_like_26 : decode cX6_like 26 = .ok (.bipush 10, 2) := by decide +kernel
theorem dX6_like_28 : decode cX6_like 28 = .ok (.iload_n 1, 1) := by decide +kernel
theorem dX6_like_29 : decode cX6_like 29 = .ok (.imul, 1) := by decide +kernel
theorem dX6_like_30 : decode cX6_like 30 = .ok (.iload_n 3, 1) := by decide +kernel
theorem dX6_like_31 : decode cX6_like 31 = .ok (.iadd, 1) := by decide +kernel
theorem dX6_like_32 : decode cX6_like 32 = .ok (.caload, 1) := by decide +kernel
theorem dX6_like_33 : decode cX6_like 33 = .ok (.aload_n 0, 1) := by decide +kernel
theorem dX6_like_34 : decode cX6_like 34 = .ok (.getfield 13, 3) := by decide +kernel
theorem dX6_like_37 : decode cX6_like 37 = .ok (.iload_n 2, 1) := by decide +kernel
theorem dX6_like_38 : decode cX6_like 38 = .ok (.iload_n 3, 1) := by decide +kernel
theorem dX6_like_39 : decode cX6_like 39 = .ok (.iadd, 1) := by decide +kernel
theorem dX6_like_40 : decode cX6_like 40 = .ok (.caload, 1) := by decide +kernel
theorem dX6_like_41 : decode cX6_like 41 = .ok (.if_icmp .ne 9, 3) := by decide +kernel
theorem dX6_like_44 : decode cX6_like 44 = .ok (.iinc 3 1, 3) := by decide +kernel
theorem dX6_like_47 : decode cX6_like 47 = .ok (.goto (-45), 3) := by decide +kernel
theorem dX6_like_50 : decode cX6_like 50 = .ok (.iload_n 3, 1) := by decide +kernel
theorem dX6_like_51 : decode cX6_like 51 = .ok (.ireturn, 1) := by decide +kernel
theorem dX6_likeWords_0 : decode cX6_likeWords 0 = .ok (.iconst 0, 1) := by decide +kernel
theorem dX6_likeWords_1 : decode cX6_likeWords 1 = .ok (.istore_n 3, 1) := by decide +kernel
theorem dX6_likeWords_2 : decode cX6_likeWords 2 = .ok (.iload_n 3, 1) := by decide +kernel
theorem dX6_likeWords_3 : decode cX6_likeWords 3 = .ok (.aload_n 0, 1) := by decide +kernel
theorem dX6_likeWords_4 : decode cX6_likeWords 4 = .ok (.getfield 26, 3) := by decide +kernel
theorem dX6_likeWords_7 : decode cX6_likeWords 7 = .ok (.iload_n 1, 1) := by decide +kernel
theorem dX6_likeWords_8 : decode cX6_likeWords 8 = .ok (.iaload, 1) := by decide +kernel
theorem dX6_likeWords_9 : decode cX6_likeWords 9 = .ok (.if_icmp .ge 44, 3) := by decide +kernel
theorem dX6_likeWords_12 : decode cX6_likeWords 12 = .ok (.iload_n 3, 1) := by decide +kernel
theorem dX6_likeWords_13 : decode cX6_likeWords 13 = .ok (.aload_n 0, 1) := by decide +kernel
theorem dX6_likeWords_14 : decode cX6_likeWords 14 = .ok (.getfield 26, 3) := by decide +kernel
theorem dX6_likeWords_17 : decode cX6_likeWords 17 = .ok (.iload_n 2, 1) := by decide +kernel
theorem dX6_likeWords_18 : decode cX6_likeWords 18 = .ok (.iaload, 1) := by decide +kernel
theorem dX6_likeWords_19 : decode cX6_likeWords 19 = .ok (.if_icmp .ge 34, 3) := by decide +kernel
theorem dX6_likeWords_22 : decode cX6_likeWords 22 = .ok (.aload_n 0, 1) := by decide +kernel
theorem dX6_likeWords_23 : decode cX6_likeWords 23 = .ok (.getfield 17, 3) := by decide +kernel
theorem dX6_likeWords_26 : decode cX6_likeWords 26 = .ok (.bipush 10, 2) := by decide +kernel
theorem dX6_likeWords_28 : decode cX6_likeWords 28 = .ok (.iload_n 1, 1) := by decide +kernel
theorem dX6_likeWords_29 : decode cX6_likeWords 29 = .ok (.imul, 1) := by decide +kernel
theorem dX6_likeWords_30 : decode cX6_likeWords 30 = .ok (.iload_n 3, 1) := by decide +kernel
theorem dX6_likeWords_31 : decode cX6_likeWords 31 = .ok (.iadd, 1) := by decide +kernel
theorem dX6_likeWords_32 : decode cX6_likeWords 32 = .ok (.caload, 1) := by decide +kernel
theorem dX6_likeWords_33 : decode cX6_likeWords 33 = .ok (.aload_n 0, 1) := by decide +kernel
theorem dX6_likeWords_34 : decode cX6_likeWords 34 = .ok (.getfield 17, 3) := by decide +kernel
theorem dX6_likeWords_37 : decode cX6_likeWords 37 = .ok (.bipush 10, 2) := by decide +kernel
theorem dX6_likeWords_39 : decode cX6_likeWords 39 = .ok (.iload_n 2, 1) := by decide +kernel
theorem dX6_likeWords_40 : decode cX6_likeWords 40 = .ok (.imul, 1) := by decide +kernel
theorem dX6_likeWords_41 : decode cX6_likeWords 41 = .ok (.iload_n 3, 1) := by decide +kernel
theorem dX6_likeWords_42 : decode cX6_likeWords 42 = .ok (.iadd, 1) := by decide +kernel
theorem dX6_likeWords_43 : decode cX6_likeWords 43 = .ok (.caload, 1) := by decide +kernel
theorem dX6_likeWords_44 : decode cX6_likeWords 44 = .ok (.if_icmp .ne 9, 3) := by decide +kernel
theorem dX6_likeWords_47 : decode cX6_likeWords 47 = .ok (.iinc 3 1, 3) := by decide +kernel
theorem dX6_likeWords_50 : decode cX6_likeWords 50 = .ok (.goto (-48), 3) := by decide +kernel
theorem dX6_likeWords_53 : decode cX6_likeWords 53 = .ok (.iload_n 3, 1) := by decide +kernel
theorem dX6_likeWords_54 : decode cX6_likeWords 54 = .ok (.ireturn, 1) := by decide +kernel
set_option maxRecDepth 20000 in
theorem ggX6_beside_X6_like : GoodIn wsX6_beside wsX6_like := goodIn_r _ [9, 1, 2, 3, 4, 10, 11, 12, 13, 14, 15, 16, 17, 18, 19, 20, 21, 22, 23] (by decide +kernel) (by decide +kernel)
set_option maxRecDepth 20000 in
theorem gX6_beside_X6_like : GoodIn wsX6_beside (wsV RX6 52 RX6 yX6_like wsX6_like) := goodIn_app (goodIn_of _ (by decide +kernel)) ggX6_beside_X6_like
theorem dX6_beside_0 : decode cX6_beside 0 = .ok (.aload_n 0, 1) := by decide +kernel
theorem dX6_beside_1 : decode cX6_beside 1 = .ok (.iload_n 1, 1) := by decide +kernel
theorem dX6_beside_2 : decode cX6_beside 2 = .ok (.iconst 0, 1) := by decide +kernel
theorem dX6_beside_3 : decode cX6_beside 3 = .ok (.invokevirtual 52, 3) := by decide +kernel
theorem dX6_beside_6 : decode cX6_beside 6 = .ok (.istore_n 2, 1) := by decide +kernel
theorem dX6_beside_7 : decode cX6_beside 7 = .ok (.iload_n 2, 1) := by decide +kernel
theorem dX6_beside_8 : decode cX6_beside 8 = .ok (.aload_n 0, 1) := by decide +kernel
theorem dX6_beside_9 : decode cX6_beside 9 = .ok (.getfield 26, 3) := by decide +kernel
theorem dX6_beside_12 : decode cX6_beside 12 = .ok (.iload_n 1, 1) := by decide +kernel
theorem dX6_beside_13 : decode cX6_beside 13 = .ok (.iaload, 1) := by decide +kernel
theorem dX6_beside_14 : decode cX6_beside 14 = .ok (.if_icmp .ne 17, 3) := by decide +kernel
theorem dX6_beside_17 : decode cX6_beside 17 = .ok (.iload_n 2, 1) := by decide +kernel
theorem dX6_beside_18 : decode cX6_beside 18 = .ok (.aload_n 0, 1) := by decide +kernel
theorem dX6_beside_19 : decode cX6_beside 19 = .ok (.getfield 49, 3) := by decide +kernel
theorem dX6_beside_22 : decode cX6_beside 22 = .ok (.if_icmp .ne 7, 3) := by decide +kernel
theorem dX6_beside_25 : decode cX6_beside 25 = .ok (.iconst 0, 1) := by decide +kernel
theorem dX6_beside_26 : decode cX6_beside 26 = .ok (.goto 4, 3) := by decide +kernel
theorem dX6_beside_29 : decode cX6_beside 29 = .ok (.iconst (-1), 1) := by decide +kernel
theorem dX6_beside_30 : decode cX6_beside 30 = .ok (.ireturn, 1) := by decide +kernel
theorem dX6_beside_31 : decode cX6_beside 31 = .ok (.iload_n 2, 1) := by decide +kernel
theorem dX6_beside_32 : decode cX6_beside 32 = .ok (.aload_n 0, 1) := by decide +kernel
theorem dX6_beside_33 : decode cX6_beside 33 = .ok (.getfield 49, 3) := by decide +kernel
theorem dX6_beside_36 : decode cX6_beside 36 = .ok (.if_icmp .ne 7, 3) := by decide +kernel
theorem dX6_beside_39 : decode cX6_beside 39 = .ok (.iconst 1, 1) := by decide +kernel
theorem dX6_beside_40 : decode cX6_beside 40 = .ok (.goto 21, 3) := by decide +kernel
theorem dX6_beside_43 : decode cX6_beside 43 = .ok (.aload_n 0, 1) := by decide +kernel
theorem dX6_beside_44 : decode cX6_beside 44 = .ok (.getfield 17, 3) := by decide +kernel
theorem dX6_beside_47 : decode cX6_beside 47 = .ok (.bipush 10, 2) := by decide +kernel
theorem dX6_beside_49 : decode cX6_beside 49 = .ok (.iload_n 1, 1) := by decide +kernel
theorem dX6_beside_50 : decode cX6_beside 50 = .ok (.imul, 1) := by decide +kernel
theorem dX6_beside_51 : decode cX6_beside 51 = .ok (.iload_n 2, 1) := by decide +kernel
theorem dX6_beside_52 : decode cX6_beside 52 = .ok (.iadd, 1) := by decide +kernel
theorem dX6_beside_53 : decode cX6_beside 53 = .ok (.caload, 1) := by decide +kernel
theorem dX6_beside_54 : decode cX6_beside 54 = .ok (.aload_n 0, 1) := by decide +kernel
theorem dX6_beside_55 : decode cX6_beside 55 = .ok (.getfield 13, 3) := by decide +kernel
theorem dX6_beside_58 : decode cX6_beside 58 = .ok (.iload_n 2, 1) := by decide +kernel
theorem dX6_beside_59 : decode cX6_beside 59 = .ok (.caload, 1) := by decide +kernel
theorem dX6_beside_60 : decode cX6_beside 60 = .ok (.isub, 1) := by decide +kernel
theorem dX6_beside_61 : decode cX6_beside 61 = .ok (.ireturn, 1) := by decide +kernel
set_option maxRecDepth 20000 in
theorem ggX6_isLess_X6_likeWords : GoodIn wsX6_isLess wsX6_likeWords := goodIn_r _ [7, 1, 2, 8, 9, 10, 11, 12, 13, 14, 15, 16, 17, 18, 19, 20, 21] (by decide +kernel) (by decide +kernel)
set_option maxRecDepth 20000 in
theorem gX6_isLess_X6_likeWords : GoodIn wsX6_isLess (wsV RX6 56 RX6 yX6_likeWords wsX6_likeWords) := goodIn_app (goodIn_of _ (by decide +kernel)) ggX6_isLess_X6_likeWords
theorem dX6_isLess_0 : decode cX6_isLess 0 = .ok (.aload_n 0, 1) := by decide +kernel
theorem dX6_isLess_1 : decode cX6_isLess 1 = .ok (.iload_n 1, 1) := by decide +kernel
theorem dX6_isLess_2 : decode cX6_isLess 2 = .ok (.iload_n 2, 1) := by decide +kernel
theorem dX6_isLess_3 : decode cX6_isLess 3 = .ok (.invokevirtual 56, 3) := by decide +kernel
theorem dX6_isLess_6 : decode cX6_isLess 6 = .ok (.istore_n 3, 1) := by decide +kernel
theorem dX6_isLess_7 : decode cX6_isLess 7 = .ok (.iload_n 3, 1) := by decide +kernel
theorem dX6_isLess_8 : decode cX6_isLess 8 = .ok (.aload_n 0, 1) := by decide +kernel
theorem dX6_isLess_9 : decode cX6_isLess 9 = .ok (.getfield 26, 3) := by decide +kernel
theorem dX6_isLess_12 : decode cX6_isLess 12 = .ok (.iload_n 2, 1) := by decide +kernel
theorem dX6_isLess_13 : decode cX6_isLess 13 = .ok (.iaload, 1) := by decide +kernel
theorem dX6_isLess_14 : decode cX6_isLess 14 = .ok (.if_icmp .ne 5, 3) := by decide +kernel
theorem dX6_isLess_17 : decode cX6_isLess 17 = .ok (.iconst 0, 1) := by decide +kernel
theorem dX6_isLess_18 : decode cX6_isLess 18 = .ok (.ireturn, 1) := by decide +kernel
theorem dX6_isLess_19 : decode cX6_isLess 19 = .ok (.iload_n 3, 1) := by decide +kernel
theorem dX6_isLess_20 : decode cX6_isLess 20 = .ok (.aload_n 0, 1) := by decide +kernel
theorem dX6_isLess_21 : decode cX6_isLess 21 = .ok (.getfield 26, 3) := by decide +kernel
theorem dX6_isLess_24 : decode cX6_isLess 24 = .ok (.iload_n 1, 1) := by decide +kernel
theorem dX6_isLess_25 : decode cX6_isLess 25 = .ok (.iaload, 1) := by decide +kernel
theorem dX6_isLess_26 : decode cX6_isLess 26 = .ok (.if_icmp .eq 28, 3) := by decide +kernel
theorem dX6_isLess_29 : decode cX6_isLess 29 = .ok (.aload_n 0, 1) := by decide +kernel
theorem dX6_isLess_30 : decode cX6_isLess 30 = .ok (.getfield 17, 3) := by decide +kernel
theorem dX6_isLess_33 : decode cX6_isLess 33 = .ok (.bipush 10, 2) := by decide +kernel
theorem dX6_isLess_35 : decode cX6_isLess 35 = .ok (.iload_n 1, 1) := by decide +kernel
theorem dX6_isLess_36 : decode cX6_isLess 36 = .ok (.imul, 1) := by decide +kernel
theorem dX6_isLess_37 : decode cX6_isLess 37 = .ok (.iload_n 3, 1) := by decide +kernel
theorem dX6_isLess_38 : decode cX6_isLess 38 = .ok (.iadd, 1) := by decide +kernel
theorem dX6_isLess_39 : decode cX6_isLess 39 = .ok (.caload, 1) := by decide +kernel
theorem dX6_isLess_40 : decode cX6_isLess 40 = .ok (.aload_n 0, 1) := by decide +kernel
theorem dX6_isLess_41 : decode cX6_isLess 41 = .ok (.getfield 17, 3) := by decide +kernel
theorem dX6_isLess_44 : decode cX6_isLess 44 = .ok (.bipush 10, 2) := by decide +kernel
theorem dX6_isLess_46 : decode cX6_isLess 46 = .ok (.iload_n 2, 1) := by decide +kernel
theorem dX6_isLess_47 : decode cX6_isLess 47 = .ok (.imul, 1) := by decide +kernel
theorem dX6_isLess_48 : decode cX6_isLess 48 = .ok (.iload_n 3, 1) := by decide +kernel
theorem dX6_isLess_49 : decode cX6_isLess 49 = .ok (.iadd, 1) := by decide +kernel
theorem dX6_isLess_50 : decode cX6_isLess 50 = .ok (.caload, 1) := by decide +kernel
theorem dX6_isLess_51 : decode cX6_isLess 51 = .ok (.if_icmp .ge 7, 3) := by decide +kernel
theorem dX6_isLess_54 : decode cX6_isLess 54 = .ok (.iconst 1, 1) := by decide +kernel
theorem dX6_isLess_55 : decode cX6_isLess 55 = .ok (.goto 4, 3) := by decide +kernel
theorem dX6_isLess_58 : decode cX6_isLess 58 = .ok (.iconst 0, 1) := by decide +kernel
theorem dX6_isLess_59 : decode cX6_isLess 59 = .ok (.ireturn, 1) := by decide +kernel
set_option maxRecDepth 20000 in
theorem ggX6_isBegun_X6_like : GoodIn wsX6_isBegun wsX6_like := goodIn_r _ [6, 7, 1, 8, 9, 10, 11, 12, 13, 14, 15, 16, 17, 18, 19, 20, 21, 22, 23] (by decide +kernel) (by decide +kernel)
set_option maxRecDepth 20000 in
theorem gX6_isBegun_X6_like : GoodIn wsX6_isBegun (wsV RX6 52 RX6 yX6_like wsX6_like) := goodIn_app (goodIn_of _ (by decide +kernel)) ggX6_isBegun_X6_like
theorem dX6_isBegun_0 : decode cX6_isBegun 0 = .ok (.aload_n 0, 1) := by decide +kernel
theorem dX6_isBegun_1 : decode cX6_isBegun 1 = .ok (.iload_n 1, 1) := by decide +kernel
theorem dX6_isBegun_2 : decode cX6_isBegun 2 = .ok (.iconst 0, 1) := by decide +kernel
theorem dX6_isBegun_3 : decode cX6_isBegun 3 = .ok (.invokevirtual 52, 3) := by decide +kernel
theorem dX6_isBegun_6 : decode cX6_isBegun 6 = .ok (.aload_n 0, 1) := by decide +kernel
theorem dX6_isBegun_7 : decode cX6_isBegun 7 = .ok (.getfield 49, 3) := by decide +kernel
theorem dX6_isBegun_10 : decode cX6_isBegun 10 = .ok (.if_icmp .ne 7, 3) := by decide +kernel
theorem dX6_isBegun_13 : decode cX6_isBegun 13 = .ok (.iconst 1, 1) := by decide +kernel
theorem dX6_isBegun_14 : decode cX6_isBegun 14 = .ok (.goto 4, 3) := by decide +kernel
theorem dX6_isBegun_17 : decode cX6_isBegun 17 = .ok (.iconst 0, 1) := by decide +kernel
theorem dX6_isBegun_18 : decode cX6_isBegun 18 = .ok (.ireturn, 1) := by decide +kernel
set_option maxRecDepth 20000 in
theorem ggX6_own_X6_beside : GoodIn wsX6_own wsX6_beside := goodIn_r _ [6, 7, 8, 9, 10, 11, 12, 13, 5, 14, 15, 16, 17, 18, 19, 20, 21, 22, 23, 24, 25, 26, 27, 28] (by decide +kernel) (by decide +kernel)
set_option maxRecDepth 20000 in
theorem gX6_own_X6_beside : GoodIn wsX6_own (wsV RX6 62 RX6 yX6_beside wsX6_beside) := goodIn_app (goodIn_of _ (by decide +kernel)) ggX6_own_X6_beside
theorem dX6_own_0 : decode cX6_own 0 = .ok (.iconst 0, 1) := by decide +kernel
theorem dX6_own_1 : decode cX6_own 1 = .ok (.istore_n 1, 1) := by decide +kernel
theorem dX6_own_2 : decode cX6_own 2 = .ok (.iload_n 1, 1) := by decide +kernel
theorem dX6_own_3 : decode cX6_own 3 = .ok (.aload_n 0, 1) := by decide +kernel
theorem dX6_own_4 : decode cX6_own 4 = .ok (.getfield 59, 3) := by decide +kernel
theorem dX6_own_7 : decode cX6_own 7 = .ok (.if_icmp .ge 19, 3) := by decide +kernel
theorem dX6_own_10 : decode cX6_own 10 = .ok (.aload_n 0, 1) := by decide +kernel
theorem dX6_own_11 : decode cX6_own 11 = .ok (.iload_n 1, 1) := by decide +kernel
theorem dX6_own_12 : decode cX6_own 12 = .ok (.invokevirtual 62, 3) := by decide +kernel
theorem dX6_own_15 : decode cX6_own 15 = .ok (.ifCond .ne 5, 3) := by decide +kernel
theorem dX6_own_18 : decode cX6_own 18 = .ok (.iload_n 1, 1) := by decide +kernel
theorem dX6_own_19 : decode cX6_own 19 = .ok (.ireturn, 1) := by decide +kernel
theorem dX6_own_20 : decode cX6_own 20 = .ok (.iinc 1 1, 3) := by decide +kernel
theorem dX6_own_23 : decode cX6_own 23 = .ok (.goto (-21), 3) := by decide +kernel
theorem dX6_own_26 : decode cX6_own 26 = .ok (.iconst (-1), 1) := by decide +kernel
theorem dX6_own_27 : decode cX6_own 27 = .ok (.ireturn, 1) := by decide +kernel
set_option maxRecDepth 20000 in
theorem ggX6_rankOf_X6_isLess : GoodIn wsX6_rankOf wsX6_isLess := goodIn_r _ [6, 7, 8, 9, 10, 11, 5, 12, 13, 14, 15, 16, 17, 18, 19, 20, 21, 22, 23, 24, 25, 26] (by decide +kernel) (by decide +kernel)
set_option maxRecDepth 20000 in
theorem gX6_rankOf_X6_isLess : GoodIn wsX6_rankOf (wsV RX6 66 RX6 yX6_isLess wsX6_isLess) := goodIn_app (goodIn_of _ (by decide +kernel)) ggX6_rankOf_X6_isLess
theorem dX6_rankOf_0 : decode cX6_rankOf 0 = .ok (.iconst 0, 1) := by decide +kernel
theorem dX6_rankOf_1 : decode cX6_rankOf 1 = .ok (.istore_n 2, 1) := by decide +kernel
theorem dX6_rankOf_2 : decode cX6_rankOf 2 = .ok (.iconst 0, 1) := by decide +kernel
theorem dX6_rankOf_3 : decode cX6_rankOf 3 = .ok (.istore_n 3, 1) := by decide +kernel
theorem dX6_rankOf_4 : decode cX6_rankOf 4 = .ok (.iload_n 3, 1) := by decide +kernel
theorem dX6_rankOf_5 : decode cX6_rankOf 5 = .ok (.aload_n 0, 1) := by decide +kernel
theorem dX6_rankOf_6 : decode cX6_rankOf 6 = .ok (.getfield 59, 3) := by decide +kernel
theorem dX6_rankOf_9 : decode cX6_rankOf 9 = .ok (.if_icmp .ge 21, 3) := by decide +kernel
theorem dX6_rankOf_12 : decode cX6_rankOf 12 = .ok (.aload_n 0, 1) := by decide +kernel
theorem dX6_rankOf_13 : decode cX6_rankOf 13 = .ok (.iload_n 3, 1) := by decide +kernel
theorem dX6_rankOf_14 : decode cX6_rankOf 14 = .ok (.iload_n 1, 1) := by decide +kernel
theorem dX6_rankOf_15 : decode cX6_rankOf 15 = .ok (.invokevirtual 66, 3) := by decide +kernel
theorem dX6_rankOf_18 : decode cX6_rankOf 18 = .ok (.ifCond .eq 6, 3) := by decide +kernel
theorem dX6_rankOf_21 : decode cX6_rankOf 21 = .ok (.iinc 2 1, 3) := by decide +kernel
theorem dX6_rankOf_24 : decode cX6_rankOf 24 = .ok (.iinc 3 1, 3) := by decide +kernel
theorem dX6_rankOf_27 : decode cX6_rankOf 27 = .ok (.goto (-23), 3) := by decide +kernel
theorem dX6_rankOf_30 : decode cX6_rankOf 30 = .ok (.iload_n 2, 1) := by decide +kernel
theorem dX6_rankOf_31 : decode cX6_rankOf 31 = .ok (.ireturn, 1) := by decide +kernel
set_option maxRecDepth 20000 in
theorem ggX6_orders_X6_rankOf : GoodIn wsX6_orders wsX6_rankOf := goodIn_r _ [8, 1, 9, 10, 11, 7, 12, 13, 14, 15, 16, 17, 18, 19, 20, 21, 22, 23, 24, 25, 26, 27, 28, 29, 30, 31, 32] (by decide +kernel) (by decide +kernel)
set_option maxRecDepth 20000 in
theorem gX6_orders_X6_rankOf : GoodIn wsX6_orders (wsV RX6 70 RX6 yX6_rankOf wsX6_rankOf) := goodIn_app (goodIn_of _ (by decide +kernel)) ggX6_orders_X6_rankOf
theorem dX6_orders_0 : decode cX6_orders 0 = .ok (.iconst 0, 1) := by decide +kernel
theorem dX6_orders_1 : decode cX6_orders 1 = .ok (.istore_n 1, 1) := by decide +kernel
theorem dX6_orders_2 : decode cX6_orders 2 = .ok (.iload_n 1, 1) := by decide +kernel
theorem dX6_orders_3 : decode cX6_orders 3 = .ok (.aload_n 0, 1) := by decide +kernel
theorem dX6_orders_4 : decode cX6_orders 4 = .ok (.getfield 59, 3) := by decide +kernel
theorem dX6_orders_7 : decode cX6_orders 7 = .ok (.if_icmp .ge 32, 3) := by decide +kernel
theorem dX6_orders_10 : decode cX6_orders 10 = .ok (.aload_n 0, 1) := by decide +kernel
theorem dX6_orders_11 : decode cX6_orders 11 = .ok (.getfield 39, 3) := by decide +kernel
theorem dX6_orders_14 : decode cX6_orders 14 = .ok (.iload_n 1, 1) := by decide +kernel
theorem dX6_orders_15 : decode cX6_orders 15 = .ok (.aload_n 0, 1) := by decide +kernel
theorem dX6_orders_16 : decode cX6_orders 16 = .ok (.iload_n 1, 1) := by decide +kernel
theorem dX6_orders_17 : decode cX6_orders 17 = .ok (.invokevirtual 70, 3) := by decide +kernel
theorem dX6_orders_20 : decode cX6_orders 20 = .ok (.iastore, 1) := by decide +kernel
theorem dX6_orders_21 : decode cX6_orders 21 = .ok (.aload_n 0, 1) := by decide +kernel
theorem dX6_orders_22 : decode cX6_orders 22 = .ok (.getfield 36, 3) := by decide +kernel
theorem dX6_orders_25 : decode cX6_orders 25 = .ok (.aload_n 0, 1) := by decide +kernel
theorem dX6_orders_26 : decode cX6_orders 26 = .ok (.getfield 39, 3) := by decide +kernel
theorem dX6_orders_29 : decode cX6_orders 29 = .ok (.iload_n 1, 1) := by decide +kernel
theorem dX6_orders_30 : decode cX6_orders 30 = .ok (.iaload, 1) := by decide +kernel
theorem dX6_orders_31 : decode cX6_orders 31 = .ok (.iload_n 1, 1) := by decide +kernel
theorem dX6_orders_32 : decode cX6_orders 32 = .ok (.iastore, 1) := by decide +kernel
theorem dX6_orders_33 : decode cX6_orders 33 = .ok (.iinc 1 1, 3) := by decide +kernel
theorem dX6_orders_36 : decode cX6_orders 36 = .ok (.goto (-34), 3) := by decide +kernel
theorem dX6_orders_39 : decode cX6_orders 39 = .ok (.return_, 1) := by decide +kernel
theorem dX6_becomes_0 : decode cX6_becomes 0 = .ok (.aload_n 0, 1) := by decide +kernel
theorem dX6_becomes_1 : decode cX6_becomes 1 = .ok (.aload_n 0, 1) := by decide +kernel
theorem dX6_becomes_2 : decode cX6_becomes 2 = .ok (.getfield 26, 3) := by decide +kernel
theorem dX6_becomes_5 : decode cX6_becomes 5 = .ok (.iload_n 1, 1) := by decide +kernel
theorem dX6_becomes_6 : decode cX6_becomes 6 = .ok (.iaload, 1) := by decide +kernel
theorem dX6_becomes_7 : decode cX6_becomes 7 = .ok (.putfield 49, 3) := by decide +kernel
theorem dX6_becomes_10 : decode cX6_becomes 10 = .ok (.iconst 0, 1) := by decide +kernel
theorem dX6_becomes_11 : decode cX6_becomes 11 = .ok (.istore_n 2, 1) := by decide +kernel
theorem dX6_becomes_12 : decode cX6_becomes 12 = .ok (.iload_n 2, 1) := by decide +kernel
theorem dX6_becomes_13 : decode cX6_becomes 13 = .ok (.aload_n 0, 1) := by decide +kernel
theorem dX6_becomes_14 : decode cX6_becomes 14 = .ok (.getfield 49, 3) := by decide +kernel
theorem dX6_becomes_17 : decode cX6_becomes 17 = .ok (.if_icmp .ge 26, 3) := by decide +kernel
theorem dX6_becomes_20 : decode cX6_becomes 20 = .ok (.aload_n 0, 1) := by decide +kernel
theorem dX6_becomes_21 : decode cX6_becomes 21 = .ok (.getfield 13, 3) := by decide +kernel
theorem dX6_becomes_24 : decode cX6_becomes 24 = .ok (.iload_n 2, 1) := by decide +kernel
theorem dX6_becomes_25 : decode cX6_becomes 25 = .ok (.aload_n 0, 1) := by decide +kernel
theorem dX6_becomes_26 : decode cX6_becomes 26 = .ok (.getfield 17, 3) := by decide +kernel
theorem dX6_becomes_29 : decode cX6_becomes 29 = .ok (.bipush 10, 2) := by decide +kernel
theorem dX6_becomes_31 : decode cX6_becomes 31 = .ok (.iload_n 1, 1) := by decide +kernel
theorem dX6_becomes_32 : decode cX6_becomes 32 = .ok (.imul, 1) := by decide +kernel
theorem dX6_becomes_33 : decode cX6_becomes 33 = .ok (.iload_n 2, 1) := by decide +kernel
theorem dX6_becomes_34 : decode cX6_becomes 34 = .ok (.iadd, 1) := by decide +kernel
theorem dX6_becomes_35 : decode cX6_becomes 35 = .ok (.caload, 1) := by decide +kernel
theorem dX6_becomes_36 : decode cX6_becomes 36 = .ok (.castore, 1) := by decide +kernel
theorem dX6_becomes_37 : decode cX6_becomes 37 = .ok (.iinc 2 1, 3) := by decide +kernel
theorem dX6_becomes_40 : decode cX6_becomes 40 = .ok (.goto (-28), 3) := by decide +kernel
theorem dX6_becomes_43 : decode cX6_becomes 43 = .ok (.return_, 1) := by decide +kernel
theorem dX6_goes_0 : decode cX6_goes 0 = .ok (.aload_n 0, 1) := by decide +kernel
theorem dX6_goes_1 : decode cX6_goes 1 = .ok (.dup, 1) := by decide +kernel
theorem dX6_goes_2 : decode cX6_goes 2 = .ok (.getfield 59, 3) := by decide +kernel
theorem dX6_goes_5 : decode cX6_goes 5 = .ok (.iconst 1, 1) := by decide +kernel
theorem dX6_goes_6 : decode cX6_goes 6 = .ok (.isub, 1) := by decide +kernel
theorem dX6_goes_7 : decode cX6_goes 7 = .ok (.putfield 59, 3) := by decide +kernel
theorem dX6_goes_10 : decode cX6_goes 10 = .ok (.aload_n 0, 1) := by decide +kernel
theorem dX6_goes_11 : decode cX6_goes 11 = .ok (.getfield 26, 3) := by decide +kernel
theorem dX6_goes_14 : decode cX6_goes 14 = .ok (.iload_n 1, 1) := by decide +kernel
theorem dX6_goes_15 : decode cX6_goes 15 = .ok (.aload_n 0, 1) := by decide +kernel
theorem dX6_goes_16 : decode cX6_goes 16 = .ok (.getfield 26, 3) := by decide +kernel
theorem dX6_goes_19 : decode cX6_goes 19 = .ok (.aload_n 0, 1) := by decide +kernel
theorem dX6_goes_20 : decode cX6_goes 20 = .ok (.getfield 59, 3) := by decide +kernel
theorem dX6_goes_23 : decode cX6_goes 23 = .ok (.iaload, 1) := by decide +kernel
theorem dX6_goes_24 : decode cX6_goes 24 = .ok (.iastore, 1) := by decide +kernel
theorem dX6_goes_25 : decode cX6_goes 25 = .ok (.aload_n 0, 1) := by decide +kernel
theorem dX6_goes_26 : decode cX6_goes 26 = .ok (.getfield 30, 3) := by decide +kernel
theorem dX6_goes_29 : decode cX6_goes 29 = .ok (.iload_n 1, 1) := by decide +kernel
theorem dX6_goes_30 : decode cX6_goes 30 = .ok (.aload_n 0, 1) := by decide +kernel
theorem dX6_goes_31 : decode cX6_goes 31 = .ok (.getfield 30, 3) := by decide +kernel
theorem dX6_goes_34 : decode cX6_goes 34 = .ok (.aload_n 0, 1) := by decide +kernel
theorem dX6_goes_35 : decode cX6_goes 35 = .ok (.getfield 59, 3) := by decide +kernel
theorem dX6_goes_38 : decode cX6_goes 38 = .ok (.iaload, 1) := by decide +kernel
theorem dX6_goes_39 : decode cX6_goes 39 = .ok (.iastore, 1) := by decide +kernel
theorem dX6_goes_40 : decode cX6_goes 40 = .ok (.iconst 0, 1) := by decide +kernel
theorem dX6_goes_41 : decode cX6_goes 41 = .ok (.istore_n 2, 1) := by decide +kernel
theorem dX6_goes_42 : decode cX6_goes 42 = .ok (.iload_n 2, 1) := by decide +kernel
theorem dX6_goes_43 : decode cX6_goes 43 = .ok (.bipush 10, 2) := by decide +kernel
theorem dX6_goes_45 : decode cX6_goes 45 = .ok (.if_icmp .ge 34, 3) := by decide +kernel
theorem dX6_goes_48 : decode cX6_goes 48 = .ok (.aload_n 0, 1) := by decide +kernel
theorem dX6_goes_49 : decode cX6_goes 49 = .ok (.getfield 17, 3) := by decide +kernel
theorem dX6_goes_52 : decode cX6_goes 52 = .ok (.bipush 10, 2) := by decide +kernel
theorem dX6_goes_54 : decode cX6_goes 54 = .ok (.iload_n 1, 1) := by decide +kernel
theorem dX6_goes_55 : decode cX6_goes 55 = .ok (.imul, 1) := by decide +kernel
theorem dX6_goes_56 : decode cX6_goes 56 = .ok (.iload_n 2, 1) := by decide +kernel
theorem dX6_goes_57 : decode cX6_goes 57 = .ok (.iadd, 1) := by decide +kernel
theorem dX6_goes_58 : decode cX6_goes 58 = .ok (.aload_n 0, 1) := by decide +kernel
theorem dX6_goes_59 : decode cX6_goes 59 = .ok (.getfield 17, 3) := by decide +kernel
theorem dX6_goes_62 : decode cX6_goes 62 = .ok (.bipush 10, 2) := by decide +kernel
theorem dX6_goes_64 : decode cX6_goes 64 = .ok (.aload_n 0, 1) := by decide +kernel
theorem dX6_goes_65 : decode cX6_goes 65 = .ok (.getfield 59, 3) := by decide +kernel
theorem dX6_goes_68 : decode cX6_goes 68 = .ok (.imul, 1) := by decide +kernel
theorem dX6_goes_69 : decode cX6_goes 69 = .ok (.iload_n 2, 1) := by decide +kernel
theorem dX6_goes_70 : decode cX6_goes 70 = .ok (.iadd, 1) := by decide +kernel
theorem dX6_goes_71 : decode cX6_goes 71 = .ok (.caload, 1) := by decide +kernel
theorem dX6_goes_72 : decode cX6_goes 72 = .ok (.castore, 1) := by decide +kernel
theorem dX6_goes_73 : decode cX6_goes 73 = .ok (.iinc 2 1, 3) := by decide +kernel
theorem dX6_goes_76 : decode cX6_goes 76 = .ok (.goto (-34), 3) := by decide +kernel
theorem dX6_goes_79 : decode cX6_goes 79 = .ok (.return_, 1) := by decide +kernel
set_option maxRecDepth 20000 in
theorem ggX6_type_X6_isSign : GoodIn wsX6_type wsX6_isSign := goodIn_r _ [6] (by decide +kernel) (by decide +kernel)
set_option maxRecDepth 20000 in
theorem gX6_type_X6_isSign : GoodIn wsX6_type (va_wsS RX6 73 yX6_isSign wsX6_isSign) := goodIn_app (goodIn_of _ (by decide +kernel)) ggX6_type_X6_isSign
set_option maxRecDepth 20000 in
theorem ggX6_type_X6_fails : GoodIn wsX6_type wsX6_fails := goodIn_r _ [10, 11, 12, 13, 14, 15, 16, 17, 18, 19, 20, 21, 22, 23, 24, 25] (by decide +kernel) (by decide +kernel)
set_option maxRecDepth 20000 in
theorem gX6_type_X6_fails : GoodIn wsX6_type (wsV RX6 77 RX6 yX6_fails wsX6_fails) := goodIn_app (goodIn_of _ (by decide +kernel)) ggX6_type_X6_fails
theorem dX6_type_0 : decode cX6_type 0 = .ok (.aload_n 0, 1) := by decide +kernel
theorem dX6_type_1 : decode cX6_type 1 = .ok (.iload_n 1, 1) := by decide +kernel
theorem dX6_type_2 : decode cX6_type 2 = .ok (.invokestatic 73, 3) := by decide +kernel
theorem dX6_type_5 : decode cX6_type 5 = .ok (.ifCond .ne 7, 3) := by decide +kernel
theorem dX6_type_8 : decode cX6_type 8 = .ok (.iconst 1, 1) := by decide +kernel
theorem dX6_type_9 : decode cX6_type 9 = .ok (.goto 17, 3) := by decide +kernel
theorem dX6_type_12 : decode cX6_type 12 = .ok (.aload_n 0, 1) := by decide +kernel
theorem dX6_type_13 : decode cX6_type 13 = .ok (.getfield 49, 3) := by decide +kernel
theorem dX6_type_16 : decode cX6_type 16 = .ok (.bipush 24, 2) := by decide +kernel
theorem dX6_type_18 : decode cX6_type 18 = .ok (.if_icmp .ne 7, 3) := by decide +kernel
theorem dX6_type_21 : decode cX6_type 21 = .ok (.iconst 2, 1) := by decide +kernel
theorem dX6_type_22 : decode cX6_type 22 = .ok (.goto 4, 3) := by decide +kernel
theorem dX6_type_25 : decode cX6_type 25 = .ok (.iconst 0, 1) := by decide +kernel
theorem dX6_type_26 : decode cX6_type 26 = .ok (.invokevirtual 77, 3) := by decide +kernel
theorem dX6_type_29 : decode cX6_type 29 = .ok (.ifCond .eq 5, 3) := by decide +kernel
theorem dX6_type_32 : decode cX6_type 32 = .ok (.iconst 0, 1) := by decide +kernel
theorem dX6_type_33 : decode cX6_type 33 = .ok (.ireturn, 1) := by decide +kernel
theorem dX6_type_34 : decode cX6_type 34 = .ok (.aload_n 0, 1) := by decide +kernel
theorem dX6_type_35 : decode cX6_type 35 = .ok (.getfield 13, 3) := by decide +kernel
theorem dX6_type_38 : decode cX6_type 38 = .ok (.aload_n 0, 1) := by decide +kernel
theorem dX6_type_39 : decode cX6_type 39 = .ok (.getfield 49, 3) := by decide +kernel
theorem dX6_type_42 : decode cX6_type 42 = .ok (.iload_n 1, 1) := by decide +kernel
theorem dX6_type_43 : decode cX6_type 43 = .ok (.castore, 1) := by decide +kernel
theorem dX6_type_44 : decode cX6_type 44 = .ok (.aload_n 0, 1) := by decide +kernel
theorem dX6_type_45 : decode cX6_type 45 = .ok (.dup, 1) := by decide +kernel
theorem dX6_type_46 : decode cX6_type 46 = .ok (.getfield 49, 3) := by decide +kernel
theorem dX6_type_49 : decode cX6_type 49 = .ok (.iconst 1, 1) := by decide +kernel
theorem dX6_type_50 : decode cX6_type 50 = .ok (.iadd, 1) := by decide +kernel
theorem dX6_type_51 : decode cX6_type 51 = .ok (.putfield 49, 3) := by decide +kernel
theorem dX6_type_54 : decode cX6_type 54 = .ok (.aload_n 0, 1) := by decide +kernel
theorem dX6_type_55 : decode cX6_type 55 = .ok (.getfield 49, 3) := by decide +kernel
theorem dX6_type_58 : decode cX6_type 58 = .ok (.ireturn, 1) := by decide +kernel
set_option maxRecDepth 20000 in
theorem ggX6_typeMore_X6_in : GoodIn wsX6_typeMore wsX6_in := goodIn_r _ [7] (by decide +kernel) (by decide +kernel)
set_option maxRecDepth 20000 in
theorem gX6_typeMore_X6_in : GoodIn wsX6_typeMore (va_wsS RX6 81 yX6_in wsX6_in) := goodIn_app (goodIn_of _ (by decide +kernel)) ggX6_typeMore_X6_in
set_option maxRecDepth 20000 in
theorem ggX6_typeMore_X6_fails : GoodIn wsX6_typeMore wsX6_fails := goodIn_r _ [11, 12, 13, 14, 15, 16, 17, 18, 19, 20, 21, 22, 23, 24, 25, 26] (by decide +kernel) (by decide +kernel)
set_option maxRecDepth 20000 in
theorem gX6_typeMore_X6_fails : GoodIn wsX6_typeMore (wsV RX6 77 RX6 yX6_fails wsX6_fails) := goodIn_app (goodIn_of _ (by decide +kernel)) ggX6_typeMore_X6_fails
theorem dX6_typeMore_0 : decode cX6_typeMore 0 = .ok (.aload_n 0, 1) := by decide +kernel
theorem dX6_typeMore_1 : decode cX6_typeMore 1 = .ok (.iload_n 1, 1) := by decide +kernel
theorem dX6_typeMore_2 : decode cX6_typeMore 2 = .ok (.iconst 1, 1) := by decide +kernel
theorem dX6_typeMore_3 : decode cX6_typeMore 3 = .ok (.bipush 8, 2) := by decide +kernel
theorem dX6_typeMore_5 : decode cX6_typeMore 5 = .ok (.invokestatic 81, 3) := by decide +kernel
theorem dX6_typeMore_8 : decode cX6_typeMore 8 = .ok (.ifCond .eq 13, 3) := by decide +kernel
theorem dX6_typeMore_11 : decode cX6_typeMore 11 = .ok (.iload_n 2, 1) := by decide +kernel
theorem dX6_typeMore_12 : decode cX6_typeMore 12 = .ok (.iconst 0, 1) := by decide +kernel
theorem dX6_typeMore_13 : decode cX6_typeMore 13 = .ok (.ldc 85, 2) := by decide +kernel
theorem dX6_typeMore_15 : decode cX6_typeMore 15 = .ok (.invokestatic 81, 3) := by decide +kernel
theorem dX6_typeMore_18 : decode cX6_typeMore 18 = .ok (.ifCond .ne 7, 3) := by decide +kernel
theorem dX6_typeMore_21 : decode cX6_typeMore 21 = .ok (.iconst 1, 1) := by decide +kernel
theorem dX6_typeMore_22 : decode cX6_typeMore 22 = .ok (.goto 19, 3) := by decide +kernel
theorem dX6_typeMore_25 : decode cX6_typeMore 25 = .ok (.aload_n 0, 1) := by decide +kernel
theorem dX6_typeMore_26 : decode cX6_typeMore 26 = .ok (.getfield 49, 3) := by decide +kernel
theorem dX6_typeMore_29 : decode cX6_typeMore 29 = .ok (.iload_n 1, 1) := by decide +kernel
theorem dX6_typeMore_30 : decode cX6_typeMore 30 = .ok (.iadd, 1) := by decide +kernel
theorem dX6_typeMore_31 : decode cX6_typeMore 31 = .ok (.bipush 24, 2) := by decide +kernel
theorem dX6_typeMore_33 : decode cX6_typeMore 33 = .ok (.if_icmp .le 7, 3) := by decide +kernel
theorem dX6_typeMore_36 : decode cX6_typeMore 36 = .ok (.iconst 2, 1) := by decide +kernel
theorem dX6_typeMore_37 : decode cX6_typeMore 37 = .ok (.goto 4, 3) := by decide +kernel
theorem dX6_typeMore_40 : decode cX6_typeMore 40 = .ok (.iconst 0, 1) := by decide +kernel
theorem dX6_typeMore_41 : decode cX6_typeMore 41 = .ok (.invokevirtual 77, 3) := by decide +kernel
theorem dX6_typeMore_44 : decode cX6_typeMore 44 = .ok (.ifCond .eq 5, 3) := by decide +kernel
theorem dX6_typeMore_47 : decode cX6_typeMore 47 = .ok (.iconst 0, 1) := by decide +kernel
theorem dX6_typeMore_48 : decode cX6_typeMore 48 = .ok (.ireturn, 1) := by decide +kernel
theorem dX6_typeMore_49 : decode cX6_typeMore 49 = .ok (.iload_n 2, 1) := by decide +kernel
theorem dX6_typeMore_50 : decode cX6_typeMore 50 = .ok (.istore_n 3, 1) := by decide +kernel
theorem dX6_typeMore_51 : decode cX6_typeMore 51 = .ok (.iconst 0, 1) := by decide +kernel
theorem dX6_typeMore_52 : decode cX6_typeMore 52 = .ok (.istore 4, 2) := by decide +kernel
theorem dX6_typeMore_54 : decode cX6_typeMore 54 = .ok (.iload 4, 2) := by decide +kernel
theorem dX6_typeMore_56 : decode cX6_typeMore 56 = .ok (.iload_n 1, 1) := by decide +kernel
theorem dX6_typeMore_57 : decode cX6_typeMore 57 = .ok (.if_icmp .ge 41, 3) := by decide +kernel
theorem dX6_typeMore_60 : decode cX6_typeMore 60 = .ok (.aload_n 0, 1) := by decide +kernel
theorem dX6_typeMore_61 : decode cX6_typeMore 61 = .ok (.getfield 13, 3) := by decide +kernel
theorem dX6_typeMore_64 : decode cX6_typeMore 64 = .ok (.aload_n 0, 1) := by decide +kernel
theorem dX6_typeMore_65 : decode cX6_typeMore 65 = .ok (.getfield 49, 3) := by decide +kernel
theorem dX6_typeMore_68 : decode cX6_typeMore 68 = .ok (.bipush 97, 2) := by decide +kernel
theorem dX6_typeMore_70 : decode cX6_typeMore 70 = .ok (.iload_n 3, 1) := by decide +kernel
theorem dX6_typeMore_71 : decode cX6_typeMore 71 = .ok (.bipush 6, 2) := by decide +kernel
theorem dX6_typeMore_73 : decode cX6_typeMore 73 = .ok (.irem, 1) := by decide +kernel
theorem dX6_typeMore_74 : decode cX6_typeMore 74 = .ok (.iadd, 1) := by decide +kernel
theorem dX6_typeMore_75 : decode cX6_typeMore 75 = .ok (.i2c, 1) := by decide +kernel
theorem dX6_typeMore_76 : decode cX6_typeMore 76 = .ok (.castore, 1) := by decide +kernel
theorem dX6_typeMore_77 : decode cX6_typeMore 77 = .ok (.aload_n 0, 1) := by decide +kernel
theorem dX6_typeMore_78 : decode cX6_typeMore 78 = .ok (.dup, 1) := by decide +kernel
theorem dX6_typeMore_79 : decode cX6_typeMore 79 = .ok (.getfield 49, 3) := by decide +kernel
theorem dX6_typeMore_82 : decode cX6_typeMore 82 = .ok (.iconst 1, 1) := by decide +kernel
theorem dX6_typeMore_83 : decode cX6_typeMore 83 = .ok (.iadd, 1) := by decide +kernel
theorem dX6_typeMore_84 : decode cX6_typeMore 84 = .ok (.putfield 49, 3) := by decide +kernel
theorem dX6_typeMore_87 : decode cX6_typeMore 87 = .ok (.iload_n 3, 1) := by decide +kernel
theorem dX6_typeMore_88 : decode cX6_typeMore 88 = .ok (.bipush 6, 2) := by decide +kernel
theorem dX6_typeMore_90 : decode cX6_typeMore 90 = .ok (.idiv, 1) := by decide +kernel
theorem dX6_typeMore_91 : decode cX6_typeMore 91 = .ok (.istore_n 3, 1) := by decide +kernel
theorem dX6_typeMore_92 : decode cX6_typeMore 92 = .ok (.iinc 4 1, 3) := by decide +kernel
theorem dX6_typeMore_95 : decode cX6_typeMore 95 = .ok (.goto (-41), 3) := by decide +kernel
theorem dX6_typeMore_98 : decode cX6_typeMore 98 = .ok (.aload_n 0, 1) := by decide +kernel
theorem dX6_typeMore_99 : decode cX6_typeMore 99 = .ok (.getfield 49, 3) := by decide +kernel
theorem dX6_typeMore_102 : decode cX6_typeMore 102 = .ok (.ireturn, 1) := by decide +kernel
set_option maxRecDepth 20000 in
theorem ggX6_typeAt_X6_in : GoodIn wsX6_typeAt wsX6_in := goodIn_r _ [6] (by decide +kernel) (by decide +kernel)
set_option maxRecDepth 20000 in
theorem gX6_typeAt_X6_in : GoodIn wsX6_typeAt (va_wsS RX6 81 yX6_in wsX6_in) := goodIn_app (goodIn_of _ (by decide +kernel)) ggX6_typeAt_X6_in
set_option maxRecDepth 20000 in
theorem ggX6_typeAt_X6_isSign : GoodIn wsX6_typeAt wsX6_isSign := goodIn_r _ [9] (by decide +kernel) (by decide +kernel)
set_option maxRecDepth 20000 in
theorem gX6_typeAt_X6_isSign : GoodIn wsX6_typeAt (va_wsS RX6 73 yX6_isSign wsX6_isSign) := goodIn_app (goodIn_of _ (by decide +kernel)) ggX6_typeAt_X6_isSign
set_option maxRecDepth 20000 in
theorem ggX6_typeAt_X6_fails : GoodIn wsX6_typeAt wsX6_fails := goodIn_r _ [13, 14, 15, 16, 17, 18, 19, 20, 21, 22, 23, 24, 25, 26, 27, 28] (by decide +kernel) (by decide +kernel)
set_option maxRecDepth 20000 in
theorem gX6_typeAt_X6_fails : GoodIn wsX6_typeAt (wsV RX6 77 RX6 yX6_fails wsX6_fails) := goodIn_app (goodIn_of _ (by decide +kernel)) ggX6_typeAt_X6_fails
theorem dX6_typeAt_0 : decode cX6_typeAt 0 = .ok (.aload_n 0, 1) := by decide +kernel
theorem dX6_typeAt_1 : decode cX6_typeAt 1 = .ok (.iload_n 1, 1) := by decide +kernel
theorem dX6_typeAt_2 : decode cX6_typeAt 2 = .ok (.iconst 0, 1) := by decide +kernel
theorem dX6_typeAt_3 : decode cX6_typeAt 3 = .ok (.aload_n 0, 1) := by decide +kernel
theorem dX6_typeAt_4 : decode cX6_typeAt 4 = .ok (.getfield 49, 3) := by decide +kernel
theorem dX6_typeAt_7 : decode cX6_typeAt 7 = .ok (.invokestatic 81, 3) := by decide +kernel
theorem dX6_typeAt_10 : decode cX6_typeAt 10 = .ok (.ifCond .ne 7, 3) := by decide +kernel
theorem dX6_typeAt_13 : decode cX6_typeAt 13 = .ok (.iconst 1, 1) := by decide +kernel
theorem dX6_typeAt_14 : decode cX6_typeAt 14 = .ok (.goto 28, 3) := by decide +kernel
theorem dX6_typeAt_17 : decode cX6_typeAt 17 = .ok (.iload_n 2, 1) := by decide +kernel
theorem dX6_typeAt_18 : decode cX6_typeAt 18 = .ok (.invokestatic 73, 3) := by decide +kernel
theorem dX6_typeAt_21 : decode cX6_typeAt 21 = .ok (.ifCond .ne 7, 3) := by decide +kernel
theorem dX6_typeAt_24 : decode cX6_typeAt 24 = .ok (.iconst 2, 1) := by decide +kernel
theorem dX6_typeAt_25 : decode cX6_typeAt 25 = .ok (.goto 17, 3) := by decide +kernel
theorem dX6_typeAt_28 : decode cX6_typeAt 28 = .ok (.aload_n 0, 1) := by decide +kernel
theorem dX6_typeAt_29 : decode cX6_typeAt 29 = .ok (.getfield 49, 3) := by decide +kernel
theorem dX6_typeAt_32 : decode cX6_typeAt 32 = .ok (.bipush 24, 2) := by decide +kernel
theorem dX6_typeAt_34 : decode cX6_typeAt 34 = .ok (.if_icmp .ne 7, 3) := by decide +kernel
theorem dX6_typeAt_37 : decode cX6_typeAt 37 = .ok (.iconst 3, 1) := by decide +kernel
theorem dX6_typeAt_38 : decode cX6_typeAt 38 = .ok (.goto 4, 3) := by decide +kernel
theorem dX6_typeAt_41 : decode cX6_typeAt 41 = .ok (.iconst 0, 1) := by decide +kernel
theorem dX6_typeAt_42 : decode cX6_typeAt 42 = .ok (.invokevirtual 77, 3) := by decide +kernel
theorem dX6_typeAt_45 : decode cX6_typeAt 45 = .ok (.ifCond .eq 5, 3) := by decide +kernel
theorem dX6_typeAt_48 : decode cX6_typeAt 48 = .ok (.iconst 0, 1) := by decide +kernel
theorem dX6_typeAt_49 : decode cX6_typeAt 49 = .ok (.ireturn, 1) := by decide +kernel
theorem dX6_typeAt_50 : decode cX6_typeAt 50 = .ok (.aload_n 0, 1) := by decide +kernel
theorem dX6_typeAt_51 : decode cX6_typeAt 51 = .ok (.getfield 49, 3) := by decide +kernel
theorem dX6_typeAt_54 : decode cX6_typeAt 54 = .ok (.istore_n 3, 1) := by decide +kernel
theorem dX6_typeAt_55 : decode cX6_typeAt 55 = .ok (.iload_n 3, 1) := by decide +kernel
theorem dX6_typeAt_56 : decode cX6_typeAt 56 = .ok (.iload_n 1, 1) := by decide +kernel
theorem dX6_typeAt_57 : decode cX6_typeAt 57 = .ok (.if_icmp .le 23, 3) := by decide +kernel
theorem dX6_typeAt_60 : decode cX6_typeAt 60 = .ok (.aload_n 0, 1) := by decide +kernel
theorem dX6_typeAt_61 : decode cX6_typeAt 61 = .ok (.getfield 13, 3) := by decide +kernel
theorem dX6_typeAt_64 : decode cX6_typeAt 64 = .ok (.iload_n 3, 1) := by decide +kernel
theorem dX6_typeAt_65 : decode cX6_typeAt 65 = .ok (.aload_n 0, 1) := by decide +kernel
theorem dX6_typeAt_66 : decode cX6_typeAt 66 = .ok (.getfield 13, 3) := by decide +kernel
theorem dX6_typeAt_69 : decode cX6_typeAt 69 = .ok (.iload_n 3, 1) := by decide +kernel
theorem dX6_typeAt_70 : decode cX6_typeAt 70 = .ok (.iconst 1, 1) := by decide +kernel
theorem dX6_typeAt_71 : decode cX6_typeAt 71 = .ok (.isub, 1) := by decide +kernel
theorem dX6_typeAt_72 : decode cX6_typeAt 72 = .ok (.caload, 1) := by decide +kernel
theorem dX6_typeAt_73 : decode cX6_typeAt 73 = .ok (.castore, 1) := by decide +kernel
theorem dX6_typeAt_74 : decode cX6_typeAt 74 = .ok (.iinc 3 (-1), 3) := by decide +kernel
theorem dX6_typeAt_77 : decode cX6_typeAt 77 = .ok (.goto (-22), 3) := by decide +kernel
theorem dX6_typeAt_80 : decode cX6_typeAt 80 = .ok (.aload_n 0, 1) := by decide +kernel
theorem dX6_typeAt_81 : decode cX6_typeAt 81 = .ok (.getfield 13, 3) := by decide +kernel
theorem dX6_typeAt_84 : decode cX6_typeAt 84 = .ok (.iload_n 1, 1) := by decide +kernel
theorem dX6_typeAt_85 : decode cX6_typeAt 85 = .ok (.iload_n 2, 1) := by decide +kernel
theorem dX6_typeAt_86 : decode cX6_typeAt 86 = .ok (.castore, 1) := by decide +kernel
theorem dX6_typeAt_87 : decode cX6_typeAt 87 = .ok (.aload_n 0, 1) := by decide +kernel
theorem dX6_typeAt_88 : decode cX6_typeAt 88 = .ok (.dup, 1) := by decide +kernel
theorem dX6_typeAt_89 : decode cX6_typeAt 89 = .ok (.getfield 49, 3) := by decide +kernel
theorem dX6_typeAt_92 : decode cX6_typeAt 92 = .ok (.iconst 1, 1) := by decide +kernel
theorem dX6_typeAt_93 : decode cX6_typeAt 93 = .ok (.iadd, 1) := by decide +kernel
theorem dX6_typeAt_94 : decode cX6_typeAt 94 = .ok (.putfield 49, 3) := by decide +kernel
theorem dX6_typeAt_97 : decode cX6_typeAt 97 = .ok (.aload_n 0, 1) := by decide +kernel
theorem dX6_typeAt_98 : decode cX6_typeAt 98 = .ok (.getfield 49, 3) := by decide +kernel
theorem dX6_typeAt_101 : decode cX6_typeAt 101 = .ok (.ireturn, 1) := by decide +kernel
set_option maxRecDepth 20000 in
theorem ggX6_drop_X6_fails : GoodIn wsX6_drop wsX6_fails := goodIn_r _ [6, 7, 8, 9, 10, 11, 12, 13, 14, 15, 16, 17, 18, 19, 20, 21] (by decide +kernel) (by decide +kernel)
set_option maxRecDepth 20000 in
theorem gX6_drop_X6_fails : GoodIn wsX6_drop (wsV RX6 77 RX6 yX6_fails wsX6_fails) := goodIn_app (goodIn_of _ (by decide +kernel)) ggX6_drop_X6_fails
theorem dX6_drop_0 : decode cX6_drop 0 = .ok (.aload_n 0, 1) := by decide +kernel
theorem dX6_drop_1 : decode cX6_drop 1 = .ok (.aload_n 0, 1) := by decide +kernel
theorem dX6_drop_2 : decode cX6_drop 2 = .ok (.getfield 49, 3) := by decide +kernel
theorem dX6_drop_5 : decode cX6_drop 5 = .ok (.ifCond .ne 7, 3) := by decide +kernel
theorem dX6_drop_8 : decode cX6_drop 8 = .ok (.iconst 1, 1) := by decide +kernel
theorem dX6_drop_9 : decode cX6_drop 9 = .ok (.goto 4, 3) := by decide +kernel
theorem dX6_drop_12 : decode cX6_drop 12 = .ok (.iconst 0, 1) := by decide +kernel
theorem dX6_drop_13 : decode cX6_drop 13 = .ok (.invokevirtual 77, 3) := by decide +kernel
theorem dX6_drop_16 : decode cX6_drop 16 = .ok (.ifCond .eq 5, 3) := by decide +kernel
theorem dX6_drop_19 : decode cX6_drop 19 = .ok (.iconst 0, 1) := by decide +kernel
theorem dX6_drop_20 : decode cX6_drop 20 = .ok (.ireturn, 1) := by decide +kernel
theorem dX6_drop_21 : decode cX6_drop 21 = .ok (.aload_n 0, 1) := by decide +kernel
theorem dX6_drop_22 : decode cX6_drop 22 = .ok (.dup, 1) := by decide +kernel
theorem dX6_drop_23 : decode cX6_drop 23 = .ok (.getfield 49, 3) := by decide +kernel
theorem dX6_drop_26 : decode cX6_drop 26 = .ok (.iconst 1, 1) := by decide +kernel
theorem dX6_drop_27 : decode cX6_drop 27 = .ok (.isub, 1) := by decide +kernel
theorem dX6_drop_28 : decode cX6_drop 28 = .ok (.putfield 49, 3) := by decide +kernel
theorem dX6_drop_31 : decode cX6_drop 31 = .ok (.aload_n 0, 1) := by decide +kernel
theorem dX6_drop_32 : decode cX6_drop 32 = .ok (.getfield 49, 3) := by decide +kernel
theorem dX6_drop_35 : decode cX6_drop 35 = .ok (.ireturn, 1) := by decide +kernel
set_option maxRecDepth 20000 in
theorem ggX6_clip_X6_fails : GoodIn wsX6_clip wsX6_fails := goodIn_r _ [7, 8, 9, 10, 11, 12, 13, 14, 15, 16, 17, 18, 19, 20, 21, 22] (by decide +kernel) (by decide +kernel)
set_option maxRecDepth 20000 in
theorem gX6_clip_X6_fails : GoodIn wsX6_clip (wsV RX6 77 RX6 yX6_fails wsX6_fails) := goodIn_app (goodIn_of _ (by decide +kernel)) ggX6_clip_X6_fails
theorem dX6_clip_0 : decode cX6_clip 0 = .ok (.aload_n 0, 1) := by decide +kernel
theorem dX6_clip_1 : decode cX6_clip 1 = .ok (.iload_n 1, 1) := by decide +kernel
theorem dX6_clip_2 : decode cX6_clip 2 = .ok (.ifCond .lt 16, 3) := by decide +kernel
theorem dX6_clip_5 : decode cX6_clip 5 = .ok (.iload_n 2, 1) := by decide +kernel
theorem dX6_clip_6 : decode cX6_clip 6 = .ok (.iload_n 1, 1) := by decide +kernel
theorem dX6_clip_7 : decode cX6_clip 7 = .ok (.if_icmp .lt 11, 3) := by decide +kernel
theorem dX6_clip_10 : decode cX6_clip 10 = .ok (.iload_n 2, 1) := by decide +kernel
theorem dX6_clip_11 : decode cX6_clip 11 = .ok (.aload_n 0, 1) := by decide +kernel
theorem dX6_clip_12 : decode cX6_clip 12 = .ok (.getfield 49, 3) := by decide +kernel
theorem dX6_clip_15 : decode cX6_clip 15 = .ok (.if_icmp .le 7, 3) := by decide +kernel
theorem dX6_clip_18 : decode cX6_clip 18 = .ok (.iconst 1, 1) := by decide +kernel
theorem dX6_clip_19 : decode cX6_clip 19 = .ok (.goto 4, 3) := by decide +kernel
theorem dX6_clip_22 : decode cX6_clip 22 = .ok (.iconst 0, 1) := by decide +kernel
theorem dX6_clip_23 : decode cX6_clip 23 = .ok (.invokevirtual 77, 3) := by decide +kernel
theorem dX6_clip_26 : decode cX6_clip 26 = .ok (.ifCond .eq 5, 3) := by decide +kernel
theorem dX6_clip_29 : decode cX6_clip 29 = .ok (.iconst 0, 1) := by decide +kernel
theorem dX6_clip_30 : decode cX6_clip 30 = .ok (.ireturn, 1) := by decide +kernel
theorem dX6_clip_31 : decode cX6_clip 31 = .ok (.iload_n 2, 1) := by decide +kernel
theorem dX6_clip_32 : decode cX6_clip 32 = .ok (.istore_n 3, 1) := by decide +kernel
theorem dX6_clip_33 : decode cX6_clip 33 = .ok (.iload_n 3, 1) := by decide +kernel
theorem dX6_clip_34 : decode cX6_clip 34 = .ok (.aload_n 0, 1) := by decide +kernel
theorem dX6_clip_35 : decode cX6_clip 35 = .ok (.getfield 49, 3) := by decide +kernel
theorem dX6_clip_38 : decode cX6_clip 38 = .ok (.if_icmp .ge 25, 3) := by decide +kernel
theorem dX6_clip_41 : decode cX6_clip 41 = .ok (.aload_n 0, 1) := by decide +kernel
theorem dX6_clip_42 : decode cX6_clip 42 = .ok (.getfield 13, 3) := by decide +kernel
theorem dX6_clip_45 : decode cX6_clip 45 = .ok (.iload_n 1, 1) := by decide +kernel
theorem dX6_clip_46 : decode cX6_clip 46 = .ok (.iload_n 3, 1) := by decide +kernel
theorem dX6_clip_47 : decode cX6_clip 47 = .ok (.iadd, 1) := by decide +kernel
theorem dX6_clip_48 : decode cX6_clip 48 = .ok (.iload_n 2, 1) := by decide +kernel
theorem dX6_clip_49 : decode cX6_clip 49 = .ok (.isub, 1) := by decide +kernel
theorem dX6_clip_50 : decode cX6_clip 50 = .ok (.aload_n 0, 1) := by decide +kernel
theorem dX6_clip_51 : decode cX6_clip 51 = .ok (.getfield 13, 3) := by decide +kernel
theorem dX6_clip_54 : decode cX6_clip 54 = .ok (.iload_n 3, 1) := by decide +kernel
theorem dX6_clip_55 : decode cX6_clip 55 = .ok (.caload, 1) := by decide +kernel
theorem dX6_clip_56 : decode cX6_clip 56 = .ok (.castore, 1) := by decide +kernel
theorem dX6_clip_57 : decode cX6_clip 57 = .ok (.iinc 3 1, 3) := by decide +kernel
theorem dX6_clip_60 : decode cX6_clip 60 = .ok (.goto (-27), 3) := by decide +kernel
theorem dX6_clip_63 : decode cX6_clip 63 = .ok (.aload_n 0, 1) := by decide +kernel
theorem dX6_clip_64 : decode cX6_clip 64 = .ok (.dup, 1) := by decide +kernel
theorem dX6_clip_65 : decode cX6_clip 65 = .ok (.getfield 49, 3) := by decide +kernel
theorem dX6_clip_68 : decode cX6_clip 68 = .ok (.iload_n 2, 1) := by decide +kernel
theorem dX6_clip_69 : decode cX6_clip 69 = .ok (.iload_n 1, 1) := by decide +kernel
theorem dX6_clip_70 : decode cX6_clip 70 = .ok (.isub, 1) := by decide +kernel
theorem dX6_clip_71 : decode cX6_clip 71 = .ok (.isub, 1) := by decide +kernel
theorem dX6_clip_72 : decode cX6_clip 72 = .ok (.putfield 49, 3) := by decide +kernel
theorem dX6_clip_75 : decode cX6_clip 75 = .ok (.aload_n 0, 1) := by decide +kernel
theorem dX6_clip_76 : decode cX6_clip 76 = .ok (.getfield 49, 3) := by decide +kernel
theorem dX6_clip_79 : decode cX6_clip 79 = .ok (.ireturn, 1) := by decide +kernel
theorem dX6_wipe_0 : decode cX6_wipe 0 = .ok (.aload_n 0, 1) := by decide +kernel
theorem dX6_wipe_1 : decode cX6_wipe 1 = .ok (.iconst 0, 1) := by decide +kernel
theorem dX6_wipe_2 : decode cX6_wipe 2 = .ok (.putfield 1, 3) := by decide +kernel
theorem dX6_wipe_5 : decode cX6_wipe 5 = .ok (.aload_n 0, 1) := by decide +kernel
theorem dX6_wipe_6 : decode cX6_wipe 6 = .ok (.getfield 49, 3) := by decide +kernel
theorem dX6_wipe_9 : decode cX6_wipe 9 = .ok (.istore_n 1, 1) := by decide +kernel
theorem dX6_wipe_10 : decode cX6_wipe 10 = .ok (.aload_n 0, 1) := by decide +kernel
theorem dX6_wipe_11 : decode cX6_wipe 11 = .ok (.iconst 0, 1) := by decide +kernel
theorem dX6_wipe_12 : decode cX6_wipe 12 = .ok (.putfield 49, 3) := by decide +kernel
theorem dX6_wipe_15 : decode cX6_wipe 15 = .ok (.iload_n 1, 1) := by decide +kernel
theorem dX6_wipe_16 : decode cX6_wipe 16 = .ok (.ireturn, 1) := by decide +kernel
theorem dX6_turn_0 : decode cX6_turn 0 = .ok (.aload_n 0, 1) := by decide +kernel
theorem dX6_turn_1 : decode cX6_turn 1 = .ok (.iconst 0, 1) := by decide +kernel
theorem dX6_turn_2 : decode cX6_turn 2 = .ok (.putfield 1, 3) := by decide +kernel
theorem dX6_turn_5 : decode cX6_turn 5 = .ok (.iconst 1, 1) := by decide +kernel
theorem dX6_turn_6 : decode cX6_turn 6 = .ok (.istore_n 1, 1) := by decide +kernel
theorem dX6_turn_7 : decode cX6_turn 7 = .ok (.iconst 0, 1) := by decide +kernel
theorem dX6_turn_8 : decode cX6_turn 8 = .ok (.istore_n 2, 1) := by decide +kernel
theorem dX6_turn_9 : decode cX6_turn 9 = .ok (.iload_n 2, 1) := by decide +kernel
theorem dX6_turn_10 : decode cX6_turn 10 = .ok (.aload_n 0, 1) := by decide +kernel
theorem dX6_turn_11 : decode cX6_turn 11 = .ok (.getfield 49, 3) := by decide +kernel
theorem dX6_turn_14 : decode cX6_turn 14 = .ok (.if_icmp .ge 28, 3) := by decide +kernel
theorem dX6_turn_17 : decode cX6_turn 17 = .ok (.aload_n 0, 1) := by decide +kernel
theorem dX6_turn_18 : decode cX6_turn 18 = .ok (.getfield 23, 3) := by decide +kernel
theorem dX6_turn_21 : decode cX6_turn 21 = .ok (.iload_n 2, 1) := by decide +kernel
theorem dX6_turn_22 : decode cX6_turn 22 = .ok (.aload_n 0, 1) := by decide +kernel
theorem dX6_turn_23 : decode cX6_turn 23 = .ok (.getfield 13, 3) := by decide +kernel
theorem dX6_turn_26 : decode cX6_turn 26 = .ok (.aload_n 0, 1) := by decide +kernel
theorem dX6_turn_27 : decode cX6_turn 27 = .ok (.getfield 49, 3) := by decide +kernel
theorem dX6_turn_30 : decode cX6_turn 30 = .ok (.iconst 1, 1) := by decide +kernel
theorem dX6_turn_31 : decode cX6_turn 31 = .ok (.isub, 1) := by decide +kernel
theorem dX6_turn_32 : decode cX6_turn 32 = .ok (.iload_n 2, 1) := by decide +kernel
theorem dX6_turn_33 : decode cX6_turn 33 = .ok (.isub, 1) := by decide +kernel
theorem dX6_turn_34 : decode cX6_turn 34 = .ok (.caload, 1) := by decide +kernel
theorem dX6_turn_35 : decode cX6_turn 35 = .ok (.castore, 1) := by decide +kernel
theorem dX6_turn_36 : decode cX6_turn 36 = .ok (.iinc 2 1, 3) := by decide +kernel
theorem dX6_turn_39 : decode cX6_turn 39 = .ok (.goto (-30), 3) := by decide +kernel
theorem dX6_turn_42 : decode cX6_turn 42 = .ok (.iconst 0, 1) := by decide +kernel
theorem dX6_turn_43 : decode cX6_turn 43 = .ok (.istore_n 2, 1) := by decide +kernel
theorem dX6_turn_44 : decode cX6_turn 44 = .ok (.iload_n 2, 1) := by decide +kernel
theorem dX6_turn_45 : decode cX6_turn 45 = .ok (.aload_n 0, 1) := by decide +kernel
theorem dX6_turn_46 : decode cX6_turn 46 = .ok (.getfield 49, 3) := by decide +kernel
theorem dX6_turn_49 : decode cX6_turn 49 = .ok (.if_icmp .ge 44, 3) := by decide +kernel
theorem dX6_turn_52 : decode cX6_turn 52 = .ok (.iload_n 1, 1) := by decide +kernel
theorem dX6_turn_53 : decode cX6_turn 53 = .ok (.aload_n 0, 1) := by decide +kernel
theorem dX6_turn_54 : decode cX6_turn 54 = .ok (.getfield 23, 3) := by decide +kernel
theorem dX6_turn_57 : decode cX6_turn 57 = .ok (.iload_n 2, 1) := by decide +kernel
theorem dX6_turn_58 : decode cX6_turn 58 = .ok (.caload, 1) := by decide +kernel
theorem dX6_turn_59 : decode cX6_turn 59 = .ok (.aload_n 0, 1) := by decide +kernel
theorem dX6_turn_60 : decode cX6_turn 60 = .ok (.getfield 13, 3) := by decide +kernel
theorem dX6_turn_63 : decode cX6_turn 63 = .ok (.iload_n 2, 1) := by decide +kernel
theorem dX6_turn_64 : decode cX6_turn 64 = .ok (.caload, 1) := by decide +kernel
theorem dX6_turn_65 : decode cX6_turn 65 = .ok (.if_icmp .ne 7, 3) := by decide +kernel
theorem dX6_turn_68 : decode cX6_turn 68 = .ok (.iconst 1, 1) := by decide +kernel
theorem dX6_turn_69 : decode cX6_turn 69 = .ok (.goto 4, 3) := by decide +kernel
theorem dX6_turn_72 : decode cX6_turn 72 = .ok (.iconst 0, 1) := by decide +kernel
theorem dX6_turn_73 : decode cX6_turn 73 = .ok (.iand, 1) := by decide +kernel
theorem dX6_turn_74 : decode cX6_turn 74 = .ok (.istore_n 1, 1) := by decide +kernel
theorem dX6_turn_75 : decode cX6_turn 75 = .ok (.aload_n 0, 1) := by decide +kernel
theorem dX6_turn_76 : decode cX6_turn 76 = .ok (.getfield 13, 3) := by decide +kernel
theorem dX6_turn_79 : decode cX6_turn 79 = .ok (.iload_n 2, 1) := by decide +kernel
theorem dX6_turn_80 : decode cX6_turn 80 = .ok (.aload_n 0, 1) := by decide +kernel
theorem dX6_turn_81 : decode cX6_turn 81 = .ok (.getfield 23, 3) := by decide +kernel
theorem dX6_turn_84 : decode cX6_turn 84 = .ok (.iload_n 2, 1) := by decide +kernel
theorem dX6_turn_85 : decode cX6_turn 85 = .ok (.caload, 1) := by decide +kernel
theorem dX6_turn_86 : decode cX6_turn 86 = .ok (.castore, 1) := by decide +kernel
theorem dX6_turn_87 : decode cX6_turn 87 = .ok (.iinc 2 1, 3) := by decide +kernel
theorem dX6_turn_90 : decode cX6_turn 90 = .ok (.goto (-46), 3) := by decide +kernel
theorem dX6_turn_93 : decode cX6_turn 93 = .ok (.iload_n 1, 1) := by decide +kernel
theorem dX6_turn_94 : decode cX6_turn 94 = .ok (.ireturn, 1) := by decide +kernel
set_option maxRecDepth 20000 in
theorem ggX6_signAt_X6_in : GoodIn wsX6_signAt wsX6_in := goodIn_r _ [6] (by decide +kernel) (by decide +kernel)
set_option maxRecDepth 20000 in
theorem gX6_signAt_X6_in : GoodIn wsX6_signAt (va_wsS RX6 81 yX6_in wsX6_in) := goodIn_app (goodIn_of _ (by decide +kernel)) ggX6_signAt_X6_in
set_option maxRecDepth 20000 in
theorem ggX6_signAt_X6_fails : GoodIn wsX6_signAt wsX6_fails := goodIn_r _ [10, 11, 12, 13, 14, 15, 16, 17, 18, 19, 20, 21, 22, 23, 24, 25] (by decide +kernel) (by decide +kernel)
set_option maxRecDepth 20000 in
theorem gX6_signAt_X6_fails : GoodIn wsX6_signAt (wsV RX6 77 RX6 yX6_fails wsX6_fails) := goodIn_app (goodIn_of _ (by decide +kernel)) ggX6_signAt_X6_fails
theorem dX6_signAt_0 : decode cX6_signAt 0 = .ok (.aload_n 0, 1) := by decide +kernel
theorem dX6_signAt_1 : decode cX6_signAt 1 = .ok (.iload_n 1, 1) := by decide +kernel
theorem dX6_signAt_2 : decode cX6_signAt 2 = .ok (.iconst 0, 1) := by decide +kernel
theorem dX6_signAt_3 : decode cX6_signAt 3 = .ok (.aload_n 0, 1) := by decide +kernel
theorem dX6_signAt_4 : decode cX6_signAt 4 = .ok (.getfield 49, 3) := by decide +kernel
theorem dX6_signAt_7 : decode cX6_signAt 7 = .ok (.iconst 1, 1) := by decide +kernel
theorem dX6_signAt_8 : decode cX6_signAt 8 = .ok (.isub, 1) := by decide +kernel
theorem dX6_signAt_9 : decode cX6_signAt 9 = .ok (.invokestatic 81, 3) := by decide +kernel
theorem dX6_signAt_12 : decode cX6_signAt 12 = .ok (.ifCond .eq 7, 3) := by decide +kernel
theorem dX6_signAt_15 : decode cX6_signAt 15 = .ok (.iconst 0, 1) := by decide +kernel
theorem dX6_signAt_16 : decode cX6_signAt 16 = .ok (.goto 4, 3) := by decide +kernel
theorem dX6_signAt_19 : decode cX6_signAt 19 = .ok (.iconst 1, 1) := by decide +kernel
theorem dX6_signAt_20 : decode cX6_signAt 20 = .ok (.invokevirtual 77, 3) := by decide +kernel
theorem dX6_signAt_23 : decode cX6_signAt 23 = .ok (.ifCond .eq 8, 3) := by decide +kernel
theorem dX6_signAt_26 : decode cX6_signAt 26 = .ok (.bipush 32, 2) := by decide +kernel
theorem dX6_signAt_28 : decode cX6_signAt 28 = .ok (.goto 9, 3) := by decide +kernel
theorem dX6_signAt_31 : decode cX6_signAt 31 = .ok (.aload_n 0, 1) := by decide +kernel
theorem dX6_signAt_32 : decode cX6_signAt 32 = .ok (.getfield 13, 3) := by decide +kernel
theorem dX6_signAt_35 : decode cX6_signAt 35 = .ok (.iload_n 1, 1) := by decide +kernel
theorem dX6_signAt_36 : decode cX6_signAt 36 = .ok (.caload, 1) := by decide +kernel
theorem dX6_signAt_37 : decode cX6_signAt 37 = .ok (.ireturn, 1) := by decide +kernel
set_option maxRecDepth 20000 in
theorem ggX6_put_X6_own : GoodIn wsX6_put wsX6_own := goodIn_r _ [11, 2, 12, 13, 14, 10, 15, 4, 1, 5, 6, 16, 17, 18, 19, 28, 29, 30, 31, 32, 33, 34, 35, 36, 37, 38, 39, 40, 41] (by decide +kernel) (by decide +kernel)
set_option maxRecDepth 20000 in
theorem gX6_put_X6_own : GoodIn wsX6_put (wsV RX6 86 RX6 yX6_own wsX6_own) := goodIn_app (goodIn_of _ (by decide +kernel)) ggX6_put_X6_own
set_option maxRecDepth 20000 in
theorem ggX6_put_X6_in : GoodIn wsX6_put wsX6_in := goodIn_r _ [22] (by decide +kernel) (by decide +kernel)
set_option maxRecDepth 20000 in
theorem gX6_put_X6_in : GoodIn wsX6_put (va_wsS RX6 81 yX6_in wsX6_in) := goodIn_app (goodIn_of _ (by decide +kernel)) ggX6_put_X6_in
set_option maxRecDepth 20000 in
theorem ggX6_put_X6_fails : GoodIn wsX6_put wsX6_fails := goodIn_r _ [26, 27, 28, 29, 30, 31, 32, 33, 34, 35, 36, 37, 38, 39, 40, 41] (by decide +kernel) (by decide +kernel)
set_option maxRecDepth 20000 in
theorem gX6_put_X6_fails : GoodIn wsX6_put (wsV RX6 77 RX6 yX6_fails wsX6_fails) := goodIn_app (goodIn_of _ (by decide +kernel)) ggX6_put_X6_fails
theorem dX6_put_0 : decode cX6_put 0 = .ok (.aload_n 0, 1) := by decide +kernel
theorem dX6_put_1 : decode cX6_put 1 = .ok (.invokevirtual 86, 3) := by decide +kernel
theorem dX6_put_4 : decode cX6_put 4 = .ok (.istore_n 2, 1) := by decide +kernel
theorem dX6_put_5 : decode cX6_put 5 = .ok (.aload_n 0, 1) := by decide +kernel
theorem dX6_put_6 : decode cX6_put 6 = .ok (.iload_n 1, 1) := by decide +kernel
theorem dX6_put_7 : decode cX6_put 7 = .ok (.iconst 0, 1) := by decide +kernel
theorem dX6_put_8 : decode cX6_put 8 = .ok (.sipush 999, 3) := by decide +kernel
theorem dX6_put_11 : decode cX6_put 11 = .ok (.invokestatic 81, 3) := by decide +kernel
theorem dX6_put_14 : decode cX6_put 14 = .ok (.ifCond .ne 7, 3) := by decide +kernel
theorem dX6_put_17 : decode cX6_put 17 = .ok (.iconst 1, 1) := by decide +kernel
theorem dX6_put_18 : decode cX6_put 18 = .ok (.goto 38, 3) := by decide +kernel
theorem dX6_put_21 : decode cX6_put 21 = .ok (.aload_n 0, 1) := by decide +kernel
theorem dX6_put_22 : decode cX6_put 22 = .ok (.getfield 49, 3) := by decide +kernel
theorem dX6_put_25 : decode cX6_put 25 = .ok (.iconst 1, 1) := by decide +kernel
theorem dX6_put_26 : decode cX6_put 26 = .ok (.bipush 10, 2) := by decide +kernel
theorem dX6_put_28 : decode cX6_put 28 = .ok (.invokestatic 81, 3) := by decide +kernel
theorem dX6_put_31 : decode cX6_put 31 = .ok (.ifCond .ne 7, 3) := by decide +kernel
theorem dX6_put_34 : decode cX6_put 34 = .ok (.iconst 2, 1) := by decide +kernel
theorem dX6_put_35 : decode cX6_put 35 = .ok (.goto 21, 3) := by decide +kernel
theorem dX6_put_38 : decode cX6_put 38 = .ok (.iload_n 2, 1) := by decide +kernel
theorem dX6_put_39 : decode cX6_put 39 = .ok (.ifCond .ge 16, 3) := by decide +kernel
theorem dX6_put_42 : decode cX6_put 42 = .ok (.aload_n 0, 1) := by decide +kernel
theorem dX6_put_43 : decode cX6_put 43 = .ok (.getfield 59, 3) := by decide +kernel
theorem dX6_put_46 : decode cX6_put 46 = .ok (.bipush 24, 2) := by decide +kernel
theorem dX6_put_48 : decode cX6_put 48 = .ok (.if_icmp .ne 7, 3) := by decide +kernel
theorem dX6_put_51 : decode cX6_put 51 = .ok (.iconst 3, 1) := by decide +kernel
theorem dX6_put_52 : decode cX6_put 52 = .ok (.goto 4, 3) := by decide +kernel
theorem dX6_put_55 : decode cX6_put 55 = .ok (.iconst 0, 1) := by decide +kernel
theorem dX6_put_56 : decode cX6_put 56 = .ok (.invokevirtual 77, 3) := by decide +kernel
theorem dX6_put_59 : decode cX6_put 59 = .ok (.ifCond .eq 5, 3) := by decide +kernel
theorem dX6_put_62 : decode cX6_put 62 = .ok (.iconst 0, 1) := by decide +kernel
theorem dX6_put_63 : decode cX6_put 63 = .ok (.ireturn, 1) := by decide +kernel
theorem dX6_put_64 : decode cX6_put 64 = .ok (.iload_n 2, 1) := by decide +kernel
theorem dX6_put_65 : decode cX6_put 65 = .ok (.ifCond .ge 7, 3) := by decide +kernel
theorem dX6_put_68 : decode cX6_put 68 = .ok (.iconst (-1), 1) := by decide +kernel
theorem dX6_put_69 : decode cX6_put 69 = .ok (.goto 9, 3) := by decide +kernel
theorem dX6_put_72 : decode cX6_put 72 = .ok (.aload_n 0, 1) := by decide +kernel
theorem dX6_put_73 : decode cX6_put 73 = .ok (.getfield 30, 3) := by decide +kernel
theorem dX6_put_76 : decode cX6_put 76 = .ok (.iload_n 2, 1) := by decide +kernel
theorem dX6_put_77 : decode cX6_put 77 = .ok (.iaload, 1) := by decide +kernel
theorem dX6_put_78 : decode cX6_put 78 = .ok (.istore_n 3, 1) := by decide +kernel
theorem dX6_put_79 : decode cX6_put 79 = .ok (.iload_n 2, 1) := by decide +kernel
theorem dX6_put_80 : decode cX6_put 80 = .ok (.ifCond .ge 65, 3) := by decide +kernel
theorem dX6_put_83 : decode cX6_put 83 = .ok (.aload_n 0, 1) := by decide +kernel
theorem dX6_put_84 : decode cX6_put 84 = .ok (.getfield 59, 3) := by decide +kernel
theorem dX6_put_87 : decode cX6_put 87 = .ok (.istore_n 2, 1) := by decide +kernel
theorem dX6_put_88 : decode cX6_put 88 = .ok (.aload_n 0, 1) := by decide +kernel
theorem dX6_put_89 : decode cX6_put 89 = .ok (.dup, 1) := by decide +kernel
theorem dX6_put_90 : decode cX6_put 90 = .ok (.getfield 59, 3) := by decide +kernel
theorem dX6_put_93 : decode cX6_put 93 = .ok (.iconst 1, 1) := by decide +kernel
theorem dX6_put_94 : decode cX6_put 94 = .ok (.iadd, 1) := by decide +kernel
theorem dX6_put_95 : decode cX6_put 95 = .ok (.putfield 59, 3) := by decide +kernel
theorem dX6_put_98 : decode cX6_put 98 = .ok (.aload_n 0, 1) := by decide +kernel
theorem dX6_put_99 : decode cX6_put 99 = .ok (.getfield 26, 3) := by decide +kernel
theorem dX6_put_102 : decode cX6_put 102 = .ok (.iload_n 2, 1) := by decide +kernel
theorem dX6_put_103 : decode cX6_put 103 = .ok (.aload_n 0, 1) := by decide +kernel
theorem dX6_put_104 : decode cX6_put 104 = .ok (.getfield 49, 3) := by decide +kernel
theorem dX6_put_107 : decode cX6_put 107 = .ok (.iastore, 1) := by decide +kernel
theorem dX6_put_108 : decode cX6_put 108 = .ok (.iconst 0, 1) := by decide +kernel
theorem dX6_put_109 : decode cX6_put 109 = .ok (.istore 4, 2) := by decide +kernel
theorem dX6_put_111 : decode cX6_put 111 = .ok (.iload 4, 2) := by decide +kernel
theorem dX6_put_113 : decode cX6_put 113 = .ok (.aload_n 0, 1) := by decide +kernel
theorem dX6_put_114 : decode cX6_put 114 = .ok (.getfield 49, 3) := by decide +kernel
theorem dX6_put_117 : decode cX6_put 117 = .ok (.if_icmp .ge 28, 3) := by decide +kernel
theorem dX6_put_120 : decode cX6_put 120 = .ok (.aload_n 0, 1) := by decide +kernel
theorem dX6_put_121 : decode cX6_put 121 = .ok (.getfield 17, 3) := by decide +kernel
theorem dX6_put_124 : decode cX6_put 124 = .ok (.bipush 10, 2) := by decide +kernel
theorem dX6_put_126 : decode cX6_put 126 = .ok (.iload_n 2, 1) := by decide +kernel
theorem dX6_put_127 : decode cX6_put 127 = .ok (.imul, 1) := by decide +kernel
theorem dX6_put_128 : decode cX6_put 128 = .ok (.iload 4, 2) := by decide +kernel
theorem dX6_put_130 : decode cX6_put 130 = .ok (.iadd, 1) := by decide +kernel
theorem dX6_put_131 : decode cX6_put 131 = .ok (.aload_n 0, 1) := by decide +kernel
theorem dX6_put_132 : decode cX6_put 132 = .ok (.getfield 13, 3) := by decide +kernel
theorem dX6_put_135 : decode cX6_put 135 = .ok (.iload 4, 2) := by decide +kernel
theorem dX6_put_137 : decode cX6_put 137 = .ok (.caload, 1) := by decide +kernel
theorem dX6_put_138 : decode cX6_put 138 = .ok (.castore, 1) := by decide +kernel
theorem dX6_put_139 : decode cX6_put 139 = .ok (.iinc 4 1, 3) := by decide +kernel
theorem dX6_put_142 : decode cX6_put 142 = .ok (.goto (-31), 3) := by decide +kernel
theorem dX6_put_145 : decode cX6_put 145 = .ok (.aload_n 0, 1) := by decide +kernel
theorem dX6_put_146 : decode cX6_put 146 = .ok (.getfield 30, 3) := by decide +kernel
theorem dX6_put_149 : decode cX6_put 149 = .ok (.iload_n 2, 1) := by decide +kernel
theorem dX6_put_150 : decode cX6_put 150 = .ok (.iload_n 1, 1) := by decide +kernel
theorem dX6_put_151 : decode cX6_put 151 = .ok (.iastore, 1) := by decide +kernel
theorem dX6_put_152 : decode cX6_put 152 = .ok (.iload_n 3, 1) := by decide +kernel
theorem dX6_put_153 : decode cX6_put 153 = .ok (.ireturn, 1) := by decide +kernel
set_option maxRecDepth 20000 in
theorem ggX6_take_X6_own : GoodIn wsX6_take wsX6_own := goodIn_r _ [6, 7, 8, 9, 10, 5, 11, 12, 13, 14, 15, 16, 17, 18, 19, 29, 30, 31, 32, 33, 34, 35, 36, 37, 38, 39, 40, 41, 42] (by decide +kernel) (by decide +kernel)
set_option maxRecDepth 20000 in
theorem gX6_take_X6_own : GoodIn wsX6_take (wsV RX6 86 RX6 yX6_own wsX6_own) := goodIn_app (goodIn_of _ (by decide +kernel)) ggX6_take_X6_own
set_option maxRecDepth 20000 in
theorem ggX6_take_X6_fails : GoodIn wsX6_take wsX6_fails := goodIn_r _ [23, 24, 29, 30, 31, 32, 33, 34, 35, 36, 37, 38, 39, 40, 41, 42] (by decide +kernel) (by decide +kernel)
set_option maxRecDepth 20000 in
theorem gX6_take_X6_fails : GoodIn wsX6_take (wsV RX6 77 RX6 yX6_fails wsX6_fails) := goodIn_app (goodIn_of _ (by decide +kernel)) ggX6_take_X6_fails
set_option maxRecDepth 20000 in
theorem ggX6_take_X6_goes : GoodIn wsX6_take wsX6_goes := goodIn_r _ [28, 7, 12, 1, 14, 29, 30, 31, 32, 33, 34, 35, 36, 37, 38, 39, 40, 41, 42] (by decide +kernel) (by decide +kernel)
set_option maxRecDepth 20000 in
theorem gX6_take_X6_goes : GoodIn wsX6_take (wsV RX6 90 RX6 yX6_goes wsX6_goes) := goodIn_app (goodIn_of _ (by decide +kernel)) ggX6_take_X6_goes
theorem dX6_take_0 : decode cX6_take 0 = .ok (.aload_n 0, 1) := by decide +kernel
theorem dX6_take_1 : decode cX6_take 1 = .ok (.invokevirtual 86, 3) := by decide +kernel
theorem dX6_take_4 : decode cX6_take 4 = .ok (.istore_n 1, 1) := by decide +kernel
theorem dX6_take_5 : decode cX6_take 5 = .ok (.aload_n 0, 1) := by decide +kernel
theorem dX6_take_6 : decode cX6_take 6 = .ok (.iload_n 1, 1) := by decide +kernel
theorem dX6_take_7 : decode cX6_take 7 = .ok (.ifCond .ge 7, 3) := by decide +kernel
theorem dX6_take_10 : decode cX6_take 10 = .ok (.iconst 1, 1) := by decide +kernel
theorem dX6_take_11 : decode cX6_take 11 = .ok (.goto 4, 3) := by decide +kernel
theorem dX6_take_14 : decode cX6_take 14 = .ok (.iconst 0, 1) := by decide +kernel
theorem dX6_take_15 : decode cX6_take 15 = .ok (.invokevirtual 77, 3) := by decide +kernel
theorem dX6_take_18 : decode cX6_take 18 = .ok (.ifCond .eq 5, 3) := by decide +kernel
theorem dX6_take_21 : decode cX6_take 21 = .ok (.iconst 0, 1) := by decide +kernel
theorem dX6_take_22 : decode cX6_take 22 = .ok (.ireturn, 1) := by decide +kernel
theorem dX6_take_23 : decode cX6_take 23 = .ok (.aload_n 0, 1) := by decide +kernel
theorem dX6_take_24 : decode cX6_take 24 = .ok (.getfield 30, 3) := by decide +kernel
theorem dX6_take_27 : decode cX6_take 27 = .ok (.iload_n 1, 1) := by decide +kernel
theorem dX6_take_28 : decode cX6_take 28 = .ok (.iaload, 1) := by decide +kernel
theorem dX6_take_29 : decode cX6_take 29 = .ok (.istore_n 2, 1) := by decide +kernel
theorem dX6_take_30 : decode cX6_take 30 = .ok (.aload_n 0, 1) := by decide +kernel
theorem dX6_take_31 : decode cX6_take 31 = .ok (.iload_n 1, 1) := by decide +kernel
theorem dX6_take_32 : decode cX6_take 32 = .ok (.invokevirtual 90, 3) := by decide +kernel
theorem dX6_take_35 : decode cX6_take 35 = .ok (.iload_n 2, 1) := by decide +kernel
theorem dX6_take_36 : decode cX6_take 36 = .ok (.ireturn, 1) := by decide +kernel
set_option maxRecDepth 20000 in
theorem ggX6_number_X6_own : GoodIn wsX6_number wsX6_own := goodIn_r _ [6, 7, 8, 9, 10, 5, 11, 12, 13, 14, 15, 16, 17, 18, 19, 25, 26, 27, 28, 29, 30, 31, 32, 33, 34, 35, 36, 37, 38] (by decide +kernel) (by decide +kernel)
set_option maxRecDepth 20000 in
theorem gX6_number_X6_own : GoodIn wsX6_number (wsV RX6 86 RX6 yX6_own wsX6_own) := goodIn_app (goodIn_of _ (by decide +kernel)) ggX6_number_X6_own
set_option maxRecDepth 20000 in
theorem ggX6_number_X6_fails : GoodIn wsX6_number wsX6_fails := goodIn_r _ [23, 24, 25, 26, 27, 28, 29, 30, 31, 32, 33, 34, 35, 36, 37, 38] (by decide +kernel) (by decide +kernel)
set_option maxRecDepth 20000 in
theorem gX6_number_X6_fails : GoodIn wsX6_number (wsV RX6 77 RX6 yX6_fails wsX6_fails) := goodIn_app (goodIn_of _ (by decide +kernel)) ggX6_number_X6_fails
theorem dX6_number_0 : decode cX6_number 0 = .ok (.aload_n 0, 1) := by decide +kernel
theorem dX6_number_1 : decode cX6_number 1 = .ok (.invokevirtual 86, 3) := by decide +kernel
theorem dX6_number_4 : decode cX6_number 4 = .ok (.istore_n 1, 1) := by decide +kernel
theorem dX6_number_5 : decode cX6_number 5 = .ok (.aload_n 0, 1) := by decide +kernel
theorem dX6_number_6 : decode cX6_number 6 = .ok (.iload_n 1, 1) := by decide +kernel
theorem dX6_number_7 : decode cX6_number 7 = .ok (.ifCond .ge 7, 3) := by decide +kernel
theorem dX6_number_10 : decode cX6_number 10 = .ok (.iconst 1, 1) := by decide +kernel
theorem dX6_number_11 : decode cX6_number 11 = .ok (.goto 4, 3) := by decide +kernel
theorem dX6_number_14 : decode cX6_number 14 = .ok (.iconst 0, 1) := by decide +kernel
theorem dX6_number_15 : decode cX6_number 15 = .ok (.invokevirtual 77, 3) := by decide +kernel
theorem dX6_number_18 : decode cX6_number 18 = .ok (.ifCond .eq 7, 3) := by decide +kernel
theorem dX6_number_21 : decode cX6_number 21 = .ok (.iconst 0, 1) := by decide +kernel
theorem dX6_number_22 : decode cX6_number 22 = .ok (.goto 9, 3) := by decide +kernel
theorem dX6_number_25 : decode cX6_number 25 = .ok (.aload_n 0, 1) := by decide +kernel
theorem dX6_number_26 : decode cX6_number 26 = .ok (.getfield 30, 3) := by decide +kernel
theorem dX6_number_29 : decode cX6_number 29 = .ok (.iload_n 1, 1) := by decide +kernel
theorem dX6_number_30 : decode cX6_number 30 = .ok (.iaload, 1) := by decide +kernel
theorem dX6_number_31 : decode cX6_number 31 = .ok (.ireturn, 1) := by decide +kernel
theorem dX6_words_0 : decode cX6_words 0 = .ok (.aload_n 0, 1) := by decide +kernel
theorem dX6_words_1 : decode cX6_words 1 = .ok (.iconst 0, 1) := by decide +kernel
theorem dX6_words_2 : decode cX6_words 2 = .ok (.putfield 1, 3) := by decide +kernel
theorem dX6_words_5 : decode cX6_words 5 = .ok (.aload_n 0, 1) := by decide +kernel
theorem dX6_words_6 : decode cX6_words 6 = .ok (.getfield 59, 3) := by decide +kernel
theorem dX6_words_9 : decode cX6_words 9 = .ok (.ireturn, 1) := by decide +kernel
set_option maxRecDepth 20000 in
theorem ggX6_rank_X6_beside : GoodIn wsX6_rank wsX6_beside := goodIn_r _ [7, 8, 9, 10, 11, 12, 13, 14, 6, 15, 16, 17, 18, 19, 20, 21, 22, 23, 24, 25, 26, 27, 28, 29] (by decide +kernel) (by decide +kernel)
set_option maxRecDepth 20000 in
theorem gX6_rank_X6_beside : GoodIn wsX6_rank (wsV RX6 62 RX6 yX6_beside wsX6_beside) := goodIn_app (goodIn_of _ (by decide +kernel)) ggX6_rank_X6_beside
theorem dX6_rank_0 : decode cX6_rank 0 = .ok (.aload_n 0, 1) := by decide +kernel
theorem dX6_rank_1 : decode cX6_rank 1 = .ok (.iconst 0, 1) := by decide +kernel
theorem dX6_rank_2 : decode cX6_rank 2 = .ok (.putfield 1, 3) := by decide +kernel
theorem dX6_rank_5 : decode cX6_rank 5 = .ok (.iconst 0, 1) := by decide +kernel
theorem dX6_rank_6 : decode cX6_rank 6 = .ok (.istore_n 1, 1) := by decide +kernel
theorem dX6_rank_7 : decode cX6_rank 7 = .ok (.iconst 0, 1) := by decide +kernel
theorem dX6_rank_8 : decode cX6_rank 8 = .ok (.istore_n 2, 1) := by decide +kernel
theorem dX6_rank_9 : decode cX6_rank 9 = .ok (.iload_n 2, 1) := by decide +kernel
theorem dX6_rank_10 : decode cX6_rank 10 = .ok (.aload_n 0, 1) := by decide +kernel
theorem dX6_rank_11 : decode cX6_rank 11 = .ok (.getfield 59, 3) := by decide +kernel
theorem dX6_rank_14 : decode cX6_rank 14 = .ok (.if_icmp .ge 20, 3) := by decide +kernel
theorem dX6_rank_17 : decode cX6_rank 17 = .ok (.aload_n 0, 1) := by decide +kernel
theorem dX6_rank_18 : decode cX6_rank 18 = .ok (.iload_n 2, 1) := by decide +kernel
theorem dX6_rank_19 : decode cX6_rank 19 = .ok (.invokevirtual 62, 3) := by decide +kernel
theorem dX6_rank_22 : decode cX6_rank 22 = .ok (.ifCond .ge 6, 3) := by decide +kernel
theorem dX6_rank_25 : decode cX6_rank 25 = .ok (.iinc 1 1, 3) := by decide +kernel
theorem dX6_rank_28 : decode cX6_rank 28 = .ok (.iinc 2 1, 3) := by decide +kernel
theorem dX6_rank_31 : decode cX6_rank 31 = .ok (.goto (-22), 3) := by decide +kernel
theorem dX6_rank_34 : decode cX6_rank 34 = .ok (.iload_n 1, 1) := by decide +kernel
theorem dX6_rank_35 : decode cX6_rank 35 = .ok (.ireturn, 1) := by decide +kernel
set_option maxRecDepth 20000 in
theorem ggX6_word_X6_in : GoodIn wsX6_word wsX6_in := goodIn_r _ [7] (by decide +kernel) (by decide +kernel)
set_option maxRecDepth 20000 in
theorem gX6_word_X6_in : GoodIn wsX6_word (va_wsS RX6 81 yX6_in wsX6_in) := goodIn_app (goodIn_of _ (by decide +kernel)) ggX6_word_X6_in
set_option maxRecDepth 20000 in
theorem ggX6_word_X6_fails : GoodIn wsX6_word wsX6_fails := goodIn_r _ [11, 12, 37, 38, 39, 40, 41, 42, 43, 44, 45, 46, 47, 48, 49, 50] (by decide +kernel) (by decide +kernel)
set_option maxRecDepth 20000 in
theorem gX6_word_X6_fails : GoodIn wsX6_word (wsV RX6 77 RX6 yX6_fails wsX6_fails) := goodIn_app (goodIn_of _ (by decide +kernel)) ggX6_word_X6_fails
set_option maxRecDepth 20000 in
theorem ggX6_word_X6_orders : GoodIn wsX6_word wsX6_orders := goodIn_r _ [16, 1, 17, 2, 18, 19, 20, 6, 21, 22, 23, 24, 25, 26, 27, 28, 29, 30, 31, 37, 38, 39, 40, 41, 42, 43, 44, 45, 46, 47, 48, 49, 50] (by decide +kernel) (by decide +kernel)
set_option maxRecDepth 20000 in
theorem gX6_word_X6_orders : GoodIn wsX6_word (wsV RX6 94 RX6 yX6_orders wsX6_orders) := goodIn_app (goodIn_of _ (by decide +kernel)) ggX6_word_X6_orders
set_option maxRecDepth 20000 in
theorem ggX6_word_X6_becomes : GoodIn wsX6_word wsX6_becomes := goodIn_r _ [35, 26, 3, 36, 27, 37, 38, 39, 40, 41, 42, 43, 44, 45, 46, 47, 48, 49, 50] (by decide +kernel) (by decide +kernel)
set_option maxRecDepth 20000 in
theorem gX6_word_X6_becomes : GoodIn wsX6_word (wsV RX6 97 RX6 yX6_becomes wsX6_becomes) := goodIn_app (goodIn_of _ (by decide +kernel)) ggX6_word_X6_becomes
theorem dX6_word_0 : decode cX6_word 0 = .ok (.aload_n 0, 1) := by decide +kernel
theorem dX6_word_1 : decode cX6_word 1 = .ok (.iload_n 1, 1) := by decide +kernel
theorem dX6_word_2 : decode cX6_word 2 = .ok (.iconst 0, 1) := by decide +kernel
theorem dX6_word_3 : decode cX6_word 3 = .ok (.aload_n 0, 1) := by decide +kernel
theorem dX6_word_4 : decode cX6_word 4 = .ok (.getfield 59, 3) := by decide +kernel
theorem dX6_word_7 : decode cX6_word 7 = .ok (.iconst 1, 1) := by decide +kernel
theorem dX6_word_8 : decode cX6_word 8 = .ok (.isub, 1) := by decide +kernel
theorem dX6_word_9 : decode cX6_word 9 = .ok (.invokestatic 81, 3) := by decide +kernel
theorem dX6_word_12 : decode cX6_word 12 = .ok (.ifCond .eq 7, 3) := by decide +kernel
theorem dX6_word_15 : decode cX6_word 15 = .ok (.iconst 0, 1) := by decide +kernel
theorem dX6_word_16 : decode cX6_word 16 = .ok (.goto 4, 3) := by decide +kernel
theorem dX6_word_19 : decode cX6_word 19 = .ok (.iconst 1, 1) := by decide +kernel
theorem dX6_word_20 : decode cX6_word 20 = .ok (.invokevirtual 77, 3) := by decide +kernel
theorem dX6_word_23 : decode cX6_word 23 = .ok (.ifCond .eq 5, 3) := by decide +kernel
theorem dX6_word_26 : decode cX6_word 26 = .ok (.iconst 0, 1) := by decide +kernel
theorem dX6_word_27 : decode cX6_word 27 = .ok (.ireturn, 1) := by decide +kernel
theorem dX6_word_28 : decode cX6_word 28 = .ok (.aload_n 0, 1) := by decide +kernel
theorem dX6_word_29 : decode cX6_word 29 = .ok (.invokevirtual 94, 3) := by decide +kernel
theorem dX6_word_32 : decode cX6_word 32 = .ok (.aload_n 0, 1) := by decide +kernel
theorem dX6_word_33 : decode cX6_word 33 = .ok (.aload_n 0, 1) := by decide +kernel
theorem dX6_word_34 : decode cX6_word 34 = .ok (.getfield 36, 3) := by decide +kernel
theorem dX6_word_37 : decode cX6_word 37 = .ok (.iload_n 1, 1) := by decide +kernel
theorem dX6_word_38 : decode cX6_word 38 = .ok (.iaload, 1) := by decide +kernel
theorem dX6_word_39 : decode cX6_word 39 = .ok (.invokevirtual 97, 3) := by decide +kernel
theorem dX6_word_42 : decode cX6_word 42 = .ok (.aload_n 0, 1) := by decide +kernel
theorem dX6_word_43 : decode cX6_word 43 = .ok (.getfield 49, 3) := by decide +kernel
theorem dX6_word_46 : decode cX6_word 46 = .ok (.ireturn, 1) := by decide +kernel
set_option maxRecDepth 20000 in
theorem ggX6_near_X6_beside : GoodIn wsX6_near wsX6_beside := goodIn_r _ [7, 8, 9, 10, 11, 12, 13, 14, 6, 15, 33, 34, 35, 36, 37, 38, 39, 40, 41, 42, 43, 44, 45, 46] (by decide +kernel) (by decide +kernel)
set_option maxRecDepth 20000 in
theorem gX6_near_X6_beside : GoodIn wsX6_near (wsV RX6 62 RX6 yX6_beside wsX6_beside) := goodIn_app (goodIn_of _ (by decide +kernel)) ggX6_near_X6_beside
set_option maxRecDepth 20000 in
theorem ggX6_near_X6_isLess : GoodIn wsX6_near wsX6_isLess := goodIn_r _ [19, 8, 10, 20, 21, 22, 6, 23, 33, 34, 35, 36, 37, 38, 39, 40, 41, 42, 43, 44, 45, 46] (by decide +kernel) (by decide +kernel)
set_option maxRecDepth 20000 in
theorem gX6_near_X6_isLess : GoodIn wsX6_near (wsV RX6 66 RX6 yX6_isLess wsX6_isLess) := goodIn_app (goodIn_of _ (by decide +kernel)) ggX6_near_X6_isLess
set_option maxRecDepth 20000 in
theorem ggX6_near_X6_fails : GoodIn wsX6_near wsX6_fails := goodIn_r _ [27, 28, 33, 34, 35, 36, 37, 38, 39, 40, 41, 42, 43, 44, 45, 46] (by decide +kernel) (by decide +kernel)
set_option maxRecDepth 20000 in
theorem gX6_near_X6_fails : GoodIn wsX6_near (wsV RX6 77 RX6 yX6_fails wsX6_fails) := goodIn_app (goodIn_of _ (by decide +kernel)) ggX6_near_X6_fails
set_option maxRecDepth 20000 in
theorem ggX6_near_X6_becomes : GoodIn wsX6_near wsX6_becomes := goodIn_r _ [32, 8, 9, 11, 10, 33, 34, 35, 36, 37, 38, 39, 40, 41, 42, 43, 44, 45, 46] (by decide +kernel) (by decide +kernel)
set_option maxRecDepth 20000 in
theorem gX6_near_X6_becomes : GoodIn wsX6_near (wsV RX6 97 RX6 yX6_becomes wsX6_becomes) := goodIn_app (goodIn_of _ (by decide +kernel)) ggX6_near_X6_becomes
theorem dX6_near_0 : decode cX6_near 0 = .ok (.iconst (-1), 1) := by decide +kernel
theorem dX6_near_1 : decode cX6_near 1 = .ok (.istore_n 2, 1) := by decide +kernel
theorem dX6_near_2 : decode cX6_near 2 = .ok (.iconst 0, 1) := by decide +kernel
theorem dX6_near_3 : decode cX6_near 3 = .ok (.istore_n 3, 1) := by decide +kernel
theorem dX6_near_4 : decode cX6_near 4 = .ok (.iload_n 3, 1) := by decide +kernel
theorem dX6_near_5 : decode cX6_near 5 = .ok (.aload_n 0, 1) := by decide +kernel
theorem dX6_near_6 : decode cX6_near 6 = .ok (.getfield 59, 3) := by decide +kernel
theorem dX6_near_9 : decode cX6_near 9 = .ok (.if_icmp .ge 141, 3) := by decide +kernel
theorem dX6_near_12 : decode cX6_near 12 = .ok (.aload_n 0, 1) := by decide +kernel
theorem dX6_near_13 : decode cX6_near 13 = .ok (.iload_n 3, 1) := by decide +kernel
theorem dX6_near_14 : decode cX6_near 14 = .ok (.invokevirtual 62, 3) := by decide +kernel
theorem dX6_near_17 : decode cX6_near 17 = .ok (.istore 4, 2) := by decide +kernel
theorem dX6_near_19 : decode cX6_near 19 = .ok (.iload_n 1, 1) := by decide +kernel
theorem dX6_near_20 : decode cX6_near 20 = .ok (.bipush 102, 2) := by decide +kernel
theorem dX6_near_22 : decode cX6_near 22 = .ok (.if_icmp .ne 16, 3) := by decide +kernel
theorem dX6_near_25 : decode cX6_near 25 = .ok (.iload 4, 2) := by decide +kernel
theorem dX6_near_27 : decode cX6_near 27 = .ok (.ifCond .gt 7, 3) := by decide +kernel
theorem dX6_near_30 : decode cX6_near 30 = .ok (.iconst 1, 1) := by decide +kernel
theorem dX6_near_31 : decode cX6_near 31 = .ok (.goto 55, 3) := by decide +kernel
theorem dX6_near_34 : decode cX6_near 34 = .ok (.iconst 0, 1) := by decide +kernel
theorem dX6_near_35 : decode cX6_near 35 = .ok (.goto 51, 3) := by decide +kernel
theorem dX6_near_38 : decode cX6_near 38 = .ok (.iload_n 1, 1) := by decide +kernel
theorem dX6_near_39 : decode cX6_near 39 = .ok (.bipush 99, 2) := by decide +kernel
theorem dX6_near_41 : decode cX6_near 41 = .ok (.if_icmp .ne 16, 3) := by decide +kernel
theorem dX6_near_44 : decode cX6_near 44 = .ok (.iload 4, 2) := by decide +kernel
theorem dX6_near_46 : decode cX6_near 46 = .ok (.ifCond .lt 7, 3) := by decide +kernel
theorem dX6_near_49 : decode cX6_near 49 = .ok (.iconst 1, 1) := by decide +kernel
theorem dX6_near_50 : decode cX6_near 50 = .ok (.goto 36, 3) := by decide +kernel
theorem dX6_near_53 : decode cX6_near 53 = .ok (.iconst 0, 1) := by decide +kernel
theorem dX6_near_54 : decode cX6_near 54 = .ok (.goto 32, 3) := by decide +kernel
theorem dX6_near_57 : decode cX6_near 57 = .ok (.iload_n 1, 1) := by decide +kernel
theorem dX6_near_58 : decode cX6_near 58 = .ok (.bipush 108, 2) := by decide +kernel
theorem dX6_near_60 : decode cX6_near 60 = .ok (.if_icmp .ne 16, 3) := by decide +kernel
theorem dX6_near_63 : decode cX6_near 63 = .ok (.iload 4, 2) := by decide +kernel
theorem dX6_near_65 : decode cX6_near 65 = .ok (.ifCond .ge 7, 3) := by decide +kernel
theorem dX6_near_68 : decode cX6_near 68 = .ok (.iconst 1, 1) := by decide +kernel
theorem dX6_near_69 : decode cX6_near 69 = .ok (.goto 17, 3) := by decide +kernel
theorem dX6_near_72 : decode cX6_near 72 = .ok (.iconst 0, 1) := by decide +kernel
theorem dX6_near_73 : decode cX6_near 73 = .ok (.goto 13, 3) := by decide +kernel
theorem dX6_near_76 : decode cX6_near 76 = .ok (.iload 4, 2) := by decide +kernel
theorem dX6_near_78 : decode cX6_near 78 = .ok (.ifCond .le 7, 3) := by decide +kernel
theorem dX6_near_81 : decode cX6_near 81 = .ok (.iconst 1, 1) := by decide +kernel
theorem dX6_near_82 : decode cX6_near 82 = .ok (.goto 4, 3) := by decide +kernel
theorem dX6_near_85 : decode cX6_near 85 = .ok (.iconst 0, 1) := by decide +kernel
theorem dX6_near_86 : decode cX6_near 86 = .ok (.istore 5, 2) := by decide +kernel
theorem dX6_near_88 : decode cX6_near 88 = .ok (.iload_n 1, 1) := by decide +kernel
theorem dX6_near_89 : decode cX6_near 89 = .ok (.bipush 102, 2) := by decide +kernel
theorem dX6_near_91 : decode cX6_near 91 = .ok (.if_icmp .eq 9, 3) := by decide +kernel
theorem dX6_near_94 : decode cX6_near 94 = .ok (.iload_n 1, 1) := by decide +kernel
theorem dX6_near_95 : decode cX6_near 95 = .ok (.bipush 108, 2) := by decide +kernel
theorem dX6_near_97 : decode cX6_near 97 = .ok (.if_icmp .ne 7, 3) := by decide +kernel
theorem dX6_near_100 : decode cX6_near 100 = .ok (.iconst 1, 1) := by decide +kernel
theorem dX6_near_101 : decode cX6_near 101 = .ok (.goto 4, 3) := by decide +kernel
theorem dX6_near_104 : decode cX6_near 104 = .ok (.iconst 0, 1) := by decide +kernel
theorem dX6_near_105 : decode cX6_near 105 = .ok (.istore 6, 2) := by decide +kernel
theorem dX6_near_107 : decode cX6_near 107 = .ok (.iload 5, 2) := by decide +kernel
theorem dX6_near_109 : decode cX6_near 109 = .ok (.ifCond .eq 35, 3) := by decide +kernel
theorem dX6_near_112 : decode cX6_near 112 = .ok (.iload_n 2, 1) := by decide +kernel
theorem dX6_near_113 : decode cX6_near 113 = .ok (.ifCond .lt 29, 3) := by decide +kernel
theorem dX6_near_116 : decode cX6_near 116 = .ok (.iload 6, 2) := by decide +kernel
theorem dX6_near_118 : decode cX6_near 118 = .ok (.ifCond .eq 15, 3) := by decide +kernel
theorem dX6_near_121 : decode cX6_near 121 = .ok (.aload_n 0, 1) := by decide +kernel
theorem dX6_near_122 : decode cX6_near 122 = .ok (.iload_n 2, 1) := by decide +kernel
theorem dX6_near_123 : decode cX6_near 123 = .ok (.iload_n 3, 1) := by decide +kernel
theorem dX6_near_124 : decode cX6_near 124 = .ok (.invokevirtual 66, 3) := by decide +kernel
theorem dX6_near_127 : decode cX6_near 127 = .ok (.ifCond .eq 17, 3) := by decide +kernel
theorem dX6_near_130 : decode cX6_near 130 = .ok (.goto 12, 3) := by decide +kernel
theorem dX6_near_133 : decode cX6_near 133 = .ok (.aload_n 0, 1) := by decide +kernel
theorem dX6_near_134 : decode cX6_near 134 = .ok (.iload_n 3, 1) := by decide +kernel
theorem dX6_near_135 : decode cX6_near 135 = .ok (.iload_n 2, 1) := by decide +kernel
theorem dX6_near_136 : decode cX6_near 136 = .ok (.invokevirtual 66, 3) := by decide +kernel
theorem dX6_near_139 : decode cX6_near 139 = .ok (.ifCond .eq 5, 3) := by decide +kernel
theorem dX6_near_142 : decode cX6_near 142 = .ok (.iload_n 3, 1) := by decide +kernel
theorem dX6_near_143 : decode cX6_near 143 = .ok (.istore_n 2, 1) := by decide +kernel
theorem dX6_near_144 : decode cX6_near 144 = .ok (.iinc 3 1, 3) := by decide +kernel
theorem dX6_near_147 : decode cX6_near 147 = .ok (.goto (-143), 3) := by decide +kernel
theorem dX6_near_150 : decode cX6_near 150 = .ok (.aload_n 0, 1) := by decide +kernel
theorem dX6_near_151 : decode cX6_near 151 = .ok (.iload_n 1, 1) := by decide +kernel
theorem dX6_near_152 : decode cX6_near 152 = .ok (.bipush 102, 2) := by decide +kernel
theorem dX6_near_154 : decode cX6_near 154 = .ok (.if_icmp .eq 25, 3) := by decide +kernel
theorem dX6_near_157 : decode cX6_near 157 = .ok (.iload_n 1, 1) := by decide +kernel
theorem dX6_near_158 : decode cX6_near 158 = .ok (.bipush 99, 2) := by decide +kernel
theorem dX6_near_160 : decode cX6_near 160 = .ok (.if_icmp .eq 19, 3) := by decide +kernel
theorem dX6_near_163 : decode cX6_near 163 = .ok (.iload_n 1, 1) := by decide +kernel
theorem dX6_near_164 : decode cX6_near 164 = .ok (.bipush 108, 2) := by decide +kernel
theorem dX6_near_166 : decode cX6_near 166 = .ok (.if_icmp .eq 13, 3) := by decide +kernel
theorem dX6_near_169 : decode cX6_near 169 = .ok (.iload_n 1, 1) := by decide +kernel
theorem dX6_near_170 : decode cX6_near 170 = .ok (.bipush 104, 2) := by decide +kernel
theorem dX6_near_172 : decode cX6_near 172 = .ok (.if_icmp .eq 7, 3) := by decide +kernel
theorem dX6_near_175 : decode cX6_near 175 = .ok (.iconst 1, 1) := by decide +kernel
theorem dX6_near_176 : decode cX6_near 176 = .ok (.goto 12, 3) := by decide +kernel
theorem dX6_near_179 : decode cX6_near 179 = .ok (.iload_n 2, 1) := by decide +kernel
theorem dX6_near_180 : decode cX6_near 180 = .ok (.ifCond .ge 7, 3) := by decide +kernel
theorem dX6_near_183 : decode cX6_near 183 = .ok (.iconst 2, 1) := by decide +kernel
theorem dX6_near_184 : decode cX6_near 184 = .ok (.goto 4, 3) := by decide +kernel
theorem dX6_near_187 : decode cX6_near 187 = .ok (.iconst 0, 1) := by decide +kernel
theorem dX6_near_188 : decode cX6_near 188 = .ok (.invokevirtual 77, 3) := by decide +kernel
theorem dX6_near_191 : decode cX6_near 191 = .ok (.ifCond .eq 5, 3) := by decide +kernel
theorem dX6_near_194 : decode cX6_near 194 = .ok (.iconst 0, 1) := by decide +kernel
theorem dX6_near_195 : decode cX6_near 195 = .ok (.ireturn, 1) := by decide +kernel
theorem dX6_near_196 : decode cX6_near 196 = .ok (.aload_n 0, 1) := by decide +kernel
theorem dX6_near_197 : decode cX6_near 197 = .ok (.iload_n 2, 1) := by decide +kernel
theorem dX6_near_198 : decode cX6_near 198 = .ok (.invokevirtual 97, 3) := by decide +kernel
theorem dX6_near_201 : decode cX6_near 201 = .ok (.aload_n 0, 1) := by decide +kernel
theorem dX6_near_202 : decode cX6_near 202 = .ok (.getfield 30, 3) := by decide +kernel
theorem dX6_near_205 : decode cX6_near 205 = .ok (.iload_n 2, 1) := by decide +kernel
theorem dX6_near_206 : decode cX6_near 206 = .ok (.iaload, 1) := by decide +kernel
theorem dX6_near_207 : decode cX6_near 207 = .ok (.ireturn, 1) := by decide +kernel
set_option maxRecDepth 20000 in
theorem ggX6_begun_X6_isBegun : GoodIn wsX6_begun wsX6_isBegun := goodIn_r _ [7, 8, 9, 10, 11, 6, 12, 13, 14, 15, 16, 17, 18, 19, 20, 21, 22, 23, 24, 25, 26, 27, 28, 29] (by decide +kernel) (by decide +kernel)
set_option maxRecDepth 20000 in
theorem gX6_begun_X6_isBegun : GoodIn wsX6_begun (wsV RX6 100 RX6 yX6_isBegun wsX6_isBegun) := goodIn_app (goodIn_of _ (by decide +kernel)) ggX6_begun_X6_isBegun
theorem dX6_begun_0 : decode cX6_begun 0 = .ok (.aload_n 0, 1) := by decide +kernel
theorem dX6_begun_1 : decode cX6_begun 1 = .ok (.iconst 0, 1) := by decide +kernel
theorem dX6_begun_2 : decode cX6_begun 2 = .ok (.putfield 1, 3) := by decide +kernel
theorem dX6_begun_5 : decode cX6_begun 5 = .ok (.iconst 0, 1) := by decide +kernel
theorem dX6_begun_6 : decode cX6_begun 6 = .ok (.istore_n 1, 1) := by decide +kernel
theorem dX6_begun_7 : decode cX6_begun 7 = .ok (.iconst 0, 1) := by decide +kernel
theorem dX6_begun_8 : decode cX6_begun 8 = .ok (.istore_n 2, 1) := by decide +kernel
theorem dX6_begun_9 : decode cX6_begun 9 = .ok (.iload_n 2, 1) := by decide +kernel
theorem dX6_begun_10 : decode cX6_begun 10 = .ok (.aload_n 0, 1) := by decide +kernel
theorem dX6_begun_11 : decode cX6_begun 11 = .ok (.getfield 59, 3) := by decide +kernel
theorem dX6_begun_14 : decode cX6_begun 14 = .ok (.if_icmp .ge 20, 3) := by decide +kernel
theorem dX6_begun_17 : decode cX6_begun 17 = .ok (.aload_n 0, 1) := by decide +kernel
theorem dX6_begun_18 : decode cX6_begun 18 = .ok (.iload_n 2, 1) := by decide +kernel
theorem dX6_begun_19 : decode cX6_begun 19 = .ok (.invokevirtual 100, 3) := by decide +kernel
theorem dX6_begun_22 : decode cX6_begun 22 = .ok (.ifCond .eq 6, 3) := by decide +kernel
theorem dX6_begun_25 : decode cX6_begun 25 = .ok (.iinc 1 1, 3) := by decide +kernel
theorem dX6_begun_28 : decode cX6_begun 28 = .ok (.iinc 2 1, 3) := by decide +kernel
theorem dX6_begun_31 : decode cX6_begun 31 = .ok (.goto (-22), 3) := by decide +kernel
theorem dX6_begun_34 : decode cX6_begun 34 = .ok (.iload_n 1, 1) := by decide +kernel
theorem dX6_begun_35 : decode cX6_begun 35 = .ok (.ireturn, 1) := by decide +kernel
set_option maxRecDepth 20000 in
theorem ggX6_begunAt_X6_isBegun : GoodIn wsX6_begunAt wsX6_isBegun := goodIn_r _ [7, 8, 9, 10, 11, 6, 12, 13, 14, 15, 33, 34, 35, 36, 37, 38, 39, 40, 41, 42, 43, 44, 45, 46] (by decide +kernel) (by decide +kernel)
set_option maxRecDepth 20000 in
theorem gX6_begunAt_X6_isBegun : GoodIn wsX6_begunAt (wsV RX6 100 RX6 yX6_isBegun wsX6_isBegun) := goodIn_app (goodIn_of _ (by decide +kernel)) ggX6_begunAt_X6_isBegun
set_option maxRecDepth 20000 in
theorem ggX6_begunAt_X6_isLess : GoodIn wsX6_begunAt wsX6_isLess := goodIn_r _ [19, 13, 14, 20, 21, 22, 6, 23, 33, 34, 35, 36, 37, 38, 39, 40, 41, 42, 43, 44, 45, 46] (by decide +kernel) (by decide +kernel)
set_option maxRecDepth 20000 in
theorem gX6_begunAt_X6_isLess : GoodIn wsX6_begunAt (wsV RX6 66 RX6 yX6_isLess wsX6_isLess) := goodIn_app (goodIn_of _ (by decide +kernel)) ggX6_begunAt_X6_isLess
set_option maxRecDepth 20000 in
theorem ggX6_begunAt_X6_fails : GoodIn wsX6_begunAt wsX6_fails := goodIn_r _ [27, 28, 33, 34, 35, 36, 37, 38, 39, 40, 41, 42, 43, 44, 45, 46] (by decide +kernel) (by decide +kernel)
set_option maxRecDepth 20000 in
theorem gX6_begunAt_X6_fails : GoodIn wsX6_begunAt (wsV RX6 77 RX6 yX6_fails wsX6_fails) := goodIn_app (goodIn_of _ (by decide +kernel)) ggX6_begunAt_X6_fails
set_option maxRecDepth 20000 in
theorem ggX6_begunAt_X6_becomes : GoodIn wsX6_begunAt wsX6_becomes := goodIn_r _ [32, 13, 8, 15, 14, 33, 34, 35, 36, 37, 38, 39, 40, 41, 42, 43, 44, 45, 46] (by decide +kernel) (by decide +kernel)
set_option maxRecDepth 20000 in
theorem gX6_begunAt_X6_becomes : GoodIn wsX6_begunAt (wsV RX6 97 RX6 yX6_becomes wsX6_becomes) := goodIn_app (goodIn_of _ (by decide +kernel)) ggX6_begunAt_X6_becomes
theorem dX6_begunAt_0 : decode cX6_begunAt 0 = .ok (.iconst (-1), 1) := by decide +kernel
theorem dX6_begunAt_1 : decode cX6_begunAt 1 = .ok (.istore_n 2, 1) := by decide +kernel
theorem dX6_begunAt_2 : decode cX6_begunAt 2 = .ok (.iconst 0, 1) := by decide +kernel
theorem dX6_begunAt_3 : decode cX6_begunAt 3 = .ok (.istore_n 3, 1) := by decide +kernel
theorem dX6_begunAt_4 : decode cX6_begunAt 4 = .ok (.iload_n 3, 1) := by decide +kernel
theorem dX6_begunAt_5 : decode cX6_begunAt 5 = .ok (.aload_n 0, 1) := by decide +kernel
theorem dX6_begunAt_6 : decode cX6_begunAt 6 = .ok (.getfield 59, 3) := by decide +kernel
theorem dX6_begunAt_9 : decode cX6_begunAt 9 = .ok (.if_icmp .ge 68, 3) := by decide +kernel
theorem dX6_begunAt_12 : decode cX6_begunAt 12 = .ok (.iconst 0, 1) := by decide +kernel
theorem dX6_begunAt_13 : decode cX6_begunAt 13 = .ok (.istore 4, 2) := by decide +kernel
theorem dX6_begunAt_15 : decode cX6_begunAt 15 = .ok (.iconst 0, 1) := by decide +kernel
theorem dX6_begunAt_16 : decode cX6_begunAt 16 = .ok (.istore 5, 2) := by decide +kernel
theorem dX6_begunAt_18 : decode cX6_begunAt 18 = .ok (.iload 5, 2) := by decide +kernel
theorem dX6_begunAt_20 : decode cX6_begunAt 20 = .ok (.aload_n 0, 1) := by decide +kernel
theorem dX6_begunAt_21 : decode cX6_begunAt 21 = .ok (.getfield 59, 3) := by decide +kernel
theorem dX6_begunAt_24 : decode cX6_begunAt 24 = .ok (.if_icmp .ge 31, 3) := by decide +kernel
theorem dX6_begunAt_27 : decode cX6_begunAt 27 = .ok (.aload_n 0, 1) := by decide +kernel
theorem dX6_begunAt_28 : decode cX6_begunAt 28 = .ok (.iload 5, 2) := by decide +kernel
theorem dX6_begunAt_30 : decode cX6_begunAt 30 = .ok (.invokevirtual 100, 3) := by decide +kernel
theorem dX6_begunAt_33 : decode cX6_begunAt 33 = .ok (.ifCond .eq 16, 3) := by decide +kernel
theorem dX6_begunAt_36 : decode cX6_begunAt 36 = .ok (.aload_n 0, 1) := by decide +kernel
theorem dX6_begunAt_37 : decode cX6_begunAt 37 = .ok (.iload 5, 2) := by decide +kernel
theorem dX6_begunAt_39 : decode cX6_begunAt 39 = .ok (.iload_n 3, 1) := by decide +kernel
theorem dX6_begunAt_40 : decode cX6_begunAt 40 = .ok (.invokevirtual 66, 3) := by decide +kernel
theorem dX6_begunAt_43 : decode cX6_begunAt 43 = .ok (.ifCond .eq 6, 3) := by decide +kernel
theorem dX6_begunAt_46 : decode cX6_begunAt 46 = .ok (.iinc 4 1, 3) := by decide +kernel
theorem dX6_begunAt_49 : decode cX6_begunAt 49 = .ok (.iinc 5 1, 3) := by decide +kernel
theorem dX6_begunAt_52 : decode cX6_begunAt 52 = .ok (.goto (-34), 3) := by decide +kernel
theorem dX6_begunAt_55 : decode cX6_begunAt 55 = .ok (.aload_n 0, 1) := by decide +kernel
theorem dX6_begunAt_56 : decode cX6_begunAt 56 = .ok (.iload_n 3, 1) := by decide +kernel
theorem dX6_begunAt_57 : decode cX6_begunAt 57 = .ok (.invokevirtual 100, 3) := by decide +kernel
theorem dX6_begunAt_60 : decode cX6_begunAt 60 = .ok (.ifCond .eq 11, 3) := by decide +kernel
theorem dX6_begunAt_63 : decode cX6_begunAt 63 = .ok (.iload 4, 2) := by decide +kernel
theorem dX6_begunAt_65 : decode cX6_begunAt 65 = .ok (.iload_n 1, 1) := by decide +kernel
theorem dX6_begunAt_66 : decode cX6_begunAt 66 = .ok (.if_icmp .ne 5, 3) := by decide +kernel
theorem dX6_begunAt_69 : decode cX6_begunAt 69 = .ok (.iload_n 3, 1) := by decide +kernel
theorem dX6_begunAt_70 : decode cX6_begunAt 70 = .ok (.istore_n 2, 1) := by decide +kernel
theorem dX6_begunAt_71 : decode cX6_begunAt 71 = .ok (.iinc 3 1, 3) := by decide +kernel
theorem dX6_begunAt_74 : decode cX6_begunAt 74 = .ok (.goto (-70), 3) := by decide +kernel
theorem dX6_begunAt_77 : decode cX6_begunAt 77 = .ok (.aload_n 0, 1) := by decide +kernel
theorem dX6_begunAt_78 : decode cX6_begunAt 78 = .ok (.iload_n 2, 1) := by decide +kernel
theorem dX6_begunAt_79 : decode cX6_begunAt 79 = .ok (.ifCond .ge 7, 3) := by decide +kernel
theorem dX6_begunAt_82 : decode cX6_begunAt 82 = .ok (.iconst 1, 1) := by decide +kernel
theorem dX6_begunAt_83 : decode cX6_begunAt 83 = .ok (.goto 4, 3) := by decide +kernel
theorem dX6_begunAt_86 : decode cX6_begunAt 86 = .ok (.iconst 0, 1) := by decide +kernel
theorem dX6_begunAt_87 : decode cX6_begunAt 87 = .ok (.invokevirtual 77, 3) := by decide +kernel
theorem dX6_begunAt_90 : decode cX6_begunAt 90 = .ok (.ifCond .eq 5, 3) := by decide +kernel
theorem dX6_begunAt_93 : decode cX6_begunAt 93 = .ok (.iconst 0, 1) := by decide +kernel
theorem dX6_begunAt_94 : decode cX6_begunAt 94 = .ok (.ireturn, 1) := by decide +kernel
theorem dX6_begunAt_95 : decode cX6_begunAt 95 = .ok (.aload_n 0, 1) := by decide +kernel
theorem dX6_begunAt_96 : decode cX6_begunAt 96 = .ok (.iload_n 2, 1) := by decide +kernel
theorem dX6_begunAt_97 : decode cX6_begunAt 97 = .ok (.invokevirtual 97, 3) := by decide +kernel
theorem dX6_begunAt_100 : decode cX6_begunAt 100 = .ok (.aload_n 0, 1) := by decide +kernel
theorem dX6_begunAt_101 : decode cX6_begunAt 101 = .ok (.getfield 30, 3) := by decide +kernel
theorem dX6_begunAt_104 : decode cX6_begunAt 104 = .ok (.iload_n 2, 1) := by decide +kernel
theorem dX6_begunAt_105 : decode cX6_begunAt 105 = .ok (.iaload, 1) := by decide +kernel
theorem dX6_begunAt_106 : decode cX6_begunAt 106 = .ok (.ireturn, 1) := by decide +kernel
set_option maxRecDepth 20000 in
theorem ggX6_sum_X6_isBegun : GoodIn wsX6_sum wsX6_isBegun := goodIn_r _ [8, 9, 10, 11, 12, 7, 13, 14, 15, 16, 17, 18, 19, 20, 21, 22, 23, 24, 25, 26, 27, 28, 29, 30] (by decide +kernel) (by decide +kernel)
set_option maxRecDepth 20000 in
theorem gX6_sum_X6_isBegun : GoodIn wsX6_sum (wsV RX6 100 RX6 yX6_isBegun wsX6_isBegun) := goodIn_app (goodIn_of _ (by decide +kernel)) ggX6_sum_X6_isBegun
theorem dX6_sum_0 : decode cX6_sum 0 = .ok (.aload_n 0, 1) := by decide +kernel
theorem dX6_sum_1 : decode cX6_sum 1 = .ok (.iconst 0, 1) := by decide +kernel
theorem dX6_sum_2 : decode cX6_sum 2 = .ok (.putfield 1, 3) := by decide +kernel
theorem dX6_sum_5 : decode cX6_sum 5 = .ok (.iconst 0, 1) := by decide +kernel
theorem dX6_sum_6 : decode cX6_sum 6 = .ok (.istore_n 1, 1) := by decide +kernel
theorem dX6_sum_7 : decode cX6_sum 7 = .ok (.iconst 0, 1) := by decide +kernel
theorem dX6_sum_8 : decode cX6_sum 8 = .ok (.istore_n 2, 1) := by decide +kernel
theorem dX6_sum_9 : decode cX6_sum 9 = .ok (.iload_n 2, 1) := by decide +kernel
theorem dX6_sum_10 : decode cX6_sum 10 = .ok (.aload_n 0, 1) := by decide +kernel
theorem dX6_sum_11 : decode cX6_sum 11 = .ok (.getfield 59, 3) := by decide +kernel
theorem dX6_sum_14 : decode cX6_sum 14 = .ok (.if_icmp .ge 26, 3) := by decide +kernel
theorem dX6_sum_17 : decode cX6_sum 17 = .ok (.aload_n 0, 1) := by decide +kernel
theorem dX6_sum_18 : decode cX6_sum 18 = .ok (.iload_n 2, 1) := by decide +kernel
theorem dX6_sum_19 : decode cX6_sum 19 = .ok (.invokevirtual 100, 3) := by decide +kernel
theorem dX6_sum_22 : decode cX6_sum 22 = .ok (.ifCond .eq 12, 3) := by decide +kernel
theorem dX6_sum_25 : decode cX6_sum 25 = .ok (.iload_n 1, 1) := by decide +kernel
theorem dX6_sum_26 : decode cX6_sum 26 = .ok (.aload_n 0, 1) := by decide +kernel
theorem dX6_sum_27 : decode cX6_sum 27 = .ok (.getfield 30, 3) := by decide +kernel
theorem dX6_sum_30 : decode cX6_sum 30 = .ok (.iload_n 2, 1) := by decide +kernel
theorem dX6_sum_31 : decode cX6_sum 31 = .ok (.iaload, 1) := by decide +kernel
theorem dX6_sum_32 : decode cX6_sum 32 = .ok (.iadd, 1) := by decide +kernel
theorem dX6_sum_33 : decode cX6_sum 33 = .ok (.istore_n 1, 1) := by decide +kernel
theorem dX6_sum_34 : decode cX6_sum 34 = .ok (.iinc 2 1, 3) := by decide +kernel
theorem dX6_sum_37 : decode cX6_sum 37 = .ok (.goto (-28), 3) := by decide +kernel
theorem dX6_sum_40 : decode cX6_sum 40 = .ok (.iload_n 1, 1) := by decide +kernel
theorem dX6_sum_41 : decode cX6_sum 41 = .ok (.ireturn, 1) := by decide +kernel
set_option maxRecDepth 20000 in
theorem ggX6_gone_X6_isBegun : GoodIn wsX6_gone wsX6_isBegun := goodIn_r _ [7, 8, 9, 10, 11, 6, 12, 13, 14, 15, 21, 22, 23, 24, 25, 26, 27, 28, 29, 30, 31, 32, 33, 34] (by decide +kernel) (by decide +kernel)
set_option maxRecDepth 20000 in
theorem gX6_gone_X6_isBegun : GoodIn wsX6_gone (wsV RX6 100 RX6 yX6_isBegun wsX6_isBegun) := goodIn_app (goodIn_of _ (by decide +kernel)) ggX6_gone_X6_isBegun
set_option maxRecDepth 20000 in
theorem ggX6_gone_X6_goes : GoodIn wsX6_gone wsX6_goes := goodIn_r _ [19, 2, 13, 20, 14, 21, 22, 23, 24, 25, 26, 27, 28, 29, 30, 31, 32, 33, 34] (by decide +kernel) (by decide +kernel)
set_option maxRecDepth 20000 in
theorem gX6_gone_X6_goes : GoodIn wsX6_gone (wsV RX6 90 RX6 yX6_goes wsX6_goes) := goodIn_app (goodIn_of _ (by decide +kernel)) ggX6_gone_X6_goes
theorem dX6_gone_0 : decode cX6_gone 0 = .ok (.aload_n 0, 1) := by decide +kernel
theorem dX6_gone_1 : decode cX6_gone 1 = .ok (.iconst 0, 1) := by decide +kernel
theorem dX6_gone_2 : decode cX6_gone 2 = .ok (.putfield 1, 3) := by decide +kernel
theorem dX6_gone_5 : decode cX6_gone 5 = .ok (.iconst 0, 1) := by decide +kernel
theorem dX6_gone_6 : decode cX6_gone 6 = .ok (.istore_n 1, 1) := by decide +kernel
theorem dX6_gone_7 : decode cX6_gone 7 = .ok (.aload_n 0, 1) := by decide +kernel
theorem dX6_gone_8 : decode cX6_gone 8 = .ok (.getfield 59, 3) := by decide +kernel
theorem dX6_gone_11 : decode cX6_gone 11 = .ok (.iconst 1, 1) := by decide +kernel
theorem dX6_gone_12 : decode cX6_gone 12 = .ok (.isub, 1) := by decide +kernel
theorem dX6_gone_13 : decode cX6_gone 13 = .ok (.istore_n 2, 1) := by decide +kernel
theorem dX6_gone_14 : decode cX6_gone 14 = .ok (.iload_n 2, 1) := by decide +kernel
theorem dX6_gone_15 : decode cX6_gone 15 = .ok (.ifCond .lt 28, 3) := by decide +kernel
theorem dX6_gone_18 : decode cX6_gone 18 = .ok (.aload_n 0, 1) := by decide +kernel
theorem dX6_gone_19 : decode cX6_gone 19 = .ok (.iload_n 2, 1) := by decide +kernel
theorem dX6_gone_20 : decode cX6_gone 20 = .ok (.invokevirtual 100, 3) := by decide +kernel
theorem dX6_gone_23 : decode cX6_gone 23 = .ok (.ifCond .ne 6, 3) := by decide +kernel
theorem dX6_gone_26 : decode cX6_gone 26 = .ok (.goto 11, 3) := by decide +kernel
theorem dX6_gone_29 : decode cX6_gone 29 = .ok (.aload_n 0, 1) := by decide +kernel
theorem dX6_gone_30 : decode cX6_gone 30 = .ok (.iload_n 2, 1) := by decide +kernel
theorem dX6_gone_31 : decode cX6_gone 31 = .ok (.invokevirtual 90, 3) := by decide +kernel
theorem dX6_gone_34 : decode cX6_gone 34 = .ok (.iinc 1 1, 3) := by decide +kernel
theorem dX6_gone_37 : decode cX6_gone 37 = .ok (.iinc 2 (-1), 3) := by decide +kernel
theorem dX6_gone_40 : decode cX6_gone 40 = .ok (.goto (-26), 3) := by decide +kernel
theorem dX6_gone_43 : decode cX6_gone 43 = .ok (.iload_n 1, 1) := by decide +kernel
theorem dX6_gone_44 : decode cX6_gone 44 = .ok (.ireturn, 1) := by decide +kernel
set_option maxRecDepth 20000 in
theorem ggX6_longestAt_X6_like : GoodIn wsX6_longestAt wsX6_like := goodIn_r _ [7, 2, 8, 9, 10, 11, 12, 13, 14, 15, 16, 17, 18, 19, 20, 21, 22, 23, 24] (by decide +kernel) (by decide +kernel)
set_option maxRecDepth 20000 in
theorem gX6_longestAt_X6_like : GoodIn wsX6_longestAt (wsV RX6 52 RX6 yX6_like wsX6_like) := goodIn_app (goodIn_of _ (by decide +kernel)) ggX6_longestAt_X6_like
theorem dX6_longestAt_0 : decode cX6_longestAt 0 = .ok (.iconst 0, 1) := by decide +kernel
theorem dX6_longestAt_1 : decode cX6_longestAt 1 = .ok (.istore_n 2, 1) := by decide +kernel
theorem dX6_longestAt_2 : decode cX6_longestAt 2 = .ok (.iconst 0, 1) := by decide +kernel
theorem dX6_longestAt_3 : decode cX6_longestAt 3 = .ok (.istore_n 3, 1) := by decide +kernel
theorem dX6_longestAt_4 : decode cX6_longestAt 4 = .ok (.iload_n 3, 1) := by decide +kernel
theorem dX6_longestAt_5 : decode cX6_longestAt 5 = .ok (.aload_n 0, 1) := by decide +kernel
theorem dX6_longestAt_6 : decode cX6_longestAt 6 = .ok (.getfield 59, 3) := by decide +kernel
theorem dX6_longestAt_9 : decode cX6_longestAt 9 = .ok (.if_icmp .ge 41, 3) := by decide +kernel
theorem dX6_longestAt_12 : decode cX6_longestAt 12 = .ok (.aload_n 0, 1) := by decide +kernel
theorem dX6_longestAt_13 : decode cX6_longestAt 13 = .ok (.iload_n 3, 1) := by decide +kernel
theorem dX6_longestAt_14 : decode cX6_longestAt 14 = .ok (.iload_n 1, 1) := by decide +kernel
theorem dX6_longestAt_15 : decode cX6_longestAt 15 = .ok (.invokevirtual 52, 3) := by decide +kernel
theorem dX6_longestAt_18 : decode cX6_longestAt 18 = .ok (.aload_n 0, 1) := by decide +kernel
theorem dX6_longestAt_19 : decode cX6_longestAt 19 = .ok (.getfield 26, 3) := by decide +kernel
theorem dX6_longestAt_22 : decode cX6_longestAt 22 = .ok (.iload_n 3, 1) := by decide +kernel
theorem dX6_longestAt_23 : decode cX6_longestAt 23 = .ok (.iaload, 1) := by decide +kernel
theorem dX6_longestAt_24 : decode cX6_longestAt 24 = .ok (.if_icmp .ne 20, 3) := by decide +kernel
theorem dX6_longestAt_27 : decode cX6_longestAt 27 = .ok (.aload_n 0, 1) := by decide +kernel
theorem dX6_longestAt_28 : decode cX6_longestAt 28 = .ok (.getfield 26, 3) := by decide +kernel
theorem dX6_longestAt_31 : decode cX6_longestAt 31 = .ok (.iload_n 3, 1) := by decide +kernel
theorem dX6_longestAt_32 : decode cX6_longestAt 32 = .ok (.iaload, 1) := by decide +kernel
theorem dX6_longestAt_33 : decode cX6_longestAt 33 = .ok (.iload_n 2, 1) := by decide +kernel
theorem dX6_longestAt_34 : decode cX6_longestAt 34 = .ok (.if_icmp .le 10, 3) := by decide +kernel
theorem dX6_longestAt_37 : decode cX6_longestAt 37 = .ok (.aload_n 0, 1) := by decide +kernel
theorem dX6_longestAt_38 : decode cX6_longestAt 38 = .ok (.getfield 26, 3) := by decide +kernel
theorem dX6_longestAt_41 : decode cX6_longestAt 41 = .ok (.iload_n 3, 1) := by decide +kernel
theorem dX6_longestAt_42 : decode cX6_longestAt 42 = .ok (.iaload, 1) := by decide +kernel
theorem dX6_longestAt_43 : decode cX6_longestAt 43 = .ok (.istore_n 2, 1) := by decide +kernel
theorem dX6_longestAt_44 : decode cX6_longestAt 44 = .ok (.iinc 3 1, 3) := by decide +kernel
theorem dX6_longestAt_47 : decode cX6_longestAt 47 = .ok (.goto (-43), 3) := by decide +kernel
theorem dX6_longestAt_50 : decode cX6_longestAt 50 = .ok (.iload_n 2, 1) := by decide +kernel
theorem dX6_longestAt_51 : decode cX6_longestAt 51 = .ok (.ireturn, 1) := by decide +kernel
set_option maxRecDepth 20000 in
theorem ggX6_longest_X6_in : GoodIn wsX6_longest wsX6_in := goodIn_r _ [5] (by decide +kernel) (by decide +kernel)
set_option maxRecDepth 20000 in
theorem gX6_longest_X6_in : GoodIn wsX6_longest (va_wsS RX6 81 yX6_in wsX6_in) := goodIn_app (goodIn_of _ (by decide +kernel)) ggX6_longest_X6_in
set_option maxRecDepth 20000 in
theorem ggX6_longest_X6_fails : GoodIn wsX6_longest wsX6_fails := goodIn_r _ [9, 10, 23, 24, 25, 26, 27, 28, 29, 30, 31, 32, 33, 34, 35, 36] (by decide +kernel) (by decide +kernel)
set_option maxRecDepth 20000 in
theorem gX6_longest_X6_fails : GoodIn wsX6_longest (wsV RX6 77 RX6 yX6_fails wsX6_fails) := goodIn_app (goodIn_of _ (by decide +kernel)) ggX6_longest_X6_fails
set_option maxRecDepth 20000 in
theorem ggX6_longest_X6_longestAt : GoodIn wsX6_longest wsX6_longestAt := goodIn_r _ [14, 15, 16, 17, 18, 19, 4, 20, 1, 21, 22, 23, 24, 25, 26, 27, 28, 29, 30, 31, 32, 33, 34, 35, 36] (by decide +kernel) (by decide +kernel)
set_option maxRecDepth 20000 in
theorem gX6_longest_X6_longestAt : GoodIn wsX6_longest (wsV RX6 103 RX6 yX6_longestAt wsX6_longestAt) := goodIn_app (goodIn_of _ (by decide +kernel)) ggX6_longest_X6_longestAt
theorem dX6_longest_0 : decode cX6_longest 0 = .ok (.aload_n 0, 1) := by decide +kernel
theorem dX6_longest_1 : decode cX6_longest 1 = .ok (.iload_n 1, 1) := by decide +kernel
theorem dX6_longest_2 : decode cX6_longest 2 = .ok (.iconst 0, 1) := by decide +kernel
theorem dX6_longest_3 : decode cX6_longest 3 = .ok (.aload_n 0, 1) := by decide +kernel
theorem dX6_longest_4 : decode cX6_longest 4 = .ok (.getfield 49, 3) := by decide +kernel
theorem dX6_longest_7 : decode cX6_longest 7 = .ok (.invokestatic 81, 3) := by decide +kernel
theorem dX6_longest_10 : decode cX6_longest 10 = .ok (.ifCond .eq 7, 3) := by decide +kernel
theorem dX6_longest_13 : decode cX6_longest 13 = .ok (.iconst 0, 1) := by decide +kernel
theorem dX6_longest_14 : decode cX6_longest 14 = .ok (.goto 4, 3) := by decide +kernel
theorem dX6_longest_17 : decode cX6_longest 17 = .ok (.iconst 1, 1) := by decide +kernel
theorem dX6_longest_18 : decode cX6_longest 18 = .ok (.invokevirtual 77, 3) := by decide +kernel
theorem dX6_longest_21 : decode cX6_longest 21 = .ok (.ifCond .eq 7, 3) := by decide +kernel
theorem dX6_longest_24 : decode cX6_longest 24 = .ok (.iconst 0, 1) := by decide +kernel
theorem dX6_longest_25 : decode cX6_longest 25 = .ok (.goto 8, 3) := by decide +kernel
theorem dX6_longest_28 : decode cX6_longest 28 = .ok (.aload_n 0, 1) := by decide +kernel
theorem dX6_longest_29 : decode cX6_longest 29 = .ok (.iload_n 1, 1) := by decide +kernel
theorem dX6_longest_30 : decode cX6_longest 30 = .ok (.invokevirtual 103, 3) := by decide +kernel
theorem dX6_longest_33 : decode cX6_longest 33 = .ok (.ireturn, 1) := by decide +kernel
set_option maxRecDepth 20000 in
theorem ggX6_shared_X6_like : GoodIn wsX6_shared wsX6_like := goodIn_r _ [7, 8, 9, 10, 11, 12, 13, 14, 15, 16, 17, 18, 19, 20, 21, 22, 23, 24, 25] (by decide +kernel) (by decide +kernel)
set_option maxRecDepth 20000 in
theorem gX6_shared_X6_like : GoodIn wsX6_shared (wsV RX6 52 RX6 yX6_like wsX6_like) := goodIn_app (goodIn_of _ (by decide +kernel)) ggX6_shared_X6_like
theorem dX6_shared_0 : decode cX6_shared 0 = .ok (.aload_n 0, 1) := by decide +kernel
theorem dX6_shared_1 : decode cX6_shared 1 = .ok (.iconst 0, 1) := by decide +kernel
theorem dX6_shared_2 : decode cX6_shared 2 = .ok (.putfield 1, 3) := by decide +kernel
theorem dX6_shared_5 : decode cX6_shared 5 = .ok (.iconst 0, 1) := by decide +kernel
theorem dX6_shared_6 : decode cX6_shared 6 = .ok (.istore_n 1, 1) := by decide +kernel
theorem dX6_shared_7 : decode cX6_shared 7 = .ok (.iconst 0, 1) := by decide +kernel
theorem dX6_shared_8 : decode cX6_shared 8 = .ok (.istore_n 2, 1) := by decide +kernel
theorem dX6_shared_9 : decode cX6_shared 9 = .ok (.iload_n 2, 1) := by decide +kernel
theorem dX6_shared_10 : decode cX6_shared 10 = .ok (.aload_n 0, 1) := by decide +kernel
theorem dX6_shared_11 : decode cX6_shared 11 = .ok (.getfield 59, 3) := by decide +kernel
theorem dX6_shared_14 : decode cX6_shared 14 = .ok (.if_icmp .ge 26, 3) := by decide +kernel
theorem dX6_shared_17 : decode cX6_shared 17 = .ok (.aload_n 0, 1) := by decide +kernel
theorem dX6_shared_18 : decode cX6_shared 18 = .ok (.iload_n 2, 1) := by decide +kernel
theorem dX6_shared_19 : decode cX6_shared 19 = .ok (.iconst 0, 1) := by decide +kernel
theorem dX6_shared_20 : decode cX6_shared 20 = .ok (.invokevirtual 52, 3) := by decide +kernel
theorem dX6_shared_23 : decode cX6_shared 23 = .ok (.iload_n 1, 1) := by decide +kernel
theorem dX6_shared_24 : decode cX6_shared 24 = .ok (.if_icmp .le 10, 3) := by decide +kernel
theorem dX6_shared_27 : decode cX6_shared 27 = .ok (.aload_n 0, 1) := by decide +kernel
theorem dX6_shared_28 : decode cX6_shared 28 = .ok (.iload_n 2, 1) := by decide +kernel
theorem dX6_shared_29 : decode cX6_shared 29 = .ok (.iconst 0, 1) := by decide +kernel
theorem dX6_shared_30 : decode cX6_shared 30 = .ok (.invokevirtual 52, 3) := by decide +kernel
theorem dX6_shared_33 : decode cX6_shared 33 = .ok (.istore_n 1, 1) := by decide +kernel
theorem dX6_shared_34 : decode cX6_shared 34 = .ok (.iinc 2 1, 3) := by decide +kernel
theorem dX6_shared_37 : decode cX6_shared 37 = .ok (.goto (-28), 3) := by decide +kernel
theorem dX6_shared_40 : decode cX6_shared 40 = .ok (.iload_n 1, 1) := by decide +kernel
theorem dX6_shared_41 : decode cX6_shared 41 = .ok (.ireturn, 1) := by decide +kernel
set_option maxRecDepth 20000 in
theorem ggX6_twin_X6_fails : GoodIn wsX6_twin wsX6_fails := goodIn_r _ [6, 7, 14, 15, 16, 17, 18, 19, 20, 21, 22, 23, 24, 25, 26, 27] (by decide +kernel) (by decide +kernel)
set_option maxRecDepth 20000 in
theorem gX6_twin_X6_fails : GoodIn wsX6_twin (wsV RX6 77 RX6 yX6_fails wsX6_fails) := goodIn_app (goodIn_of _ (by decide +kernel)) ggX6_twin_X6_fails
set_option maxRecDepth 20000 in
theorem ggX6_twin_X6_likeWords : GoodIn wsX6_twin wsX6_likeWords := goodIn_r _ [11, 12, 13, 14, 15, 16, 17, 18, 19, 20, 21, 22, 23, 24, 25, 26, 27] (by decide +kernel) (by decide +kernel)
set_option maxRecDepth 20000 in
theorem gX6_twin_X6_likeWords : GoodIn wsX6_twin (wsV RX6 56 RX6 yX6_likeWords wsX6_likeWords) := goodIn_app (goodIn_of _ (by decide +kernel)) ggX6_twin_X6_likeWords
theorem dX6_twin_0 : decode cX6_twin 0 = .ok (.aload_n 0, 1) := by decide +kernel
theorem dX6_twin_1 : decode cX6_twin 1 = .ok (.aload_n 0, 1) := by decide +kernel
theorem dX6_twin_2 : decode cX6_twin 2 = .ok (.getfield 59, 3) := by decide +kernel
theorem dX6_twin_5 : decode cX6_twin 5 = .ok (.iconst 2, 1) := by decide +kernel
theorem dX6_twin_6 : decode cX6_twin 6 = .ok (.if_icmp .ge 7, 3) := by decide +kernel
theorem dX6_twin_9 : decode cX6_twin 9 = .ok (.iconst 1, 1) := by decide +kernel
theorem dX6_twin_10 : decode cX6_twin 10 = .ok (.goto 4, 3) := by decide +kernel
theorem dX6_twin_13 : decode cX6_twin 13 = .ok (.iconst 0, 1) := by decide +kernel
theorem dX6_twin_14 : decode cX6_twin 14 = .ok (.invokevirtual 77, 3) := by decide +kernel
theorem dX6_twin_17 : decode cX6_twin 17 = .ok (.ifCond .eq 5, 3) := by decide +kernel
theorem dX6_twin_20 : decode cX6_twin 20 = .ok (.iconst 0, 1) := by decide +kernel
theorem dX6_twin_21 : decode cX6_twin 21 = .ok (.ireturn, 1) := by decide +kernel
theorem dX6_twin_22 : decode cX6_twin 22 = .ok (.iconst 0, 1) := by decide +kernel
theorem dX6_twin_23 : decode cX6_twin 23 = .ok (.istore_n 1, 1) := by decide +kernel
theorem dX6_twin_24 : decode cX6_twin 24 = .ok (.iconst 0, 1) := by decide +kernel
theorem dX6_twin_25 : decode cX6_twin 25 = .ok (.istore_n 2, 1) := by decide +kernel
theorem dX6_twin_26 : decode cX6_twin 26 = .ok (.iload_n 2, 1) := by decide +kernel
theorem dX6_twin_27 : decode cX6_twin 27 = .ok (.aload_n 0, 1) := by decide +kernel
theorem dX6_twin_28 : decode cX6_twin 28 = .ok (.getfield 59, 3) := by decide +kernel
theorem dX6_twin_31 : decode cX6_twin 31 = .ok (.if_icmp .ge 39, 3) := by decide +kernel
theorem dX6_twin_34 : decode cX6_twin 34 = .ok (.iconst 0, 1) := by decide +kernel
theorem dX6_twin_35 : decode cX6_twin 35 = .ok (.istore_n 3, 1) := by decide +kernel
theorem dX6_twin_36 : decode cX6_twin 36 = .ok (.iload_n 3, 1) := by decide +kernel
theorem dX6_twin_37 : decode cX6_twin 37 = .ok (.iload_n 2, 1) := by decide +kernel
theorem dX6_twin_38 : decode cX6_twin 38 = .ok (.if_icmp .ge 26, 3) := by decide +kernel
theorem dX6_twin_41 : decode cX6_twin 41 = .ok (.aload_n 0, 1) := by decide +kernel
theorem dX6_twin_42 : decode cX6_twin 42 = .ok (.iload_n 3, 1) := by decide +kernel
theorem dX6_twin_43 : decode cX6_twin 43 = .ok (.iload_n 2, 1) := by decide +kernel
theorem dX6_twin_44 : decode cX6_twin 44 = .ok (.invokevirtual 56, 3) := by decide +kernel
theorem dX6_twin_47 : decode cX6_twin 47 = .ok (.iload_n 1, 1) := by decide +kernel
theorem dX6_twin_48 : decode cX6_twin 48 = .ok (.if_icmp .le 10, 3) := by decide +kernel
theorem dX6_twin_51 : decode cX6_twin 51 = .ok (.aload_n 0, 1) := by decide +kernel
theorem dX6_twin_52 : decode cX6_twin 52 = .ok (.iload_n 3, 1) := by decide +kernel
theorem dX6_twin_53 : decode cX6_twin 53 = .ok (.iload_n 2, 1) := by decide +kernel
theorem dX6_twin_54 : decode cX6_twin 54 = .ok (.invokevirtual 56, 3) := by decide +kernel
theorem dX6_twin_57 : decode cX6_twin 57 = .ok (.istore_n 1, 1) := by decide +kernel
theorem dX6_twin_58 : decode cX6_twin 58 = .ok (.iinc 3 1, 3) := by decide +kernel
theorem dX6_twin_61 : decode cX6_twin 61 = .ok (.goto (-25), 3) := by decide +kernel
theorem dX6_twin_64 : decode cX6_twin 64 = .ok (.iinc 2 1, 3) := by decide +kernel
theorem dX6_twin_67 : decode cX6_twin 67 = .ok (.goto (-41), 3) := by decide +kernel
theorem dX6_twin_70 : decode cX6_twin 70 = .ok (.iload_n 1, 1) := by decide +kernel
theorem dX6_twin_71 : decode cX6_twin 71 = .ok (.ireturn, 1) := by decide +kernel
set_option maxRecDepth 20000 in
theorem ggX6_pieces_X6_longestAt : GoodIn wsX6_pieces wsX6_longestAt := goodIn_r _ [7, 8, 9, 10, 11, 12, 6, 13, 2, 14, 15, 16, 17, 18, 19, 20, 21, 22, 23, 24, 25, 26, 27, 28, 29] (by decide +kernel) (by decide +kernel)
set_option maxRecDepth 20000 in
theorem gX6_pieces_X6_longestAt : GoodIn wsX6_pieces (wsV RX6 103 RX6 yX6_longestAt wsX6_longestAt) := goodIn_app (goodIn_of _ (by decide +kernel)) ggX6_pieces_X6_longestAt
theorem dX6_pieces_0 : decode cX6_pieces 0 = .ok (.aload_n 0, 1) := by decide +kernel
theorem dX6_pieces_1 : decode cX6_pieces 1 = .ok (.iconst 0, 1) := by decide +kernel
theorem dX6_pieces_2 : decode cX6_pieces 2 = .ok (.putfield 1, 3) := by decide +kernel
theorem dX6_pieces_5 : decode cX6_pieces 5 = .ok (.iconst 0, 1) := by decide +kernel
theorem dX6_pieces_6 : decode cX6_pieces 6 = .ok (.istore_n 1, 1) := by decide +kernel
theorem dX6_pieces_7 : decode cX6_pieces 7 = .ok (.iconst 0, 1) := by decide +kernel
theorem dX6_pieces_8 : decode cX6_pieces 8 = .ok (.istore_n 2, 1) := by decide +kernel
theorem dX6_pieces_9 : decode cX6_pieces 9 = .ok (.aload_n 0, 1) := by decide +kernel
theorem dX6_pieces_10 : decode cX6_pieces 10 = .ok (.iload_n 1, 1) := by decide +kernel
theorem dX6_pieces_11 : decode cX6_pieces 11 = .ok (.invokevirtual 103, 3) := by decide +kernel
theorem dX6_pieces_14 : decode cX6_pieces 14 = .ok (.ifCond .le 17, 3) := by decide +kernel
theorem dX6_pieces_17 : decode cX6_pieces 17 = .ok (.iload_n 1, 1) := by decide +kernel
theorem dX6_pieces_18 : decode cX6_pieces 18 = .ok (.aload_n 0, 1) := by decide +kernel
theorem dX6_pieces_19 : decode cX6_pieces 19 = .ok (.iload_n 1, 1) := by decide +kernel
theorem dX6_pieces_20 : decode cX6_pieces 20 = .ok (.invokevirtual 103, 3) := by decide +kernel
theorem dX6_pieces_23 : decode cX6_pieces 23 = .ok (.iadd, 1) := by decide +kernel
theorem dX6_pieces_24 : decode cX6_pieces 24 = .ok (.istore_n 1, 1) := by decide +kernel
theorem dX6_pieces_25 : decode cX6_pieces 25 = .ok (.iinc 2 1, 3) := by decide +kernel
theorem dX6_pieces_28 : decode cX6_pieces 28 = .ok (.goto (-19), 3) := by decide +kernel
theorem dX6_pieces_31 : decode cX6_pieces 31 = .ok (.iload_n 1, 1) := by decide +kernel
theorem dX6_pieces_32 : decode cX6_pieces 32 = .ok (.aload_n 0, 1) := by decide +kernel
theorem dX6_pieces_33 : decode cX6_pieces 33 = .ok (.getfield 49, 3) := by decide +kernel
theorem dX6_pieces_36 : decode cX6_pieces 36 = .ok (.if_icmp .ne 7, 3) := by decide +kernel
theorem dX6_pieces_39 : decode cX6_pieces 39 = .ok (.iload_n 2, 1) := by decide +kernel
theorem dX6_pieces_40 : decode cX6_pieces 40 = .ok (.goto 6, 3) := by decide +kernel
theorem dX6_pieces_43 : decode cX6_pieces 43 = .ok (.iconst (-1), 1) := by decide +kernel
theorem dX6_pieces_44 : decode cX6_pieces 44 = .ok (.iload_n 1, 1) := by decide +kernel
theorem dX6_pieces_45 : decode cX6_pieces 45 = .ok (.isub, 1) := by decide +kernel
theorem dX6_pieces_46 : decode cX6_pieces 46 = .ok (.ireturn, 1) := by decide +kernel
set_option maxRecDepth 20000 in
theorem ggX6_piece_X6_longestAt : GoodIn wsX6_piece wsX6_longestAt := goodIn_r _ [5, 6, 7, 8, 9, 10, 4, 11, 12, 13, 14, 20, 21, 22, 23, 24, 25, 26, 27, 28, 29, 30, 31, 32, 33] (by decide +kernel) (by decide +kernel)
set_option maxRecDepth 20000 in
theorem gX6_piece_X6_longestAt : GoodIn wsX6_piece (wsV RX6 103 RX6 yX6_longestAt wsX6_longestAt) := goodIn_app (goodIn_of _ (by decide +kernel)) ggX6_piece_X6_longestAt
set_option maxRecDepth 20000 in
theorem ggX6_piece_X6_fails : GoodIn wsX6_piece wsX6_fails := goodIn_r _ [18, 19, 20, 21, 22, 23, 24, 25, 26, 27, 28, 29, 30, 31, 32, 33] (by decide +kernel) (by decide +kernel)
set_option maxRecDepth 20000 in
theorem gX6_piece_X6_fails : GoodIn wsX6_piece (wsV RX6 77 RX6 yX6_fails wsX6_fails) := goodIn_app (goodIn_of _ (by decide +kernel)) ggX6_piece_X6_fails
theorem dX6_piece_0 : decode cX6_piece 0 = .ok (.iconst 0, 1) := by decide +kernel
theorem dX6_piece_1 : decode cX6_piece 1 = .ok (.istore_n 2, 1) := by decide +kernel
theorem dX6_piece_2 : decode cX6_piece 2 = .ok (.iload_n 1, 1) := by decide +kernel
theorem dX6_piece_3 : decode cX6_piece 3 = .ok (.istore_n 3, 1) := by decide +kernel
theorem dX6_piece_4 : decode cX6_piece 4 = .ok (.iload_n 3, 1) := by decide +kernel
theorem dX6_piece_5 : decode cX6_piece 5 = .ok (.ifCond .le 25, 3) := by decide +kernel
theorem dX6_piece_8 : decode cX6_piece 8 = .ok (.aload_n 0, 1) := by decide +kernel
theorem dX6_piece_9 : decode cX6_piece 9 = .ok (.iload_n 2, 1) := by decide +kernel
theorem dX6_piece_10 : decode cX6_piece 10 = .ok (.invokevirtual 103, 3) := by decide +kernel
theorem dX6_piece_13 : decode cX6_piece 13 = .ok (.ifCond .le 17, 3) := by decide +kernel
theorem dX6_piece_16 : decode cX6_piece 16 = .ok (.iload_n 2, 1) := by decide +kernel
theorem dX6_piece_17 : decode cX6_piece 17 = .ok (.aload_n 0, 1) := by decide +kernel
theorem dX6_piece_18 : decode cX6_piece 18 = .ok (.iload_n 2, 1) := by decide +kernel
theorem dX6_piece_19 : decode cX6_piece 19 = .ok (.invokevirtual 103, 3) := by decide +kernel
theorem dX6_piece_22 : decode cX6_piece 22 = .ok (.iadd, 1) := by decide +kernel
theorem dX6_piece_23 : decode cX6_piece 23 = .ok (.istore_n 2, 1) := by decide +kernel
theorem dX6_piece_24 : decode cX6_piece 24 = .ok (.iinc 3 (-1), 3) := by decide +kernel
theorem dX6_piece_27 : decode cX6_piece 27 = .ok (.goto (-23), 3) := by decide +kernel
theorem dX6_piece_30 : decode cX6_piece 30 = .ok (.aload_n 0, 1) := by decide +kernel
theorem dX6_piece_31 : decode cX6_piece 31 = .ok (.iload_n 3, 1) := by decide +kernel
theorem dX6_piece_32 : decode cX6_piece 32 = .ok (.ifCond .ne 11, 3) := by decide +kernel
theorem dX6_piece_35 : decode cX6_piece 35 = .ok (.aload_n 0, 1) := by decide +kernel
theorem dX6_piece_36 : decode cX6_piece 36 = .ok (.iload_n 2, 1) := by decide +kernel
theorem dX6_piece_37 : decode cX6_piece 37 = .ok (.invokevirtual 103, 3) := by decide +kernel
theorem dX6_piece_40 : decode cX6_piece 40 = .ok (.ifCond .ne 7, 3) := by decide +kernel
theorem dX6_piece_43 : decode cX6_piece 43 = .ok (.iconst 1, 1) := by decide +kernel
theorem dX6_piece_44 : decode cX6_piece 44 = .ok (.goto 4, 3) := by decide +kernel
theorem dX6_piece_47 : decode cX6_piece 47 = .ok (.iconst 0, 1) := by decide +kernel
theorem dX6_piece_48 : decode cX6_piece 48 = .ok (.invokevirtual 77, 3) := by decide +kernel
theorem dX6_piece_51 : decode cX6_piece 51 = .ok (.ifCond .eq 7, 3) := by decide +kernel
theorem dX6_piece_54 : decode cX6_piece 54 = .ok (.iconst 0, 1) := by decide +kernel
theorem dX6_piece_55 : decode cX6_piece 55 = .ok (.goto 8, 3) := by decide +kernel
theorem dX6_piece_58 : decode cX6_piece 58 = .ok (.aload_n 0, 1) := by decide +kernel
theorem dX6_piece_59 : decode cX6_piece 59 = .ok (.iload_n 2, 1) := by decide +kernel
theorem dX6_piece_60 : decode cX6_piece 60 = .ok (.invokevirtual 103, 3) := by decide +kernel
theorem dX6_piece_63 : decode cX6_piece 63 = .ok (.ireturn, 1) := by decide +kernel
set_option maxRecDepth 20000 in
theorem ggX6_cutsAll_X6_like : GoodIn wsX6_cutsAll wsX6_like := goodIn_r _ [10, 5, 1, 11, 12, 13, 14, 15, 16, 17, 18, 19, 20, 21, 22, 23, 24, 25, 26] (by decide +kernel) (by decide +kernel)
set_option maxRecDepth 20000 in
theorem gX6_cutsAll_X6_like : GoodIn wsX6_cutsAll (wsV RX6 52 RX6 yX6_like wsX6_like) := goodIn_app (goodIn_of _ (by decide +kernel)) ggX6_cutsAll_X6_like
theorem dX6_cutsAll_0 : decode cX6_cutsAll 0 = .ok (.aload_n 0, 1) := by decide +kernel
theorem dX6_cutsAll_1 : decode cX6_cutsAll 1 = .ok (.getfield 49, 3) := by decide +kernel
theorem dX6_cutsAll_4 : decode cX6_cutsAll 4 = .ok (.istore_n 1, 1) := by decide +kernel
theorem dX6_cutsAll_5 : decode cX6_cutsAll 5 = .ok (.iload_n 1, 1) := by decide +kernel
theorem dX6_cutsAll_6 : decode cX6_cutsAll 6 = .ok (.ifCond .lt 148, 3) := by decide +kernel
theorem dX6_cutsAll_9 : decode cX6_cutsAll 9 = .ok (.aload_n 0, 1) := by decide +kernel
theorem dX6_cutsAll_10 : decode cX6_cutsAll 10 = .ok (.getfield 42, 3) := by decide +kernel
theorem dX6_cutsAll_13 : decode cX6_cutsAll 13 = .ok (.iload_n 1, 1) := by decide +kernel
theorem dX6_cutsAll_14 : decode cX6_cutsAll 14 = .ok (.iload_n 1, 1) := by decide +kernel
theorem dX6_cutsAll_15 : decode cX6_cutsAll 15 = .ok (.aload_n 0, 1) := by decide +kernel
theorem dX6_cutsAll_16 : decode cX6_cutsAll 16 = .ok (.getfield 49, 3) := by decide +kernel
theorem dX6_cutsAll_19 : decode cX6_cutsAll 19 = .ok (.if_icmp .ne 7, 3) := by decide +kernel
theorem dX6_cutsAll_22 : decode cX6_cutsAll 22 = .ok (.lconst 1, 1) := by decide +kernel
theorem dX6_cutsAll_23 : decode cX6_cutsAll 23 = .ok (.goto 4, 3) := by decide +kernel
theorem dX6_cutsAll_26 : decode cX6_cutsAll 26 = .ok (.lconst 0, 1) := by decide +kernel
theorem dX6_cutsAll_27 : decode cX6_cutsAll 27 = .ok (.lastore, 1) := by decide +kernel
theorem dX6_cutsAll_28 : decode cX6_cutsAll 28 = .ok (.aload_n 0, 1) := by decide +kernel
theorem dX6_cutsAll_29 : decode cX6_cutsAll 29 = .ok (.getfield 46, 3) := by decide +kernel
theorem dX6_cutsAll_32 : decode cX6_cutsAll 32 = .ok (.iload_n 1, 1) := by decide +kernel
theorem dX6_cutsAll_33 : decode cX6_cutsAll 33 = .ok (.iload_n 1, 1) := by decide +kernel
theorem dX6_cutsAll_34 : decode cX6_cutsAll 34 = .ok (.aload_n 0, 1) := by decide +kernel
theorem dX6_cutsAll_35 : decode cX6_cutsAll 35 = .ok (.getfield 49, 3) := by decide +kernel
theorem dX6_cutsAll_38 : decode cX6_cutsAll 38 = .ok (.if_icmp .ne 7, 3) := by decide +kernel
theorem dX6_cutsAll_41 : decode cX6_cutsAll 41 = .ok (.iconst 0, 1) := by decide +kernel
theorem dX6_cutsAll_42 : decode cX6_cutsAll 42 = .ok (.goto 4, 3) := by decide +kernel
theorem dX6_cutsAll_45 : decode cX6_cutsAll 45 = .ok (.iconst (-1), 1) := by decide +kernel
theorem dX6_cutsAll_46 : decode cX6_cutsAll 46 = .ok (.iastore, 1) := by decide +kernel
theorem dX6_cutsAll_47 : decode cX6_cutsAll 47 = .ok (.iconst 0, 1) := by decide +kernel
theorem dX6_cutsAll_48 : decode cX6_cutsAll 48 = .ok (.istore_n 2, 1) := by decide +kernel
theorem dX6_cutsAll_49 : decode cX6_cutsAll 49 = .ok (.iload_n 2, 1) := by decide +kernel
theorem dX6_cutsAll_50 : decode cX6_cutsAll 50 = .ok (.aload_n 0, 1) := by decide +kernel
theorem dX6_cutsAll_51 : decode cX6_cutsAll 51 = .ok (.getfield 59, 3) := by decide +kernel
theorem dX6_cutsAll_54 : decode cX6_cutsAll 54 = .ok (.if_icmp .ge 94, 3) := by decide +kernel
theorem dX6_cutsAll_57 : decode cX6_cutsAll 57 = .ok (.aload_n 0, 1) := by decide +kernel
theorem dX6_cutsAll_58 : decode cX6_cutsAll 58 = .ok (.iload_n 2, 1) := by decide +kernel
theorem dX6_cutsAll_59 : decode cX6_cutsAll 59 = .ok (.iload_n 1, 1) := by decide +kernel
theorem dX6_cutsAll_60 : decode cX6_cutsAll 60 = .ok (.invokevirtual 52, 3) := by decide +kernel
theorem dX6_cutsAll_63 : decode cX6_cutsAll 63 = .ok (.aload_n 0, 1) := by decide +kernel
theorem dX6_cutsAll_64 : decode cX6_cutsAll 64 = .ok (.getfield 26, 3) := by decide +kernel
theorem dX6_cutsAll_67 : decode cX6_cutsAll 67 = .ok (.iload_n 2, 1) := by decide +kernel
theorem dX6_cutsAll_68 : decode cX6_cutsAll 68 = .ok (.iaload, 1) := by decide +kernel
theorem dX6_cutsAll_69 : decode cX6_cutsAll 69 = .ok (.if_icmp .ge 6, 3) := by decide +kernel
theorem dX6_cutsAll_72 : decode cX6_cutsAll 72 = .ok (.goto 70, 3) := by decide +kernel
theorem dX6_cutsAll_75 : decode cX6_cutsAll 75 = .ok (.iload_n 1, 1) := by decide +kernel
theorem dX6_cutsAll_76 : decode cX6_cutsAll 76 = .ok (.aload_n 0, 1) := by decide +kernel
theorem dX6_cutsAll_77 : decode cX6_cutsAll 77 = .ok (.getfield 26, 3) := by decide +kernel
theorem dX6_cutsAll_80 : decode cX6_cutsAll 80 = .ok (.iload_n 2, 1) := by decide +kernel
theorem dX6_cutsAll_81 : decode cX6_cutsAll 81 = .ok (.iaload, 1) := by decide +kernel
theorem dX6_cutsAll_82 : decode cX6_cutsAll 82 = .ok (.iadd, 1) := by decide +kernel
theorem dX6_cutsAll_83 : decode cX6_cutsAll 83 = .ok (.istore_n 3, 1) := by decide +kernel
theorem dX6_cutsAll_84 : decode cX6_cutsAll 84 = .ok (.aload_n 0, 1) := by decide +kernel
theorem dX6_cutsAll_85 : decode cX6_cutsAll 85 = .ok (.getfield 42, 3) := by decide +kernel
theorem dX6_cutsAll_88 : decode cX6_cutsAll 88 = .ok (.iload_n 1, 1) := by decide +kernel
theorem dX6_cutsAll_89 : decode cX6_cutsAll 89 = .ok (.dup2, 1) := by decide +kernel
theorem dX6_cutsAll_90 : decode cX6_cutsAll 90 = .ok (.laload, 1) := by decide +kernel
theorem dX6_cutsAll_91 : decode cX6_cutsAll 91 = .ok (.aload_n 0, 1) := by decide +kernel
theorem dX6_cutsAll_92 : decode cX6_cutsAll 92 = .ok (.getfield 42, 3) := by decide +kernel
theorem dX6_cutsAll_95 : decode cX6_cutsAll 95 = .ok (.iload_n 3, 1) := by decide +kernel
theorem dX6_cutsAll_96 : decode cX6_cutsAll 96 = .ok (.laload, 1) := by decide +kernel
theorem dX6_cutsAll_97 : decode cX6_cutsAll 97 = .ok (.ladd, 1) := by decide +kernel
theorem dX6_cutsAll_98 : decode cX6_cutsAll 98 = .ok (.lastore, 1) := by decide +kernel
theorem dX6_cutsAll_99 : decode cX6_cutsAll 99 = .ok (.aload_n 0, 1) := by decide +kernel
theorem dX6_cutsAll_100 : decode cX6_cutsAll 100 = .ok (.getfield 46, 3) := by decide +kernel
theorem dX6_cutsAll_103 : decode cX6_cutsAll 103 = .ok (.iload_n 3, 1) := by decide +kernel
theorem dX6_cutsAll_104 : decode cX6_cutsAll 104 = .ok (.iaload, 1) := by decide +kernel
theorem dX6_cutsAll_105 : decode cX6_cutsAll 105 = .ok (.iconst 1, 1) := by decide +kernel
theorem dX6_cutsAll_106 : decode cX6_cutsAll 106 = .ok (.iadd, 1) := by decide +kernel
theorem dX6_cutsAll_107 : decode cX6_cutsAll 107 = .ok (.istore 4, 2) := by decide +kernel
theorem dX6_cutsAll_109 : decode cX6_cutsAll 109 = .ok (.iload 4, 2) := by decide +kernel
theorem dX6_cutsAll_111 : decode cX6_cutsAll 111 = .ok (.ifCond .le 31, 3) := by decide +kernel
theorem dX6_cutsAll_114 : decode cX6_cutsAll 114 = .ok (.aload_n 0, 1) := by decide +kernel
theorem dX6_cutsAll_115 : decode cX6_cutsAll 115 = .ok (.getfield 46, 3) := by decide +kernel
theorem dX6_cutsAll_118 : decode cX6_cutsAll 118 = .ok (.iload_n 1, 1) := by decide +kernel
theorem dX6_cutsAll_119 : decode cX6_cutsAll 119 = .ok (.iaload, 1) := by decide +kernel
theorem dX6_cutsAll_120 : decode cX6_cutsAll 120 = .ok (.ifCond .lt 14, 3) := by decide +kernel
theorem dX6_cutsAll_123 : decode cX6_cutsAll 123 = .ok (.iload 4, 2) := by decide +kernel
theorem dX6_cutsAll_125 : decode cX6_cutsAll 125 = .ok (.aload_n 0, 1) := by decide +kernel
theorem dX6_cutsAll_126 : decode cX6_cutsAll 126 = .ok (.getfield 46, 3) := by decide +kernel
theorem dX6_cutsAll_129 : decode cX6_cutsAll 129 = .ok (.iload_n 1, 1) := by decide +kernel
theorem dX6_cutsAll_130 : decode cX6_cutsAll 130 = .ok (.iaload, 1) := by decide +kernel
theorem dX6_cutsAll_131 : decode cX6_cutsAll 131 = .ok (.if_icmp .ge 11, 3) := by decide +kernel
theorem dX6_cutsAll_134 : decode cX6_cutsAll 134 = .ok (.aload_n 0, 1) := by decide +kernel
theorem dX6_cutsAll_135 : decode cX6_cutsAll 135 = .ok (.getfield 46, 3) := by decide +kernel
theorem dX6_cutsAll_138 : decode cX6_cutsAll 138 = .ok (.iload_n 1, 1) := by decide +kernel
theorem dX6_cutsAll_139 : decode cX6_cutsAll 139 = .ok (.iload 4, 2) := by decide +kernel
theorem dX6_cutsAll_141 : decode cX6_cutsAll 141 = .ok (.iastore, 1) := by decide +kernel
theorem dX6_cutsAll_142 : decode cX6_cutsAll 142 = .ok (.iinc 2 1, 3) := by decide +kernel
theorem dX6_cutsAll_145 : decode cX6_cutsAll 145 = .ok (.goto (-96), 3) := by decide +kernel
theorem dX6_cutsAll_148 : decode cX6_cutsAll 148 = .ok (.iinc 1 (-1), 3) := by decide +kernel
theorem dX6_cutsAll_151 : decode cX6_cutsAll 151 = .ok (.goto (-146), 3) := by decide +kernel
theorem dX6_cutsAll_154 : decode cX6_cutsAll 154 = .ok (.return_, 1) := by decide +kernel
set_option maxRecDepth 20000 in
theorem ggX6_cuts_X6_cutsAll : GoodIn wsX6_cuts wsX6_cutsAll := goodIn_r _ [7, 8, 2, 9, 10, 11, 12, 13, 14, 6, 15, 16, 17, 18, 19, 20, 21, 22, 23, 24, 25, 26, 27, 28, 29, 30, 31] (by decide +kernel) (by decide +kernel)
set_option maxRecDepth 20000 in
theorem gX6_cuts_X6_cutsAll : GoodIn wsX6_cuts (wsV RX6 106 RX6 yX6_cutsAll wsX6_cutsAll) := goodIn_app (goodIn_of _ (by decide +kernel)) ggX6_cuts_X6_cutsAll
theorem dX6_cuts_0 : decode cX6_cuts 0 = .ok (.aload_n 0, 1) := by decide +kernel
theorem dX6_cuts_1 : decode cX6_cuts 1 = .ok (.iconst 0, 1) := by decide +kernel
theorem dX6_cuts_2 : decode cX6_cuts 2 = .ok (.putfield 1, 3) := by decide +kernel
theorem dX6_cuts_5 : decode cX6_cuts 5 = .ok (.aload_n 0, 1) := by decide +kernel
theorem dX6_cuts_6 : decode cX6_cuts 6 = .ok (.invokevirtual 106, 3) := by decide +kernel
theorem dX6_cuts_9 : decode cX6_cuts 9 = .ok (.aload_n 0, 1) := by decide +kernel
theorem dX6_cuts_10 : decode cX6_cuts 10 = .ok (.getfield 42, 3) := by decide +kernel
theorem dX6_cuts_13 : decode cX6_cuts 13 = .ok (.iconst 0, 1) := by decide +kernel
theorem dX6_cuts_14 : decode cX6_cuts 14 = .ok (.laload, 1) := by decide +kernel
theorem dX6_cuts_15 : decode cX6_cuts 15 = .ok (.lreturn, 1) := by decide +kernel
set_option maxRecDepth 20000 in
theorem ggX6_fewest_X6_cutsAll : GoodIn wsX6_fewest wsX6_cutsAll := goodIn_r _ [7, 8, 9, 2, 10, 11, 12, 13, 14, 6, 15, 16, 17, 18, 19, 20, 21, 22, 23, 24, 25, 26, 27, 28, 29, 30, 31] (by decide +kernel) (by decide +kernel)
set_option maxRecDepth 20000 in
theorem gX6_fewest_X6_cutsAll : GoodIn wsX6_fewest (wsV RX6 106 RX6 yX6_cutsAll wsX6_cutsAll) := goodIn_app (goodIn_of _ (by decide +kernel)) ggX6_fewest_X6_cutsAll
theorem dX6_fewest_0 : decode cX6_fewest 0 = .ok (.aload_n 0, 1) := by decide +kernel
theorem dX6_fewest_1 : decode cX6_fewest 1 = .ok (.iconst 0, 1) := by decide +kernel
theorem dX6_fewest_2 : decode cX6_fewest 2 = .ok (.putfield 1, 3) := by decide +kernel
theorem dX6_fewest_5 : decode cX6_fewest 5 = .ok (.aload_n 0, 1) := by decide +kernel
theorem dX6_fewest_6 : decode cX6_fewest 6 = .ok (.invokevirtual 106, 3) := by decide +kernel
theorem dX6_fewest_9 : decode cX6_fewest 9 = .ok (.aload_n 0, 1) := by decide +kernel
theorem dX6_fewest_10 : decode cX6_fewest 10 = .ok (.getfield 46, 3) := by decide +kernel
theorem dX6_fewest_13 : decode cX6_fewest 13 = .ok (.iconst 0, 1) := by decide +kernel
theorem dX6_fewest_14 : decode cX6_fewest 14 = .ok (.iaload, 1) := by decide +kernel
theorem dX6_fewest_15 : decode cX6_fewest 15 = .ok (.ireturn, 1) := by decide +kernel
set_option maxRecDepth 20000 in
theorem ggX6_code_X6_isSign : GoodIn wsX6_code wsX6_isSign := goodIn_r _ [8] (by decide +kernel) (by decide +kernel)
set_option maxRecDepth 20000 in
theorem gX6_code_X6_isSign : GoodIn wsX6_code (va_wsS RX6 73 yX6_isSign wsX6_isSign) := goodIn_app (goodIn_of _ (by decide +kernel)) ggX6_code_X6_isSign
set_option maxRecDepth 20000 in
theorem ggX6_code_X6_in : GoodIn wsX6_code wsX6_in := goodIn_r _ [11] (by decide +kernel) (by decide +kernel)
set_option maxRecDepth 20000 in
theorem gX6_code_X6_in : GoodIn wsX6_code (va_wsS RX6 81 yX6_in wsX6_in) := goodIn_app (goodIn_of _ (by decide +kernel)) ggX6_code_X6_in
set_option maxRecDepth 20000 in
theorem ggX6_code_X6_fails : GoodIn wsX6_code wsX6_fails := goodIn_r _ [15, 16, 17, 18, 19, 20, 21, 22, 23, 24, 25, 26, 27, 28, 29, 30] (by decide +kernel) (by decide +kernel)
set_option maxRecDepth 20000 in
theorem gX6_code_X6_fails : GoodIn wsX6_code (wsV RX6 77 RX6 yX6_fails wsX6_fails) := goodIn_app (goodIn_of _ (by decide +kernel)) ggX6_code_X6_fails
theorem dX6_code_0 : decode cX6_code 0 = .ok (.aload_n 0, 1) := by decide +kernel
theorem dX6_code_1 : decode cX6_code 1 = .ok (.iload_n 1, 1) := by decide +kernel
theorem dX6_code_2 : decode cX6_code 2 = .ok (.invokestatic 73, 3) := by decide +kernel
theorem dX6_code_5 : decode cX6_code 5 = .ok (.ifCond .ne 7, 3) := by decide +kernel
theorem dX6_code_8 : decode cX6_code 8 = .ok (.iconst 1, 1) := by decide +kernel
theorem dX6_code_9 : decode cX6_code 9 = .ok (.goto 20, 3) := by decide +kernel
theorem dX6_code_12 : decode cX6_code 12 = .ok (.aload_n 0, 1) := by decide +kernel
theorem dX6_code_13 : decode cX6_code 13 = .ok (.getfield 49, 3) := by decide +kernel
theorem dX6_code_16 : decode cX6_code 16 = .ok (.iconst 1, 1) := by decide +kernel
theorem dX6_code_17 : decode cX6_code 17 = .ok (.iconst 3, 1) := by decide +kernel
theorem dX6_code_18 : decode cX6_code 18 = .ok (.invokestatic 81, 3) := by decide +kernel
theorem dX6_code_21 : decode cX6_code 21 = .ok (.ifCond .ne 7, 3) := by decide +kernel
theorem dX6_code_24 : decode cX6_code 24 = .ok (.iconst 2, 1) := by decide +kernel
theorem dX6_code_25 : decode cX6_code 25 = .ok (.goto 4, 3) := by decide +kernel
theorem dX6_code_28 : decode cX6_code 28 = .ok (.iconst 0, 1) := by decide +kernel
theorem dX6_code_29 : decode cX6_code 29 = .ok (.invokevirtual 77, 3) := by decide +kernel
theorem dX6_code_32 : decode cX6_code 32 = .ok (.ifCond .eq 5, 3) := by decide +kernel
theorem dX6_code_35 : decode cX6_code 35 = .ok (.iconst 0, 1) := by decide +kernel
theorem dX6_code_36 : decode cX6_code 36 = .ok (.ireturn, 1) := by decide +kernel
theorem dX6_code_37 : decode cX6_code 37 = .ok (.iload_n 1, 1) := by decide +kernel
theorem dX6_code_38 : decode cX6_code 38 = .ok (.bipush 97, 2) := by decide +kernel
theorem dX6_code_40 : decode cX6_code 40 = .ok (.isub, 1) := by decide +kernel
theorem dX6_code_41 : decode cX6_code 41 = .ok (.istore_n 2, 1) := by decide +kernel
theorem dX6_code_42 : decode cX6_code 42 = .ok (.aload_n 0, 1) := by decide +kernel
theorem dX6_code_43 : decode cX6_code 43 = .ok (.getfield 33, 3) := by decide +kernel
theorem dX6_code_46 : decode cX6_code 46 = .ok (.iload_n 2, 1) := by decide +kernel
theorem dX6_code_47 : decode cX6_code 47 = .ok (.iaload, 1) := by decide +kernel
theorem dX6_code_48 : decode cX6_code 48 = .ok (.istore_n 3, 1) := by decide +kernel
theorem dX6_code_49 : decode cX6_code 49 = .ok (.aload_n 0, 1) := by decide +kernel
theorem dX6_code_50 : decode cX6_code 50 = .ok (.getfield 33, 3) := by decide +kernel
theorem dX6_code_53 : decode cX6_code 53 = .ok (.iload_n 2, 1) := by decide +kernel
theorem dX6_code_54 : decode cX6_code 54 = .ok (.aload_n 0, 1) := by decide +kernel
theorem dX6_code_55 : decode cX6_code 55 = .ok (.getfield 49, 3) := by decide +kernel
theorem dX6_code_58 : decode cX6_code 58 = .ok (.iastore, 1) := by decide +kernel
theorem dX6_code_59 : decode cX6_code 59 = .ok (.iconst 0, 1) := by decide +kernel
theorem dX6_code_60 : decode cX6_code 60 = .ok (.istore 4, 2) := by decide +kernel
theorem dX6_code_62 : decode cX6_code 62 = .ok (.iload 4, 2) := by decide +kernel
theorem dX6_code_64 : decode cX6_code 64 = .ok (.aload_n 0, 1) := by decide +kernel
theorem dX6_code_65 : decode cX6_code 65 = .ok (.getfield 49, 3) := by decide +kernel
theorem dX6_code_68 : decode cX6_code 68 = .ok (.if_icmp .ge 27, 3) := by decide +kernel
theorem dX6_code_71 : decode cX6_code 71 = .ok (.aload_n 0, 1) := by decide +kernel
theorem dX6_code_72 : decode cX6_code 72 = .ok (.getfield 20, 3) := by decide +kernel
theorem dX6_code_75 : decode cX6_code 75 = .ok (.iconst 3, 1) := by decide +kernel
theorem dX6_code_76 : decode cX6_code 76 = .ok (.iload_n 2, 1) := by decide +kernel
theorem dX6_code_77 : decode cX6_code 77 = .ok (.imul, 1) := by decide +kernel
theorem dX6_code_78 : decode cX6_code 78 = .ok (.iload 4, 2) := by decide +kernel
theorem dX6_code_80 : decode cX6_code 80 = .ok (.iadd, 1) := by decide +kernel
theorem dX6_code_81 : decode cX6_code 81 = .ok (.aload_n 0, 1) := by decide +kernel
theorem dX6_code_82 : decode cX6_code 82 = .ok (.getfield 13, 3) := by decide +kernel
theorem dX6_code_85 : decode cX6_code 85 = .ok (.iload 4, 2) := by decide +kernel
theorem dX6_code_87 : decode cX6_code 87 = .ok (.caload, 1) := by decide +kernel
theorem dX6_code_88 : decode cX6_code 88 = .ok (.castore, 1) := by decide +kernel
theorem dX6_code_89 : decode cX6_code 89 = .ok (.iinc 4 1, 3) := by decide +kernel
theorem dX6_code_92 : decode cX6_code 92 = .ok (.goto (-30), 3) := by decide +kernel
theorem dX6_code_95 : decode cX6_code 95 = .ok (.iload_n 3, 1) := by decide +kernel
theorem dX6_code_96 : decode cX6_code 96 = .ok (.ireturn, 1) := by decide +kernel
theorem dX6_isAhead_0 : decode cX6_isAhead 0 = .ok (.iconst 0, 1) := by decide +kernel
theorem dX6_isAhead_1 : decode cX6_isAhead 1 = .ok (.istore_n 3, 1) := by decide +kernel
theorem dX6_isAhead_2 : decode cX6_isAhead 2 = .ok (.iload_n 3, 1) := by decide +kernel
theorem dX6_isAhead_3 : decode cX6_isAhead 3 = .ok (.aload_n 0, 1) := by decide +kernel
theorem dX6_isAhead_4 : decode cX6_isAhead 4 = .ok (.getfield 33, 3) := by decide +kernel
theorem dX6_isAhead_7 : decode cX6_isAhead 7 = .ok (.iload_n 1, 1) := by decide +kernel
theorem dX6_isAhead_8 : decode cX6_isAhead 8 = .ok (.iaload, 1) := by decide +kernel
theorem dX6_isAhead_9 : decode cX6_isAhead 9 = .ok (.if_icmp .ge 42, 3) := by decide +kernel
theorem dX6_isAhead_12 : decode cX6_isAhead 12 = .ok (.iload_n 3, 1) := by decide +kernel
theorem dX6_isAhead_13 : decode cX6_isAhead 13 = .ok (.aload_n 0, 1) := by decide +kernel
theorem dX6_isAhead_14 : decode cX6_isAhead 14 = .ok (.getfield 33, 3) := by decide +kernel
theorem dX6_isAhead_17 : decode cX6_isAhead 17 = .ok (.iload_n 2, 1) := by decide +kernel
theorem dX6_isAhead_18 : decode cX6_isAhead 18 = .ok (.iaload, 1) := by decide +kernel
theorem dX6_isAhead_19 : decode cX6_isAhead 19 = .ok (.if_icmp .ge 32, 3) := by decide +kernel
theorem dX6_isAhead_22 : decode cX6_isAhead 22 = .ok (.aload_n 0, 1) := by decide +kernel
theorem dX6_isAhead_23 : decode cX6_isAhead 23 = .ok (.getfield 20, 3) := by decide +kernel
theorem dX6_isAhead_26 : decode cX6_isAhead 26 = .ok (.iconst 3, 1) := by decide +kernel
theorem dX6_isAhead_27 : decode cX6_isAhead 27 = .ok (.iload_n 1, 1) := by decide +kernel
theorem dX6_isAhead_28 : decode cX6_isAhead 28 = .ok (.imul, 1) := by decide +kernel
theorem dX6_isAhead_29 : decode cX6_isAhead 29 = .ok (.iload_n 3, 1) := by decide +kernel
theorem dX6_isAhead_30 : decode cX6_isAhead 30 = .ok (.iadd, 1) := by decide +kernel
theorem dX6_isAhead_31 : decode cX6_isAhead 31 = .ok (.caload, 1) := by decide +kernel
theorem dX6_isAhead_32 : decode cX6_isAhead 32 = .ok (.aload_n 0, 1) := by decide +kernel
theorem dX6_isAhead_33 : decode cX6_isAhead 33 = .ok (.getfield 20, 3) := by decide +kernel
theorem dX6_isAhead_36 : decode cX6_isAhead 36 = .ok (.iconst 3, 1) := by decide +kernel
theorem dX6_isAhead_37 : decode cX6_isAhead 37 = .ok (.iload_n 2, 1) := by decide +kernel
theorem dX6_isAhead_38 : decode cX6_isAhead 38 = .ok (.imul, 1) := by decide +kernel
theorem dX6_isAhead_39 : decode cX6_isAhead 39 = .ok (.iload_n 3, 1) := by decide +kernel
theorem dX6_isAhead_40 : decode cX6_isAhead 40 = .ok (.iadd, 1) := by decide +kernel
theorem dX6_isAhead_41 : decode cX6_isAhead 41 = .ok (.caload, 1) := by decide +kernel
theorem dX6_isAhead_42 : decode cX6_isAhead 42 = .ok (.if_icmp .ne 9, 3) := by decide +kernel
theorem dX6_isAhead_45 : decode cX6_isAhead 45 = .ok (.iinc 3 1, 3) := by decide +kernel
theorem dX6_isAhead_48 : decode cX6_isAhead 48 = .ok (.goto (-46), 3) := by decide +kernel
theorem dX6_isAhead_51 : decode cX6_isAhead 51 = .ok (.iload_n 3, 1) := by decide +kernel
theorem dX6_isAhead_52 : decode cX6_isAhead 52 = .ok (.aload_n 0, 1) := by decide +kernel
theorem dX6_isAhead_53 : decode cX6_isAhead 53 = .ok (.getfield 33, 3) := by decide +kernel
theorem dX6_isAhead_56 : decode cX6_isAhead 56 = .ok (.iload_n 1, 1) := by decide +kernel
theorem dX6_isAhead_57 : decode cX6_isAhead 57 = .ok (.iaload, 1) := by decide +kernel
theorem dX6_isAhead_58 : decode cX6_isAhead 58 = .ok (.if_icmp .ge 40, 3) := by decide +kernel
theorem dX6_isAhead_61 : decode cX6_isAhead 61 = .ok (.iload_n 3, 1) := by decide +kernel
theorem dX6_isAhead_62 : decode cX6_isAhead 62 = .ok (.aload_n 0, 1) := by decide +kernel
theorem dX6_isAhead_63 : decode cX6_isAhead 63 = .ok (.getfield 33, 3) := by decide +kernel
theorem dX6_isAhead_66 : decode cX6_isAhead 66 = .ok (.iload_n 2, 1) := by decide +kernel
theorem dX6_isAhead_67 : decode cX6_isAhead 67 = .ok (.iaload, 1) := by decide +kernel
theorem dX6_isAhead_68 : decode cX6_isAhead 68 = .ok (.if_icmp .ge 30, 3) := by decide +kernel
theorem dX6_isAhead_71 : decode cX6_isAhead 71 = .ok (.aload_n 0, 1) := by decide +kernel
theorem dX6_isAhead_72 : decode cX6_isAhead 72 = .ok (.getfield 20, 3) := by decide +kernel
theorem dX6_isAhead_75 : decode cX6_isAhead 75 = .ok (.iconst 3, 1) := by decide +kernel
theorem dX6_isAhead_76 : decode cX6_isAhead 76 = .ok (.iload_n 1, 1) := by decide +kernel
theorem dX6_isAhead_77 : decode cX6_isAhead 77 = .ok (.imul, 1) := by decide +kernel
theorem dX6_isAhead_78 : decode cX6_isAhead 78 = .ok (.iload_n 3, 1) := by decide +kernel
theorem dX6_isAhead_79 : decode cX6_isAhead 79 = .ok (.iadd, 1) := by decide +kernel
theorem dX6_isAhead_80 : decode cX6_isAhead 80 = .ok (.caload, 1) := by decide +kernel
theorem dX6_isAhead_81 : decode cX6_isAhead 81 = .ok (.aload_n 0, 1) := by decide +kernel
theorem dX6_isAhead_82 : decode cX6_isAhead 82 = .ok (.getfield 20, 3) := by decide +kernel
theorem dX6_isAhead_85 : decode cX6_isAhead 85 = .ok (.iconst 3, 1) := by decide +kernel
theorem dX6_isAhead_86 : decode cX6_isAhead 86 = .ok (.iload_n 2, 1) := by decide +kernel
theorem dX6_isAhead_87 : decode cX6_isAhead 87 = .ok (.imul, 1) := by decide +kernel
theorem dX6_isAhead_88 : decode cX6_isAhead 88 = .ok (.iload_n 3, 1) := by decide +kernel
theorem dX6_isAhead_89 : decode cX6_isAhead 89 = .ok (.iadd, 1) := by decide +kernel
theorem dX6_isAhead_90 : decode cX6_isAhead 90 = .ok (.caload, 1) := by decide +kernel
theorem dX6_isAhead_91 : decode cX6_isAhead 91 = .ok (.if_icmp .ge 7, 3) := by decide +kernel
theorem dX6_isAhead_94 : decode cX6_isAhead 94 = .ok (.iconst 1, 1) := by decide +kernel
theorem dX6_isAhead_95 : decode cX6_isAhead 95 = .ok (.goto 4, 3) := by decide +kernel
theorem dX6_isAhead_98 : decode cX6_isAhead 98 = .ok (.iconst 0, 1) := by decide +kernel
theorem dX6_isAhead_99 : decode cX6_isAhead 99 = .ok (.ireturn, 1) := by decide +kernel
set_option maxRecDepth 20000 in
theorem ggX6_areOrderly_X6_isAhead : GoodIn wsX6_areOrderly wsX6_isAhead := goodIn_r _ [5, 6, 7, 8, 9, 10, 11, 12, 13, 14, 15, 16, 17, 18, 19, 20, 21] (by decide +kernel) (by decide +kernel)
set_option maxRecDepth 20000 in
theorem gX6_areOrderly_X6_isAhead : GoodIn wsX6_areOrderly (wsV RX6 109 RX6 yX6_isAhead wsX6_isAhead) := goodIn_app (goodIn_of _ (by decide +kernel)) ggX6_areOrderly_X6_isAhead
theorem dX6_areOrderly_0 : decode cX6_areOrderly 0 = .ok (.iconst 0, 1) := by decide +kernel
theorem dX6_areOrderly_1 : decode cX6_areOrderly 1 = .ok (.istore_n 1, 1) := by decide +kernel
theorem dX6_areOrderly_2 : decode cX6_areOrderly 2 = .ok (.iload_n 1, 1) := by decide +kernel
theorem dX6_areOrderly_3 : decode cX6_areOrderly 3 = .ok (.bipush 6, 2) := by decide +kernel
theorem dX6_areOrderly_5 : decode cX6_areOrderly 5 = .ok (.if_icmp .ge 33, 3) := by decide +kernel
theorem dX6_areOrderly_8 : decode cX6_areOrderly 8 = .ok (.iconst 0, 1) := by decide +kernel
theorem dX6_areOrderly_9 : decode cX6_areOrderly 9 = .ok (.istore_n 2, 1) := by decide +kernel
theorem dX6_areOrderly_10 : decode cX6_areOrderly 10 = .ok (.iload_n 2, 1) := by decide +kernel
theorem dX6_areOrderly_11 : decode cX6_areOrderly 11 = .ok (.iload_n 1, 1) := by decide +kernel
theorem dX6_areOrderly_12 : decode cX6_areOrderly 12 = .ok (.if_icmp .ge 20, 3) := by decide +kernel
theorem dX6_areOrderly_15 : decode cX6_areOrderly 15 = .ok (.aload_n 0, 1) := by decide +kernel
theorem dX6_areOrderly_16 : decode cX6_areOrderly 16 = .ok (.iload_n 2, 1) := by decide +kernel
theorem dX6_areOrderly_17 : decode cX6_areOrderly 17 = .ok (.iload_n 1, 1) := by decide +kernel
theorem dX6_areOrderly_18 : decode cX6_areOrderly 18 = .ok (.invokevirtual 109, 3) := by decide +kernel
theorem dX6_areOrderly_21 : decode cX6_areOrderly 21 = .ok (.ifCond .ne 5, 3) := by decide +kernel
theorem dX6_areOrderly_24 : decode cX6_areOrderly 24 = .ok (.iconst 0, 1) := by decide +kernel
theorem dX6_areOrderly_25 : decode cX6_areOrderly 25 = .ok (.ireturn, 1) := by decide +kernel
theorem dX6_areOrderly_26 : decode cX6_areOrderly 26 = .ok (.iinc 2 1, 3) := by decide +kernel
theorem dX6_areOrderly_29 : decode cX6_areOrderly 29 = .ok (.goto (-19), 3) := by decide +kernel
theorem dX6_areOrderly_32 : decode cX6_areOrderly 32 = .ok (.iinc 1 1, 3) := by decide +kernel
theorem dX6_areOrderly_35 : decode cX6_areOrderly 35 = .ok (.goto (-33), 3) := by decide +kernel
theorem dX6_areOrderly_38 : decode cX6_areOrderly 38 = .ok (.iconst 1, 1) := by decide +kernel
theorem dX6_areOrderly_39 : decode cX6_areOrderly 39 = .ok (.ireturn, 1) := by decide +kernel
theorem dX6_puts_0 : decode cX6_puts 0 = .ok (.iload_n 2, 1) := by decide +kernel
theorem dX6_puts_1 : decode cX6_puts 1 = .ok (.bipush 97, 2) := by decide +kernel
theorem dX6_puts_3 : decode cX6_puts 3 = .ok (.isub, 1) := by decide +kernel
theorem dX6_puts_4 : decode cX6_puts 4 = .ok (.istore_n 3, 1) := by decide +kernel
theorem dX6_puts_5 : decode cX6_puts 5 = .ok (.iconst 0, 1) := by decide +kernel
theorem dX6_puts_6 : decode cX6_puts 6 = .ok (.istore 4, 2) := by decide +kernel
theorem dX6_puts_8 : decode cX6_puts 8 = .ok (.iload 4, 2) := by decide +kernel
theorem dX6_puts_10 : decode cX6_puts 10 = .ok (.aload_n 0, 1) := by decide +kernel
theorem dX6_puts_11 : decode cX6_puts 11 = .ok (.getfield 33, 3) := by decide +kernel
theorem dX6_puts_14 : decode cX6_puts 14 = .ok (.iload_n 3, 1) := by decide +kernel
theorem dX6_puts_15 : decode cX6_puts 15 = .ok (.iaload, 1) := by decide +kernel
theorem dX6_puts_16 : decode cX6_puts 16 = .ok (.if_icmp .ge 29, 3) := by decide +kernel
theorem dX6_puts_19 : decode cX6_puts 19 = .ok (.aload_n 0, 1) := by decide +kernel
theorem dX6_puts_20 : decode cX6_puts 20 = .ok (.getfield 23, 3) := by decide +kernel
theorem dX6_puts_23 : decode cX6_puts 23 = .ok (.iload_n 1, 1) := by decide +kernel
theorem dX6_puts_24 : decode cX6_puts 24 = .ok (.iload 4, 2) := by decide +kernel
theorem dX6_puts_26 : decode cX6_puts 26 = .ok (.iadd, 1) := by decide +kernel
theorem dX6_puts_27 : decode cX6_puts 27 = .ok (.aload_n 0, 1) := by decide +kernel
theorem dX6_puts_28 : decode cX6_puts 28 = .ok (.getfield 20, 3) := by decide +kernel
theorem dX6_puts_31 : decode cX6_puts 31 = .ok (.iconst 3, 1) := by decide +kernel
theorem dX6_puts_32 : decode cX6_puts 32 = .ok (.iload_n 3, 1) := by decide +kernel
theorem dX6_puts_33 : decode cX6_puts 33 = .ok (.imul, 1) := by decide +kernel
theorem dX6_puts_34 : decode cX6_puts 34 = .ok (.iload 4, 2) := by decide +kernel
theorem dX6_puts_36 : decode cX6_puts 36 = .ok (.iadd, 1) := by decide +kernel
theorem dX6_puts_37 : decode cX6_puts 37 = .ok (.caload, 1) := by decide +kernel
theorem dX6_puts_38 : decode cX6_puts 38 = .ok (.castore, 1) := by decide +kernel
theorem dX6_puts_39 : decode cX6_puts 39 = .ok (.iinc 4 1, 3) := by decide +kernel
theorem dX6_puts_42 : decode cX6_puts 42 = .ok (.goto (-34), 3) := by decide +kernel
theorem dX6_puts_45 : decode cX6_puts 45 = .ok (.iload_n 1, 1) := by decide +kernel
theorem dX6_puts_46 : decode cX6_puts 46 = .ok (.aload_n 0, 1) := by decide +kernel
theorem dX6_puts_47 : decode cX6_puts 47 = .ok (.getfield 33, 3) := by decide +kernel
theorem dX6_puts_50 : decode cX6_puts 50 = .ok (.iload_n 3, 1) := by decide +kernel
theorem dX6_puts_51 : decode cX6_puts 51 = .ok (.iaload, 1) := by decide +kernel
theorem dX6_puts_52 : decode cX6_puts 52 = .ok (.iadd, 1) := by decide +kernel
theorem dX6_puts_53 : decode cX6_puts 53 = .ok (.ireturn, 1) := by decide +kernel
set_option maxRecDepth 20000 in
theorem ggX6_write_X6_puts : GoodIn wsX6_write wsX6_puts := goodIn_r _ [8, 9, 3, 10, 16, 17, 18, 19, 20, 21, 22, 23, 24, 25, 26, 27, 28, 29] (by decide +kernel) (by decide +kernel)
set_option maxRecDepth 20000 in
theorem gX6_write_X6_puts : GoodIn wsX6_write (wsV RX6 112 RX6 yX6_puts wsX6_puts) := goodIn_app (goodIn_of _ (by decide +kernel)) ggX6_write_X6_puts
set_option maxRecDepth 20000 in
theorem ggX6_write_X6_fails : GoodIn wsX6_write wsX6_fails := goodIn_r _ [14, 15, 16, 17, 18, 19, 20, 21, 22, 23, 24, 25, 26, 27, 28, 29] (by decide +kernel) (by decide +kernel)
set_option maxRecDepth 20000 in
theorem gX6_write_X6_fails : GoodIn wsX6_write (wsV RX6 77 RX6 yX6_fails wsX6_fails) := goodIn_app (goodIn_of _ (by decide +kernel)) ggX6_write_X6_fails
theorem dX6_write_0 : decode cX6_write 0 = .ok (.iconst 0, 1) := by decide +kernel
theorem dX6_write_1 : decode cX6_write 1 = .ok (.istore_n 1, 1) := by decide +kernel
theorem dX6_write_2 : decode cX6_write 2 = .ok (.iconst 0, 1) := by decide +kernel
theorem dX6_write_3 : decode cX6_write 3 = .ok (.istore_n 2, 1) := by decide +kernel
theorem dX6_write_4 : decode cX6_write 4 = .ok (.iload_n 2, 1) := by decide +kernel
theorem dX6_write_5 : decode cX6_write 5 = .ok (.aload_n 0, 1) := by decide +kernel
theorem dX6_write_6 : decode cX6_write 6 = .ok (.getfield 49, 3) := by decide +kernel
theorem dX6_write_9 : decode cX6_write 9 = .ok (.if_icmp .ge 21, 3) := by decide +kernel
theorem dX6_write_12 : decode cX6_write 12 = .ok (.aload_n 0, 1) := by decide +kernel
theorem dX6_write_13 : decode cX6_write 13 = .ok (.iload_n 1, 1) := by decide +kernel
theorem dX6_write_14 : decode cX6_write 14 = .ok (.aload_n 0, 1) := by decide +kernel
theorem dX6_write_15 : decode cX6_write 15 = .ok (.getfield 13, 3) := by decide +kernel
theorem dX6_write_18 : decode cX6_write 18 = .ok (.iload_n 2, 1) := by decide +kernel
theorem dX6_write_19 : decode cX6_write 19 = .ok (.caload, 1) := by decide +kernel
theorem dX6_write_20 : decode cX6_write 20 = .ok (.invokevirtual 112, 3) := by decide +kernel
theorem dX6_write_23 : decode cX6_write 23 = .ok (.istore_n 1, 1) := by decide +kernel
theorem dX6_write_24 : decode cX6_write 24 = .ok (.iinc 2 1, 3) := by decide +kernel
theorem dX6_write_27 : decode cX6_write 27 = .ok (.goto (-23), 3) := by decide +kernel
theorem dX6_write_30 : decode cX6_write 30 = .ok (.aload_n 0, 1) := by decide +kernel
theorem dX6_write_31 : decode cX6_write 31 = .ok (.iload_n 1, 1) := by decide +kernel
theorem dX6_write_32 : decode cX6_write 32 = .ok (.bipush 24, 2) := by decide +kernel
theorem dX6_write_34 : decode cX6_write 34 = .ok (.if_icmp .le 7, 3) := by decide +kernel
theorem dX6_write_37 : decode cX6_write 37 = .ok (.iconst 1, 1) := by decide +kernel
theorem dX6_write_38 : decode cX6_write 38 = .ok (.goto 4, 3) := by decide +kernel
theorem dX6_write_41 : decode cX6_write 41 = .ok (.iconst 0, 1) := by decide +kernel
theorem dX6_write_42 : decode cX6_write 42 = .ok (.invokevirtual 77, 3) := by decide +kernel
theorem dX6_write_45 : decode cX6_write 45 = .ok (.ifCond .eq 5, 3) := by decide +kernel
theorem dX6_write_48 : decode cX6_write 48 = .ok (.iconst 0, 1) := by decide +kernel
theorem dX6_write_49 : decode cX6_write 49 = .ok (.ireturn, 1) := by decide +kernel
theorem dX6_write_50 : decode cX6_write 50 = .ok (.aload_n 0, 1) := by decide +kernel
theorem dX6_write_51 : decode cX6_write 51 = .ok (.iload_n 1, 1) := by decide +kernel
theorem dX6_write_52 : decode cX6_write 52 = .ok (.putfield 49, 3) := by decide +kernel
theorem dX6_write_55 : decode cX6_write 55 = .ok (.iconst 0, 1) := by decide +kernel
theorem dX6_write_56 : decode cX6_write 56 = .ok (.istore_n 2, 1) := by decide +kernel
theorem dX6_write_57 : decode cX6_write 57 = .ok (.iload_n 2, 1) := by decide +kernel
theorem dX6_write_58 : decode cX6_write 58 = .ok (.iload_n 1, 1) := by decide +kernel
theorem dX6_write_59 : decode cX6_write 59 = .ok (.if_icmp .ge 21, 3) := by decide +kernel
theorem dX6_write_62 : decode cX6_write 62 = .ok (.aload_n 0, 1) := by decide +kernel
theorem dX6_write_63 : decode cX6_write 63 = .ok (.getfield 13, 3) := by decide +kernel
theorem dX6_write_66 : decode cX6_write 66 = .ok (.iload_n 2, 1) := by decide +kernel
theorem dX6_write_67 : decode cX6_write 67 = .ok (.aload_n 0, 1) := by decide +kernel
theorem dX6_write_68 : decode cX6_write 68 = .ok (.getfield 23, 3) := by decide +kernel
theorem dX6_write_71 : decode cX6_write 71 = .ok (.iload_n 2, 1) := by decide +kernel
theorem dX6_write_72 : decode cX6_write 72 = .ok (.caload, 1) := by decide +kernel
theorem dX6_write_73 : decode cX6_write 73 = .ok (.castore, 1) := by decide +kernel
theorem dX6_write_74 : decode cX6_write 74 = .ok (.iinc 2 1, 3) := by decide +kernel
theorem dX6_write_77 : decode cX6_write 77 = .ok (.goto (-20), 3) := by decide +kernel
theorem dX6_write_80 : decode cX6_write 80 = .ok (.aload_n 0, 1) := by decide +kernel
theorem dX6_write_81 : decode cX6_write 81 = .ok (.getfield 49, 3) := by decide +kernel
theorem dX6_write_84 : decode cX6_write 84 = .ok (.ireturn, 1) := by decide +kernel
theorem dX6_codeAt_0 : decode cX6_codeAt 0 = .ok (.iconst 0, 1) := by decide +kernel
theorem dX6_codeAt_1 : decode cX6_codeAt 1 = .ok (.istore_n 2, 1) := by decide +kernel
theorem dX6_codeAt_2 : decode cX6_codeAt 2 = .ok (.iload_n 2, 1) := by decide +kernel
theorem dX6_codeAt_3 : decode cX6_codeAt 3 = .ok (.bipush 6, 2) := by decide +kernel
theorem dX6_codeAt_5 : decode cX6_codeAt 5 = .ok (.if_icmp .ge 70, 3) := by decide +kernel
theorem dX6_codeAt_8 : decode cX6_codeAt 8 = .ok (.iconst 0, 1) := by decide +kernel
theorem dX6_codeAt_9 : decode cX6_codeAt 9 = .ok (.istore_n 3, 1) := by decide +kernel
theorem dX6_codeAt_10 : decode cX6_codeAt 10 = .ok (.iload_n 3, 1) := by decide +kernel
theorem dX6_codeAt_11 : decode cX6_codeAt 11 = .ok (.aload_n 0, 1) := by decide +kernel
theorem dX6_codeAt_12 : decode cX6_codeAt 12 = .ok (.getfield 33, 3) := by decide +kernel
theorem dX6_codeAt_15 : decode cX6_codeAt 15 = .ok (.iload_n 2, 1) := by decide +kernel
theorem dX6_codeAt_16 : decode cX6_codeAt 16 = .ok (.iaload, 1) := by decide +kernel
theorem dX6_codeAt_17 : decode cX6_codeAt 17 = .ok (.if_icmp .ge 40, 3) := by decide +kernel
theorem dX6_codeAt_20 : decode cX6_codeAt 20 = .ok (.iload_n 1, 1) := by decide +kernel
theorem dX6_codeAt_21 : decode cX6_codeAt 21 = .ok (.iload_n 3, 1) := by decide +kernel
theorem dX6_codeAt_22 : decode cX6_codeAt 22 = .ok (.iadd, 1) := by decide +kernel
theorem dX6_codeAt_23 : decode cX6_codeAt 23 = .ok (.aload_n 0, 1) := by decide +kernel
theorem dX6_codeAt_24 : decode cX6_codeAt 24 = .ok (.getfield 49, 3) := by decide +kernel
theorem dX6_codeAt_27 : decode cX6_codeAt 27 = .ok (.if_icmp .ge 30, 3) := by decide +kernel
theorem dX6_codeAt_30 : decode cX6_codeAt 30 = .ok (.aload_n 0, 1) := by decide +kernel
theorem dX6_codeAt_31 : decode cX6_codeAt 31 = .ok (.getfield 20, 3) := by decide +kernel
theorem dX6_codeAt_34 : decode cX6_codeAt 34 = .ok (.iconst 3, 1) := by decide +kernel
theorem dX6_codeAt_35 : decode cX6_codeAt 35 = .ok (.iload_n 2, 1) := by decide +kernel
theorem dX6_codeAt_36 : decode cX6_codeAt 36 = .ok (.imul, 1) := by decide +kernel
theorem dX6_codeAt_37 : decode cX6_codeAt 37 = .ok (.iload_n 3, 1) := by decide +kernel
theorem dX6_codeAt_38 : decode cX6_codeAt 38 = .ok (.iadd, 1) := by decide +kernel
theorem dX6_codeAt_39 : decode cX6_codeAt 39 = .ok (.caload, 1) := by decide +kernel
theorem dX6_codeAt_40 : decode cX6_codeAt 40 = .ok (.aload_n 0, 1) := by decide +kernel
theorem dX6_codeAt_41 : decode cX6_codeAt 41 = .ok (.getfield 13, 3) := by decide +kernel
theorem dX6_codeAt_44 : decode cX6_codeAt 44 = .ok (.iload_n 1, 1) := by decide +kernel
theorem dX6_codeAt_45 : decode cX6_codeAt 45 = .ok (.iload_n 3, 1) := by decide +kernel
theorem dX6_codeAt_46 : decode cX6_codeAt 46 = .ok (.iadd, 1) := by decide +kernel
theorem dX6_codeAt_47 : decode cX6_codeAt 47 = .ok (.caload, 1) := by decide +kernel
theorem dX6_codeAt_48 : decode cX6_codeAt 48 = .ok (.if_icmp .ne 9, 3) := by decide +kernel
theorem dX6_codeAt_51 : decode cX6_codeAt 51 = .ok (.iinc 3 1, 3) := by decide +kernel
theorem dX6_codeAt_54 : decode cX6_codeAt 54 = .ok (.goto (-44), 3) := by decide +kernel
theorem dX6_codeAt_57 : decode cX6_codeAt 57 = .ok (.iload_n 3, 1) := by decide +kernel
theorem dX6_codeAt_58 : decode cX6_codeAt 58 = .ok (.aload_n 0, 1) := by decide +kernel
theorem dX6_codeAt_59 : decode cX6_codeAt 59 = .ok (.getfield 33, 3) := by decide +kernel
theorem dX6_codeAt_62 : decode cX6_codeAt 62 = .ok (.iload_n 2, 1) := by decide +kernel
theorem dX6_codeAt_63 : decode cX6_codeAt 63 = .ok (.iaload, 1) := by decide +kernel
theorem dX6_codeAt_64 : decode cX6_codeAt 64 = .ok (.if_icmp .ne 5, 3) := by decide +kernel
theorem dX6_codeAt_67 : decode cX6_codeAt 67 = .ok (.iload_n 2, 1) := by decide +kernel
theorem dX6_codeAt_68 : decode cX6_codeAt 68 = .ok (.ireturn, 1) := by decide +kernel
theorem dX6_codeAt_69 : decode cX6_codeAt 69 = .ok (.iinc 2 1, 3) := by decide +kernel
theorem dX6_codeAt_72 : decode cX6_codeAt 72 = .ok (.goto (-70), 3) := by decide +kernel
theorem dX6_codeAt_75 : decode cX6_codeAt 75 = .ok (.iconst (-1), 1) := by decide +kernel
theorem dX6_codeAt_76 : decode cX6_codeAt 76 = .ok (.ireturn, 1) := by decide +kernel
set_option maxRecDepth 20000 in
theorem ggX6_read_X6_codeAt : GoodIn wsX6_read wsX6_codeAt := goodIn_r _ [9, 3, 1, 10, 4, 24, 25, 26, 27, 28, 29, 30, 31, 32, 33, 34, 35, 36, 37] (by decide +kernel) (by decide +kernel)
set_option maxRecDepth 20000 in
theorem gX6_read_X6_codeAt : GoodIn wsX6_read (wsV RX6 116 RX6 yX6_codeAt wsX6_codeAt) := goodIn_app (goodIn_of _ (by decide +kernel)) ggX6_read_X6_codeAt
set_option maxRecDepth 20000 in
theorem ggX6_read_X6_areOrderly : GoodIn wsX6_read wsX6_areOrderly := goodIn_r _ [14, 15, 16, 17, 8, 18, 3, 10, 24, 25, 26, 27, 28, 29, 30, 31, 32, 33, 34, 35, 36, 37] (by decide +kernel) (by decide +kernel)
set_option maxRecDepth 20000 in
theorem gX6_read_X6_areOrderly : GoodIn wsX6_read (wsV RX6 119 RX6 yX6_areOrderly wsX6_areOrderly) := goodIn_app (goodIn_of _ (by decide +kernel)) ggX6_read_X6_areOrderly
set_option maxRecDepth 20000 in
theorem ggX6_read_X6_fails : GoodIn wsX6_read wsX6_fails := goodIn_r _ [22, 23, 24, 25, 26, 27, 28, 29, 30, 31, 32, 33, 34, 35, 36, 37] (by decide +kernel) (by decide +kernel)
set_option maxRecDepth 20000 in
theorem gX6_read_X6_fails : GoodIn wsX6_read (wsV RX6 77 RX6 yX6_fails wsX6_fails) := goodIn_app (goodIn_of _ (by decide +kernel)) ggX6_read_X6_fails
theorem dX6_read_0 : decode cX6_read 0 = .ok (.iconst 0, 1) := by decide +kernel
theorem dX6_read_1 : decode cX6_read 1 = .ok (.istore_n 1, 1) := by decide +kernel
theorem dX6_read_2 : decode cX6_read 2 = .ok (.iconst 0, 1) := by decide +kernel
theorem dX6_read_3 : decode cX6_read 3 = .ok (.istore_n 2, 1) := by decide +kernel
theorem dX6_read_4 : decode cX6_read 4 = .ok (.iload_n 1, 1) := by decide +kernel
theorem dX6_read_5 : decode cX6_read 5 = .ok (.aload_n 0, 1) := by decide +kernel
theorem dX6_read_6 : decode cX6_read 6 = .ok (.getfield 49, 3) := by decide +kernel
theorem dX6_read_9 : decode cX6_read 9 = .ok (.if_icmp .ge 43, 3) := by decide +kernel
theorem dX6_read_12 : decode cX6_read 12 = .ok (.aload_n 0, 1) := by decide +kernel
theorem dX6_read_13 : decode cX6_read 13 = .ok (.iload_n 1, 1) := by decide +kernel
theorem dX6_read_14 : decode cX6_read 14 = .ok (.invokevirtual 116, 3) := by decide +kernel
theorem dX6_read_17 : decode cX6_read 17 = .ok (.ifCond .lt 35, 3) := by decide +kernel
theorem dX6_read_20 : decode cX6_read 20 = .ok (.aload_n 0, 1) := by decide +kernel
theorem dX6_read_21 : decode cX6_read 21 = .ok (.iload_n 1, 1) := by decide +kernel
theorem dX6_read_22 : decode cX6_read 22 = .ok (.invokevirtual 116, 3) := by decide +kernel
theorem dX6_read_25 : decode cX6_read 25 = .ok (.istore_n 3, 1) := by decide +kernel
theorem dX6_read_26 : decode cX6_read 26 = .ok (.aload_n 0, 1) := by decide +kernel
theorem dX6_read_27 : decode cX6_read 27 = .ok (.getfield 23, 3) := by decide +kernel
theorem dX6_read_30 : decode cX6_read 30 = .ok (.iload_n 2, 1) := by decide +kernel
theorem dX6_read_31 : decode cX6_read 31 = .ok (.bipush 97, 2) := by decide +kernel
theorem dX6_read_33 : decode cX6_read 33 = .ok (.iload_n 3, 1) := by decide +kernel
theorem dX6_read_34 : decode cX6_read 34 = .ok (.iadd, 1) := by decide +kernel
theorem dX6_read_35 : decode cX6_read 35 = .ok (.i2c, 1) := by decide +kernel
theorem dX6_read_36 : decode cX6_read 36 = .ok (.castore, 1) := by decide +kernel
theorem dX6_read_37 : decode cX6_read 37 = .ok (.iinc 2 1, 3) := by decide +kernel
theorem dX6_read_40 : decode cX6_read 40 = .ok (.iload_n 1, 1) := by decide +kernel
theorem dX6_read_41 : decode cX6_read 41 = .ok (.aload_n 0, 1) := by decide +kernel
theorem dX6_read_42 : decode cX6_read 42 = .ok (.getfield 33, 3) := by decide +kernel
theorem dX6_read_45 : decode cX6_read 45 = .ok (.iload_n 3, 1) := by decide +kernel
theorem dX6_read_46 : decode cX6_read 46 = .ok (.iaload, 1) := by decide +kernel
theorem dX6_read_47 : decode cX6_read 47 = .ok (.iadd, 1) := by decide +kernel
theorem dX6_read_48 : decode cX6_read 48 = .ok (.istore_n 1, 1) := by decide +kernel
theorem dX6_read_49 : decode cX6_read 49 = .ok (.goto (-45), 3) := by decide +kernel
theorem dX6_read_52 : decode cX6_read 52 = .ok (.aload_n 0, 1) := by decide +kernel
theorem dX6_read_53 : decode cX6_read 53 = .ok (.aload_n 0, 1) := by decide +kernel
theorem dX6_read_54 : decode cX6_read 54 = .ok (.invokevirtual 119, 3) := by decide +kernel
theorem dX6_read_57 : decode cX6_read 57 = .ok (.ifCond .ne 7, 3) := by decide +kernel
theorem dX6_read_60 : decode cX6_read 60 = .ok (.iconst 1, 1) := by decide +kernel
theorem dX6_read_61 : decode cX6_read 61 = .ok (.goto 16, 3) := by decide +kernel
theorem dX6_read_64 : decode cX6_read 64 = .ok (.iload_n 1, 1) := by decide +kernel
theorem dX6_read_65 : decode cX6_read 65 = .ok (.aload_n 0, 1) := by decide +kernel
theorem dX6_read_66 : decode cX6_read 66 = .ok (.getfield 49, 3) := by decide +kernel
theorem dX6_read_69 : decode cX6_read 69 = .ok (.if_icmp .ge 7, 3) := by decide +kernel
theorem dX6_read_72 : decode cX6_read 72 = .ok (.iconst 2, 1) := by decide +kernel
theorem dX6_read_73 : decode cX6_read 73 = .ok (.goto 4, 3) := by decide +kernel
theorem dX6_read_76 : decode cX6_read 76 = .ok (.iconst 0, 1) := by decide +kernel
theorem dX6_read_77 : decode cX6_read 77 = .ok (.invokevirtual 77, 3) := by decide +kernel
theorem dX6_read_80 : decode cX6_read 80 = .ok (.ifCond .eq 5, 3) := by decide +kernel
theorem dX6_read_83 : decode cX6_read 83 = .ok (.iconst 0, 1) := by decide +kernel
theorem dX6_read_84 : decode cX6_read 84 = .ok (.ireturn, 1) := by decide +kernel
theorem dX6_read_85 : decode cX6_read 85 = .ok (.aload_n 0, 1) := by decide +kernel
theorem dX6_read_86 : decode cX6_read 86 = .ok (.iload_n 2, 1) := by decide +kernel
theorem dX6_read_87 : decode cX6_read 87 = .ok (.putfield 49, 3) := by decide +kernel
theorem dX6_read_90 : decode cX6_read 90 = .ok (.iconst 0, 1) := by decide +kernel
theorem dX6_read_91 : decode cX6_read 91 = .ok (.istore_n 3, 1) := by decide +kernel
theorem dX6_read_92 : decode cX6_read 92 = .ok (.iload_n 3, 1) := by decide +kernel
theorem dX6_read_93 : decode cX6_read 93 = .ok (.iload_n 2, 1) := by decide +kernel
theorem dX6_read_94 : decode cX6_read 94 = .ok (.if_icmp .ge 21, 3) := by decide +kernel
theorem dX6_read_97 : decode cX6_read 97 = .ok (.aload_n 0, 1) := by decide +kernel
theorem dX6_read_98 : decode cX6_read 98 = .ok (.getfield 13, 3) := by decide +kernel
theorem dX6_read_101 : decode cX6_read 101 = .ok (.iload_n 3, 1) := by decide +kernel
theorem dX6_read_102 : decode cX6_read 102 = .ok (.aload_n 0, 1) := by decide +kernel
theorem dX6_read_103 : decode cX6_read 103 = .ok (.getfield 23, 3) := by decide +kernel
theorem dX6_read_106 : decode cX6_read 106 = .ok (.iload_n 3, 1) := by decide +kernel
theorem dX6_read_107 : decode cX6_read 107 = .ok (.caload, 1) := by decide +kernel
theorem dX6_read_108 : decode cX6_read 108 = .ok (.castore, 1) := by decide +kernel
theorem dX6_read_109 : decode cX6_read 109 = .ok (.iinc 3 1, 3) := by decide +kernel
theorem dX6_read_112 : decode cX6_read 112 = .ok (.goto (-20), 3) := by decide +kernel
theorem dX6_read_115 : decode cX6_read 115 = .ok (.aload_n 0, 1) := by decide +kernel
theorem dX6_read_116 : decode cX6_read 116 = .ok (.getfield 49, 3) := by decide +kernel
theorem dX6_read_119 : decode cX6_read 119 = .ok (.ireturn, 1) := by decide +kernel
set_option maxRecDepth 20000 in
theorem ggX6_written_X6_puts : GoodIn wsX6_written wsX6_puts := goodIn_r _ [7, 8, 9, 10, 11, 12, 13, 14, 15, 16, 17, 18, 19, 20, 21, 22, 23, 24] (by decide +kernel) (by decide +kernel)
set_option maxRecDepth 20000 in
theorem gX6_written_X6_puts : GoodIn wsX6_written (wsV RX6 112 RX6 yX6_puts wsX6_puts) := goodIn_app (goodIn_of _ (by decide +kernel)) ggX6_written_X6_puts
theorem dX6_written_0 : decode cX6_written 0 = .ok (.iconst 0, 1) := by decide +kernel
theorem dX6_written_1 : decode cX6_written 1 = .ok (.istore_n 2, 1) := by decide +kernel
theorem dX6_written_2 : decode cX6_written 2 = .ok (.iconst 0, 1) := by decide +kernel
theorem dX6_written_3 : decode cX6_written 3 = .ok (.istore_n 3, 1) := by decide +kernel
theorem dX6_written_4 : decode cX6_written 4 = .ok (.iload_n 3, 1) := by decide +kernel
theorem dX6_written_5 : decode cX6_written 5 = .ok (.aload_n 0, 1) := by decide +kernel
theorem dX6_written_6 : decode cX6_written 6 = .ok (.getfield 26, 3) := by decide +kernel
theorem dX6_written_9 : decode cX6_written 9 = .ok (.iload_n 1, 1) := by decide +kernel
theorem dX6_written_10 : decode cX6_written 10 = .ok (.iaload, 1) := by decide +kernel
theorem dX6_written_11 : decode cX6_written 11 = .ok (.if_icmp .ge 26, 3) := by decide +kernel
theorem dX6_written_14 : decode cX6_written 14 = .ok (.aload_n 0, 1) := by decide +kernel
theorem dX6_written_15 : decode cX6_written 15 = .ok (.iload_n 2, 1) := by decide +kernel
theorem dX6_written_16 : decode cX6_written 16 = .ok (.aload_n 0, 1) := by decide +kernel
theorem dX6_written_17 : decode cX6_written 17 = .ok (.getfield 17, 3) := by decide +kernel
theorem dX6_written_20 : decode cX6_written 20 = .ok (.bipush 10, 2) := by decide +kernel
theorem dX6_written_22 : decode cX6_written 22 = .ok (.iload_n 1, 1) := by decide +kernel
theorem dX6_written_23 : decode cX6_written 23 = .ok (.imul, 1) := by decide +kernel
theorem dX6_written_24 : decode cX6_written 24 = .ok (.iload_n 3, 1) := by decide +kernel
theorem dX6_written_25 : decode cX6_written 25 = .ok (.iadd, 1) := by decide +kernel
theorem dX6_written_26 : decode cX6_written 26 = .ok (.caload, 1) := by decide +kernel
theorem dX6_written_27 : decode cX6_written 27 = .ok (.invokevirtual 112, 3) := by decide +kernel
theorem dX6_written_30 : decode cX6_written 30 = .ok (.istore_n 2, 1) := by decide +kernel
theorem dX6_written_31 : decode cX6_written 31 = .ok (.iinc 3 1, 3) := by decide +kernel
theorem dX6_written_34 : decode cX6_written 34 = .ok (.goto (-30), 3) := by decide +kernel
theorem dX6_written_37 : decode cX6_written 37 = .ok (.iload_n 2, 1) := by decide +kernel
theorem dX6_written_38 : decode cX6_written 38 = .ok (.ireturn, 1) := by decide +kernel
set_option maxRecDepth 20000 in
theorem ggX6_writeAll_X6_written : GoodIn wsX6_writeAll wsX6_written := goodIn_r _ [9, 2, 3, 10, 11, 12, 8, 13, 14, 4, 15, 29, 30, 31, 32, 33, 34, 35, 36, 37, 38, 39, 40, 41, 42] (by decide +kernel) (by decide +kernel)
set_option maxRecDepth 20000 in
theorem gX6_writeAll_X6_written : GoodIn wsX6_writeAll (wsV RX6 123 RX6 yX6_written wsX6_written) := goodIn_app (goodIn_of _ (by decide +kernel)) ggX6_writeAll_X6_written
set_option maxRecDepth 20000 in
theorem ggX6_writeAll_X6_areOrderly : GoodIn wsX6_writeAll wsX6_areOrderly := goodIn_r _ [19, 20, 21, 22, 8, 23, 14, 15, 29, 30, 31, 32, 33, 34, 35, 36, 37, 38, 39, 40, 41, 42] (by decide +kernel) (by decide +kernel)
set_option maxRecDepth 20000 in
theorem gX6_writeAll_X6_areOrderly : GoodIn wsX6_writeAll (wsV RX6 119 RX6 yX6_areOrderly wsX6_areOrderly) := goodIn_app (goodIn_of _ (by decide +kernel)) ggX6_writeAll_X6_areOrderly
set_option maxRecDepth 20000 in
theorem ggX6_writeAll_X6_fails : GoodIn wsX6_writeAll wsX6_fails := goodIn_r _ [27, 28, 29, 30, 31, 32, 33, 34, 35, 36, 37, 38, 39, 40, 41, 42] (by decide +kernel) (by decide +kernel)
set_option maxRecDepth 20000 in
theorem gX6_writeAll_X6_fails : GoodIn wsX6_writeAll (wsV RX6 77 RX6 yX6_fails wsX6_fails) := goodIn_app (goodIn_of _ (by decide +kernel)) ggX6_writeAll_X6_fails
theorem dX6_writeAll_0 : decode cX6_writeAll 0 = .ok (.iconst 0, 1) := by decide +kernel
theorem dX6_writeAll_1 : decode cX6_writeAll 1 = .ok (.istore_n 1, 1) := by decide +kernel
theorem dX6_writeAll_2 : decode cX6_writeAll 2 = .ok (.iconst 0, 1) := by decide +kernel
theorem dX6_writeAll_3 : decode cX6_writeAll 3 = .ok (.istore_n 2, 1) := by decide +kernel
theorem dX6_writeAll_4 : decode cX6_writeAll 4 = .ok (.iload_n 2, 1) := by decide +kernel
theorem dX6_writeAll_5 : decode cX6_writeAll 5 = .ok (.aload_n 0, 1) := by decide +kernel
theorem dX6_writeAll_6 : decode cX6_writeAll 6 = .ok (.getfield 59, 3) := by decide +kernel
theorem dX6_writeAll_9 : decode cX6_writeAll 9 = .ok (.if_icmp .ge 27, 3) := by decide +kernel
theorem dX6_writeAll_12 : decode cX6_writeAll 12 = .ok (.iload_n 1, 1) := by decide +kernel
theorem dX6_writeAll_13 : decode cX6_writeAll 13 = .ok (.aload_n 0, 1) := by decide +kernel
theorem dX6_writeAll_14 : decode cX6_writeAll 14 = .ok (.iload_n 2, 1) := by decide +kernel
theorem dX6_writeAll_15 : decode cX6_writeAll 15 = .ok (.invokevirtual 123, 3) := by decide +kernel
theorem dX6_writeAll_18 : decode cX6_writeAll 18 = .ok (.bipush 10, 2) := by decide +kernel
theorem dX6_writeAll_20 : decode cX6_writeAll 20 = .ok (.if_icmp .le 7, 3) := by decide +kernel
theorem dX6_writeAll_23 : decode cX6_writeAll 23 = .ok (.iconst 1, 1) := by decide +kernel
theorem dX6_writeAll_24 : decode cX6_writeAll 24 = .ok (.goto 4, 3) := by decide +kernel
theorem dX6_writeAll_27 : decode cX6_writeAll 27 = .ok (.iconst 0, 1) := by decide +kernel
theorem dX6_writeAll_28 : decode cX6_writeAll 28 = .ok (.ior, 1) := by decide +kernel
theorem dX6_writeAll_29 : decode cX6_writeAll 29 = .ok (.istore_n 1, 1) := by decide +kernel
theorem dX6_writeAll_30 : decode cX6_writeAll 30 = .ok (.iinc 2 1, 3) := by decide +kernel
theorem dX6_writeAll_33 : decode cX6_writeAll 33 = .ok (.goto (-29), 3) := by decide +kernel
theorem dX6_writeAll_36 : decode cX6_writeAll 36 = .ok (.aload_n 0, 1) := by decide +kernel
theorem dX6_writeAll_37 : decode cX6_writeAll 37 = .ok (.aload_n 0, 1) := by decide +kernel
theorem dX6_writeAll_38 : decode cX6_writeAll 38 = .ok (.invokevirtual 119, 3) := by decide +kernel
theorem dX6_writeAll_41 : decode cX6_writeAll 41 = .ok (.ifCond .ne 7, 3) := by decide +kernel
theorem dX6_writeAll_44 : decode cX6_writeAll 44 = .ok (.iconst 1, 1) := by decide +kernel
theorem dX6_writeAll_45 : decode cX6_writeAll 45 = .ok (.goto 12, 3) := by decide +kernel
theorem dX6_writeAll_48 : decode cX6_writeAll 48 = .ok (.iload_n 1, 1) := by decide +kernel
theorem dX6_writeAll_49 : decode cX6_writeAll 49 = .ok (.ifCond .eq 7, 3) := by decide +kernel
theorem dX6_writeAll_52 : decode cX6_writeAll 52 = .ok (.iconst 2, 1) := by decide +kernel
theorem dX6_writeAll_53 : decode cX6_writeAll 53 = .ok (.goto 4, 3) := by decide +kernel
theorem dX6_writeAll_56 : decode cX6_writeAll 56 = .ok (.iconst 0, 1) := by decide +kernel
theorem dX6_writeAll_57 : decode cX6_writeAll 57 = .ok (.invokevirtual 77, 3) := by decide +kernel
theorem dX6_writeAll_60 : decode cX6_writeAll 60 = .ok (.ifCond .eq 5, 3) := by decide +kernel
theorem dX6_writeAll_63 : decode cX6_writeAll 63 = .ok (.iconst 0, 1) := by decide +kernel
theorem dX6_writeAll_64 : decode cX6_writeAll 64 = .ok (.ireturn, 1) := by decide +kernel
theorem dX6_writeAll_65 : decode cX6_writeAll 65 = .ok (.iconst 0, 1) := by decide +kernel
theorem dX6_writeAll_66 : decode cX6_writeAll 66 = .ok (.istore_n 2, 1) := by decide +kernel
theorem dX6_writeAll_67 : decode cX6_writeAll 67 = .ok (.iconst 0, 1) := by decide +kernel
theorem dX6_writeAll_68 : decode cX6_writeAll 68 = .ok (.istore_n 3, 1) := by decide +kernel
theorem dX6_writeAll_69 : decode cX6_writeAll 69 = .ok (.iload_n 3, 1) := by decide +kernel
theorem dX6_writeAll_70 : decode cX6_writeAll 70 = .ok (.aload_n 0, 1) := by decide +kernel
theorem dX6_writeAll_71 : decode cX6_writeAll 71 = .ok (.getfield 59, 3) := by decide +kernel
theorem dX6_writeAll_74 : decode cX6_writeAll 74 = .ok (.if_icmp .ge 73, 3) := by decide +kernel
theorem dX6_writeAll_77 : decode cX6_writeAll 77 = .ok (.aload_n 0, 1) := by decide +kernel
theorem dX6_writeAll_78 : decode cX6_writeAll 78 = .ok (.iload_n 3, 1) := by decide +kernel
theorem dX6_writeAll_79 : decode cX6_writeAll 79 = .ok (.invokevirtual 123, 3) := by decide +kernel
theorem dX6_writeAll_82 : decode cX6_writeAll 82 = .ok (.istore 4, 2) := by decide +kernel
theorem dX6_writeAll_84 : decode cX6_writeAll 84 = .ok (.iload 4, 2) := by decide +kernel
theorem dX6_writeAll_86 : decode cX6_writeAll 86 = .ok (.aload_n 0, 1) := by decide +kernel
theorem dX6_writeAll_87 : decode cX6_writeAll 87 = .ok (.getfield 26, 3) := by decide +kernel
theorem dX6_writeAll_90 : decode cX6_writeAll 90 = .ok (.iload_n 3, 1) := by decide +kernel
theorem dX6_writeAll_91 : decode cX6_writeAll 91 = .ok (.iaload, 1) := by decide +kernel
theorem dX6_writeAll_92 : decode cX6_writeAll 92 = .ok (.if_icmp .le 6, 3) := by decide +kernel
theorem dX6_writeAll_95 : decode cX6_writeAll 95 = .ok (.iinc 2 1, 3) := by decide +kernel
theorem dX6_writeAll_98 : decode cX6_writeAll 98 = .ok (.aload_n 0, 1) := by decide +kernel
theorem dX6_writeAll_99 : decode cX6_writeAll 99 = .ok (.getfield 26, 3) := by decide +kernel
theorem dX6_writeAll_102 : decode cX6_writeAll 102 = .ok (.iload_n 3, 1) := by decide +kernel
theorem dX6_writeAll_103 : decode cX6_writeAll 103 = .ok (.iload 4, 2) := by decide +kernel
theorem dX6_writeAll_105 : decode cX6_writeAll 105 = .ok (.iastore, 1) := by decide +kernel
theorem dX6_writeAll_106 : decode cX6_writeAll 106 = .ok (.iconst 0, 1) := by decide +kernel
theorem dX6_writeAll_107 : decode cX6_writeAll 107 = .ok (.istore 5, 2) := by decide +kernel
theorem dX6_writeAll_109 : decode cX6_writeAll 109 = .ok (.iload 5, 2) := by decide +kernel
theorem dX6_writeAll_111 : decode cX6_writeAll 111 = .ok (.iload 4, 2) := by decide +kernel
theorem dX6_writeAll_113 : decode cX6_writeAll 113 = .ok (.if_icmp .ge 28, 3) := by decide +kernel
theorem dX6_writeAll_116 : decode cX6_writeAll 116 = .ok (.aload_n 0, 1) := by decide +kernel
theorem dX6_writeAll_117 : decode cX6_writeAll 117 = .ok (.getfield 17, 3) := by decide +kernel
theorem dX6_writeAll_120 : decode cX6_writeAll 120 = .ok (.bipush 10, 2) := by decide +kernel
theorem dX6_writeAll_122 : decode cX6_writeAll 122 = .ok (.iload_n 3, 1) := by decide +kernel
theorem dX6_writeAll_123 : decode cX6_writeAll 123 = .ok (.imul, 1) := by decide +kernel
theorem dX6_writeAll_124 : decode cX6_writeAll 124 = .ok (.iload 5, 2) := by decide +kernel
theorem dX6_writeAll_126 : decode cX6_writeAll 126 = .ok (.iadd, 1) := by decide +kernel
theorem dX6_writeAll_127 : decode cX6_writeAll 127 = .ok (.aload_n 0, 1) := by decide +kernel
theorem dX6_writeAll_128 : decode cX6_writeAll 128 = .ok (.getfield 23, 3) := by decide +kernel
theorem dX6_writeAll_131 : decode cX6_writeAll 131 = .ok (.iload 5, 2) := by decide +kernel
theorem dX6_writeAll_133 : decode cX6_writeAll 133 = .ok (.caload, 1) := by decide +kernel
theorem dX6_writeAll_134 : decode cX6_writeAll 134 = .ok (.castore, 1) := by decide +kernel
theorem dX6_writeAll_135 : decode cX6_writeAll 135 = .ok (.iinc 5 1, 3) := by decide +kernel
theorem dX6_writeAll_138 : decode cX6_writeAll 138 = .ok (.goto (-29), 3) := by decide +kernel
theorem dX6_writeAll_141 : decode cX6_writeAll 141 = .ok (.iinc 3 1, 3) := by decide +kernel
theorem dX6_writeAll_144 : decode cX6_writeAll 144 = .ok (.goto (-75), 3) := by decide +kernel
theorem dX6_writeAll_147 : decode cX6_writeAll 147 = .ok (.iload_n 2, 1) := by decide +kernel
theorem dX6_writeAll_148 : decode cX6_writeAll 148 = .ok (.ireturn, 1) := by decide +kernel
set_option maxRecDepth 20000 in
theorem ggX6_isSideBySide_X6_like : GoodIn wsX6_isSideBySide wsX6_like := goodIn_r _ [10, 2, 11, 4, 5, 12, 13, 14, 15, 16, 17, 18, 19, 20, 21, 22, 23, 24, 25] (by decide +kernel) (by decide +kernel)
set_option maxRecDepth 20000 in
theorem gX6_isSideBySide_X6_like : GoodIn wsX6_isSideBySide (wsV RX6 52 RX6 yX6_like wsX6_like) := goodIn_app (goodIn_of _ (by decide +kernel)) ggX6_isSideBySide_X6_like
theorem dX6_isSideBySide_0 : decode cX6_isSideBySide 0 = .ok (.aload_n 0, 1) := by decide +kernel
theorem dX6_isSideBySide_1 : decode cX6_isSideBySide 1 = .ok (.getfield 59, 3) := by decide +kernel
theorem dX6_isSideBySide_4 : decode cX6_isSideBySide 4 = .ok (.istore_n 2, 1) := by decide +kernel
theorem dX6_isSideBySide_5 : decode cX6_isSideBySide 5 = .ok (.iconst (-1), 1) := by decide +kernel
theorem dX6_isSideBySide_6 : decode cX6_isSideBySide 6 = .ok (.istore_n 3, 1) := by decide +kernel
theorem dX6_isSideBySide_7 : decode cX6_isSideBySide 7 = .ok (.iconst 0, 1) := by decide +kernel
theorem dX6_isSideBySide_8 : decode cX6_isSideBySide 8 = .ok (.istore 4, 2) := by decide +kernel
theorem dX6_isSideBySide_10 : decode cX6_isSideBySide 10 = .ok (.iconst 0, 1) := by decide +kernel
theorem dX6_isSideBySide_11 : decode cX6_isSideBySide 11 = .ok (.istore 5, 2) := by decide +kernel
theorem dX6_isSideBySide_13 : decode cX6_isSideBySide 13 = .ok (.iconst 0, 1) := by decide +kernel
theorem dX6_isSideBySide_14 : decode cX6_isSideBySide 14 = .ok (.istore 6, 2) := by decide +kernel
theorem dX6_isSideBySide_16 : decode cX6_isSideBySide 16 = .ok (.iload 6, 2) := by decide +kernel
theorem dX6_isSideBySide_18 : decode cX6_isSideBySide 18 = .ok (.aload_n 0, 1) := by decide +kernel
theorem dX6_isSideBySide_19 : decode cX6_isSideBySide 19 = .ok (.getfield 59, 3) := by decide +kernel
theorem dX6_isSideBySide_22 : decode cX6_isSideBySide 22 = .ok (.if_icmp .ge 151, 3) := by decide +kernel
theorem dX6_isSideBySide_25 : decode cX6_isSideBySide 25 = .ok (.aload_n 0, 1) := by decide +kernel
theorem dX6_isSideBySide_26 : decode cX6_isSideBySide 26 = .ok (.getfield 26, 3) := by decide +kernel
theorem dX6_isSideBySide_29 : decode cX6_isSideBySide 29 = .ok (.iload 6, 2) := by decide +kernel
theorem dX6_isSideBySide_31 : decode cX6_isSideBySide 31 = .ok (.iaload, 1) := by decide +kernel
theorem dX6_isSideBySide_32 : decode cX6_isSideBySide 32 = .ok (.iload_n 1, 1) := by decide +kernel
theorem dX6_isSideBySide_33 : decode cX6_isSideBySide 33 = .ok (.if_icmp .lt 18, 3) := by decide +kernel
theorem dX6_isSideBySide_36 : decode cX6_isSideBySide 36 = .ok (.aload_n 0, 1) := by decide +kernel
theorem dX6_isSideBySide_37 : decode cX6_isSideBySide 37 = .ok (.iload 6, 2) := by decide +kernel
theorem dX6_isSideBySide_39 : decode cX6_isSideBySide 39 = .ok (.iconst 0, 1) := by decide +kernel
theorem dX6_isSideBySide_40 : decode cX6_isSideBySide 40 = .ok (.invokevirtual 52, 3) := by decide +kernel
theorem dX6_isSideBySide_43 : decode cX6_isSideBySide 43 = .ok (.iload_n 1, 1) := by decide +kernel
theorem dX6_isSideBySide_44 : decode cX6_isSideBySide 44 = .ok (.if_icmp .lt 7, 3) := by decide +kernel
theorem dX6_isSideBySide_47 : decode cX6_isSideBySide 47 = .ok (.iconst 1, 1) := by decide +kernel
theorem dX6_isSideBySide_48 : decode cX6_isSideBySide 48 = .ok (.goto 4, 3) := by decide +kernel
theorem dX6_isSideBySide_51 : decode cX6_isSideBySide 51 = .ok (.iconst 0, 1) := by decide +kernel
theorem dX6_isSideBySide_52 : decode cX6_isSideBySide 52 = .ok (.istore 7, 2) := by decide +kernel
theorem dX6_isSideBySide_54 : decode cX6_isSideBySide 54 = .ok (.iload 7, 2) := by decide +kernel
theorem dX6_isSideBySide_56 : decode cX6_isSideBySide 56 = .ok (.ifCond .eq 47, 3) := by decide +kernel
theorem dX6_isSideBySide_59 : decode cX6_isSideBySide 59 = .ok (.iinc 4 1, 3) := by decide +kernel
theorem dX6_isSideBySide_62 : decode cX6_isSideBySide 62 = .ok (.aload_n 0, 1) := by decide +kernel
theorem dX6_isSideBySide_63 : decode cX6_isSideBySide 63 = .ok (.getfield 39, 3) := by decide +kernel
theorem dX6_isSideBySide_66 : decode cX6_isSideBySide 66 = .ok (.iload 6, 2) := by decide +kernel
theorem dX6_isSideBySide_68 : decode cX6_isSideBySide 68 = .ok (.iaload, 1) := by decide +kernel
theorem dX6_isSideBySide_69 : decode cX6_isSideBySide 69 = .ok (.iload_n 2, 1) := by decide +kernel
theorem dX6_isSideBySide_70 : decode cX6_isSideBySide 70 = .ok (.if_icmp .ge 11, 3) := by decide +kernel
theorem dX6_isSideBySide_73 : decode cX6_isSideBySide 73 = .ok (.aload_n 0, 1) := by decide +kernel
theorem dX6_isSideBySide_74 : decode cX6_isSideBySide 74 = .ok (.getfield 39, 3) := by decide +kernel
theorem dX6_isSideBySide_77 : decode cX6_isSideBySide 77 = .ok (.iload 6, 2) := by decide +kernel
theorem dX6_isSideBySide_79 : decode cX6_isSideBySide 79 = .ok (.iaload, 1) := by decide +kernel
theorem dX6_isSideBySide_80 : decode cX6_isSideBySide 80 = .ok (.istore_n 2, 1) := by decide +kernel
theorem dX6_isSideBySide_81 : decode cX6_isSideBySide 81 = .ok (.aload_n 0, 1) := by decide +kernel
theorem dX6_isSideBySide_82 : decode cX6_isSideBySide 82 = .ok (.getfield 39, 3) := by decide +kernel
theorem dX6_isSideBySide_85 : decode cX6_isSideBySide 85 = .ok (.iload 6, 2) := by decide +kernel
theorem dX6_isSideBySide_87 : decode cX6_isSideBySide 87 = .ok (.iaload, 1) := by decide +kernel
theorem dX6_isSideBySide_88 : decode cX6_isSideBySide 88 = .ok (.iload_n 3, 1) := by decide +kernel
theorem dX6_isSideBySide_89 : decode cX6_isSideBySide 89 = .ok (.if_icmp .le 78, 3) := by decide +kernel
theorem dX6_isSideBySide_92 : decode cX6_isSideBySide 92 = .ok (.aload_n 0, 1) := by decide +kernel
theorem dX6_isSideBySide_93 : decode cX6_isSideBySide 93 = .ok (.getfield 39, 3) := by decide +kernel
theorem dX6_isSideBySide_96 : decode cX6_isSideBySide 96 = .ok (.iload 6, 2) := by decide +kernel
theorem dX6_isSideBySide_98 : decode cX6_isSideBySide 98 = .ok (.iaload, 1) := by decide +kernel
theorem dX6_isSideBySide_99 : decode cX6_isSideBySide 99 = .ok (.istore_n 3, 1) := by decide +kernel
theorem dX6_isSideBySide_100 : decode cX6_isSideBySide 100 = .ok (.goto 67, 3) := by decide +kernel
theorem dX6_isSideBySide_103 : decode cX6_isSideBySide 103 = .ok (.aload_n 0, 1) := by decide +kernel
theorem dX6_isSideBySide_104 : decode cX6_isSideBySide 104 = .ok (.iload 6, 2) := by decide +kernel
theorem dX6_isSideBySide_106 : decode cX6_isSideBySide 106 = .ok (.iconst 0, 1) := by decide +kernel
theorem dX6_isSideBySide_107 : decode cX6_isSideBySide 107 = .ok (.invokevirtual 52, 3) := by decide +kernel
theorem dX6_isSideBySide_110 : decode cX6_isSideBySide 110 = .ok (.aload_n 0, 1) := by decide +kernel
theorem dX6_isSideBySide_111 : decode cX6_isSideBySide 111 = .ok (.getfield 26, 3) := by decide +kernel
theorem dX6_isSideBySide_114 : decode cX6_isSideBySide 114 = .ok (.iload 6, 2) := by decide +kernel
theorem dX6_isSideBySide_116 : decode cX6_isSideBySide 116 = .ok (.iaload, 1) := by decide +kernel
theorem dX6_isSideBySide_117 : decode cX6_isSideBySide 117 = .ok (.if_icmp .eq 47, 3) := by decide +kernel
theorem dX6_isSideBySide_120 : decode cX6_isSideBySide 120 = .ok (.aload_n 0, 1) := by decide +kernel
theorem dX6_isSideBySide_121 : decode cX6_isSideBySide 121 = .ok (.iload 6, 2) := by decide +kernel
theorem dX6_isSideBySide_123 : decode cX6_isSideBySide 123 = .ok (.iconst 0, 1) := by decide +kernel
theorem dX6_isSideBySide_124 : decode cX6_isSideBySide 124 = .ok (.invokevirtual 52, 3) := by decide +kernel
theorem dX6_isSideBySide_127 : decode cX6_isSideBySide 127 = .ok (.iload_n 1, 1) := by decide +kernel
theorem dX6_isSideBySide_128 : decode cX6_isSideBySide 128 = .ok (.if_icmp .ge 39, 3) := by decide +kernel
theorem dX6_isSideBySide_131 : decode cX6_isSideBySide 131 = .ok (.aload_n 0, 1) := by decide +kernel
theorem dX6_isSideBySide_132 : decode cX6_isSideBySide 132 = .ok (.getfield 17, 3) := by decide +kernel
theorem dX6_isSideBySide_135 : decode cX6_isSideBySide 135 = .ok (.bipush 10, 2) := by decide +kernel
theorem dX6_isSideBySide_137 : decode cX6_isSideBySide 137 = .ok (.iload 6, 2) := by decide +kernel
theorem dX6_isSideBySide_139 : decode cX6_isSideBySide 139 = .ok (.imul, 1) := by decide +kernel
theorem dX6_isSideBySide_140 : decode cX6_isSideBySide 140 = .ok (.aload_n 0, 1) := by decide +kernel
theorem dX6_isSideBySide_141 : decode cX6_isSideBySide 141 = .ok (.iload 6, 2) := by decide +kernel
theorem dX6_isSideBySide_143 : decode cX6_isSideBySide 143 = .ok (.iconst 0, 1) := by decide +kernel
theorem dX6_isSideBySide_144 : decode cX6_isSideBySide 144 = .ok (.invokevirtual 52, 3) := by decide +kernel
theorem dX6_isSideBySide_147 : decode cX6_isSideBySide 147 = .ok (.iadd, 1) := by decide +kernel
theorem dX6_isSideBySide_148 : decode cX6_isSideBySide 148 = .ok (.caload, 1) := by decide +kernel
theorem dX6_isSideBySide_149 : decode cX6_isSideBySide 149 = .ok (.aload_n 0, 1) := by decide +kernel
theorem dX6_isSideBySide_150 : decode cX6_isSideBySide 150 = .ok (.getfield 13, 3) := by decide +kernel
theorem dX6_isSideBySide_153 : decode cX6_isSideBySide 153 = .ok (.aload_n 0, 1) := by decide +kernel
theorem dX6_isSideBySide_154 : decode cX6_isSideBySide 154 = .ok (.iload 6, 2) := by decide +kernel
theorem dX6_isSideBySide_156 : decode cX6_isSideBySide 156 = .ok (.iconst 0, 1) := by decide +kernel
theorem dX6_isSideBySide_157 : decode cX6_isSideBySide 157 = .ok (.invokevirtual 52, 3) := by decide +kernel
theorem dX6_isSideBySide_160 : decode cX6_isSideBySide 160 = .ok (.caload, 1) := by decide +kernel
theorem dX6_isSideBySide_161 : decode cX6_isSideBySide 161 = .ok (.if_icmp .ge 6, 3) := by decide +kernel
theorem dX6_isSideBySide_164 : decode cX6_isSideBySide 164 = .ok (.iinc 5 1, 3) := by decide +kernel
theorem dX6_isSideBySide_167 : decode cX6_isSideBySide 167 = .ok (.iinc 6 1, 3) := by decide +kernel
theorem dX6_isSideBySide_170 : decode cX6_isSideBySide 170 = .ok (.goto (-154), 3) := by decide +kernel
theorem dX6_isSideBySide_173 : decode cX6_isSideBySide 173 = .ok (.iload 4, 2) := by decide +kernel
theorem dX6_isSideBySide_175 : decode cX6_isSideBySide 175 = .ok (.ifCond .eq 19, 3) := by decide +kernel
theorem dX6_isSideBySide_178 : decode cX6_isSideBySide 178 = .ok (.iload_n 3, 1) := by decide +kernel
theorem dX6_isSideBySide_179 : decode cX6_isSideBySide 179 = .ok (.iload_n 2, 1) := by decide +kernel
theorem dX6_isSideBySide_180 : decode cX6_isSideBySide 180 = .ok (.isub, 1) := by decide +kernel
theorem dX6_isSideBySide_181 : decode cX6_isSideBySide 181 = .ok (.iconst 1, 1) := by decide +kernel
theorem dX6_isSideBySide_182 : decode cX6_isSideBySide 182 = .ok (.iadd, 1) := by decide +kernel
theorem dX6_isSideBySide_183 : decode cX6_isSideBySide 183 = .ok (.iload 4, 2) := by decide +kernel
theorem dX6_isSideBySide_185 : decode cX6_isSideBySide 185 = .ok (.if_icmp .ne 13, 3) := by decide +kernel
theorem dX6_isSideBySide_188 : decode cX6_isSideBySide 188 = .ok (.iload_n 2, 1) := by decide +kernel
theorem dX6_isSideBySide_189 : decode cX6_isSideBySide 189 = .ok (.iload 5, 2) := by decide +kernel
theorem dX6_isSideBySide_191 : decode cX6_isSideBySide 191 = .ok (.if_icmp .ne 7, 3) := by decide +kernel
theorem dX6_isSideBySide_194 : decode cX6_isSideBySide 194 = .ok (.iconst 1, 1) := by decide +kernel
theorem dX6_isSideBySide_195 : decode cX6_isSideBySide 195 = .ok (.goto 4, 3) := by decide +kernel
theorem dX6_isSideBySide_198 : decode cX6_isSideBySide 198 = .ok (.iconst 0, 1) := by decide +kernel
theorem dX6_isSideBySide_199 : decode cX6_isSideBySide 199 = .ok (.ireturn, 1) := by decide +kernel
set_option maxRecDepth 20000 in
theorem ggX6_areTwins_X6_likeWords : GoodIn wsX6_areTwins wsX6_likeWords := goodIn_r _ [7, 8, 9, 10, 11, 12, 13, 14, 15, 16, 17, 18, 19, 20, 21, 22, 23] (by decide +kernel) (by decide +kernel)
set_option maxRecDepth 20000 in
theorem gX6_areTwins_X6_likeWords : GoodIn wsX6_areTwins (wsV RX6 56 RX6 yX6_likeWords wsX6_likeWords) := goodIn_app (goodIn_of _ (by decide +kernel)) ggX6_areTwins_X6_likeWords
theorem dX6_areTwins_0 : decode cX6_areTwins 0 = .ok (.aload_n 0, 1) := by decide +kernel
theorem dX6_areTwins_1 : decode cX6_areTwins 1 = .ok (.getfield 59, 3) := by decide +kernel
theorem dX6_areTwins_4 : decode cX6_areTwins 4 = .ok (.iconst 2, 1) := by decide +kernel
theorem dX6_areTwins_5 : decode cX6_areTwins 5 = .ok (.if_icmp .ge 5, 3) := by decide +kernel
theorem dX6_areTwins_8 : decode cX6_areTwins 8 = .ok (.iconst 1, 1) := by decide +kernel
theorem dX6_areTwins_9 : decode cX6_areTwins 9 = .ok (.ireturn, 1) := by decide +kernel
theorem dX6_areTwins_10 : decode cX6_areTwins 10 = .ok (.iconst 0, 1) := by decide +kernel
theorem dX6_areTwins_11 : decode cX6_areTwins 11 = .ok (.istore_n 1, 1) := by decide +kernel
theorem dX6_areTwins_12 : decode cX6_areTwins 12 = .ok (.iconst 0, 1) := by decide +kernel
theorem dX6_areTwins_13 : decode cX6_areTwins 13 = .ok (.istore_n 2, 1) := by decide +kernel
theorem dX6_areTwins_14 : decode cX6_areTwins 14 = .ok (.iconst 0, 1) := by decide +kernel
theorem dX6_areTwins_15 : decode cX6_areTwins 15 = .ok (.istore_n 3, 1) := by decide +kernel
theorem dX6_areTwins_16 : decode cX6_areTwins 16 = .ok (.iload_n 3, 1) := by decide +kernel
theorem dX6_areTwins_17 : decode cX6_areTwins 17 = .ok (.aload_n 0, 1) := by decide +kernel
theorem dX6_areTwins_18 : decode cX6_areTwins 18 = .ok (.getfield 59, 3) := by decide +kernel
theorem dX6_areTwins_21 : decode cX6_areTwins 21 = .ok (.if_icmp .ge 43, 3) := by decide +kernel
theorem dX6_areTwins_24 : decode cX6_areTwins 24 = .ok (.iconst 0, 1) := by decide +kernel
theorem dX6_areTwins_25 : decode cX6_areTwins 25 = .ok (.istore 4, 2) := by decide +kernel
theorem dX6_areTwins_27 : decode cX6_areTwins 27 = .ok (.iload 4, 2) := by decide +kernel
theorem dX6_areTwins_29 : decode cX6_areTwins 29 = .ok (.iload_n 3, 1) := by decide +kernel
theorem dX6_areTwins_30 : decode cX6_areTwins 30 = .ok (.if_icmp .ge 28, 3) := by decide +kernel
theorem dX6_areTwins_33 : decode cX6_areTwins 33 = .ok (.aload_n 0, 1) := by decide +kernel
theorem dX6_areTwins_34 : decode cX6_areTwins 34 = .ok (.iload 4, 2) := by decide +kernel
theorem dX6_areTwins_36 : decode cX6_areTwins 36 = .ok (.iload_n 3, 1) := by decide +kernel
theorem dX6_areTwins_37 : decode cX6_areTwins 37 = .ok (.invokevirtual 56, 3) := by decide +kernel
theorem dX6_areTwins_40 : decode cX6_areTwins 40 = .ok (.iload_n 1, 1) := by decide +kernel
theorem dX6_areTwins_41 : decode cX6_areTwins 41 = .ok (.if_icmp .le 11, 3) := by decide +kernel
theorem dX6_areTwins_44 : decode cX6_areTwins 44 = .ok (.aload_n 0, 1) := by decide +kernel
theorem dX6_areTwins_45 : decode cX6_areTwins 45 = .ok (.iload 4, 2) := by decide +kernel
theorem dX6_areTwins_47 : decode cX6_areTwins 47 = .ok (.iload_n 3, 1) := by decide +kernel
theorem dX6_areTwins_48 : decode cX6_areTwins 48 = .ok (.invokevirtual 56, 3) := by decide +kernel
theorem dX6_areTwins_51 : decode cX6_areTwins 51 = .ok (.istore_n 1, 1) := by decide +kernel
theorem dX6_areTwins_52 : decode cX6_areTwins 52 = .ok (.iinc 4 1, 3) := by decide +kernel
theorem dX6_areTwins_55 : decode cX6_areTwins 55 = .ok (.goto (-28), 3) := by decide +kernel
theorem dX6_areTwins_58 : decode cX6_areTwins 58 = .ok (.iinc 3 1, 3) := by decide +kernel
theorem dX6_areTwins_61 : decode cX6_areTwins 61 = .ok (.goto (-45), 3) := by decide +kernel
theorem dX6_areTwins_64 : decode cX6_areTwins 64 = .ok (.iconst 1, 1) := by decide +kernel
theorem dX6_areTwins_65 : decode cX6_areTwins 65 = .ok (.istore_n 3, 1) := by decide +kernel
theorem dX6_areTwins_66 : decode cX6_areTwins 66 = .ok (.iload_n 3, 1) := by decide +kernel
theorem dX6_areTwins_67 : decode cX6_areTwins 67 = .ok (.aload_n 0, 1) := by decide +kernel
theorem dX6_areTwins_68 : decode cX6_areTwins 68 = .ok (.getfield 59, 3) := by decide +kernel
theorem dX6_areTwins_71 : decode cX6_areTwins 71 = .ok (.if_icmp .ge 50, 3) := by decide +kernel
theorem dX6_areTwins_74 : decode cX6_areTwins 74 = .ok (.aload_n 0, 1) := by decide +kernel
theorem dX6_areTwins_75 : decode cX6_areTwins 75 = .ok (.aload_n 0, 1) := by decide +kernel
theorem dX6_areTwins_76 : decode cX6_areTwins 76 = .ok (.getfield 36, 3) := by decide +kernel
theorem dX6_areTwins_79 : decode cX6_areTwins 79 = .ok (.iload_n 3, 1) := by decide +kernel
theorem dX6_areTwins_80 : decode cX6_areTwins 80 = .ok (.iconst 1, 1) := by decide +kernel
theorem dX6_areTwins_81 : decode cX6_areTwins 81 = .ok (.isub, 1) := by decide +kernel
theorem dX6_areTwins_82 : decode cX6_areTwins 82 = .ok (.iaload, 1) := by decide +kernel
theorem dX6_areTwins_83 : decode cX6_areTwins 83 = .ok (.aload_n 0, 1) := by decide +kernel
theorem dX6_areTwins_84 : decode cX6_areTwins 84 = .ok (.getfield 36, 3) := by decide +kernel
theorem dX6_areTwins_87 : decode cX6_areTwins 87 = .ok (.iload_n 3, 1) := by decide +kernel
theorem dX6_areTwins_88 : decode cX6_areTwins 88 = .ok (.iaload, 1) := by decide +kernel
theorem dX6_areTwins_89 : decode cX6_areTwins 89 = .ok (.invokevirtual 56, 3) := by decide +kernel
theorem dX6_areTwins_92 : decode cX6_areTwins 92 = .ok (.iload_n 2, 1) := by decide +kernel
theorem dX6_areTwins_93 : decode cX6_areTwins 93 = .ok (.if_icmp .le 22, 3) := by decide +kernel
theorem dX6_areTwins_96 : decode cX6_areTwins 96 = .ok (.aload_n 0, 1) := by decide +kernel
theorem dX6_areTwins_97 : decode cX6_areTwins 97 = .ok (.aload_n 0, 1) := by decide +kernel
theorem dX6_areTwins_98 : decode cX6_areTwins 98 = .ok (.getfield 36, 3) := by decide +kernel
theorem dX6_areTwins_101 : decode cX6_areTwins 101 = .ok (.iload_n 3, 1) := by decide +kernel
theorem dX6_areTwins_102 : decode cX6_areTwins 102 = .ok (.iconst 1, 1) := by decide +kernel
theorem dX6_areTwins_103 : decode cX6_areTwins 103 = .ok (.isub, 1) := by decide +kernel
theorem dX6_areTwins_104 : decode cX6_areTwins 104 = .ok (.iaload, 1) := by decide +kernel
theorem dX6_areTwins_105 : decode cX6_areTwins 105 = .ok (.aload_n 0, 1) := by decide +kernel
theorem dX6_areTwins_106 : decode cX6_areTwins 106 = .ok (.getfield 36, 3) := by decide +kernel
theorem dX6_areTwins_109 : decode cX6_areTwins 109 = .ok (.iload_n 3, 1) := by decide +kernel
theorem dX6_areTwins_110 : decode cX6_areTwins 110 = .ok (.iaload, 1) := by decide +kernel
theorem dX6_areTwins_111 : decode cX6_areTwins 111 = .ok (.invokevirtual 56, 3) := by decide +kernel
theorem dX6_areTwins_114 : decode cX6_areTwins 114 = .ok (.istore_n 2, 1) := by decide +kernel
theorem dX6_areTwins_115 : decode cX6_areTwins 115 = .ok (.iinc 3 1, 3) := by decide +kernel
theorem dX6_areTwins_118 : decode cX6_areTwins 118 = .ok (.goto (-52), 3) := by decide +kernel
theorem dX6_areTwins_121 : decode cX6_areTwins 121 = .ok (.iload_n 1, 1) := by decide +kernel
theorem dX6_areTwins_122 : decode cX6_areTwins 122 = .ok (.iload_n 2, 1) := by decide +kernel
theorem dX6_areTwins_123 : decode cX6_areTwins 123 = .ok (.if_icmp .ne 7, 3) := by decide +kernel
theorem dX6_areTwins_126 : decode cX6_areTwins 126 = .ok (.iconst 1, 1) := by decide +kernel
theorem dX6_areTwins_127 : decode cX6_areTwins 127 = .ok (.goto 4, 3) := by decide +kernel
theorem dX6_areTwins_130 : decode cX6_areTwins 130 = .ok (.iconst 0, 1) := by decide +kernel
theorem dX6_areTwins_131 : decode cX6_areTwins 131 = .ok (.ireturn, 1) := by decide +kernel
set_option maxRecDepth 20000 in
theorem ggX6_isTrue_X6_orders : GoodIn wsX6_isTrue wsX6_orders := goodIn_r _ [7, 8, 9, 10, 11, 12, 13, 6, 14, 15, 16, 17, 18, 19, 20, 21, 22, 23, 24, 38, 39, 40, 41, 42, 43, 44, 45, 46, 47, 48, 49, 50, 51] (by decide +kernel) (by decide +kernel)
set_option maxRecDepth 20000 in
theorem gX6_isTrue_X6_orders : GoodIn wsX6_isTrue (wsV RX6 94 RX6 yX6_orders wsX6_orders) := goodIn_app (goodIn_of _ (by decide +kernel)) ggX6_isTrue_X6_orders
set_option maxRecDepth 20000 in
theorem ggX6_isTrue_X6_isSideBySide : GoodIn wsX6_isTrue wsX6_isSideBySide := goodIn_r _ [28, 8, 19, 9, 20, 29, 30, 31, 32, 6, 33, 2, 38, 39, 40, 41, 42, 43, 44, 45, 46, 47, 48, 49, 50, 51] (by decide +kernel) (by decide +kernel)
set_option maxRecDepth 20000 in
theorem gX6_isTrue_X6_isSideBySide : GoodIn wsX6_isTrue (wsV RX6 126 RX6 yX6_isSideBySide wsX6_isSideBySide) := goodIn_app (goodIn_of _ (by decide +kernel)) ggX6_isTrue_X6_isSideBySide
set_option maxRecDepth 20000 in
theorem ggX6_isTrue_X6_areTwins : GoodIn wsX6_isTrue wsX6_areTwins := goodIn_r _ [37, 8, 10, 21, 22, 23, 6, 24, 19, 20, 38, 39, 40, 41, 42, 43, 44, 45, 46, 47, 48, 49, 50, 51] (by decide +kernel) (by decide +kernel)
set_option maxRecDepth 20000 in
theorem gX6_isTrue_X6_areTwins : GoodIn wsX6_isTrue (wsV RX6 129 RX6 yX6_areTwins wsX6_areTwins) := goodIn_app (goodIn_of _ (by decide +kernel)) ggX6_isTrue_X6_areTwins
theorem dX6_isTrue_0 : decode cX6_isTrue 0 = .ok (.aload_n 0, 1) := by decide +kernel
theorem dX6_isTrue_1 : decode cX6_isTrue 1 = .ok (.iconst 0, 1) := by decide +kernel
theorem dX6_isTrue_2 : decode cX6_isTrue 2 = .ok (.putfield 1, 3) := by decide +kernel
theorem dX6_isTrue_5 : decode cX6_isTrue 5 = .ok (.aload_n 0, 1) := by decide +kernel
theorem dX6_isTrue_6 : decode cX6_isTrue 6 = .ok (.invokevirtual 94, 3) := by decide +kernel
theorem dX6_isTrue_9 : decode cX6_isTrue 9 = .ok (.iconst 0, 1) := by decide +kernel
theorem dX6_isTrue_10 : decode cX6_isTrue 10 = .ok (.istore_n 1, 1) := by decide +kernel
theorem dX6_isTrue_11 : decode cX6_isTrue 11 = .ok (.iload_n 1, 1) := by decide +kernel
theorem dX6_isTrue_12 : decode cX6_isTrue 12 = .ok (.aload_n 0, 1) := by decide +kernel
theorem dX6_isTrue_13 : decode cX6_isTrue 13 = .ok (.getfield 49, 3) := by decide +kernel
theorem dX6_isTrue_16 : decode cX6_isTrue 16 = .ok (.if_icmp .gt 25, 3) := by decide +kernel
theorem dX6_isTrue_19 : decode cX6_isTrue 19 = .ok (.iload_n 1, 1) := by decide +kernel
theorem dX6_isTrue_20 : decode cX6_isTrue 20 = .ok (.bipush 10, 2) := by decide +kernel
theorem dX6_isTrue_22 : decode cX6_isTrue 22 = .ok (.if_icmp .gt 19, 3) := by decide +kernel
theorem dX6_isTrue_25 : decode cX6_isTrue 25 = .ok (.aload_n 0, 1) := by decide +kernel
theorem dX6_isTrue_26 : decode cX6_isTrue 26 = .ok (.iload_n 1, 1) := by decide +kernel
theorem dX6_isTrue_27 : decode cX6_isTrue 27 = .ok (.invokevirtual 126, 3) := by decide +kernel
theorem dX6_isTrue_30 : decode cX6_isTrue 30 = .ok (.ifCond .ne 5, 3) := by decide +kernel
theorem dX6_isTrue_33 : decode cX6_isTrue 33 = .ok (.iconst 0, 1) := by decide +kernel
theorem dX6_isTrue_34 : decode cX6_isTrue 34 = .ok (.ireturn, 1) := by decide +kernel
theorem dX6_isTrue_35 : decode cX6_isTrue 35 = .ok (.iinc 1 1, 3) := by decide +kernel
theorem dX6_isTrue_38 : decode cX6_isTrue 38 = .ok (.goto (-27), 3) := by decide +kernel
theorem dX6_isTrue_41 : decode cX6_isTrue 41 = .ok (.aload_n 0, 1) := by decide +kernel
theorem dX6_isTrue_42 : decode cX6_isTrue 42 = .ok (.invokevirtual 129, 3) := by decide +kernel
theorem dX6_isTrue_45 : decode cX6_isTrue 45 = .ok (.ireturn, 1) := by decide +kernel
set_option maxRecDepth 20000 in
theorem ggX6_checksum_X6_orders : GoodIn wsX6_checksum wsX6_orders := goodIn_r _ [17, 6, 18, 7, 19, 20, 21, 16, 22, 23, 24, 25, 26, 8, 9, 27, 28, 29, 30, 31, 32, 33, 34, 35, 36, 37, 38, 39, 40, 41, 42, 43, 44] (by decide +kernel) (by decide +kernel)
set_option maxRecDepth 20000 in
theorem gX6_checksum_X6_orders : GoodIn wsX6_checksum (wsV RX6 94 RX6 yX6_orders wsX6_orders) := goodIn_app (goodIn_of _ (by decide +kernel)) ggX6_checksum_X6_orders
theorem dX6_checksum_0 : decode cX6_checksum 0 = .ok (.aload_n 0, 1) := by decide +kernel
theorem dX6_checksum_1 : decode cX6_checksum 1 = .ok (.iconst 0, 1) := by decide +kernel
theorem dX6_checksum_2 : decode cX6_checksum 2 = .ok (.putfield 1, 3) := by decide +kernel
theorem dX6_checksum_5 : decode cX6_checksum 5 = .ok (.ldc2_w 132, 3) := by decide +kernel
theorem dX6_checksum_8 : decode cX6_checksum 8 = .ok (.lstore_n 1, 1) := by decide +kernel
theorem dX6_checksum_9 : decode cX6_checksum 9 = .ok (.iconst 0, 1) := by decide +kernel
theorem dX6_checksum_10 : decode cX6_checksum 10 = .ok (.istore_n 3, 1) := by decide +kernel
theorem dX6_checksum_11 : decode cX6_checksum 11 = .ok (.iload_n 3, 1) := by decide +kernel
theorem dX6_checksum_12 : decode cX6_checksum 12 = .ok (.aload_n 0, 1) := by decide +kernel
theorem dX6_checksum_13 : decode cX6_checksum 13 = .ok (.getfield 49, 3) := by decide +kernel
theorem dX6_checksum_16 : decode cX6_checksum 16 = .ok (.if_icmp .ge 23, 3) := by decide +kernel
theorem dX6_checksum_19 : decode cX6_checksum 19 = .ok (.ldc2_w 134, 3) := by decide +kernel
theorem dX6_checksum_22 : decode cX6_checksum 22 = .ok (.lload_n 1, 1) := by decide +kernel
theorem dX6_checksum_23 : decode cX6_checksum 23 = .ok (.lmul, 1) := by decide +kernel
theorem dX6_checksum_24 : decode cX6_checksum 24 = .ok (.aload_n 0, 1) := by decide +kernel
theorem dX6_checksum_25 : decode cX6_checksum 25 = .ok (.getfield 13, 3) := by decide +kernel
theorem dX6_checksum_28 : decode cX6_checksum 28 = .ok (.iload_n 3, 1) := by decide +kernel
theorem dX6_checksum_29 : decode cX6_checksum 29 = .ok (.caload, 1) := by decide +kernel
theorem dX6_checksum_30 : decode cX6_checksum 30 = .ok (.i2l, 1) := by decide +kernel
theorem dX6_checksum_31 : decode cX6_checksum 31 = .ok (.ladd, 1) := by decide +kernel
theorem dX6_checksum_32 : decode cX6_checksum 32 = .ok (.lstore_n 1, 1) := by decide +kernel
theorem dX6_checksum_33 : decode cX6_checksum 33 = .ok (.iinc 3 1, 3) := by decide +kernel
theorem dX6_checksum_36 : decode cX6_checksum 36 = .ok (.goto (-25), 3) := by decide +kernel
theorem dX6_checksum_39 : decode cX6_checksum 39 = .ok (.aload_n 0, 1) := by decide +kernel
theorem dX6_checksum_40 : decode cX6_checksum 40 = .ok (.invokevirtual 94, 3) := by decide +kernel
theorem dX6_checksum_43 : decode cX6_checksum 43 = .ok (.iconst 0, 1) := by decide +kernel
theorem dX6_checksum_44 : decode cX6_checksum 44 = .ok (.istore_n 3, 1) := by decide +kernel
theorem dX6_checksum_45 : decode cX6_checksum 45 = .ok (.iload_n 3, 1) := by decide +kernel
theorem dX6_checksum_46 : decode cX6_checksum 46 = .ok (.aload_n 0, 1) := by decide +kernel
theorem dX6_checksum_47 : decode cX6_checksum 47 = .ok (.getfield 59, 3) := by decide +kernel
theorem dX6_checksum_50 : decode cX6_checksum 50 = .ok (.if_icmp .ge 74, 3) := by decide +kernel
theorem dX6_checksum_53 : decode cX6_checksum 53 = .ok (.aload_n 0, 1) := by decide +kernel
theorem dX6_checksum_54 : decode cX6_checksum 54 = .ok (.getfield 36, 3) := by decide +kernel
theorem dX6_checksum_57 : decode cX6_checksum 57 = .ok (.iload_n 3, 1) := by decide +kernel
theorem dX6_checksum_58 : decode cX6_checksum 58 = .ok (.iaload, 1) := by decide +kernel
theorem dX6_checksum_59 : decode cX6_checksum 59 = .ok (.istore 4, 2) := by decide +kernel
theorem dX6_checksum_61 : decode cX6_checksum 61 = .ok (.iconst 0, 1) := by decide +kernel
theorem dX6_checksum_62 : decode cX6_checksum 62 = .ok (.istore 5, 2) := by decide +kernel
theorem dX6_checksum_64 : decode cX6_checksum 64 = .ok (.iload 5, 2) := by decide +kernel
theorem dX6_checksum_66 : decode cX6_checksum 66 = .ok (.aload_n 0, 1) := by decide +kernel
theorem dX6_checksum_67 : decode cX6_checksum 67 = .ok (.getfield 26, 3) := by decide +kernel
theorem dX6_checksum_70 : decode cX6_checksum 70 = .ok (.iload 4, 2) := by decide +kernel
theorem dX6_checksum_72 : decode cX6_checksum 72 = .ok (.iaload, 1) := by decide +kernel
theorem dX6_checksum_73 : decode cX6_checksum 73 = .ok (.if_icmp .ge 30, 3) := by decide +kernel
theorem dX6_checksum_76 : decode cX6_checksum 76 = .ok (.ldc2_w 134, 3) := by decide +kernel
theorem dX6_checksum_79 : decode cX6_checksum 79 = .ok (.lload_n 1, 1) := by decide +kernel
theorem dX6_checksum_80 : decode cX6_checksum 80 = .ok (.lmul, 1) := by decide +kernel
theorem dX6_checksum_81 : decode cX6_checksum 81 = .ok (.aload_n 0, 1) := by decide +kernel
theorem dX6_checksum_82 : decode cX6_checksum 82 = .ok (.getfield 17, 3) := by decide +kernel
theorem dX6_checksum_85 : decode cX6_checksum 85 = .ok (.bipush 10, 2) := by decide +kernel
theorem dX6_checksum_87 : decode cX6_checksum 87 = .ok (.iload 4, 2) := by decide +kernel
theorem dX6_checksum_89 : decode cX6_checksum 89 = .ok (.imul, 1) := by decide +kernel
theorem dX6_checksum_90 : decode cX6_checksum 90 = .ok (.iload 5, 2) := by decide +kernel
theorem dX6_checksum_92 : decode cX6_checksum 92 = .ok (.iadd, 1) := by decide +kernel
theorem dX6_checksum_93 : decode cX6_checksum 93 = .ok (.caload, 1) := by decide +kernel
theorem dX6_checksum_94 : decode cX6_checksum 94 = .ok (.i2l, 1) := by decide +kernel
theorem dX6_checksum_95 : decode cX6_checksum 95 = .ok (.ladd, 1) := by decide +kernel
theorem dX6_checksum_96 : decode cX6_checksum 96 = .ok (.lstore_n 1, 1) := by decide +kernel
theorem dX6_checksum_97 : decode cX6_checksum 97 = .ok (.iinc 5 1, 3) := by decide +kernel
theorem dX6_checksum_100 : decode cX6_checksum 100 = .ok (.goto (-36), 3) := by decide +kernel
theorem dX6_checksum_103 : decode cX6_checksum 103 = .ok (.ldc2_w 134, 3) := by decide +kernel
theorem dX6_checksum_106 : decode cX6_checksum 106 = .ok (.lload_n 1, 1) := by decide +kernel
theorem dX6_checksum_107 : decode cX6_checksum 107 = .ok (.lmul, 1) := by decide +kernel
theorem dX6_checksum_108 : decode cX6_checksum 108 = .ok (.aload_n 0, 1) := by decide +kernel
theorem dX6_checksum_109 : decode cX6_checksum 109 = .ok (.getfield 30, 3) := by decide +kernel
theorem dX6_checksum_112 : decode cX6_checksum 112 = .ok (.iload 4, 2) := by decide +kernel
theorem dX6_checksum_114 : decode cX6_checksum 114 = .ok (.iaload, 1) := by decide +kernel
theorem dX6_checksum_115 : decode cX6_checksum 115 = .ok (.i2l, 1) := by decide +kernel
theorem dX6_checksum_116 : decode cX6_checksum 116 = .ok (.ladd, 1) := by decide +kernel
theorem dX6_checksum_117 : decode cX6_checksum 117 = .ok (.lstore_n 1, 1) := by decide +kernel
theorem dX6_checksum_118 : decode cX6_checksum 118 = .ok (.iinc 3 1, 3) := by decide +kernel
theorem dX6_checksum_121 : decode cX6_checksum 121 = .ok (.goto (-76), 3) := by decide +kernel
theorem dX6_checksum_124 : decode cX6_checksum 124 = .ok (.iconst 0, 1) := by decide +kernel
theorem dX6_checksum_125 : decode cX6_checksum 125 = .ok (.istore_n 3, 1) := by decide +kernel
theorem dX6_checksum_126 : decode cX6_checksum 126 = .ok (.iload_n 3, 1) := by decide +kernel
theorem dX6_checksum_127 : decode cX6_checksum 127 = .ok (.bipush 6, 2) := by decide +kernel
theorem dX6_checksum_129 : decode cX6_checksum 129 = .ok (.if_icmp .ge 62, 3) := by decide +kernel
theorem dX6_checksum_132 : decode cX6_checksum 132 = .ok (.ldc2_w 134, 3) := by decide +kernel
theorem dX6_checksum_135 : decode cX6_checksum 135 = .ok (.lload_n 1, 1) := by decide +kernel
theorem dX6_checksum_136 : decode cX6_checksum 136 = .ok (.lmul, 1) := by decide +kernel
theorem dX6_checksum_137 : decode cX6_checksum 137 = .ok (.aload_n 0, 1) := by decide +kernel
theorem dX6_checksum_138 : decode cX6_checksum 138 = .ok (.getfield 33, 3) := by decide +kernel
theorem dX6_checksum_141 : decode cX6_checksum 141 = .ok (.iload_n 3, 1) := by decide +kernel
theorem dX6_checksum_142 : decode cX6_checksum 142 = .ok (.iaload, 1) := by decide +kernel
theorem dX6_checksum_143 : decode cX6_checksum 143 = .ok (.i2l, 1) := by decide +kernel
theorem dX6_checksum_144 : decode cX6_checksum 144 = .ok (.ladd, 1) := by decide +kernel
theorem dX6_checksum_145 : decode cX6_checksum 145 = .ok (.lstore_n 1, 1) := by decide +kernel
theorem dX6_checksum_146 : decode cX6_checksum 146 = .ok (.iconst 0, 1) := by decide +kernel
theorem dX6_checksum_147 : decode cX6_checksum 147 = .ok (.istore 4, 2) := by decide +kernel
theorem dX6_checksum_149 : decode cX6_checksum 149 = .ok (.iload 4, 2) := by decide +kernel
theorem dX6_checksum_151 : decode cX6_checksum 151 = .ok (.aload_n 0, 1) := by decide +kernel
theorem dX6_checksum_152 : decode cX6_checksum 152 = .ok (.getfield 33, 3) := by decide +kernel
theorem dX6_checksum_155 : decode cX6_checksum 155 = .ok (.iload_n 3, 1) := by decide +kernel
theorem dX6_checksum_156 : decode cX6_checksum 156 = .ok (.iaload, 1) := by decide +kernel
theorem dX6_checksum_157 : decode cX6_checksum 157 = .ok (.if_icmp .ge 28, 3) := by decide +kernel
theorem dX6_checksum_160 : decode cX6_checksum 160 = .ok (.ldc2_w 134, 3) := by decide +kernel
theorem dX6_checksum_163 : decode cX6_checksum 163 = .ok (.lload_n 1, 1) := by decide +kernel
theorem dX6_checksum_164 : decode cX6_checksum 164 = .ok (.lmul, 1) := by decide +kernel
theorem dX6_checksum_165 : decode cX6_checksum 165 = .ok (.aload_n 0, 1) := by decide +kernel
theorem dX6_checksum_166 : decode cX6_checksum 166 = .ok (.getfield 20, 3) := by decide +kernel
theorem dX6_checksum_169 : decode cX6_checksum 169 = .ok (.iconst 3, 1) := by decide +kernel
theorem dX6_checksum_170 : decode cX6_checksum 170 = .ok (.iload_n 3, 1) := by decide +kernel
theorem dX6_checksum_171 : decode cX6_checksum 171 = .ok (.imul, 1) := by decide +kernel
theorem dX6_checksum_172 : decode cX6_checksum 172 = .ok (.iload 4, 2) := by decide +kernel
theorem dX6_checksum_174 : decode cX6_checksum 174 = .ok (.iadd, 1) := by decide +kernel
theorem dX6_checksum_175 : decode cX6_checksum 175 = .ok (.caload, 1) := by decide +kernel
theorem dX6_checksum_176 : decode cX6_checksum 176 = .ok (.i2l, 1) := by decide +kernel
theorem dX6_checksum_177 : decode cX6_checksum 177 = .ok (.ladd, 1) := by decide +kernel
theorem dX6_checksum_178 : decode cX6_checksum 178 = .ok (.lstore_n 1, 1) := by decide +kernel
theorem dX6_checksum_179 : decode cX6_checksum 179 = .ok (.iinc 4 1, 3) := by decide +kernel
theorem dX6_checksum_182 : decode cX6_checksum 182 = .ok (.goto (-33), 3) := by decide +kernel
theorem dX6_checksum_185 : decode cX6_checksum 185 = .ok (.iinc 3 1, 3) := by decide +kernel
theorem dX6_checksum_188 : decode cX6_checksum 188 = .ok (.goto (-62), 3) := by decide +kernel
theorem dX6_checksum_191 : decode cX6_checksum 191 = .ok (.lload_n 1, 1) := by decide +kernel
theorem dX6_checksum_192 : decode cX6_checksum 192 = .ok (.lreturn, 1) := by decide +kernel
