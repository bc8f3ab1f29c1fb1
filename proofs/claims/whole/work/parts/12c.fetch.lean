/-! decode rows -/
theorem zf78_60 : fetch 78 60 = some (.goto 12, 3) := by decide +kernel
theorem zf91_0 : fetch 91 0 = some (.aload_n 0, 1) := by decide +kernel
theorem zf91_1 : fetch 91 1 = some (.getfield 19, 3) := by decide +kernel
theorem zf91_4 : fetch 91 4 = some (.iload_n 2, 1) := by decide +kernel
theorem zf91_5 : fetch 91 5 = some (.invokevirtual 168, 3) := by decide +kernel
theorem zf91_8 : fetch 91 8 = some (.ifCond .eq 30, 3) := by decide +kernel
theorem zf91_38 : fetch 91 38 = some (.iconst 0, 1) := by decide +kernel
theorem zf91_39 : fetch 91 39 = some (.ireturn, 1) := by decide +kernel
theorem zf91_11 : fetch 91 11 = some (.iload_n 3, 1) := by decide +kernel
theorem zf91_12 : fetch 91 12 = some (.invokestatic 276, 3) := by decide +kernel
theorem zf91_15 : fetch 91 15 = some (.ifCond .eq 23, 3) := by decide +kernel
theorem zf91_18 : fetch 91 18 = some (.aload_n 1, 1) := by decide +kernel
theorem zf91_19 : fetch 91 19 = some (.getfield 162, 3) := by decide +kernel
theorem zf91_22 : fetch 91 22 = some (.bipush 29, 2) := by decide +kernel
theorem zf91_24 : fetch 91 24 = some (.iload_n 2, 1) := by decide +kernel
theorem zf91_25 : fetch 91 25 = some (.iadd, 1) := by decide +kernel
theorem zf91_26 : fetch 91 26 = some (.iaload, 1) := by decide +kernel
theorem zf91_27 : fetch 91 27 = some (.iload_n 3, 1) := by decide +kernel
theorem zf91_28 : fetch 91 28 = some (.ishr, 1) := by decide +kernel
theorem zf91_29 : fetch 91 29 = some (.iconst 1, 1) := by decide +kernel
theorem zf91_30 : fetch 91 30 = some (.iand, 1) := by decide +kernel
theorem zf91_31 : fetch 91 31 = some (.ifCond .ne 7, 3) := by decide +kernel
theorem zf91_34 : fetch 91 34 = some (.iconst 1, 1) := by decide +kernel
theorem zf91_35 : fetch 91 35 = some (.goto 4, 3) := by decide +kernel
theorem zf96_0 : fetch 96 0 = some (.aload_n 0, 1) := by decide +kernel
theorem zf96_1 : fetch 96 1 = some (.getfield 15, 3) := by decide +kernel
theorem zf96_4 : fetch 96 4 = some (.iconst 1, 1) := by decide +kernel
theorem zf96_5 : fetch 96 5 = some (.iaload, 1) := by decide +kernel
theorem zf96_6 : fetch 96 6 = some (.iload_n 1, 1) := by decide +kernel
theorem zf96_7 : fetch 96 7 = some (.if_icmp .ne 17, 3) := by decide +kernel
theorem zf96_24 : fetch 96 24 = some (.iconst 0, 1) := by decide +kernel
theorem zf96_25 : fetch 96 25 = some (.ireturn, 1) := by decide +kernel
theorem zf96_10 : fetch 96 10 = some (.aload_n 0, 1) := by decide +kernel
theorem zf96_11 : fetch 96 11 = some (.getfield 15, 3) := by decide +kernel
theorem zf96_14 : fetch 96 14 = some (.iconst 2, 1) := by decide +kernel
theorem zf96_15 : fetch 96 15 = some (.iaload, 1) := by decide +kernel
theorem zf96_16 : fetch 96 16 = some (.iload_n 2, 1) := by decide +kernel
theorem zf96_17 : fetch 96 17 = some (.if_icmp .ne 7, 3) := by decide +kernel
theorem zf96_20 : fetch 96 20 = some (.iconst 1, 1) := by decide +kernel
theorem zf96_21 : fetch 96 21 = some (.goto 4, 3) := by decide +kernel
theorem zf99_0 : fetch 99 0 = some (.aload_n 0, 1) := by decide +kernel
theorem zf99_1 : fetch 99 1 = some (.getfield 19, 3) := by decide +kernel
theorem zf99_4 : fetch 99 4 = some (.invokevirtual 159, 3) := by decide +kernel
theorem zf99_7 : fetch 99 7 = some (.ifCond .eq 35, 3) := by decide +kernel
theorem zf99_42 : fetch 99 42 = some (.iconst 0, 1) := by decide +kernel
theorem zf99_43 : fetch 99 43 = some (.ireturn, 1) := by decide +kernel
theorem zf99_10 : fetch 99 10 = some (.iload_n 1, 1) := by decide +kernel
theorem zf99_11 : fetch 99 11 = some (.iconst 1, 1) := by decide +kernel
theorem zf99_12 : fetch 99 12 = some (.if_icmp .lt 30, 3) := by decide +kernel
theorem zf99_15 : fetch 99 15 = some (.iload_n 1, 1) := by decide +kernel
theorem zf99_16 : fetch 99 16 = some (.bipush 60, 2) := by decide +kernel
theorem zf99_18 : fetch 99 18 = some (.if_icmp .gt 24, 3) := by decide +kernel
theorem zf99_21 : fetch 99 21 = some (.aload_n 0, 1) := by decide +kernel
theorem zf99_22 : fetch 99 22 = some (.getfield 88, 3) := by decide +kernel
theorem zf99_25 : fetch 99 25 = some (.getfield 162, 3) := by decide +kernel
theorem zf99_28 : fetch 99 28 = some (.iconst 4, 1) := by decide +kernel
theorem zf99_29 : fetch 99 29 = some (.iaload, 1) := by decide +kernel
theorem zf99_30 : fetch 99 30 = some (.iload_n 1, 1) := by decide +kernel
theorem zf99_31 : fetch 99 31 = some (.iadd, 1) := by decide +kernel
theorem zf99_32 : fetch 99 32 = some (.sipush 9999, 3) := by decide +kernel
theorem zf99_35 : fetch 99 35 = some (.if_icmp .gt 7, 3) := by decide +kernel
theorem zf99_38 : fetch 99 38 = some (.iconst 1, 1) := by decide +kernel
theorem zf99_39 : fetch 99 39 = some (.goto 4, 3) := by decide +kernel
theorem zf98_12 : fetch 98 12 = some (.iload_n 2, 1) := by decide +kernel
theorem zf98_13 : fetch 98 13 = some (.iload_n 1, 1) := by decide +kernel
theorem zf98_14 : fetch 98 14 = some (.if_icmp .ge 34, 3) := by decide +kernel
theorem zf98_48 : fetch 98 48 = some (.aload_n 0, 1) := by decide +kernel
theorem zf98_49 : fetch 98 49 = some (.getfield 88, 3) := by decide +kernel
theorem zf98_52 : fetch 98 52 = some (.getfield 162, 3) := by decide +kernel
theorem zf98_55 : fetch 98 55 = some (.iconst 4, 1) := by decide +kernel
theorem zf98_56 : fetch 98 56 = some (.iaload, 1) := by decide +kernel
theorem zf98_57 : fetch 98 57 = some (.ireturn, 1) := by decide +kernel
theorem zf98_17 : fetch 98 17 = some (.aload_n 0, 1) := by decide +kernel
theorem zf98_18 : fetch 98 18 = some (.getfield 81, 3) := by decide +kernel
theorem zf98_21 : fetch 98 21 = some (.aload_n 0, 1) := by decide +kernel
theorem zf98_22 : fetch 98 22 = some (.getfield 88, 3) := by decide +kernel
theorem zf98_25 : fetch 98 25 = some (.invokevirtual 235, 3) := by decide +kernel
theorem zf98_28 : fetch 98 28 = some (.aload_n 0, 1) := by decide +kernel
theorem zf98_29 : fetch 98 29 = some (.getfield 88, 3) := by decide +kernel
theorem zf98_32 : fetch 98 32 = some (.aload_n 0, 1) := by decide +kernel
theorem zf98_33 : fetch 98 33 = some (.getfield 19, 3) := by decide +kernel
theorem zf98_36 : fetch 98 36 = some (.getfield 119, 3) := by decide +kernel
theorem zf98_39 : fetch 98 39 = some (.invokevirtual 252, 3) := by decide +kernel
theorem zf98_42 : fetch 98 42 = some (.iinc 2 1, 3) := by decide +kernel
theorem zf98_45 : fetch 98 45 = some (.goto (-33), 3) := by decide +kernel
theorem zf101_16 : fetch 101 16 = some (.iload 6, 2) := by decide +kernel
theorem zf101_18 : fetch 101 18 = some (.iload_n 1, 1) := by decide +kernel
theorem zf101_19 : fetch 101 19 = some (.if_icmp .ge 42, 3) := by decide +kernel
theorem zf101_61 : fetch 101 61 = some (.aload_n 0, 1) := by decide +kernel
theorem zf101_62 : fetch 101 62 = some (.getfield 88, 3) := by decide +kernel
theorem zf101_65 : fetch 101 65 = some (.getfield 162, 3) := by decide +kernel
theorem zf101_68 : fetch 101 68 = some (.iconst 4, 1) := by decide +kernel
theorem zf101_69 : fetch 101 69 = some (.iaload, 1) := by decide +kernel
theorem zf101_70 : fetch 101 70 = some (.ireturn, 1) := by decide +kernel
theorem zf101_22 : fetch 101 22 = some (.aload_n 0, 1) := by decide +kernel
theorem zf101_23 : fetch 101 23 = some (.getfield 81, 3) := by decide +kernel
theorem zf101_26 : fetch 101 26 = some (.aload_n 0, 1) := by decide +kernel
theorem zf101_27 : fetch 101 27 = some (.getfield 88, 3) := by decide +kernel
theorem zf101_30 : fetch 101 30 = some (.invokevirtual 235, 3) := by decide +kernel
theorem zf101_33 : fetch 101 33 = some (.aload_n 0, 1) := by decide +kernel
theorem zf101_34 : fetch 101 34 = some (.lload 4, 2) := by decide +kernel
theorem zf101_36 : fetch 101 36 = some (.invokevirtual 255, 3) := by decide +kernel
theorem zf101_39 : fetch 101 39 = some (.lstore 4, 2) := by decide +kernel
theorem zf101_41 : fetch 101 41 = some (.aload_n 0, 1) := by decide +kernel
theorem zf101_42 : fetch 101 42 = some (.getfield 88, 3) := by decide +kernel
theorem zf101_45 : fetch 101 45 = some (.aload_n 0, 1) := by decide +kernel
theorem zf101_46 : fetch 101 46 = some (.getfield 19, 3) := by decide +kernel
theorem zf101_49 : fetch 101 49 = some (.getfield 119, 3) := by decide +kernel
theorem zf101_52 : fetch 101 52 = some (.invokevirtual 252, 3) := by decide +kernel
theorem zf101_55 : fetch 101 55 = some (.iinc 6 1, 3) := by decide +kernel
theorem zf101_58 : fetch 101 58 = some (.goto (-42), 3) := by decide +kernel
theorem zf107_0 : fetch 107 0 = some (.aload_n 0, 1) := by decide +kernel
theorem zf107_1 : fetch 107 1 = some (.getfield 30, 3) := by decide +kernel
theorem zf107_4 : fetch 107 4 = some (.ifCond .ne 5, 3) := by decide +kernel
theorem zf107_9 : fetch 107 9 = some (.aload_n 0, 1) := by decide +kernel
theorem zf107_10 : fetch 107 10 = some (.dup, 1) := by decide +kernel
theorem zf107_11 : fetch 107 11 = some (.getfield 30, 3) := by decide +kernel
theorem zf107_14 : fetch 107 14 = some (.iconst 1, 1) := by decide +kernel
theorem zf107_15 : fetch 107 15 = some (.isub, 1) := by decide +kernel
theorem zf107_16 : fetch 107 16 = some (.putfield 30, 3) := by decide +kernel
theorem zf107_19 : fetch 107 19 = some (.aload_n 0, 1) := by decide +kernel
theorem zf107_20 : fetch 107 20 = some (.aload_n 0, 1) := by decide +kernel
theorem zf107_21 : fetch 107 21 = some (.getfield 20, 3) := by decide +kernel
theorem zf107_24 : fetch 107 24 = some (.bipush 40, 2) := by decide +kernel
theorem zf107_26 : fetch 107 26 = some (.iadd, 1) := by decide +kernel
theorem zf107_27 : fetch 107 27 = some (.iconst 1, 1) := by decide +kernel
theorem zf107_28 : fetch 107 28 = some (.isub, 1) := by decide +kernel
theorem zf107_29 : fetch 107 29 = some (.bipush 40, 2) := by decide +kernel
theorem zf107_31 : fetch 107 31 = some (.irem, 1) := by decide +kernel
theorem zf107_32 : fetch 107 32 = some (.putfield 20, 3) := by decide +kernel
theorem zf107_35 : fetch 107 35 = some (.aload_n 0, 1) := by decide +kernel
theorem zf107_36 : fetch 107 36 = some (.getfield 13, 3) := by decide +kernel
theorem zf107_39 : fetch 107 39 = some (.aload_n 0, 1) := by decide +kernel
theorem zf107_40 : fetch 107 40 = some (.getfield 20, 3) := by decide +kernel
theorem zf107_43 : fetch 107 43 = some (.aaload, 1) := by decide +kernel
theorem zf107_44 : fetch 107 44 = some (.iconst 0, 1) := by decide +kernel
theorem zf107_45 : fetch 107 45 = some (.aload_n 1, 1) := by decide +kernel
theorem zf107_46 : fetch 107 46 = some (.getfield 16, 3) := by decide +kernel
theorem zf107_49 : fetch 107 49 = some (.iconst 0, 1) := by decide +kernel
theorem zf107_50 : fetch 107 50 = some (.bipush 37, 2) := by decide +kernel
theorem zf107_52 : fetch 107 52 = some (.invokestatic 24, 3) := by decide +kernel
theorem zf107_55 : fetch 107 55 = some (.iconst 1, 1) := by decide +kernel
theorem zf107_56 : fetch 107 56 = some (.ireturn, 1) := by decide +kernel
theorem zf107_7 : fetch 107 7 = some (.iconst 0, 1) := by decide +kernel
theorem zf107_8 : fetch 107 8 = some (.ireturn, 1) := by decide +kernel
theorem zf109_0 : fetch 109 0 = some (.aload_n 0, 1) := by decide +kernel
theorem zf109_1 : fetch 109 1 = some (.getfield 19, 3) := by decide +kernel
theorem zf109_4 : fetch 109 4 = some (.aload_n 0, 1) := by decide +kernel
theorem zf109_5 : fetch 109 5 = some (.getfield 15, 3) := by decide +kernel
theorem zf109_8 : fetch 109 8 = some (.iconst 5, 1) := by decide +kernel
theorem zf109_9 : fetch 109 9 = some (.iaload, 1) := by decide +kernel
theorem zf109_10 : fetch 109 10 = some (.iconst 1, 1) := by decide +kernel
theorem zf109_11 : fetch 109 11 = some (.isub, 1) := by decide +kernel
theorem zf109_12 : fetch 109 12 = some (.iload_n 1, 1) := by decide +kernel
theorem zf109_13 : fetch 109 13 = some (.isub, 1) := by decide +kernel
theorem zf109_14 : fetch 109 14 = some (.bipush 100, 2) := by decide +kernel
theorem zf109_16 : fetch 109 16 = some (.irem, 1) := by decide +kernel
theorem zf109_17 : fetch 109 17 = some (.iconst 4, 1) := by decide +kernel
theorem zf109_18 : fetch 109 18 = some (.imul, 1) := by decide +kernel
theorem zf109_19 : fetch 109 19 = some (.iload_n 2, 1) := by decide +kernel
theorem zf109_20 : fetch 109 20 = some (.iadd, 1) := by decide +kernel
theorem zf109_21 : fetch 109 21 = some (.iaload, 1) := by decide +kernel
theorem zf109_22 : fetch 109 22 = some (.ireturn, 1) := by decide +kernel
theorem zf111_0 : fetch 111 0 = some (.aload_n 1, 1) := by decide +kernel
theorem zf111_1 : fetch 111 1 = some (.getfield 15, 3) := by decide +kernel
theorem zf111_4 : fetch 111 4 = some (.iconst 0, 1) := by decide +kernel
theorem zf111_5 : fetch 111 5 = some (.aload_n 0, 1) := by decide +kernel
theorem zf111_6 : fetch 111 6 = some (.getfield 15, 3) := by decide +kernel
theorem zf111_9 : fetch 111 9 = some (.iconst 0, 1) := by decide +kernel
theorem zf111_10 : fetch 111 10 = some (.bipush 37, 2) := by decide +kernel
theorem zf111_12 : fetch 111 12 = some (.invokestatic 52, 3) := by decide +kernel
theorem zf111_15 : fetch 111 15 = some (.aload_n 1, 1) := by decide +kernel
theorem zf111_16 : fetch 111 16 = some (.getfield 19, 3) := by decide +kernel
theorem zf111_19 : fetch 111 19 = some (.iconst 0, 1) := by decide +kernel
theorem zf111_20 : fetch 111 20 = some (.aload_n 0, 1) := by decide +kernel
theorem zf111_21 : fetch 111 21 = some (.getfield 19, 3) := by decide +kernel
theorem zf111_24 : fetch 111 24 = some (.iconst 0, 1) := by decide +kernel
theorem zf111_25 : fetch 111 25 = some (.aload_n 0, 1) := by decide +kernel
theorem zf111_26 : fetch 111 26 = some (.getfield 19, 3) := by decide +kernel
theorem zf111_29 : fetch 111 29 = some (.arraylength, 1) := by decide +kernel
theorem zf111_30 : fetch 111 30 = some (.invokestatic 52, 3) := by decide +kernel
theorem zf111_33 : fetch 111 33 = some (.return_, 1) := by decide +kernel
theorem zf53_0 : fetch 53 0 = some (.aload_n 0, 1) := by decide +kernel
theorem zf53_1 : fetch 53 1 = some (.iconst 0, 1) := by decide +kernel
theorem zf53_2 : fetch 53 2 = some (.putfield 30, 3) := by decide +kernel
theorem zf53_5 : fetch 53 5 = some (.return_, 1) := by decide +kernel
theorem zf114_0 : fetch 114 0 = some (.iload_n 1, 1) := by decide +kernel
theorem zf114_1 : fetch 114 1 = some (.ifCond .lt 15, 3) := by decide +kernel
theorem zf114_16 : fetch 114 16 = some (.iconst 0, 1) := by decide +kernel
theorem zf114_17 : fetch 114 17 = some (.ireturn, 1) := by decide +kernel
theorem zf114_4 : fetch 114 4 = some (.iload_n 1, 1) := by decide +kernel
theorem zf114_5 : fetch 114 5 = some (.aload_n 0, 1) := by decide +kernel
theorem zf114_6 : fetch 114 6 = some (.getfield 27, 3) := by decide +kernel
theorem zf114_9 : fetch 114 9 = some (.if_icmp .ge 7, 3) := by decide +kernel
theorem zf114_12 : fetch 114 12 = some (.iconst 1, 1) := by decide +kernel
theorem zf114_13 : fetch 114 13 = some (.goto 4, 3) := by decide +kernel
theorem zf115_0 : fetch 115 0 = some (.aload_n 0, 1) := by decide +kernel
theorem zf115_1 : fetch 115 1 = some (.getfield 17, 3) := by decide +kernel
theorem zf115_4 : fetch 115 4 = some (.iload_n 1, 1) := by decide +kernel
theorem zf115_5 : fetch 115 5 = some (.aaload, 1) := by decide +kernel
theorem zf115_6 : fetch 115 6 = some (.iload_n 2, 1) := by decide +kernel
theorem zf115_7 : fetch 115 7 = some (.iconst 4, 1) := by decide +kernel
theorem zf115_8 : fetch 115 8 = some (.imul, 1) := by decide +kernel
theorem zf115_9 : fetch 115 9 = some (.iload_n 3, 1) := by decide +kernel
theorem zf115_10 : fetch 115 10 = some (.iadd, 1) := by decide +kernel
theorem zf115_11 : fetch 115 11 = some (.iaload, 1) := by decide +kernel
theorem zf115_12 : fetch 115 12 = some (.ireturn, 1) := by decide +kernel
theorem zf117_0 : fetch 117 0 = some (.iconst 0, 1) := by decide +kernel
theorem zf117_1 : fetch 117 1 = some (.istore 4, 2) := by decide +kernel
theorem zf122_0 : fetch 122 0 = some (.aload_n 0, 1) := by decide +kernel
theorem zf122_1 : fetch 122 1 = some (.getfield 19, 3) := by decide +kernel
theorem zf122_4 : fetch 122 4 = some (.iload_n 1, 1) := by decide +kernel
theorem zf122_5 : fetch 122 5 = some (.invokevirtual 178, 3) := by decide +kernel
theorem zf122_8 : fetch 122 8 = some (.ifCond .eq 33, 3) := by decide +kernel
theorem zf122_41 : fetch 122 41 = some (.iconst 0, 1) := by decide +kernel
theorem zf122_42 : fetch 122 42 = some (.ireturn, 1) := by decide +kernel
theorem zf122_11 : fetch 122 11 = some (.aload_n 0, 1) := by decide +kernel
theorem zf122_12 : fetch 122 12 = some (.getfield 19, 3) := by decide +kernel
theorem zf122_15 : fetch 122 15 = some (.iload_n 2, 1) := by decide +kernel
theorem zf122_16 : fetch 122 16 = some (.invokevirtual 168, 3) := by decide +kernel
theorem zf122_19 : fetch 122 19 = some (.ifCond .eq 22, 3) := by decide +kernel
theorem zf122_22 : fetch 122 22 = some (.iload_n 3, 1) := by decide +kernel
theorem zf122_23 : fetch 122 23 = some (.invokestatic 268, 3) := by decide +kernel
theorem zf122_26 : fetch 122 26 = some (.ifCond .eq 15, 3) := by decide +kernel
theorem zf122_29 : fetch 122 29 = some (.iload 4, 2) := by decide +kernel
theorem zf122_31 : fetch 122 31 = some (.invokestatic 228, 3) := by decide +kernel
theorem zf122_34 : fetch 122 34 = some (.ifCond .eq 7, 3) := by decide +kernel
theorem zf122_37 : fetch 122 37 = some (.iconst 1, 1) := by decide +kernel
theorem zf122_38 : fetch 122 38 = some (.goto 4, 3) := by decide +kernel
theorem zf79_0 : fetch 79 0 = some (.aload_n 1, 1) := by decide +kernel
theorem zf79_1 : fetch 79 1 = some (.getfield 66, 3) := by decide +kernel
theorem zf79_4 : fetch 79 4 = some (.iconst 1, 1) := by decide +kernel
theorem zf79_5 : fetch 79 5 = some (.iaload, 1) := by decide +kernel
theorem zf79_6 : fetch 79 6 = some (.aload_n 1, 1) := by decide +kernel
theorem zf79_7 : fetch 79 7 = some (.getfield 66, 3) := by decide +kernel
theorem zf79_10 : fetch 79 10 = some (.iconst 2, 1) := by decide +kernel
theorem zf79_11 : fetch 79 11 = some (.iaload, 1) := by decide +kernel
theorem zf79_12 : fetch 79 12 = some (.iload 5, 2) := by decide +kernel
theorem zf79_14 : fetch 79 14 = some (.invokestatic 71, 3) := by decide +kernel
theorem zf79_17 : fetch 79 17 = some (.istore 6, 2) := by decide +kernel
theorem zf79_19 : fetch 79 19 = some (.aload_n 0, 1) := by decide +kernel
theorem zf79_20 : fetch 79 20 = some (.iload_n 2, 1) := by decide +kernel
theorem zf79_21 : fetch 79 21 = some (.iload_n 3, 1) := by decide +kernel
theorem zf79_22 : fetch 79 22 = some (.iload 4, 2) := by decide +kernel
theorem zf79_24 : fetch 79 24 = some (.iload 6, 2) := by decide +kernel
theorem zf79_26 : fetch 79 26 = some (.aload_n 1, 1) := by decide +kernel
theorem zf79_27 : fetch 79 27 = some (.getfield 66, 3) := by decide +kernel
theorem zf79_30 : fetch 79 30 = some (.iconst 3, 1) := by decide +kernel
theorem zf79_31 : fetch 79 31 = some (.iaload, 1) := by decide +kernel
theorem zf79_32 : fetch 79 32 = some (.invokevirtual 75, 3) := by decide +kernel
theorem zf79_35 : fetch 79 35 = some (.istore 7, 2) := by decide +kernel
theorem zf79_37 : fetch 79 37 = some (.aload_n 0, 1) := by decide +kernel
theorem zf79_38 : fetch 79 38 = some (.getfield 20, 3) := by decide +kernel
theorem zf79_41 : fetch 79 41 = some (.iload_n 3, 1) := by decide +kernel
theorem zf79_42 : fetch 79 42 = some (.invokevirtual 79, 3) := by decide +kernel
theorem zf79_45 : fetch 79 45 = some (.iload 7, 2) := by decide +kernel
theorem zf79_47 : fetch 79 47 = some (.iload 5, 2) := by decide +kernel
theorem zf79_49 : fetch 79 49 = some (.invokestatic 82, 3) := by decide +kernel
theorem zf79_52 : fetch 79 52 = some (.ireturn, 1) := by decide +kernel
theorem zf87_0 : fetch 87 0 = some (.iconst (-1), 1) := by decide +kernel
theorem zf87_1 : fetch 87 1 = some (.istore_n 2, 1) := by decide +kernel
theorem zf87_2 : fetch 87 2 = some (.aload_n 0, 1) := by decide +kernel
theorem zf87_3 : fetch 87 3 = some (.getfield 27, 3) := by decide +kernel
theorem zf87_6 : fetch 87 6 = some (.iconst 1, 1) := by decide +kernel
theorem zf87_7 : fetch 87 7 = some (.isub, 1) := by decide +kernel
theorem zf87_8 : fetch 87 8 = some (.istore_n 3, 1) := by decide +kernel
theorem zf124_0 : fetch 124 0 = some (.aload_n 0, 1) := by decide +kernel
theorem zf124_1 : fetch 124 1 = some (.getfield 19, 3) := by decide +kernel
theorem zf124_4 : fetch 124 4 = some (.iload_n 1, 1) := by decide +kernel
theorem zf124_5 : fetch 124 5 = some (.invokevirtual 178, 3) := by decide +kernel
theorem zf124_8 : fetch 124 8 = some (.ifCond .eq 29, 3) := by decide +kernel
theorem zf124_37 : fetch 124 37 = some (.iconst 0, 1) := by decide +kernel
theorem zf124_38 : fetch 124 38 = some (.ireturn, 1) := by decide +kernel
theorem zf124_11 : fetch 124 11 = some (.aload_n 0, 1) := by decide +kernel
theorem zf124_12 : fetch 124 12 = some (.getfield 19, 3) := by decide +kernel
theorem zf124_15 : fetch 124 15 = some (.iload_n 2, 1) := by decide +kernel
theorem zf124_16 : fetch 124 16 = some (.invokevirtual 168, 3) := by decide +kernel
theorem zf124_19 : fetch 124 19 = some (.ifCond .eq 18, 3) := by decide +kernel
theorem zf124_22 : fetch 124 22 = some (.aload_n 0, 1) := by decide +kernel
theorem zf124_23 : fetch 124 23 = some (.getfield 19, 3) := by decide +kernel
theorem zf124_26 : fetch 124 26 = some (.iload_n 3, 1) := by decide +kernel
theorem zf124_27 : fetch 124 27 = some (.invokevirtual 168, 3) := by decide +kernel
theorem zf124_30 : fetch 124 30 = some (.ifCond .eq 7, 3) := by decide +kernel
theorem zf124_33 : fetch 124 33 = some (.iconst 1, 1) := by decide +kernel
theorem zf124_34 : fetch 124 34 = some (.goto 4, 3) := by decide +kernel
theorem zf125_0 : fetch 125 0 = some (.iload_n 2, 1) := by decide +kernel
theorem zf125_1 : fetch 125 1 = some (.bipush 8, 2) := by decide +kernel
theorem zf125_3 : fetch 125 3 = some (.imul, 1) := by decide +kernel
theorem zf125_4 : fetch 125 4 = some (.iload_n 3, 1) := by decide +kernel
theorem zf125_5 : fetch 125 5 = some (.iadd, 1) := by decide +kernel
theorem zf125_6 : fetch 125 6 = some (.istore 5, 2) := by decide +kernel
theorem zf125_8 : fetch 125 8 = some (.aload_n 0, 1) := by decide +kernel
theorem zf125_9 : fetch 125 9 = some (.getfield 24, 3) := by decide +kernel
theorem zf125_12 : fetch 125 12 = some (.getfield 41, 3) := by decide +kernel
theorem zf125_15 : fetch 125 15 = some (.iconst 1, 1) := by decide +kernel
theorem zf125_16 : fetch 125 16 = some (.iadd, 1) := by decide +kernel
theorem zf125_17 : fetch 125 17 = some (.sipush 1000, 3) := by decide +kernel
theorem zf125_20 : fetch 125 20 = some (.imul, 1) := by decide +kernel
theorem zf125_21 : fetch 125 21 = some (.aload_n 1, 1) := by decide +kernel
theorem zf125_22 : fetch 125 22 = some (.getfield 66, 3) := by decide +kernel
theorem zf125_25 : fetch 125 25 = some (.iconst 1, 1) := by decide +kernel
theorem zf125_26 : fetch 125 26 = some (.iaload, 1) := by decide +kernel
theorem zf125_27 : fetch 125 27 = some (.bipush 100, 2) := by decide +kernel
theorem zf125_29 : fetch 125 29 = some (.imul, 1) := by decide +kernel
theorem zf125_30 : fetch 125 30 = some (.iadd, 1) := by decide +kernel
theorem zf125_31 : fetch 125 31 = some (.aload_n 1, 1) := by decide +kernel
theorem zf125_32 : fetch 125 32 = some (.getfield 66, 3) := by decide +kernel
theorem zf125_35 : fetch 125 35 = some (.iconst 2, 1) := by decide +kernel
theorem zf125_36 : fetch 125 36 = some (.iaload, 1) := by decide +kernel
theorem zf125_37 : fetch 125 37 = some (.bipush 10, 2) := by decide +kernel
theorem zf125_39 : fetch 125 39 = some (.imul, 1) := by decide +kernel
theorem zf125_40 : fetch 125 40 = some (.iadd, 1) := by decide +kernel
theorem zf125_41 : fetch 125 41 = some (.aload_n 1, 1) := by decide +kernel
theorem zf125_42 : fetch 125 42 = some (.getfield 66, 3) := by decide +kernel
theorem zf125_45 : fetch 125 45 = some (.iconst 3, 1) := by decide +kernel
theorem zf125_46 : fetch 125 46 = some (.iaload, 1) := by decide +kernel
theorem zf125_47 : fetch 125 47 = some (.iadd, 1) := by decide +kernel
theorem zf125_48 : fetch 125 48 = some (.iconst 1, 1) := by decide +kernel
theorem zf125_49 : fetch 125 49 = some (.iadd, 1) := by decide +kernel
theorem zf125_50 : fetch 125 50 = some (.istore 6, 2) := by decide +kernel
theorem zf125_52 : fetch 125 52 = some (.aload_n 0, 1) := by decide +kernel
theorem zf125_53 : fetch 125 53 = some (.getfield 17, 3) := by decide +kernel
theorem zf125_56 : fetch 125 56 = some (.iload 5, 2) := by decide +kernel
theorem zf125_58 : fetch 125 58 = some (.iaload, 1) := by decide +kernel
theorem zf125_59 : fetch 125 59 = some (.iload 6, 2) := by decide +kernel
theorem zf125_61 : fetch 125 61 = some (.if_icmp .eq 19, 3) := by decide +kernel
theorem zf125_80 : fetch 125 80 = some (.aload_n 0, 1) := by decide +kernel
theorem zf125_81 : fetch 125 81 = some (.getfield 13, 3) := by decide +kernel
theorem zf125_84 : fetch 125 84 = some (.iload 5, 2) := by decide +kernel
theorem zf125_86 : fetch 125 86 = some (.bipush 8, 2) := by decide +kernel
theorem zf125_88 : fetch 125 88 = some (.imul, 1) := by decide +kernel
theorem zf125_89 : fetch 125 89 = some (.iload 4, 2) := by decide +kernel
theorem zf125_91 : fetch 125 91 = some (.iadd, 1) := by decide +kernel
theorem zf125_92 : fetch 125 92 = some (.iaload, 1) := by decide +kernel
theorem zf125_93 : fetch 125 93 = some (.ireturn, 1) := by decide +kernel
theorem zf125_64 : fetch 125 64 = some (.aload_n 0, 1) := by decide +kernel
theorem zf125_65 : fetch 125 65 = some (.aload_n 1, 1) := by decide +kernel
theorem zf125_66 : fetch 125 66 = some (.iload_n 2, 1) := by decide +kernel
theorem zf125_67 : fetch 125 67 = some (.iload_n 3, 1) := by decide +kernel
theorem zf125_68 : fetch 125 68 = some (.invokevirtual 85, 3) := by decide +kernel
theorem zf125_71 : fetch 125 71 = some (.aload_n 0, 1) := by decide +kernel
theorem zf125_72 : fetch 125 72 = some (.getfield 17, 3) := by decide +kernel
theorem zf125_75 : fetch 125 75 = some (.iload 5, 2) := by decide +kernel
theorem zf125_77 : fetch 125 77 = some (.iload 6, 2) := by decide +kernel
theorem zf125_79 : fetch 125 79 = some (.iastore, 1) := by decide +kernel
theorem zf128_0 : fetch 128 0 = some (.aload_n 0, 1) := by decide +kernel
theorem zf128_1 : fetch 128 1 = some (.getfield 11, 3) := by decide +kernel
theorem zf128_4 : fetch 128 4 = some (.iconst (-1), 1) := by decide +kernel
theorem zf128_5 : fetch 128 5 = some (.invokestatic 37, 3) := by decide +kernel
theorem zf128_8 : fetch 128 8 = some (.aload_n 0, 1) := by decide +kernel
theorem zf128_9 : fetch 128 9 = some (.getfield 11, 3) := by decide +kernel
theorem zf128_12 : fetch 128 12 = some (.iload_n 3, 1) := by decide +kernel
theorem zf128_13 : fetch 128 13 = some (.iconst 0, 1) := by decide +kernel
theorem zf128_14 : fetch 128 14 = some (.iastore, 1) := by decide +kernel
theorem zf128_15 : fetch 128 15 = some (.aload_n 0, 1) := by decide +kernel
theorem zf128_16 : fetch 128 16 = some (.getfield 17, 3) := by decide +kernel
theorem zf128_19 : fetch 128 19 = some (.iload_n 3, 1) := by decide +kernel
theorem zf128_20 : fetch 128 20 = some (.iconst 0, 1) := by decide +kernel
theorem zf128_21 : fetch 128 21 = some (.iastore, 1) := by decide +kernel
theorem zf128_22 : fetch 128 22 = some (.aload_n 0, 1) := by decide +kernel
theorem zf128_23 : fetch 128 23 = some (.getfield 20, 3) := by decide +kernel
theorem zf128_26 : fetch 128 26 = some (.iload_n 3, 1) := by decide +kernel
theorem zf128_27 : fetch 128 27 = some (.iconst 0, 1) := by decide +kernel
theorem zf128_28 : fetch 128 28 = some (.iastore, 1) := by decide +kernel
theorem zf128_29 : fetch 128 29 = some (.iconst 1, 1) := by decide +kernel
theorem zf128_30 : fetch 128 30 = some (.istore 4, 2) := by decide +kernel
theorem zf92_0 : fetch 92 0 = some (.iload_n 0, 1) := by decide +kernel
theorem zf92_1 : fetch 92 1 = some (.ifCond .lt 13, 3) := by decide +kernel
theorem zf92_14 : fetch 92 14 = some (.iconst 0, 1) := by decide +kernel
theorem zf92_15 : fetch 92 15 = some (.ireturn, 1) := by decide +kernel
theorem zf92_4 : fetch 92 4 = some (.iload_n 0, 1) := by decide +kernel
theorem zf92_5 : fetch 92 5 = some (.bipush 6, 2) := by decide +kernel
theorem zf92_7 : fetch 92 7 = some (.if_icmp .ge 7, 3) := by decide +kernel
theorem zf92_10 : fetch 92 10 = some (.iconst 1, 1) := by decide +kernel
theorem zf92_11 : fetch 92 11 = some (.goto 4, 3) := by decide +kernel
theorem zf131_0 : fetch 131 0 = some (.iconst 0, 1) := by decide +kernel
theorem zf131_1 : fetch 131 1 = some (.istore_n 3, 1) := by decide +kernel
theorem zf131_2 : fetch 131 2 = some (.iconst 0, 1) := by decide +kernel
theorem zf131_3 : fetch 131 3 = some (.istore 4, 2) := by decide +kernel
theorem zf132_0 : fetch 132 0 = some (.iload_n 2, 1) := by decide +kernel
theorem zf132_1 : fetch 132 1 = some (.iload_n 3, 1) := by decide +kernel
theorem zf132_2 : fetch 132 2 = some (.ishr, 1) := by decide +kernel
theorem zf132_3 : fetch 132 3 = some (.iconst 1, 1) := by decide +kernel
theorem zf132_4 : fetch 132 4 = some (.iand, 1) := by decide +kernel
theorem zf132_5 : fetch 132 5 = some (.ifCond .eq 5, 3) := by decide +kernel
theorem zf132_10 : fetch 132 10 = some (.aload_n 1, 1) := by decide +kernel
theorem zf132_11 : fetch 132 11 = some (.getfield 57, 3) := by decide +kernel
theorem zf132_14 : fetch 132 14 = some (.bipush 6, 2) := by decide +kernel
theorem zf132_16 : fetch 132 16 = some (.aload_n 0, 1) := by decide +kernel
theorem zf132_17 : fetch 132 17 = some (.getfield 26, 3) := by decide +kernel
theorem zf132_20 : fetch 132 20 = some (.iconst 0, 1) := by decide +kernel
theorem zf132_21 : fetch 132 21 = some (.iconst 5, 1) := by decide +kernel
theorem zf132_22 : fetch 132 22 = some (.invokestatic 62, 3) := by decide +kernel
theorem zf132_25 : fetch 132 25 = some (.iconst 1, 1) := by decide +kernel
theorem zf132_26 : fetch 132 26 = some (.istore 4, 2) := by decide +kernel
theorem zf132_8 : fetch 132 8 = some (.iconst 0, 1) := by decide +kernel
theorem zf132_9 : fetch 132 9 = some (.ireturn, 1) := by decide +kernel
theorem zf136_0 : fetch 136 0 = some (.aload_n 0, 1) := by decide +kernel
theorem zf136_1 : fetch 136 1 = some (.getfield 67, 3) := by decide +kernel
theorem zf136_4 : fetch 136 4 = some (.aload_n 0, 1) := by decide +kernel
theorem zf136_5 : fetch 136 5 = some (.getfield 88, 3) := by decide +kernel
theorem zf136_8 : fetch 136 8 = some (.iload_n 1, 1) := by decide +kernel
theorem zf136_9 : fetch 136 9 = some (.iload_n 2, 1) := by decide +kernel
theorem zf136_10 : fetch 136 10 = some (.invokevirtual 341, 3) := by decide +kernel
theorem zf136_13 : fetch 136 13 = some (.aload_n 0, 1) := by decide +kernel
theorem zf136_14 : fetch 136 14 = some (.getfield 67, 3) := by decide +kernel
theorem zf136_17 : fetch 136 17 = some (.getfield 344, 3) := by decide +kernel
theorem zf136_20 : fetch 136 20 = some (.iload_n 3, 1) := by decide +kernel
theorem zf136_21 : fetch 136 21 = some (.iaload, 1) := by decide +kernel
theorem zf136_22 : fetch 136 22 = some (.iconst (-1), 1) := by decide +kernel
theorem zf136_23 : fetch 136 23 = some (.if_icmp .ne 5, 3) := by decide +kernel
theorem zf136_28 : fetch 136 28 = some (.ldc2_w 363, 3) := by decide +kernel
theorem zf136_31 : fetch 136 31 = some (.lstore 4, 2) := by decide +kernel
theorem zf136_33 : fetch 136 33 = some (.iconst 0, 1) := by decide +kernel
theorem zf136_34 : fetch 136 34 = some (.istore 6, 2) := by decide +kernel
theorem zf136_26 : fetch 136 26 = some (.iconst (-1), 1) := by decide +kernel
theorem zf136_27 : fetch 136 27 = some (.ireturn, 1) := by decide +kernel
theorem zf137_32 : fetch 137 32 = some (.iload 5, 2) := by decide +kernel
theorem zf137_34 : fetch 137 34 = some (.aload_n 0, 1) := by decide +kernel
theorem zf137_35 : fetch 137 35 = some (.getfield 19, 3) := by decide +kernel
theorem zf137_38 : fetch 137 38 = some (.getfield 205, 3) := by decide +kernel
theorem zf137_41 : fetch 137 41 = some (.if_icmp .ge 33, 3) := by decide +kernel
theorem zf137_74 : fetch 137 74 = some (.iload_n 3, 1) := by decide +kernel
theorem zf137_75 : fetch 137 75 = some (.ireturn, 1) := by decide +kernel
theorem zf137_44 : fetch 137 44 = some (.aload_n 0, 1) := by decide +kernel
theorem zf137_45 : fetch 137 45 = some (.iload 5, 2) := by decide +kernel
theorem zf137_47 : fetch 137 47 = some (.iload_n 1, 1) := by decide +kernel
theorem zf137_48 : fetch 137 48 = some (.iload_n 2, 1) := by decide +kernel
theorem zf137_49 : fetch 137 49 = some (.invokevirtual 360, 3) := by decide +kernel
theorem zf137_52 : fetch 137 52 = some (.istore 6, 2) := by decide +kernel
theorem zf137_54 : fetch 137 54 = some (.iload 6, 2) := by decide +kernel
theorem zf137_56 : fetch 137 56 = some (.iload 4, 2) := by decide +kernel
theorem zf137_58 : fetch 137 58 = some (.if_icmp .le 10, 3) := by decide +kernel
theorem zf137_68 : fetch 137 68 = some (.iinc 5 1, 3) := by decide +kernel
theorem zf137_71 : fetch 137 71 = some (.goto (-39), 3) := by decide +kernel
theorem zf137_61 : fetch 137 61 = some (.iload 6, 2) := by decide +kernel
theorem zf137_63 : fetch 137 63 = some (.istore 4, 2) := by decide +kernel
theorem zf137_65 : fetch 137 65 = some (.iload 5, 2) := by decide +kernel
theorem zf137_67 : fetch 137 67 = some (.istore_n 3, 1) := by decide +kernel
theorem zf139_0 : fetch 139 0 = some (.iconst 0, 1) := by decide +kernel
theorem zf139_1 : fetch 139 1 = some (.istore_n 2, 1) := by decide +kernel
theorem zf140_0 : fetch 140 0 = some (.iload_n 2, 1) := by decide +kernel
theorem zf140_1 : fetch 140 1 = some (.iconst (-1), 1) := by decide +kernel
theorem zf140_2 : fetch 140 2 = some (.if_icmp .ne 7, 3) := by decide +kernel
theorem zf140_9 : fetch 140 9 = some (.iconst 1, 1) := by decide +kernel
theorem zf140_10 : fetch 140 10 = some (.iload_n 2, 1) := by decide +kernel
theorem zf140_11 : fetch 140 11 = some (.ishl, 1) := by decide +kernel
theorem zf140_12 : fetch 140 12 = some (.istore_n 3, 1) := by decide +kernel
theorem zf140_13 : fetch 140 13 = some (.iconst 1, 1) := by decide +kernel
theorem zf140_14 : fetch 140 14 = some (.iload_n 1, 1) := by decide +kernel
theorem zf140_15 : fetch 140 15 = some (.ishl, 1) := by decide +kernel
theorem zf140_16 : fetch 140 16 = some (.istore 4, 2) := by decide +kernel
theorem zf140_18 : fetch 140 18 = some (.iconst 1, 1) := by decide +kernel
theorem zf140_19 : fetch 140 19 = some (.istore 5, 2) := by decide +kernel
theorem zf140_5 : fetch 140 5 = some (.iconst 0, 1) := by decide +kernel
theorem zf140_6 : fetch 140 6 = some (.goto 6, 3) := by decide +kernel
theorem zf138_37 : fetch 138 37 = some (.iload_n 3, 1) := by decide +kernel
theorem zf138_38 : fetch 138 38 = some (.aload_n 0, 1) := by decide +kernel
theorem zf138_39 : fetch 138 39 = some (.getfield 19, 3) := by decide +kernel
theorem zf138_42 : fetch 138 42 = some (.getfield 119, 3) := by decide +kernel
theorem zf138_45 : fetch 138 45 = some (.if_icmp .ge 37, 3) := by decide +kernel
theorem zf138_82 : fetch 138 82 = some (.iload_n 2, 1) := by decide +kernel
theorem zf138_83 : fetch 138 83 = some (.ireturn, 1) := by decide +kernel
theorem zf138_48 : fetch 138 48 = some (.iload_n 1, 1) := by decide +kernel
theorem zf138_49 : fetch 138 49 = some (.aload_n 0, 1) := by decide +kernel
theorem zf138_50 : fetch 138 50 = some (.getfield 67, 3) := by decide +kernel
theorem zf138_53 : fetch 138 53 = some (.iconst 0, 1) := by decide +kernel
theorem zf138_54 : fetch 138 54 = some (.iload_n 3, 1) := by decide +kernel
theorem zf138_55 : fetch 138 55 = some (.invokevirtual 370, 3) := by decide +kernel
theorem zf138_58 : fetch 138 58 = some (.iconst (-1), 1) := by decide +kernel
theorem zf138_59 : fetch 138 59 = some (.ixor, 1) := by decide +kernel
theorem zf138_60 : fetch 138 60 = some (.iand, 1) := by decide +kernel
theorem zf138_61 : fetch 138 61 = some (.iconst 1, 1) := by decide +kernel
theorem zf138_62 : fetch 138 62 = some (.iload_n 3, 1) := by decide +kernel
theorem zf138_63 : fetch 138 63 = some (.ishl, 1) := by decide +kernel
theorem zf138_64 : fetch 138 64 = some (.iconst (-1), 1) := by decide +kernel
theorem zf138_65 : fetch 138 65 = some (.ixor, 1) := by decide +kernel
theorem zf138_66 : fetch 138 66 = some (.iand, 1) := by decide +kernel
theorem zf138_67 : fetch 138 67 = some (.ifCond .eq 9, 3) := by decide +kernel
theorem zf138_76 : fetch 138 76 = some (.iinc 3 1, 3) := by decide +kernel
theorem zf138_79 : fetch 138 79 = some (.goto (-42), 3) := by decide +kernel
theorem zf138_70 : fetch 138 70 = some (.iload_n 2, 1) := by decide +kernel
theorem zf138_71 : fetch 138 71 = some (.iconst 1, 1) := by decide +kernel
theorem zf138_72 : fetch 138 72 = some (.iload_n 3, 1) := by decide +kernel
theorem zf138_73 : fetch 138 73 = some (.ishl, 1) := by decide +kernel
theorem zf138_74 : fetch 138 74 = some (.ior, 1) := by decide +kernel
theorem zf138_75 : fetch 138 75 = some (.istore_n 2, 1) := by decide +kernel
theorem zf143_0 : fetch 143 0 = some (.aload_n 0, 1) := by decide +kernel
theorem zf143_1 : fetch 143 1 = some (.getfield 88, 3) := by decide +kernel
theorem zf143_4 : fetch 143 4 = some (.getfield 162, 3) := by decide +kernel
theorem zf143_7 : fetch 143 7 = some (.iconst 1, 1) := by decide +kernel
theorem zf143_8 : fetch 143 8 = some (.iaload, 1) := by decide +kernel
theorem zf143_9 : fetch 143 9 = some (.iload_n 1, 1) := by decide +kernel
theorem zf143_10 : fetch 143 10 = some (.iadd, 1) := by decide +kernel
theorem zf143_11 : fetch 143 11 = some (.aload_n 0, 1) := by decide +kernel
theorem zf143_12 : fetch 143 12 = some (.getfield 88, 3) := by decide +kernel
theorem zf143_15 : fetch 143 15 = some (.getfield 162, 3) := by decide +kernel
theorem zf143_18 : fetch 143 18 = some (.iconst 2, 1) := by decide +kernel
theorem zf143_19 : fetch 143 19 = some (.iaload, 1) := by decide +kernel
theorem zf143_20 : fetch 143 20 = some (.iload 5, 2) := by decide +kernel
theorem zf143_22 : fetch 143 22 = some (.invokestatic 377, 3) := by decide +kernel
theorem zf143_25 : fetch 143 25 = some (.istore 6, 2) := by decide +kernel
theorem zf143_27 : fetch 143 27 = some (.aload_n 0, 1) := by decide +kernel
theorem zf143_28 : fetch 143 28 = some (.getfield 58, 3) := by decide +kernel
theorem zf143_31 : fetch 143 31 = some (.iload_n 2, 1) := by decide +kernel
theorem zf143_32 : fetch 143 32 = some (.iload_n 3, 1) := by decide +kernel
theorem zf143_33 : fetch 143 33 = some (.iload 4, 2) := by decide +kernel
theorem zf143_35 : fetch 143 35 = some (.iload 6, 2) := by decide +kernel
theorem zf143_37 : fetch 143 37 = some (.aload_n 0, 1) := by decide +kernel
theorem zf143_38 : fetch 143 38 = some (.getfield 88, 3) := by decide +kernel
theorem zf143_41 : fetch 143 41 = some (.getfield 162, 3) := by decide +kernel
theorem zf143_44 : fetch 143 44 = some (.iconst 3, 1) := by decide +kernel
theorem zf143_45 : fetch 143 45 = some (.iaload, 1) := by decide +kernel
theorem zf143_46 : fetch 143 46 = some (.invokevirtual 380, 3) := by decide +kernel
theorem zf143_49 : fetch 143 49 = some (.istore 7, 2) := by decide +kernel
theorem zf143_51 : fetch 143 51 = some (.aload_n 0, 1) := by decide +kernel
theorem zf143_52 : fetch 143 52 = some (.getfield 19, 3) := by decide +kernel
theorem zf143_55 : fetch 143 55 = some (.aload_n 0, 1) := by decide +kernel
theorem zf143_56 : fetch 143 56 = some (.getfield 19, 3) := by decide +kernel
theorem zf143_59 : fetch 143 59 = some (.iload_n 3, 1) := by decide +kernel
theorem zf143_60 : fetch 143 60 = some (.invokevirtual 172, 3) := by decide +kernel
theorem zf143_63 : fetch 143 63 = some (.iload 7, 2) := by decide +kernel
theorem zf143_65 : fetch 143 65 = some (.iload 5, 2) := by decide +kernel
theorem zf143_67 : fetch 143 67 = some (.invokestatic 384, 3) := by decide +kernel
theorem zf143_70 : fetch 143 70 = some (.invokevirtual 282, 3) := by decide +kernel
theorem zf143_73 : fetch 143 73 = some (.iconst (-1), 1) := by decide +kernel
theorem zf143_74 : fetch 143 74 = some (.if_icmp .eq 7, 3) := by decide +kernel
theorem zf143_81 : fetch 143 81 = some (.iconst 0, 1) := by decide +kernel
theorem zf143_82 : fetch 143 82 = some (.ireturn, 1) := by decide +kernel
theorem zf143_77 : fetch 143 77 = some (.iconst 1, 1) := by decide +kernel
theorem zf143_78 : fetch 143 78 = some (.goto 4, 3) := by decide +kernel
theorem zf142_48 : fetch 142 48 = some (.istore 6, 2) := by decide +kernel
theorem zf142_50 : fetch 142 50 = some (.aload_n 0, 1) := by decide +kernel
theorem zf142_51 : fetch 142 51 = some (.iconst 3, 1) := by decide +kernel
theorem zf142_52 : fetch 142 52 = some (.iload_n 1, 1) := by decide +kernel
theorem zf142_53 : fetch 142 53 = some (.iload_n 2, 1) := by decide +kernel
theorem zf142_54 : fetch 142 54 = some (.iload_n 3, 1) := by decide +kernel
theorem zf142_55 : fetch 142 55 = some (.iload 4, 2) := by decide +kernel
theorem zf142_57 : fetch 142 57 = some (.invokevirtual 373, 3) := by decide +kernel
theorem zf142_60 : fetch 142 60 = some (.ifCond .eq 8, 3) := by decide +kernel
theorem zf142_68 : fetch 142 68 = some (.iconst 0, 1) := by decide +kernel
theorem zf142_69 : fetch 142 69 = some (.istore 7, 2) := by decide +kernel
theorem zf142_71 : fetch 142 71 = some (.iload 6, 2) := by decide +kernel
theorem zf142_73 : fetch 142 73 = some (.iload 7, 2) := by decide +kernel
theorem zf142_75 : fetch 142 75 = some (.iadd, 1) := by decide +kernel
theorem zf142_76 : fetch 142 76 = some (.ireturn, 1) := by decide +kernel
theorem zf142_63 : fetch 142 63 = some (.iload 5, 2) := by decide +kernel
theorem zf142_65 : fetch 142 65 = some (.goto 4, 3) := by decide +kernel
theorem zf145_0 : fetch 145 0 = some (.aload_n 0, 1) := by decide +kernel
theorem zf145_1 : fetch 145 1 = some (.getfield 19, 3) := by decide +kernel
theorem zf145_4 : fetch 145 4 = some (.iload_n 1, 1) := by decide +kernel
theorem zf145_5 : fetch 145 5 = some (.invokevirtual 178, 3) := by decide +kernel
theorem zf145_8 : fetch 145 8 = some (.ifCond .eq 23, 3) := by decide +kernel
theorem zf145_31 : fetch 145 31 = some (.iconst 0, 1) := by decide +kernel
theorem zf145_32 : fetch 145 32 = some (.ireturn, 1) := by decide +kernel
theorem zf145_11 : fetch 145 11 = some (.aload_n 0, 1) := by decide +kernel
theorem zf145_12 : fetch 145 12 = some (.getfield 19, 3) := by decide +kernel
theorem zf145_15 : fetch 145 15 = some (.iload_n 2, 1) := by decide +kernel
theorem zf145_16 : fetch 145 16 = some (.invokevirtual 178, 3) := by decide +kernel
theorem zf145_19 : fetch 145 19 = some (.ifCond .eq 12, 3) := by decide +kernel
theorem zf145_22 : fetch 145 22 = some (.iload_n 1, 1) := by decide +kernel
theorem zf145_23 : fetch 145 23 = some (.iload_n 2, 1) := by decide +kernel
theorem zf145_24 : fetch 145 24 = some (.if_icmp .eq 7, 3) := by decide +kernel
theorem zf145_27 : fetch 145 27 = some (.iconst 1, 1) := by decide +kernel
theorem zf145_28 : fetch 145 28 = some (.goto 4, 3) := by decide +kernel
theorem zf82_0 : fetch 82 0 = some (.aload_n 0, 1) := by decide +kernel
theorem zf82_1 : fetch 82 1 = some (.getfield 18, 3) := by decide +kernel
theorem zf82_4 : fetch 82 4 = some (.iload_n 1, 1) := by decide +kernel
theorem zf82_5 : fetch 82 5 = some (.iconst 3, 1) := by decide +kernel
theorem zf82_6 : fetch 82 6 = some (.imul, 1) := by decide +kernel
theorem zf82_7 : fetch 82 7 = some (.iaload, 1) := by decide +kernel
theorem zf82_8 : fetch 82 8 = some (.ireturn, 1) := by decide +kernel
theorem zf147_0 : fetch 147 0 = some (.aload_n 0, 1) := by decide +kernel
theorem zf147_1 : fetch 147 1 = some (.getfield 38, 3) := by decide +kernel
theorem zf147_4 : fetch 147 4 = some (.bipush 10, 2) := by decide +kernel
theorem zf147_6 : fetch 147 6 = some (.if_icmp .ge 7, 3) := by decide +kernel
theorem zf147_13 : fetch 147 13 = some (.iconst 0, 1) := by decide +kernel
theorem zf147_14 : fetch 147 14 = some (.ireturn, 1) := by decide +kernel
theorem zf147_9 : fetch 147 9 = some (.iconst 1, 1) := by decide +kernel
theorem zf147_10 : fetch 147 10 = some (.goto 4, 3) := by decide +kernel
theorem zf148_0 : fetch 148 0 = some (.aload_n 0, 1) := by decide +kernel
theorem zf148_1 : fetch 148 1 = some (.getfield 38, 3) := by decide +kernel
theorem zf148_4 : fetch 148 4 = some (.iconst 5, 1) := by decide +kernel
theorem zf148_5 : fetch 148 5 = some (.imul, 1) := by decide +kernel
theorem zf148_6 : fetch 148 6 = some (.istore 6, 2) := by decide +kernel
theorem zf148_8 : fetch 148 8 = some (.aload_n 0, 1) := by decide +kernel
theorem zf148_9 : fetch 148 9 = some (.getfield 15, 3) := by decide +kernel
theorem zf148_12 : fetch 148 12 = some (.iload 6, 2) := by decide +kernel
theorem zf148_14 : fetch 148 14 = some (.iload_n 1, 1) := by decide +kernel
theorem zf148_15 : fetch 148 15 = some (.iastore, 1) := by decide +kernel
theorem zf148_16 : fetch 148 16 = some (.aload_n 0, 1) := by decide +kernel
theorem zf148_17 : fetch 148 17 = some (.getfield 15, 3) := by decide +kernel
theorem zf148_20 : fetch 148 20 = some (.iload 6, 2) := by decide +kernel
theorem zf148_22 : fetch 148 22 = some (.iconst 1, 1) := by decide +kernel
theorem zf148_23 : fetch 148 23 = some (.iadd, 1) := by decide +kernel
theorem zf148_24 : fetch 148 24 = some (.iload_n 2, 1) := by decide +kernel
theorem zf148_25 : fetch 148 25 = some (.iastore, 1) := by decide +kernel
theorem zf148_26 : fetch 148 26 = some (.aload_n 0, 1) := by decide +kernel
theorem zf148_27 : fetch 148 27 = some (.getfield 15, 3) := by decide +kernel
theorem zf148_30 : fetch 148 30 = some (.iload 6, 2) := by decide +kernel
theorem zf148_32 : fetch 148 32 = some (.iconst 2, 1) := by decide +kernel
theorem zf148_33 : fetch 148 33 = some (.iadd, 1) := by decide +kernel
theorem zf148_34 : fetch 148 34 = some (.iload_n 3, 1) := by decide +kernel
theorem zf148_35 : fetch 148 35 = some (.iastore, 1) := by decide +kernel
theorem zf148_36 : fetch 148 36 = some (.aload_n 0, 1) := by decide +kernel
theorem zf148_37 : fetch 148 37 = some (.getfield 15, 3) := by decide +kernel
theorem zf148_40 : fetch 148 40 = some (.iload 6, 2) := by decide +kernel
theorem zf148_42 : fetch 148 42 = some (.iconst 3, 1) := by decide +kernel
theorem zf148_43 : fetch 148 43 = some (.iadd, 1) := by decide +kernel
theorem zf148_44 : fetch 148 44 = some (.iload 4, 2) := by decide +kernel
theorem zf148_46 : fetch 148 46 = some (.iastore, 1) := by decide +kernel
theorem zf148_47 : fetch 148 47 = some (.aload_n 0, 1) := by decide +kernel
theorem zf148_48 : fetch 148 48 = some (.getfield 15, 3) := by decide +kernel
theorem zf148_51 : fetch 148 51 = some (.iload 6, 2) := by decide +kernel
theorem zf148_53 : fetch 148 53 = some (.iconst 4, 1) := by decide +kernel
theorem zf148_54 : fetch 148 54 = some (.iadd, 1) := by decide +kernel
theorem zf148_55 : fetch 148 55 = some (.iload 5, 2) := by decide +kernel
theorem zf148_57 : fetch 148 57 = some (.iastore, 1) := by decide +kernel
theorem zf148_58 : fetch 148 58 = some (.aload_n 0, 1) := by decide +kernel
theorem zf148_59 : fetch 148 59 = some (.dup, 1) := by decide +kernel
theorem zf148_60 : fetch 148 60 = some (.getfield 38, 3) := by decide +kernel
theorem zf148_63 : fetch 148 63 = some (.iconst 1, 1) := by decide +kernel
theorem zf148_64 : fetch 148 64 = some (.iadd, 1) := by decide +kernel
theorem zf148_65 : fetch 148 65 = some (.putfield 38, 3) := by decide +kernel
theorem zf148_68 : fetch 148 68 = some (.return_, 1) := by decide +kernel
theorem zf150_0 : fetch 150 0 = some (.aload_n 0, 1) := by decide +kernel
theorem zf150_1 : fetch 150 1 = some (.iconst 0, 1) := by decide +kernel
theorem zf150_2 : fetch 150 2 = some (.putfield 45, 3) := by decide +kernel
theorem zf150_5 : fetch 150 5 = some (.iconst 0, 1) := by decide +kernel
theorem zf150_6 : fetch 150 6 = some (.istore_n 1, 1) := by decide +kernel
theorem zf72_0 : fetch 72 0 = some (.iload_n 1, 1) := by decide +kernel
theorem zf72_1 : fetch 72 1 = some (.ifCond .lt 15, 3) := by decide +kernel
theorem zf72_16 : fetch 72 16 = some (.iconst 0, 1) := by decide +kernel
theorem zf72_17 : fetch 72 17 = some (.ireturn, 1) := by decide +kernel
theorem zf72_4 : fetch 72 4 = some (.iload_n 1, 1) := by decide +kernel
theorem zf72_5 : fetch 72 5 = some (.aload_n 0, 1) := by decide +kernel
theorem zf72_6 : fetch 72 6 = some (.getfield 31, 3) := by decide +kernel
theorem zf72_9 : fetch 72 9 = some (.if_icmp .ge 7, 3) := by decide +kernel
theorem zf72_12 : fetch 72 12 = some (.iconst 1, 1) := by decide +kernel
theorem zf72_13 : fetch 72 13 = some (.goto 4, 3) := by decide +kernel
theorem zf154_0 : fetch 154 0 = some (.iconst (-1), 1) := by decide +kernel
theorem zf154_1 : fetch 154 1 = some (.istore_n 3, 1) := by decide +kernel
theorem zf154_2 : fetch 154 2 = some (.aload_n 0, 1) := by decide +kernel
theorem zf154_3 : fetch 154 3 = some (.getfield 45, 3) := by decide +kernel
theorem zf154_6 : fetch 154 6 = some (.iconst 1, 1) := by decide +kernel
theorem zf154_7 : fetch 154 7 = some (.iadd, 1) := by decide +kernel
theorem zf154_8 : fetch 154 8 = some (.istore 4, 2) := by decide +kernel
theorem zf154_10 : fetch 154 10 = some (.iconst 0, 1) := by decide +kernel
theorem zf154_11 : fetch 154 11 = some (.istore 5, 2) := by decide +kernel
theorem zf157_0 : fetch 157 0 = some (.aload_n 0, 1) := by decide +kernel
theorem zf157_1 : fetch 157 1 = some (.getfield 42, 3) := by decide +kernel
theorem zf157_4 : fetch 157 4 = some (.bipush 12, 2) := by decide +kernel
theorem zf157_6 : fetch 157 6 = some (.if_icmp .ge 7, 3) := by decide +kernel
theorem zf157_13 : fetch 157 13 = some (.iconst 0, 1) := by decide +kernel
theorem zf157_14 : fetch 157 14 = some (.ireturn, 1) := by decide +kernel
theorem zf157_9 : fetch 157 9 = some (.iconst 1, 1) := by decide +kernel
theorem zf157_10 : fetch 157 10 = some (.goto 4, 3) := by decide +kernel
theorem zf158_0 : fetch 158 0 = some (.aload_n 0, 1) := by decide +kernel
theorem zf158_1 : fetch 158 1 = some (.getfield 23, 3) := by decide +kernel
theorem zf158_4 : fetch 158 4 = some (.aload_n 0, 1) := by decide +kernel
theorem zf158_5 : fetch 158 5 = some (.getfield 42, 3) := by decide +kernel
theorem zf158_8 : fetch 158 8 = some (.iload_n 1, 1) := by decide +kernel
theorem zf158_9 : fetch 158 9 = some (.iastore, 1) := by decide +kernel
theorem zf158_10 : fetch 158 10 = some (.aload_n 0, 1) := by decide +kernel
theorem zf158_11 : fetch 158 11 = some (.getfield 26, 3) := by decide +kernel
theorem zf158_14 : fetch 158 14 = some (.aload_n 0, 1) := by decide +kernel
theorem zf158_15 : fetch 158 15 = some (.getfield 42, 3) := by decide +kernel
theorem zf158_18 : fetch 158 18 = some (.iload_n 2, 1) := by decide +kernel
theorem zf158_19 : fetch 158 19 = some (.bastore, 1) := by decide +kernel
theorem zf158_20 : fetch 158 20 = some (.aload_n 0, 1) := by decide +kernel
theorem zf158_21 : fetch 158 21 = some (.dup, 1) := by decide +kernel
theorem zf158_22 : fetch 158 22 = some (.getfield 42, 3) := by decide +kernel
theorem zf158_25 : fetch 158 25 = some (.iconst 1, 1) := by decide +kernel
theorem zf158_26 : fetch 158 26 = some (.iadd, 1) := by decide +kernel
theorem zf158_27 : fetch 158 27 = some (.putfield 42, 3) := by decide +kernel
theorem zf158_30 : fetch 158 30 = some (.return_, 1) := by decide +kernel
theorem zf160_0 : fetch 160 0 = some (.lconst 0, 1) := by decide +kernel
theorem zf160_1 : fetch 160 1 = some (.lstore_n 2, 1) := by decide +kernel
theorem zf160_2 : fetch 160 2 = some (.iconst 0, 1) := by decide +kernel
theorem zf160_3 : fetch 160 3 = some (.istore 4, 2) := by decide +kernel
theorem zf162_6 : fetch 162 6 = some (.iload_n 3, 1) := by decide +kernel
theorem zf162_7 : fetch 162 7 = some (.aload_n 0, 1) := by decide +kernel
theorem zf162_8 : fetch 162 8 = some (.getfield 19, 3) := by decide +kernel
theorem zf162_11 : fetch 162 11 = some (.getfield 119, 3) := by decide +kernel
theorem zf162_14 : fetch 162 14 = some (.if_icmp .ge 45, 3) := by decide +kernel
theorem zf162_59 : fetch 162 59 = some (.iload_n 1, 1) := by decide +kernel
theorem zf162_60 : fetch 162 60 = some (.ireturn, 1) := by decide +kernel
theorem zf162_17 : fetch 162 17 = some (.aload_n 0, 1) := by decide +kernel
theorem zf162_18 : fetch 162 18 = some (.getfield 74, 3) := by decide +kernel
theorem zf162_21 : fetch 162 21 = some (.iload_n 3, 1) := by decide +kernel
theorem zf162_22 : fetch 162 22 = some (.invokevirtual 419, 3) := by decide +kernel
theorem zf162_25 : fetch 162 25 = some (.ifCond .eq 7, 3) := by decide +kernel
theorem zf162_32 : fetch 162 32 = some (.aload_n 0, 1) := by decide +kernel
theorem zf162_33 : fetch 162 33 = some (.getfield 74, 3) := by decide +kernel
theorem zf162_36 : fetch 162 36 = some (.iload_n 3, 1) := by decide +kernel
theorem zf162_37 : fetch 162 37 = some (.invokevirtual 416, 3) := by decide +kernel
theorem zf162_40 : fetch 162 40 = some (.istore 4, 2) := by decide +kernel
theorem zf162_42 : fetch 162 42 = some (.iload 4, 2) := by decide +kernel
theorem zf162_44 : fetch 162 44 = some (.iload_n 2, 1) := by decide +kernel
theorem zf162_45 : fetch 162 45 = some (.if_icmp .le 8, 3) := by decide +kernel
theorem zf162_53 : fetch 162 53 = some (.iinc 3 1, 3) := by decide +kernel
theorem zf162_56 : fetch 162 56 = some (.goto (-50), 3) := by decide +kernel
theorem zf162_48 : fetch 162 48 = some (.iload 4, 2) := by decide +kernel
theorem zf162_50 : fetch 162 50 = some (.istore_n 2, 1) := by decide +kernel
theorem zf162_51 : fetch 162 51 = some (.iload_n 3, 1) := by decide +kernel
theorem zf162_52 : fetch 162 52 = some (.istore_n 1, 1) := by decide +kernel
theorem zf162_28 : fetch 162 28 = some (.iconst (-1), 1) := by decide +kernel
theorem zf162_29 : fetch 162 29 = some (.goto 11, 3) := by decide +kernel
theorem zf165_0 : fetch 165 0 = some (.iload_n 0, 1) := by decide +kernel
theorem zf165_1 : fetch 165 1 = some (.ifCond .eq 10, 3) := by decide +kernel
theorem zf165_11 : fetch 165 11 = some (.iconst 1, 1) := by decide +kernel
theorem zf165_12 : fetch 165 12 = some (.goto 4, 3) := by decide +kernel
theorem zf165_16 : fetch 165 16 = some (.ireturn, 1) := by decide +kernel
theorem zf165_4 : fetch 165 4 = some (.iload_n 0, 1) := by decide +kernel
theorem zf165_5 : fetch 165 5 = some (.invokestatic 268, 3) := by decide +kernel
theorem zf165_8 : fetch 165 8 = some (.ifCond .eq 7, 3) := by decide +kernel
theorem zf165_15 : fetch 165 15 = some (.iconst 0, 1) := by decide +kernel
theorem zf166_0 : fetch 166 0 = some (.iload_n 3, 1) := by decide +kernel
theorem zf166_1 : fetch 166 1 = some (.iload 4, 2) := by decide +kernel
theorem zf166_3 : fetch 166 3 = some (.iadd, 1) := by decide +kernel
theorem zf166_4 : fetch 166 4 = some (.ifCond .le 8, 3) := by decide +kernel
theorem zf166_12 : fetch 166 12 = some (.iconst 0, 1) := by decide +kernel
theorem zf166_7 : fetch 166 7 = some (.bipush 6, 2) := by decide +kernel
theorem zf166_9 : fetch 166 9 = some (.goto 4, 3) := by decide +kernel
theorem zf167_24 : fetch 167 24 = some (.iload 6, 2) := by decide +kernel
theorem zf167_26 : fetch 167 26 = some (.iconst 1, 1) := by decide +kernel
theorem zf167_27 : fetch 167 27 = some (.if_icmp .gt 117, 3) := by decide +kernel
theorem zf167_144 : fetch 167 144 = some (.iload 4, 2) := by decide +kernel
theorem zf167_146 : fetch 167 146 = some (.iconst (-1), 1) := by decide +kernel
theorem zf167_147 : fetch 167 147 = some (.if_icmp .ne 8, 3) := by decide +kernel
theorem zf167_155 : fetch 167 155 = some (.iconst (-1), 1) := by decide +kernel
theorem zf167_156 : fetch 167 156 = some (.ireturn, 1) := by decide +kernel
theorem zf167_150 : fetch 167 150 = some (.iload 5, 2) := by decide +kernel
theorem zf167_152 : fetch 167 152 = some (.goto 4, 3) := by decide +kernel
theorem zf167_30 : fetch 167 30 = some (.iconst 0, 1) := by decide +kernel
theorem zf167_31 : fetch 167 31 = some (.istore 7, 2) := by decide +kernel
theorem zf73_0 : fetch 73 0 = some (.iload_n 0, 1) := by decide +kernel
theorem zf73_1 : fetch 73 1 = some (.iconst 1, 1) := by decide +kernel
theorem zf73_2 : fetch 73 2 = some (.if_icmp .lt 13, 3) := by decide +kernel
theorem zf73_15 : fetch 73 15 = some (.iconst 0, 1) := by decide +kernel
theorem zf73_16 : fetch 73 16 = some (.ireturn, 1) := by decide +kernel
theorem zf73_5 : fetch 73 5 = some (.iload_n 0, 1) := by decide +kernel
theorem zf73_6 : fetch 73 6 = some (.bipush 20, 2) := by decide +kernel
theorem zf73_8 : fetch 73 8 = some (.if_icmp .gt 7, 3) := by decide +kernel
theorem zf73_11 : fetch 73 11 = some (.iconst 1, 1) := by decide +kernel
theorem zf73_12 : fetch 73 12 = some (.goto 4, 3) := by decide +kernel
theorem zf169_27 : fetch 169 27 = some (.iload_n 3, 1) := by decide +kernel
theorem zf169_28 : fetch 169 28 = some (.aload_n 0, 1) := by decide +kernel
theorem zf169_29 : fetch 169 29 = some (.getfield 19, 3) := by decide +kernel
theorem zf169_32 : fetch 169 32 = some (.getfield 119, 3) := by decide +kernel
theorem zf169_35 : fetch 169 35 = some (.if_icmp .ge 26, 3) := by decide +kernel
theorem zf169_61 : fetch 169 61 = some (.aload_n 0, 1) := by decide +kernel
theorem zf169_62 : fetch 169 62 = some (.getfield 88, 3) := by decide +kernel
theorem zf169_65 : fetch 169 65 = some (.getfield 162, 3) := by decide +kernel
theorem zf169_68 : fetch 169 68 = some (.iconst 4, 1) := by decide +kernel
theorem zf169_69 : fetch 169 69 = some (.iaload, 1) := by decide +kernel
theorem zf169_70 : fetch 169 70 = some (.istore_n 3, 1) := by decide +kernel
theorem zf169_71 : fetch 169 71 = some (.iconst 0, 1) := by decide +kernel
theorem zf169_72 : fetch 169 72 = some (.istore 4, 2) := by decide +kernel
theorem zf169_38 : fetch 169 38 = some (.iload_n 2, 1) := by decide +kernel
theorem zf169_39 : fetch 169 39 = some (.aload_n 0, 1) := by decide +kernel
theorem zf169_40 : fetch 169 40 = some (.getfield 88, 3) := by decide +kernel
theorem zf169_43 : fetch 169 43 = some (.getfield 162, 3) := by decide +kernel
theorem zf169_46 : fetch 169 46 = some (.bipush 21, 2) := by decide +kernel
theorem zf169_48 : fetch 169 48 = some (.iload_n 3, 1) := by decide +kernel
theorem zf169_49 : fetch 169 49 = some (.iadd, 1) := by decide +kernel
theorem zf169_50 : fetch 169 50 = some (.iaload, 1) := by decide +kernel
theorem zf169_51 : fetch 169 51 = some (.invokestatic 429, 3) := by decide +kernel
theorem zf169_54 : fetch 169 54 = some (.istore_n 2, 1) := by decide +kernel
theorem zf169_55 : fetch 169 55 = some (.iinc 3 1, 3) := by decide +kernel
theorem zf169_58 : fetch 169 58 = some (.goto (-31), 3) := by decide +kernel
theorem zf172_0 : fetch 172 0 = some (.iconst 0, 1) := by decide +kernel
theorem zf172_1 : fetch 172 1 = some (.istore_n 2, 1) := by decide +kernel
theorem zf172_2 : fetch 172 2 = some (.iconst 1, 1) := by decide +kernel
theorem zf172_3 : fetch 172 3 = some (.istore_n 3, 1) := by decide +kernel
theorem zf171_0 : fetch 171 0 = some (.iconst 0, 1) := by decide +kernel
theorem zf171_1 : fetch 171 1 = some (.istore_n 1, 1) := by decide +kernel
theorem zf171_2 : fetch 171 2 = some (.iconst 1, 1) := by decide +kernel
theorem zf171_3 : fetch 171 3 = some (.istore_n 2, 1) := by decide +kernel
theorem zf173_16 : fetch 173 16 = some (.iload_n 2, 1) := by decide +kernel
theorem zf173_17 : fetch 173 17 = some (.aload_n 0, 1) := by decide +kernel
theorem zf173_18 : fetch 173 18 = some (.getfield 19, 3) := by decide +kernel
theorem zf173_21 : fetch 173 21 = some (.getfield 205, 3) := by decide +kernel
theorem zf173_24 : fetch 173 24 = some (.if_icmp .ge 34, 3) := by decide +kernel
theorem zf173_58 : fetch 173 58 = some (.iload_n 1, 1) := by decide +kernel
theorem zf173_59 : fetch 173 59 = some (.ireturn, 1) := by decide +kernel
theorem zf173_27 : fetch 173 27 = some (.iload_n 1, 1) := by decide +kernel
theorem zf173_28 : fetch 173 28 = some (.aload_n 0, 1) := by decide +kernel
theorem zf173_29 : fetch 173 29 = some (.getfield 88, 3) := by decide +kernel
theorem zf173_32 : fetch 173 32 = some (.getfield 162, 3) := by decide +kernel
theorem zf173_35 : fetch 173 35 = some (.bipush 16, 2) := by decide +kernel
theorem zf173_37 : fetch 173 37 = some (.iload_n 2, 1) := by decide +kernel
theorem zf173_38 : fetch 173 38 = some (.iadd, 1) := by decide +kernel
theorem zf173_39 : fetch 173 39 = some (.iaload, 1) := by decide +kernel
theorem zf173_40 : fetch 173 40 = some (.ifCond .ne 9, 3) := by decide +kernel
theorem zf173_49 : fetch 173 49 = some (.iconst 0, 1) := by decide +kernel
theorem zf173_50 : fetch 173 50 = some (.ior, 1) := by decide +kernel
theorem zf173_51 : fetch 173 51 = some (.istore_n 1, 1) := by decide +kernel
theorem zf173_52 : fetch 173 52 = some (.iinc 2 1, 3) := by decide +kernel
theorem zf173_55 : fetch 173 55 = some (.goto (-39), 3) := by decide +kernel
theorem zf173_43 : fetch 173 43 = some (.iconst 1, 1) := by decide +kernel
theorem zf173_44 : fetch 173 44 = some (.iload_n 2, 1) := by decide +kernel
theorem zf173_45 : fetch 173 45 = some (.ishl, 1) := by decide +kernel
theorem zf173_46 : fetch 173 46 = some (.goto 4, 3) := by decide +kernel
theorem zf174_17 : fetch 174 17 = some (.iload_n 3, 1) := by decide +kernel
theorem zf174_18 : fetch 174 18 = some (.aload_n 0, 1) := by decide +kernel
theorem zf174_19 : fetch 174 19 = some (.getfield 19, 3) := by decide +kernel
theorem zf174_22 : fetch 174 22 = some (.getfield 205, 3) := by decide +kernel
theorem zf174_25 : fetch 174 25 = some (.if_icmp .ge 62, 3) := by decide +kernel
theorem zf174_87 : fetch 174 87 = some (.iload_n 2, 1) := by decide +kernel
theorem zf174_88 : fetch 174 88 = some (.ireturn, 1) := by decide +kernel
theorem zf174_28 : fetch 174 28 = some (.aload_n 0, 1) := by decide +kernel
theorem zf174_29 : fetch 174 29 = some (.getfield 88, 3) := by decide +kernel
theorem zf174_32 : fetch 174 32 = some (.getfield 162, 3) := by decide +kernel
theorem zf174_35 : fetch 174 35 = some (.bipush 6, 2) := by decide +kernel
theorem zf174_37 : fetch 174 37 = some (.iload_n 3, 1) := by decide +kernel
theorem zf174_38 : fetch 174 38 = some (.iadd, 1) := by decide +kernel
theorem zf174_39 : fetch 174 39 = some (.iaload, 1) := by decide +kernel
theorem zf174_40 : fetch 174 40 = some (.iload_n 1, 1) := by decide +kernel
theorem zf174_41 : fetch 174 41 = some (.if_icmp .ne 22, 3) := by decide +kernel
theorem zf174_63 : fetch 174 63 = some (.iconst 0, 1) := by decide +kernel
theorem zf174_64 : fetch 174 64 = some (.istore 4, 2) := by decide +kernel
theorem zf174_66 : fetch 174 66 = some (.iload_n 2, 1) := by decide +kernel
theorem zf174_67 : fetch 174 67 = some (.iload 4, 2) := by decide +kernel
theorem zf174_69 : fetch 174 69 = some (.ifCond .eq 9, 3) := by decide +kernel
theorem zf174_78 : fetch 174 78 = some (.iconst 0, 1) := by decide +kernel
theorem zf174_79 : fetch 174 79 = some (.ior, 1) := by decide +kernel
theorem zf174_80 : fetch 174 80 = some (.istore_n 2, 1) := by decide +kernel
theorem zf174_81 : fetch 174 81 = some (.iinc 3 1, 3) := by decide +kernel
theorem zf174_84 : fetch 174 84 = some (.goto (-67), 3) := by decide +kernel
theorem zf174_44 : fetch 174 44 = some (.aload_n 0, 1) := by decide +kernel
theorem zf174_45 : fetch 174 45 = some (.getfield 88, 3) := by decide +kernel
theorem zf174_48 : fetch 174 48 = some (.getfield 162, 3) := by decide +kernel
theorem zf174_51 : fetch 174 51 = some (.bipush 16, 2) := by decide +kernel
theorem zf174_53 : fetch 174 53 = some (.iload_n 3, 1) := by decide +kernel
theorem zf174_54 : fetch 174 54 = some (.iadd, 1) := by decide +kernel
theorem zf174_55 : fetch 174 55 = some (.iaload, 1) := by decide +kernel
theorem zf174_56 : fetch 174 56 = some (.ifCond .ne 7, 3) := by decide +kernel
theorem zf174_59 : fetch 174 59 = some (.iconst 1, 1) := by decide +kernel
theorem zf174_60 : fetch 174 60 = some (.goto 4, 3) := by decide +kernel
theorem zf174_72 : fetch 174 72 = some (.iconst 1, 1) := by decide +kernel
theorem zf174_73 : fetch 174 73 = some (.iload_n 3, 1) := by decide +kernel
theorem zf174_74 : fetch 174 74 = some (.ishl, 1) := by decide +kernel
theorem zf174_75 : fetch 174 75 = some (.goto 4, 3) := by decide +kernel
theorem zf83_0 : fetch 83 0 = some (.aload_n 0, 1) := by decide +kernel
theorem zf83_1 : fetch 83 1 = some (.getfield 18, 3) := by decide +kernel
theorem zf83_4 : fetch 83 4 = some (.iload_n 1, 1) := by decide +kernel
theorem zf83_5 : fetch 83 5 = some (.iconst 3, 1) := by decide +kernel
theorem zf83_6 : fetch 83 6 = some (.imul, 1) := by decide +kernel
theorem zf83_7 : fetch 83 7 = some (.iconst 1, 1) := by decide +kernel
theorem zf83_8 : fetch 83 8 = some (.iadd, 1) := by decide +kernel
theorem zf83_9 : fetch 83 9 = some (.iaload, 1) := by decide +kernel
theorem zf83_10 : fetch 83 10 = some (.ireturn, 1) := by decide +kernel
theorem zf179_0 : fetch 179 0 = some (.iconst 0, 1) := by decide +kernel
theorem zf179_1 : fetch 179 1 = some (.istore_n 1, 1) := by decide +kernel
theorem zf179_2 : fetch 179 2 = some (.bipush 24, 2) := by decide +kernel
theorem zf179_4 : fetch 179 4 = some (.istore_n 2, 1) := by decide +kernel
theorem zf180_0 : fetch 180 0 = some (.bipush 24, 2) := by decide +kernel
theorem zf180_2 : fetch 180 2 = some (.istore_n 2, 1) := by decide +kernel
theorem zf183_0 : fetch 183 0 = some (.lload_n 0, 1) := by decide +kernel
theorem zf183_1 : fetch 183 1 = some (.lload_n 2, 1) := by decide +kernel
theorem zf183_2 : fetch 183 2 = some (.lcmp, 1) := by decide +kernel
theorem zf183_3 : fetch 183 3 = some (.ifCond .lt 14, 3) := by decide +kernel
theorem zf183_17 : fetch 183 17 = some (.iconst 0, 1) := by decide +kernel
theorem zf183_18 : fetch 183 18 = some (.ireturn, 1) := by decide +kernel
theorem zf183_6 : fetch 183 6 = some (.lload_n 0, 1) := by decide +kernel
theorem zf183_7 : fetch 183 7 = some (.lload 4, 2) := by decide +kernel
theorem zf183_9 : fetch 183 9 = some (.lcmp, 1) := by decide +kernel
theorem zf183_10 : fetch 183 10 = some (.ifCond .gt 7, 3) := by decide +kernel
theorem zf183_13 : fetch 183 13 = some (.iconst 1, 1) := by decide +kernel
theorem zf183_14 : fetch 183 14 = some (.goto 4, 3) := by decide +kernel
theorem zf182_28 : fetch 182 28 = some (.iload_n 1, 1) := by decide +kernel
theorem zf182_29 : fetch 182 29 = some (.iconst 1, 1) := by decide +kernel
theorem zf182_30 : fetch 182 30 = some (.if_icmp .ne 16, 3) := by decide +kernel
theorem zf182_46 : fetch 182 46 = some (.iload_n 1, 1) := by decide +kernel
theorem zf182_47 : fetch 182 47 = some (.iconst 2, 1) := by decide +kernel
theorem zf182_48 : fetch 182 48 = some (.if_icmp .ne 7, 3) := by decide +kernel
theorem zf182_55 : fetch 182 55 = some (.aload_n 0, 1) := by decide +kernel
theorem zf182_56 : fetch 182 56 = some (.getfield 128, 3) := by decide +kernel
theorem zf182_59 : fetch 182 59 = some (.ireturn, 1) := by decide +kernel
theorem zf182_51 : fetch 182 51 = some (.aload_n 0, 1) := by decide +kernel
theorem zf182_52 : fetch 182 52 = some (.invokevirtual 283, 3) := by decide +kernel
theorem zf182_33 : fetch 182 33 = some (.aload_n 0, 1) := by decide +kernel
theorem zf182_34 : fetch 182 34 = some (.aload_n 0, 1) := by decide +kernel
theorem zf182_35 : fetch 182 35 = some (.getfield 9, 3) := by decide +kernel
theorem zf182_38 : fetch 182 38 = some (.iconst 0, 1) := by decide +kernel
theorem zf182_39 : fetch 182 39 = some (.aload_n 0, 1) := by decide +kernel
theorem zf182_40 : fetch 182 40 = some (.getfield 109, 3) := by decide +kernel
theorem zf182_43 : fetch 182 43 = some (.invokevirtual 280, 3) := by decide +kernel
theorem zf184_0 : fetch 184 0 = some (.aload_n 0, 1) := by decide +kernel
theorem zf184_1 : fetch 184 1 = some (.aload_n 0, 1) := by decide +kernel
theorem zf184_2 : fetch 184 2 = some (.getfield 9, 3) := by decide +kernel
theorem zf184_5 : fetch 184 5 = some (.iconst 0, 1) := by decide +kernel
theorem zf184_6 : fetch 184 6 = some (.aload_n 0, 1) := by decide +kernel
theorem zf184_7 : fetch 184 7 = some (.getfield 109, 3) := by decide +kernel
theorem zf184_10 : fetch 184 10 = some (.invokevirtual 207, 3) := by decide +kernel
theorem zf184_13 : fetch 184 13 = some (.aload_n 0, 1) := by decide +kernel
theorem zf184_14 : fetch 184 14 = some (.iconst 0, 1) := by decide +kernel
theorem zf184_15 : fetch 184 15 = some (.putfield 245, 3) := by decide +kernel
theorem zf184_18 : fetch 184 18 = some (.aload_n 0, 1) := by decide +kernel
theorem zf184_19 : fetch 184 19 = some (.iconst 0, 1) := by decide +kernel
theorem zf184_20 : fetch 184 20 = some (.putfield 248, 3) := by decide +kernel
theorem zf184_23 : fetch 184 23 = some (.aload_n 0, 1) := by decide +kernel
theorem zf184_24 : fetch 184 24 = some (.iconst 0, 1) := by decide +kernel
theorem zf184_25 : fetch 184 25 = some (.putfield 242, 3) := by decide +kernel
theorem zf184_28 : fetch 184 28 = some (.iconst 0, 1) := by decide +kernel
theorem zf184_29 : fetch 184 29 = some (.istore_n 1, 1) := by decide +kernel
theorem zf216_43 : fetch 216 43 = some (.aload_n 0, 1) := by decide +kernel
theorem zf216_44 : fetch 216 44 = some (.iload_n 1, 1) := by decide +kernel
theorem zf216_45 : fetch 216 45 = some (.invokevirtual 292, 3) := by decide +kernel
theorem zf216_48 : fetch 216 48 = some (.iconst (-1), 1) := by decide +kernel
theorem zf216_49 : fetch 216 49 = some (.if_icmp .eq 5, 3) := by decide +kernel
theorem zf216_54 : fetch 216 54 = some (.aload_n 0, 1) := by decide +kernel
theorem zf216_55 : fetch 216 55 = some (.getfield 109, 3) := by decide +kernel
theorem zf216_58 : fetch 216 58 = some (.istore_n 2, 1) := by decide +kernel
theorem zf216_59 : fetch 216 59 = some (.aload_n 0, 1) := by decide +kernel
theorem zf216_60 : fetch 216 60 = some (.iconst 0, 1) := by decide +kernel
theorem zf216_61 : fetch 216 61 = some (.putfield 109, 3) := by decide +kernel
theorem zf216_64 : fetch 216 64 = some (.iload_n 1, 1) := by decide +kernel
theorem zf216_65 : fetch 216 65 = some (.iconst 1, 1) := by decide +kernel
theorem zf216_66 : fetch 216 66 = some (.if_icmp .ne 64, 3) := by decide +kernel
theorem zf216_130 : fetch 216 130 = some (.iload_n 1, 1) := by decide +kernel
theorem zf216_131 : fetch 216 131 = some (.iconst 2, 1) := by decide +kernel
theorem zf216_132 : fetch 216 132 = some (.if_icmp .ne 73, 3) := by decide +kernel
theorem zf216_205 : fetch 216 205 = some (.aload_n 0, 1) := by decide +kernel
theorem zf216_206 : fetch 216 206 = some (.aload_n 0, 1) := by decide +kernel
theorem zf216_207 : fetch 216 207 = some (.getfield 245, 3) := by decide +kernel
theorem zf216_210 : fetch 216 210 = some (.putfield 294, 3) := by decide +kernel
theorem zf216_213 : fetch 216 213 = some (.aload_n 0, 1) := by decide +kernel
theorem zf216_214 : fetch 216 214 = some (.aload_n 0, 1) := by decide +kernel
theorem zf216_215 : fetch 216 215 = some (.getfield 248, 3) := by decide +kernel
theorem zf216_218 : fetch 216 218 = some (.putfield 297, 3) := by decide +kernel
theorem zf216_221 : fetch 216 221 = some (.iconst 0, 1) := by decide +kernel
theorem zf216_222 : fetch 216 222 = some (.istore_n 3, 1) := by decide +kernel
theorem zf216_135 : fetch 216 135 = some (.iconst 0, 1) := by decide +kernel
theorem zf216_136 : fetch 216 136 = some (.istore_n 3, 1) := by decide +kernel
theorem zf216_69 : fetch 216 69 = some (.iconst 0, 1) := by decide +kernel
theorem zf216_70 : fetch 216 70 = some (.istore_n 3, 1) := by decide +kernel
theorem zf220_0 : fetch 220 0 = some (.iload_n 1, 1) := by decide +kernel
theorem zf220_1 : fetch 220 1 = some (.ifCond .lt 15, 3) := by decide +kernel
theorem zf220_16 : fetch 220 16 = some (.iconst 0, 1) := by decide +kernel
theorem zf220_17 : fetch 220 17 = some (.ireturn, 1) := by decide +kernel
theorem zf220_4 : fetch 220 4 = some (.iload_n 1, 1) := by decide +kernel
theorem zf220_5 : fetch 220 5 = some (.aload_n 0, 1) := by decide +kernel
theorem zf220_6 : fetch 220 6 = some (.getfield 294, 3) := by decide +kernel
theorem zf220_9 : fetch 220 9 = some (.if_icmp .ge 7, 3) := by decide +kernel
theorem zf220_12 : fetch 220 12 = some (.iconst 1, 1) := by decide +kernel
theorem zf220_13 : fetch 220 13 = some (.goto 4, 3) := by decide +kernel
theorem zf222_0 : fetch 222 0 = some (.iload_n 1, 1) := by decide +kernel
theorem zf222_1 : fetch 222 1 = some (.ifCond .lt 15, 3) := by decide +kernel
theorem zf222_16 : fetch 222 16 = some (.iconst 0, 1) := by decide +kernel
theorem zf222_17 : fetch 222 17 = some (.ireturn, 1) := by decide +kernel
theorem zf222_4 : fetch 222 4 = some (.iload_n 1, 1) := by decide +kernel
theorem zf222_5 : fetch 222 5 = some (.aload_n 0, 1) := by decide +kernel
theorem zf222_6 : fetch 222 6 = some (.getfield 297, 3) := by decide +kernel
theorem zf222_9 : fetch 222 9 = some (.if_icmp .ge 7, 3) := by decide +kernel
theorem zf222_12 : fetch 222 12 = some (.iconst 1, 1) := by decide +kernel
theorem zf222_13 : fetch 222 13 = some (.goto 4, 3) := by decide +kernel
theorem zf221_26 : fetch 221 26 = some (.putfield 96, 3) := by decide +kernel
theorem zf221_29 : fetch 221 29 = some (.aload_n 0, 1) := by decide +kernel
theorem zf221_30 : fetch 221 30 = some (.getfield 96, 3) := by decide +kernel
theorem zf221_33 : fetch 221 33 = some (.ifCond .le 5, 3) := by decide +kernel
theorem zf221_38 : fetch 221 38 = some (.iload_n 2, 1) := by decide +kernel
theorem zf221_39 : fetch 221 39 = some (.iconst 2, 1) := by decide +kernel
theorem zf221_40 : fetch 221 40 = some (.if_icmp .ge 12, 3) := by decide +kernel
theorem zf221_52 : fetch 221 52 = some (.aload_n 0, 1) := by decide +kernel
theorem zf221_53 : fetch 221 53 = some (.getfield 61, 3) := by decide +kernel
theorem zf221_56 : fetch 221 56 = some (.iload_n 1, 1) := by decide +kernel
theorem zf221_57 : fetch 221 57 = some (.invokestatic 300, 3) := by decide +kernel
theorem zf221_60 : fetch 221 60 = some (.iload_n 2, 1) := by decide +kernel
theorem zf221_61 : fetch 221 61 = some (.iadd, 1) := by decide +kernel
theorem zf221_62 : fetch 221 62 = some (.iconst 2, 1) := by decide +kernel
theorem zf221_63 : fetch 221 63 = some (.isub, 1) := by decide +kernel
theorem zf221_64 : fetch 221 64 = some (.iaload, 1) := by decide +kernel
theorem zf221_65 : fetch 221 65 = some (.ireturn, 1) := by decide +kernel
theorem zf221_43 : fetch 221 43 = some (.aload_n 0, 1) := by decide +kernel
theorem zf221_44 : fetch 221 44 = some (.iload_n 1, 1) := by decide +kernel
theorem zf221_45 : fetch 221 45 = some (.iload_n 2, 1) := by decide +kernel
theorem zf221_46 : fetch 221 46 = some (.invokevirtual 315, 3) := by decide +kernel
theorem zf221_49 : fetch 221 49 = some (.goto 16, 3) := by decide +kernel
theorem zf221_36 : fetch 221 36 = some (.iconst 0, 1) := by decide +kernel
theorem zf221_37 : fetch 221 37 = some (.ireturn, 1) := by decide +kernel
theorem zf227_0 : fetch 227 0 = some (.aload_n 0, 1) := by decide +kernel
theorem zf227_1 : fetch 227 1 = some (.aload_n 1, 1) := by decide +kernel
theorem zf227_2 : fetch 227 2 = some (.iload_n 2, 1) := by decide +kernel
theorem zf227_3 : fetch 227 3 = some (.invokevirtual 342, 3) := by decide +kernel
theorem zf227_6 : fetch 227 6 = some (.ifCond .eq 38, 3) := by decide +kernel
theorem zf227_44 : fetch 227 44 = some (.iconst 0, 1) := by decide +kernel
theorem zf227_45 : fetch 227 45 = some (.ireturn, 1) := by decide +kernel
theorem zf227_9 : fetch 227 9 = some (.iload 4, 2) := by decide +kernel
theorem zf227_11 : fetch 227 11 = some (.i2l, 1) := by decide +kernel
theorem zf227_12 : fetch 227 12 = some (.lconst 0, 1) := by decide +kernel
theorem zf227_13 : fetch 227 13 = some (.lconst 1, 1) := by decide +kernel
theorem zf227_14 : fetch 227 14 = some (.invokestatic 217, 3) := by decide +kernel
theorem zf227_17 : fetch 227 17 = some (.ifCond .eq 27, 3) := by decide +kernel
theorem zf227_20 : fetch 227 20 = some (.iload_n 3, 1) := by decide +kernel
theorem zf227_21 : fetch 227 21 = some (.i2l, 1) := by decide +kernel
theorem zf227_22 : fetch 227 22 = some (.lconst 1, 1) := by decide +kernel
theorem zf227_23 : fetch 227 23 = some (.ldc2_w 346, 3) := by decide +kernel
theorem zf227_26 : fetch 227 26 = some (.invokestatic 217, 3) := by decide +kernel
theorem zf227_29 : fetch 227 29 = some (.ifCond .eq 15, 3) := by decide +kernel
theorem zf227_32 : fetch 227 32 = some (.iload_n 3, 1) := by decide +kernel
theorem zf227_33 : fetch 227 33 = some (.aload_n 1, 1) := by decide +kernel
theorem zf227_34 : fetch 227 34 = some (.bipush 31, 2) := by decide +kernel
theorem zf227_36 : fetch 227 36 = some (.iaload, 1) := by decide +kernel
theorem zf227_37 : fetch 227 37 = some (.if_icmp .gt 7, 3) := by decide +kernel
theorem zf227_40 : fetch 227 40 = some (.iconst 1, 1) := by decide +kernel
theorem zf227_41 : fetch 227 41 = some (.goto 4, 3) := by decide +kernel
theorem zf217_0 : fetch 217 0 = some (.bipush 16, 2) := by decide +kernel
theorem zf217_2 : fetch 217 2 = some (.iconst 3, 1) := by decide +kernel
theorem zf217_3 : fetch 217 3 = some (.iload_n 0, 1) := by decide +kernel
theorem zf217_4 : fetch 217 4 = some (.imul, 1) := by decide +kernel
theorem zf217_5 : fetch 217 5 = some (.iadd, 1) := by decide +kernel
theorem zf217_6 : fetch 217 6 = some (.ireturn, 1) := by decide +kernel
theorem zf76_0 : fetch 76 0 = some (.iload_n 0, 1) := by decide +kernel
theorem zf76_1 : fetch 76 1 = some (.iload_n 0, 1) := by decide +kernel
theorem zf76_2 : fetch 76 2 = some (.iconst 1, 1) := by decide +kernel
theorem zf76_3 : fetch 76 3 = some (.iushr, 1) := by decide +kernel
theorem zf76_4 : fetch 76 4 = some (.ldc_w 265, 3) := by decide +kernel
theorem zf76_7 : fetch 76 7 = some (.iand, 1) := by decide +kernel
theorem zf76_8 : fetch 76 8 = some (.isub, 1) := by decide +kernel
theorem zf76_9 : fetch 76 9 = some (.istore_n 0, 1) := by decide +kernel
theorem zf76_10 : fetch 76 10 = some (.iload_n 0, 1) := by decide +kernel
theorem zf76_11 : fetch 76 11 = some (.ldc_w 266, 3) := by decide +kernel
theorem zf76_14 : fetch 76 14 = some (.iand, 1) := by decide +kernel
theorem zf76_15 : fetch 76 15 = some (.iload_n 0, 1) := by decide +kernel
theorem zf76_16 : fetch 76 16 = some (.iconst 2, 1) := by decide +kernel
theorem zf76_17 : fetch 76 17 = some (.iushr, 1) := by decide +kernel
theorem zf76_18 : fetch 76 18 = some (.ldc_w 266, 3) := by decide +kernel
theorem zf76_21 : fetch 76 21 = some (.iand, 1) := by decide +kernel
theorem zf76_22 : fetch 76 22 = some (.iadd, 1) := by decide +kernel
theorem zf76_23 : fetch 76 23 = some (.istore_n 0, 1) := by decide +kernel
theorem zf76_24 : fetch 76 24 = some (.iload_n 0, 1) := by decide +kernel
theorem zf76_25 : fetch 76 25 = some (.iload_n 0, 1) := by decide +kernel
theorem zf76_26 : fetch 76 26 = some (.iconst 4, 1) := by decide +kernel
theorem zf76_27 : fetch 76 27 = some (.iushr, 1) := by decide +kernel
theorem zf76_28 : fetch 76 28 = some (.iadd, 1) := by decide +kernel
theorem zf76_29 : fetch 76 29 = some (.ldc_w 267, 3) := by decide +kernel
theorem zf76_32 : fetch 76 32 = some (.iand, 1) := by decide +kernel
theorem zf76_33 : fetch 76 33 = some (.istore_n 0, 1) := by decide +kernel
theorem zf76_34 : fetch 76 34 = some (.iload_n 0, 1) := by decide +kernel
theorem zf76_35 : fetch 76 35 = some (.iload_n 0, 1) := by decide +kernel
theorem zf76_36 : fetch 76 36 = some (.bipush 8, 2) := by decide +kernel
theorem zf76_38 : fetch 76 38 = some (.iushr, 1) := by decide +kernel
theorem zf76_39 : fetch 76 39 = some (.iadd, 1) := by decide +kernel
theorem zf76_40 : fetch 76 40 = some (.istore_n 0, 1) := by decide +kernel
theorem zf76_41 : fetch 76 41 = some (.iload_n 0, 1) := by decide +kernel
theorem zf76_42 : fetch 76 42 = some (.iload_n 0, 1) := by decide +kernel
theorem zf76_43 : fetch 76 43 = some (.bipush 16, 2) := by decide +kernel
theorem zf76_45 : fetch 76 45 = some (.iushr, 1) := by decide +kernel
theorem zf76_46 : fetch 76 46 = some (.iadd, 1) := by decide +kernel
theorem zf76_47 : fetch 76 47 = some (.istore_n 0, 1) := by decide +kernel
theorem zf76_48 : fetch 76 48 = some (.iload_n 0, 1) := by decide +kernel
theorem zf76_49 : fetch 76 49 = some (.bipush 63, 2) := by decide +kernel
theorem zf76_51 : fetch 76 51 = some (.iand, 1) := by decide +kernel
theorem zf76_52 : fetch 76 52 = some (.ireturn, 1) := by decide +kernel
theorem zf229_0 : fetch 229 0 = some (.aload_n 0, 1) := by decide +kernel
theorem zf229_1 : fetch 229 1 = some (.getfield 309, 3) := by decide +kernel
theorem zf229_4 : fetch 229 4 = some (.bipush 40, 2) := by decide +kernel
theorem zf229_6 : fetch 229 6 = some (.if_icmp .ne 44, 3) := by decide +kernel
theorem zf229_50 : fetch 229 50 = some (.iconst 0, 1) := by decide +kernel
theorem zf229_51 : fetch 229 51 = some (.istore_n 1, 1) := by decide +kernel
theorem zf229_9 : fetch 229 9 = some (.iconst 0, 1) := by decide +kernel
theorem zf229_10 : fetch 229 10 = some (.istore_n 1, 1) := by decide +kernel
theorem zf230_0 : fetch 230 0 = some (.aload_n 1, 1) := by decide +kernel
theorem zf230_1 : fetch 230 1 = some (.iload_n 2, 1) := by decide +kernel
theorem zf230_2 : fetch 230 2 = some (.invokestatic 300, 3) := by decide +kernel
theorem zf230_5 : fetch 230 5 = some (.iaload, 1) := by decide +kernel
theorem zf230_6 : fetch 230 6 = some (.istore 6, 2) := by decide +kernel
theorem zf230_8 : fetch 230 8 = some (.aload_n 0, 1) := by decide +kernel
theorem zf230_9 : fetch 230 9 = some (.aload_n 0, 1) := by decide +kernel
theorem zf230_10 : fetch 230 10 = some (.aload_n 1, 1) := by decide +kernel
theorem zf230_11 : fetch 230 11 = some (.iload_n 2, 1) := by decide +kernel
theorem zf230_12 : fetch 230 12 = some (.iload 6, 2) := by decide +kernel
theorem zf230_14 : fetch 230 14 = some (.iload_n 3, 1) := by decide +kernel
theorem zf230_15 : fetch 230 15 = some (.iload 4, 2) := by decide +kernel
theorem zf230_17 : fetch 230 17 = some (.invokevirtual 348, 3) := by decide +kernel
theorem zf230_20 : fetch 230 20 = some (.invokevirtual 352, 3) := by decide +kernel
theorem zf230_23 : fetch 230 23 = some (.istore 7, 2) := by decide +kernel
theorem zf230_25 : fetch 230 25 = some (.aload_n 1, 1) := by decide +kernel
theorem zf230_26 : fetch 230 26 = some (.bipush 31, 2) := by decide +kernel
theorem zf230_28 : fetch 230 28 = some (.dup2, 1) := by decide +kernel
theorem zf230_29 : fetch 230 29 = some (.iaload, 1) := by decide +kernel
theorem zf230_30 : fetch 230 30 = some (.iload_n 3, 1) := by decide +kernel
theorem zf230_31 : fetch 230 31 = some (.isub, 1) := by decide +kernel
theorem zf230_32 : fetch 230 32 = some (.iastore, 1) := by decide +kernel
theorem zf230_33 : fetch 230 33 = some (.iload 7, 2) := by decide +kernel
theorem zf230_35 : fetch 230 35 = some (.iconst (-1), 1) := by decide +kernel
theorem zf230_36 : fetch 230 36 = some (.if_icmp .ne 15, 3) := by decide +kernel
theorem zf230_51 : fetch 230 51 = some (.aload_n 1, 1) := by decide +kernel
theorem zf230_52 : fetch 230 52 = some (.iconst 0, 1) := by decide +kernel
theorem zf230_53 : fetch 230 53 = some (.iload 7, 2) := by decide +kernel
theorem zf230_55 : fetch 230 55 = some (.iadd, 1) := by decide +kernel
theorem zf230_56 : fetch 230 56 = some (.iaload, 1) := by decide +kernel
theorem zf230_57 : fetch 230 57 = some (.ifCond .le 16, 3) := by decide +kernel
theorem zf230_73 : fetch 230 73 = some (.aload_n 1, 1) := by decide +kernel
theorem zf230_74 : fetch 230 74 = some (.iload_n 2, 1) := by decide +kernel
theorem zf230_75 : fetch 230 75 = some (.invokestatic 300, 3) := by decide +kernel
theorem zf230_78 : fetch 230 78 = some (.iconst 1, 1) := by decide +kernel
theorem zf230_79 : fetch 230 79 = some (.iadd, 1) := by decide +kernel
theorem zf230_80 : fetch 230 80 = some (.bipush 99, 2) := by decide +kernel
theorem zf230_82 : fetch 230 82 = some (.aload_n 1, 1) := by decide +kernel
theorem zf230_83 : fetch 230 83 = some (.iload_n 2, 1) := by decide +kernel
theorem zf230_84 : fetch 230 84 = some (.invokestatic 300, 3) := by decide +kernel
theorem zf230_87 : fetch 230 87 = some (.iconst 1, 1) := by decide +kernel
theorem zf230_88 : fetch 230 88 = some (.iadd, 1) := by decide +kernel
theorem zf230_89 : fetch 230 89 = some (.iaload, 1) := by decide +kernel
theorem zf230_90 : fetch 230 90 = some (.iconst 1, 1) := by decide +kernel
theorem zf230_91 : fetch 230 91 = some (.iadd, 1) := by decide +kernel
theorem zf230_92 : fetch 230 92 = some (.invokestatic 318, 3) := by decide +kernel
theorem zf230_95 : fetch 230 95 = some (.iastore, 1) := by decide +kernel
theorem zf230_60 : fetch 230 60 = some (.aload_n 1, 1) := by decide +kernel
theorem zf230_61 : fetch 230 61 = some (.iconst 0, 1) := by decide +kernel
theorem zf230_62 : fetch 230 62 = some (.iload 7, 2) := by decide +kernel
theorem zf230_64 : fetch 230 64 = some (.iadd, 1) := by decide +kernel
theorem zf230_65 : fetch 230 65 = some (.dup2, 1) := by decide +kernel
theorem zf230_66 : fetch 230 66 = some (.iaload, 1) := by decide +kernel
theorem zf230_67 : fetch 230 67 = some (.iconst 1, 1) := by decide +kernel
theorem zf230_68 : fetch 230 68 = some (.isub, 1) := by decide +kernel
theorem zf230_69 : fetch 230 69 = some (.iastore, 1) := by decide +kernel
theorem zf230_70 : fetch 230 70 = some (.goto 26, 3) := by decide +kernel
theorem zf230_39 : fetch 230 39 = some (.aload_n 1, 1) := by decide +kernel
theorem zf230_40 : fetch 230 40 = some (.iload_n 2, 1) := by decide +kernel
theorem zf230_41 : fetch 230 41 = some (.invokestatic 300, 3) := by decide +kernel
theorem zf230_44 : fetch 230 44 = some (.iconst 2, 1) := by decide +kernel
theorem zf230_45 : fetch 230 45 = some (.iadd, 1) := by decide +kernel
theorem zf230_46 : fetch 230 46 = some (.iconst 2, 1) := by decide +kernel
theorem zf230_47 : fetch 230 47 = some (.iastore, 1) := by decide +kernel
theorem zf230_48 : fetch 230 48 = some (.goto 68, 3) := by decide +kernel
theorem zf230_116 : fetch 230 116 = some (.aload_n 1, 1) := by decide +kernel
theorem zf230_117 : fetch 230 117 = some (.bipush 36, 2) := by decide +kernel
theorem zf230_119 : fetch 230 119 = some (.iaload, 1) := by decide +kernel
theorem zf230_120 : fetch 230 120 = some (.bipush 60, 2) := by decide +kernel
theorem zf230_122 : fetch 230 122 = some (.if_icmp .ne 44, 3) := by decide +kernel
theorem zf230_125 : fetch 230 125 = some (.iconst 1, 1) := by decide +kernel
theorem zf230_126 : fetch 230 126 = some (.istore 8, 2) := by decide +kernel
theorem zf238_0 : fetch 238 0 = some (.aload_n 0, 1) := by decide +kernel
theorem zf238_1 : fetch 238 1 = some (.iload_n 2, 1) := by decide +kernel
theorem zf238_2 : fetch 238 2 = some (.invokevirtual 362, 3) := by decide +kernel
theorem zf238_5 : fetch 238 5 = some (.ifCond .eq 32, 3) := by decide +kernel
theorem zf238_37 : fetch 238 37 = some (.iconst 0, 1) := by decide +kernel
theorem zf238_38 : fetch 238 38 = some (.ireturn, 1) := by decide +kernel
theorem zf238_8 : fetch 238 8 = some (.iload_n 3, 1) := by decide +kernel
theorem zf238_9 : fetch 238 9 = some (.i2l, 1) := by decide +kernel
theorem zf238_10 : fetch 238 10 = some (.lconst 0, 1) := by decide +kernel
theorem zf238_11 : fetch 238 11 = some (.ldc2_w 384, 3) := by decide +kernel
theorem zf238_14 : fetch 238 14 = some (.invokestatic 217, 3) := by decide +kernel
theorem zf238_17 : fetch 238 17 = some (.ifCond .eq 20, 3) := by decide +kernel
theorem zf238_20 : fetch 238 20 = some (.aload_n 1, 1) := by decide +kernel
theorem zf238_21 : fetch 238 21 = some (.bipush 8, 2) := by decide +kernel
theorem zf238_23 : fetch 238 23 = some (.iload_n 2, 1) := by decide +kernel
theorem zf238_24 : fetch 238 24 = some (.iadd, 1) := by decide +kernel
theorem zf238_25 : fetch 238 25 = some (.iaload, 1) := by decide +kernel
theorem zf238_26 : fetch 238 26 = some (.iload_n 3, 1) := by decide +kernel
theorem zf238_27 : fetch 238 27 = some (.invokestatic 229, 3) := by decide +kernel
theorem zf238_30 : fetch 238 30 = some (.ifCond .ne 7, 3) := by decide +kernel
theorem zf238_33 : fetch 238 33 = some (.iconst 1, 1) := by decide +kernel
theorem zf238_34 : fetch 238 34 = some (.goto 4, 3) := by decide +kernel
theorem zf242_0 : fetch 242 0 = some (.aload_n 0, 1) := by decide +kernel
theorem zf242_1 : fetch 242 1 = some (.getfield 294, 3) := by decide +kernel
theorem zf242_4 : fetch 242 4 = some (.ifCond .le 45, 3) := by decide +kernel
theorem zf242_49 : fetch 242 49 = some (.iconst 0, 1) := by decide +kernel
theorem zf242_50 : fetch 242 50 = some (.ireturn, 1) := by decide +kernel
theorem zf242_7 : fetch 242 7 = some (.iload_n 2, 1) := by decide +kernel
theorem zf242_8 : fetch 242 8 = some (.i2l, 1) := by decide +kernel
theorem zf242_9 : fetch 242 9 = some (.lconst 0, 1) := by decide +kernel
theorem zf242_10 : fetch 242 10 = some (.ldc2_w 367, 3) := by decide +kernel
theorem zf242_13 : fetch 242 13 = some (.invokestatic 217, 3) := by decide +kernel
theorem zf242_16 : fetch 242 16 = some (.ifCond .eq 33, 3) := by decide +kernel
theorem zf242_19 : fetch 242 19 = some (.iload_n 3, 1) := by decide +kernel
theorem zf242_20 : fetch 242 20 = some (.i2l, 1) := by decide +kernel
theorem zf242_21 : fetch 242 21 = some (.lconst 0, 1) := by decide +kernel
theorem zf242_22 : fetch 242 22 = some (.lconst 1, 1) := by decide +kernel
theorem zf242_23 : fetch 242 23 = some (.invokestatic 217, 3) := by decide +kernel
theorem zf242_26 : fetch 242 26 = some (.ifCond .eq 23, 3) := by decide +kernel
theorem zf242_29 : fetch 242 29 = some (.aload_n 1, 1) := by decide +kernel
theorem zf242_30 : fetch 242 30 = some (.bipush 32, 2) := by decide +kernel
theorem zf242_32 : fetch 242 32 = some (.iaload, 1) := by decide +kernel
theorem zf242_33 : fetch 242 33 = some (.iload_n 2, 1) := by decide +kernel
theorem zf242_34 : fetch 242 34 = some (.if_icmp .ne 11, 3) := by decide +kernel
theorem zf242_45 : fetch 242 45 = some (.iconst 1, 1) := by decide +kernel
theorem zf242_46 : fetch 242 46 = some (.goto 4, 3) := by decide +kernel
theorem zf242_37 : fetch 242 37 = some (.aload_n 1, 1) := by decide +kernel
theorem zf242_38 : fetch 242 38 = some (.bipush 33, 2) := by decide +kernel
theorem zf242_40 : fetch 242 40 = some (.iaload, 1) := by decide +kernel
theorem zf242_41 : fetch 242 41 = some (.iload_n 3, 1) := by decide +kernel
theorem zf242_42 : fetch 242 42 = some (.if_icmp .eq 7, 3) := by decide +kernel
theorem zf243_0 : fetch 243 0 = some (.aload_n 0, 1) := by decide +kernel
theorem zf243_1 : fetch 243 1 = some (.bipush 32, 2) := by decide +kernel
theorem zf243_3 : fetch 243 3 = some (.iload_n 1, 1) := by decide +kernel
theorem zf243_4 : fetch 243 4 = some (.iastore, 1) := by decide +kernel
theorem zf243_5 : fetch 243 5 = some (.aload_n 0, 1) := by decide +kernel
theorem zf243_6 : fetch 243 6 = some (.bipush 33, 2) := by decide +kernel
theorem zf243_8 : fetch 243 8 = some (.iload_n 2, 1) := by decide +kernel
theorem zf243_9 : fetch 243 9 = some (.iastore, 1) := by decide +kernel
theorem zf243_10 : fetch 243 10 = some (.return_, 1) := by decide +kernel
theorem zf246_0 : fetch 246 0 = some (.aload_n 0, 1) := by decide +kernel
theorem zf246_1 : fetch 246 1 = some (.getfield 294, 3) := by decide +kernel
theorem zf246_4 : fetch 246 4 = some (.ifCond .le 30, 3) := by decide +kernel
theorem zf246_34 : fetch 246 34 = some (.iconst 0, 1) := by decide +kernel
theorem zf246_35 : fetch 246 35 = some (.ireturn, 1) := by decide +kernel
theorem zf246_7 : fetch 246 7 = some (.iload_n 2, 1) := by decide +kernel
theorem zf246_8 : fetch 246 8 = some (.i2l, 1) := by decide +kernel
theorem zf246_9 : fetch 246 9 = some (.lconst 1, 1) := by decide +kernel
theorem zf246_10 : fetch 246 10 = some (.iload_n 3, 1) := by decide +kernel
theorem zf246_11 : fetch 246 11 = some (.i2l, 1) := by decide +kernel
theorem zf246_12 : fetch 246 12 = some (.invokestatic 217, 3) := by decide +kernel
theorem zf246_15 : fetch 246 15 = some (.ifCond .eq 19, 3) := by decide +kernel
theorem zf246_18 : fetch 246 18 = some (.aload_n 1, 1) := by decide +kernel
theorem zf246_19 : fetch 246 19 = some (.bipush 35, 2) := by decide +kernel
theorem zf246_21 : fetch 246 21 = some (.iaload, 1) := by decide +kernel
theorem zf246_22 : fetch 246 22 = some (.iload_n 2, 1) := by decide +kernel
theorem zf246_23 : fetch 246 23 = some (.iadd, 1) := by decide +kernel
theorem zf246_24 : fetch 246 24 = some (.sipush 9999, 3) := by decide +kernel
theorem zf246_27 : fetch 246 27 = some (.if_icmp .gt 7, 3) := by decide +kernel
theorem zf246_30 : fetch 246 30 = some (.iconst 1, 1) := by decide +kernel
theorem zf246_31 : fetch 246 31 = some (.goto 4, 3) := by decide +kernel
theorem zf245_23 : fetch 245 23 = some (.iload_n 2, 1) := by decide +kernel
theorem zf245_24 : fetch 245 24 = some (.iload_n 1, 1) := by decide +kernel
theorem zf245_25 : fetch 245 25 = some (.if_icmp .ge 21, 3) := by decide +kernel
theorem zf245_46 : fetch 245 46 = some (.aload_n 0, 1) := by decide +kernel
theorem zf245_47 : fetch 245 47 = some (.getfield 61, 3) := by decide +kernel
theorem zf245_50 : fetch 245 50 = some (.bipush 35, 2) := by decide +kernel
theorem zf245_52 : fetch 245 52 = some (.iaload, 1) := by decide +kernel
theorem zf245_53 : fetch 245 53 = some (.ireturn, 1) := by decide +kernel
theorem zf245_28 : fetch 245 28 = some (.aload_n 0, 1) := by decide +kernel
theorem zf245_29 : fetch 245 29 = some (.invokevirtual 378, 3) := by decide +kernel
theorem zf245_32 : fetch 245 32 = some (.aload_n 0, 1) := by decide +kernel
theorem zf245_33 : fetch 245 33 = some (.aload_n 0, 1) := by decide +kernel
theorem zf245_34 : fetch 245 34 = some (.getfield 61, 3) := by decide +kernel
theorem zf245_37 : fetch 245 37 = some (.invokevirtual 402, 3) := by decide +kernel
theorem zf245_40 : fetch 245 40 = some (.iinc 2 1, 3) := by decide +kernel
theorem zf245_43 : fetch 245 43 = some (.goto (-20), 3) := by decide +kernel
theorem zf248_29 : fetch 248 29 = some (.iload 4, 2) := by decide +kernel
theorem zf248_31 : fetch 248 31 = some (.iload_n 1, 1) := by decide +kernel
theorem zf248_32 : fetch 248 32 = some (.if_icmp .ge 121, 3) := by decide +kernel
theorem zf248_153 : fetch 248 153 = some (.aload_n 0, 1) := by decide +kernel
theorem zf248_154 : fetch 248 154 = some (.getfield 61, 3) := by decide +kernel
theorem zf248_157 : fetch 248 157 = some (.bipush 35, 2) := by decide +kernel
theorem zf248_159 : fetch 248 159 = some (.iaload, 1) := by decide +kernel
theorem zf248_160 : fetch 248 160 = some (.ireturn, 1) := by decide +kernel
theorem zf248_35 : fetch 248 35 = some (.aload_n 0, 1) := by decide +kernel
theorem zf248_36 : fetch 248 36 = some (.invokevirtual 378, 3) := by decide +kernel
theorem zf248_39 : fetch 248 39 = some (.aload_n 0, 1) := by decide +kernel
theorem zf248_40 : fetch 248 40 = some (.bipush 10, 2) := by decide +kernel
theorem zf248_42 : fetch 248 42 = some (.invokevirtual 414, 3) := by decide +kernel
theorem zf248_45 : fetch 248 45 = some (.aload_n 0, 1) := by decide +kernel
theorem zf248_46 : fetch 248 46 = some (.getfield 369, 3) := by decide +kernel
theorem zf248_49 : fetch 248 49 = some (.if_icmp .ge 16, 3) := by decide +kernel
theorem zf248_52 : fetch 248 52 = some (.aload_n 0, 1) := by decide +kernel
theorem zf248_53 : fetch 248 53 = some (.getfield 61, 3) := by decide +kernel
theorem zf248_56 : fetch 248 56 = some (.bipush 34, 2) := by decide +kernel
theorem zf248_58 : fetch 248 58 = some (.aload_n 0, 1) := by decide +kernel
theorem zf248_59 : fetch 248 59 = some (.bipush 10, 2) := by decide +kernel
theorem zf248_61 : fetch 248 61 = some (.invokevirtual 414, 3) := by decide +kernel
theorem zf248_64 : fetch 248 64 = some (.iastore, 1) := by decide +kernel
theorem zf251_26 : fetch 251 26 = some (.iload_n 1, 1) := by decide +kernel
theorem zf251_27 : fetch 251 27 = some (.sipush 277, 3) := by decide +kernel
theorem zf251_30 : fetch 251 30 = some (.if_icmp .ge 30, 3) := by decide +kernel
theorem zf251_60 : fetch 251 60 = some (.aload_n 0, 1) := by decide +kernel
theorem zf251_61 : fetch 251 61 = some (.getfield 309, 3) := by decide +kernel
theorem zf251_64 : fetch 251 64 = some (.ireturn, 1) := by decide +kernel
theorem zf251_33 : fetch 251 33 = some (.aload_n 0, 1) := by decide +kernel
theorem zf251_34 : fetch 251 34 = some (.getfield 61, 3) := by decide +kernel
theorem zf251_37 : fetch 251 37 = some (.iload_n 1, 1) := by decide +kernel
theorem zf251_38 : fetch 251 38 = some (.aload_n 0, 1) := by decide +kernel
theorem zf251_39 : fetch 251 39 = some (.getfield 71, 3) := by decide +kernel
theorem zf251_42 : fetch 251 42 = some (.sipush 277, 3) := by decide +kernel
theorem zf251_45 : fetch 251 45 = some (.aload_n 0, 1) := by decide +kernel
theorem zf251_46 : fetch 251 46 = some (.getfield 309, 3) := by decide +kernel
theorem zf251_49 : fetch 251 49 = some (.imul, 1) := by decide +kernel
theorem zf251_50 : fetch 251 50 = some (.iload_n 1, 1) := by decide +kernel
theorem zf251_51 : fetch 251 51 = some (.iadd, 1) := by decide +kernel
theorem zf251_52 : fetch 251 52 = some (.iaload, 1) := by decide +kernel
theorem zf251_53 : fetch 251 53 = some (.iastore, 1) := by decide +kernel
theorem zf251_54 : fetch 251 54 = some (.iinc 1 1, 3) := by decide +kernel
theorem zf251_57 : fetch 251 57 = some (.goto (-31), 3) := by decide +kernel
theorem zf254_0 : fetch 254 0 = some (.iload_n 1, 1) := by decide +kernel
theorem zf254_1 : fetch 254 1 = some (.ifCond .lt 15, 3) := by decide +kernel
theorem zf254_16 : fetch 254 16 = some (.iconst 0, 1) := by decide +kernel
theorem zf254_17 : fetch 254 17 = some (.ireturn, 1) := by decide +kernel
theorem zf254_4 : fetch 254 4 = some (.iload_n 1, 1) := by decide +kernel
theorem zf254_5 : fetch 254 5 = some (.aload_n 0, 1) := by decide +kernel
theorem zf254_6 : fetch 254 6 = some (.getfield 289, 3) := by decide +kernel
theorem zf254_9 : fetch 254 9 = some (.if_icmp .ge 7, 3) := by decide +kernel
theorem zf254_12 : fetch 254 12 = some (.iconst 1, 1) := by decide +kernel
theorem zf254_13 : fetch 254 13 = some (.goto 4, 3) := by decide +kernel
theorem zf256_0 : fetch 256 0 = some (.bipush 37, 2) := by decide +kernel
theorem zf256_2 : fetch 256 2 = some (.iconst 4, 1) := by decide +kernel
theorem zf256_3 : fetch 256 3 = some (.aload_n 0, 1) := by decide +kernel
theorem zf256_4 : fetch 256 4 = some (.bipush 36, 2) := by decide +kernel
theorem zf256_6 : fetch 256 6 = some (.iaload, 1) := by decide +kernel
theorem zf256_7 : fetch 256 7 = some (.imul, 1) := by decide +kernel
theorem zf256_8 : fetch 256 8 = some (.iadd, 1) := by decide +kernel
theorem zf256_9 : fetch 256 9 = some (.istore_n 2, 1) := by decide +kernel
theorem zf256_10 : fetch 256 10 = some (.iconst 0, 1) := by decide +kernel
theorem zf256_11 : fetch 256 11 = some (.istore_n 3, 1) := by decide +kernel
theorem zf255_47 : fetch 255 47 = some (.iload_n 3, 1) := by decide +kernel
theorem zf255_48 : fetch 255 48 = some (.aload_n 0, 1) := by decide +kernel
theorem zf255_49 : fetch 255 49 = some (.getfield 58, 3) := by decide +kernel
theorem zf255_52 : fetch 255 52 = some (.iload_n 1, 1) := by decide +kernel
theorem zf255_53 : fetch 255 53 = some (.iaload, 1) := by decide +kernel
theorem zf255_54 : fetch 255 54 = some (.if_icmp .ge 68, 3) := by decide +kernel
theorem zf255_57 : fetch 255 57 = some (.aload_n 0, 1) := by decide +kernel
theorem zf255_58 : fetch 255 58 = some (.aload_n 0, 1) := by decide +kernel
theorem zf255_59 : fetch 255 59 = some (.getfield 64, 3) := by decide +kernel
theorem zf255_62 : fetch 255 62 = some (.iconst 4, 1) := by decide +kernel
theorem zf255_63 : fetch 255 63 = some (.bipush 16, 2) := by decide +kernel
theorem zf255_65 : fetch 255 65 = some (.iload_n 1, 1) := by decide +kernel
theorem zf255_66 : fetch 255 66 = some (.imul, 1) := by decide +kernel
theorem zf255_67 : fetch 255 67 = some (.iload_n 3, 1) := by decide +kernel
theorem zf255_68 : fetch 255 68 = some (.iadd, 1) := by decide +kernel
theorem zf255_69 : fetch 255 69 = some (.imul, 1) := by decide +kernel
theorem zf255_70 : fetch 255 70 = some (.invokevirtual 429, 3) := by decide +kernel
theorem zf255_73 : fetch 255 73 = some (.ifCond .eq 49, 3) := by decide +kernel
theorem zf255_76 : fetch 255 76 = some (.iconst 4, 1) := by decide +kernel
theorem zf255_77 : fetch 255 77 = some (.bipush 16, 2) := by decide +kernel
theorem zf255_79 : fetch 255 79 = some (.iload_n 1, 1) := by decide +kernel
theorem zf255_80 : fetch 255 80 = some (.imul, 1) := by decide +kernel
theorem zf255_81 : fetch 255 81 = some (.iload_n 3, 1) := by decide +kernel
theorem zf255_82 : fetch 255 82 = some (.iadd, 1) := by decide +kernel
theorem zf255_83 : fetch 255 83 = some (.imul, 1) := by decide +kernel
theorem zf255_84 : fetch 255 84 = some (.istore 4, 2) := by decide +kernel
theorem zf255_86 : fetch 255 86 = some (.iconst 0, 1) := by decide +kernel
theorem zf255_87 : fetch 255 87 = some (.istore 5, 2) := by decide +kernel
theorem zf260_24 : fetch 260 24 = some (.iload_n 2, 1) := by decide +kernel
theorem zf260_25 : fetch 260 25 = some (.aload_n 0, 1) := by decide +kernel
theorem zf260_26 : fetch 260 26 = some (.getfield 58, 3) := by decide +kernel
theorem zf260_29 : fetch 260 29 = some (.iload_n 1, 1) := by decide +kernel
theorem zf260_30 : fetch 260 30 = some (.iaload, 1) := by decide +kernel
theorem zf260_31 : fetch 260 31 = some (.if_icmp .ge 69, 3) := by decide +kernel
theorem zf260_100 : fetch 260 100 = some (.iload_n 2, 1) := by decide +kernel
theorem zf260_101 : fetch 260 101 = some (.ireturn, 1) := by decide +kernel
theorem zf260_34 : fetch 260 34 = some (.aload_n 0, 1) := by decide +kernel
theorem zf260_35 : fetch 260 35 = some (.aload_n 0, 1) := by decide +kernel
theorem zf260_36 : fetch 260 36 = some (.getfield 61, 3) := by decide +kernel
theorem zf260_39 : fetch 260 39 = some (.iconst 4, 1) := by decide +kernel
theorem zf260_40 : fetch 260 40 = some (.bipush 16, 2) := by decide +kernel
theorem zf260_42 : fetch 260 42 = some (.iload_n 1, 1) := by decide +kernel
theorem zf260_43 : fetch 260 43 = some (.imul, 1) := by decide +kernel
theorem zf260_44 : fetch 260 44 = some (.iload_n 2, 1) := by decide +kernel
theorem zf260_45 : fetch 260 45 = some (.iadd, 1) := by decide +kernel
theorem zf260_46 : fetch 260 46 = some (.imul, 1) := by decide +kernel
theorem zf260_47 : fetch 260 47 = some (.invokevirtual 429, 3) := by decide +kernel
theorem zf260_50 : fetch 260 50 = some (.ifCond .eq 50, 3) := by decide +kernel
theorem zf260_53 : fetch 260 53 = some (.iconst 4, 1) := by decide +kernel
theorem zf260_54 : fetch 260 54 = some (.bipush 16, 2) := by decide +kernel
theorem zf260_56 : fetch 260 56 = some (.iload_n 1, 1) := by decide +kernel
theorem zf260_57 : fetch 260 57 = some (.imul, 1) := by decide +kernel
theorem zf260_58 : fetch 260 58 = some (.iload_n 2, 1) := by decide +kernel
theorem zf260_59 : fetch 260 59 = some (.iadd, 1) := by decide +kernel
theorem zf260_60 : fetch 260 60 = some (.imul, 1) := by decide +kernel
theorem zf260_61 : fetch 260 61 = some (.istore_n 3, 1) := by decide +kernel
theorem zf260_62 : fetch 260 62 = some (.iconst 0, 1) := by decide +kernel
theorem zf260_63 : fetch 260 63 = some (.istore 4, 2) := by decide +kernel
theorem zf262_0 : fetch 262 0 = some (.aload_n 0, 1) := by decide +kernel
theorem zf262_1 : fetch 262 1 = some (.iload_n 1, 1) := by decide +kernel
theorem zf262_2 : fetch 262 2 = some (.invokevirtual 339, 3) := by decide +kernel
theorem zf262_5 : fetch 262 5 = some (.ifCond .eq 38, 3) := by decide +kernel
theorem zf262_43 : fetch 262 43 = some (.iconst 0, 1) := by decide +kernel
theorem zf262_44 : fetch 262 44 = some (.ireturn, 1) := by decide +kernel
theorem zf262_8 : fetch 262 8 = some (.aload_n 0, 1) := by decide +kernel
theorem zf262_9 : fetch 262 9 = some (.iload_n 2, 1) := by decide +kernel
theorem zf262_10 : fetch 262 10 = some (.invokevirtual 362, 3) := by decide +kernel
theorem zf262_13 : fetch 262 13 = some (.ifCond .eq 30, 3) := by decide +kernel
theorem zf262_16 : fetch 262 16 = some (.iload_n 3, 1) := by decide +kernel
theorem zf262_17 : fetch 262 17 = some (.i2l, 1) := by decide +kernel
theorem zf262_18 : fetch 262 18 = some (.lconst 1, 1) := by decide +kernel
theorem zf262_19 : fetch 262 19 = some (.ldc2_w 346, 3) := by decide +kernel
theorem zf262_22 : fetch 262 22 = some (.invokestatic 217, 3) := by decide +kernel
theorem zf262_25 : fetch 262 25 = some (.ifCond .eq 18, 3) := by decide +kernel
theorem zf262_28 : fetch 262 28 = some (.iload 4, 2) := by decide +kernel
theorem zf262_30 : fetch 262 30 = some (.i2l, 1) := by decide +kernel
theorem zf262_31 : fetch 262 31 = some (.lconst 0, 1) := by decide +kernel
theorem zf262_32 : fetch 262 32 = some (.lconst 1, 1) := by decide +kernel
theorem zf262_33 : fetch 262 33 = some (.invokestatic 217, 3) := by decide +kernel
theorem zf262_36 : fetch 262 36 = some (.ifCond .eq 7, 3) := by decide +kernel
theorem zf262_39 : fetch 262 39 = some (.iconst 1, 1) := by decide +kernel
theorem zf262_40 : fetch 262 40 = some (.goto 4, 3) := by decide +kernel
theorem zf231_0 : fetch 231 0 = some (.aload_n 0, 1) := by decide +kernel
theorem zf231_1 : fetch 231 1 = some (.iload_n 2, 1) := by decide +kernel
theorem zf231_2 : fetch 231 2 = some (.iload_n 3, 1) := by decide +kernel
theorem zf231_3 : fetch 231 3 = some (.iload 4, 2) := by decide +kernel
theorem zf231_5 : fetch 231 5 = some (.iload 5, 2) := by decide +kernel
theorem zf231_7 : fetch 231 7 = some (.aload_n 1, 1) := by decide +kernel
theorem zf231_8 : fetch 231 8 = some (.bipush 32, 2) := by decide +kernel
theorem zf231_10 : fetch 231 10 = some (.iaload, 1) := by decide +kernel
theorem zf231_11 : fetch 231 11 = some (.aload_n 1, 1) := by decide +kernel
theorem zf231_12 : fetch 231 12 = some (.bipush 33, 2) := by decide +kernel
theorem zf231_14 : fetch 231 14 = some (.iaload, 1) := by decide +kernel
theorem zf231_15 : fetch 231 15 = some (.aload_n 1, 1) := by decide +kernel
theorem zf231_16 : fetch 231 16 = some (.bipush 34, 2) := by decide +kernel
theorem zf231_18 : fetch 231 18 = some (.iaload, 1) := by decide +kernel
theorem zf231_19 : fetch 231 19 = some (.invokevirtual 329, 3) := by decide +kernel
theorem zf231_22 : fetch 231 22 = some (.ireturn, 1) := by decide +kernel
theorem zf235_0 : fetch 235 0 = some (.aload_n 0, 1) := by decide +kernel
theorem zf235_1 : fetch 235 1 = some (.iload_n 1, 1) := by decide +kernel
theorem zf235_2 : fetch 235 2 = some (.invokevirtual 336, 3) := by decide +kernel
theorem zf235_5 : fetch 235 5 = some (.istore_n 2, 1) := by decide +kernel
theorem zf235_6 : fetch 235 6 = some (.aload_n 0, 1) := by decide +kernel
theorem zf235_7 : fetch 235 7 = some (.iload_n 2, 1) := by decide +kernel
theorem zf235_8 : fetch 235 8 = some (.invokevirtual 326, 3) := by decide +kernel
theorem zf235_11 : fetch 235 11 = some (.iload_n 1, 1) := by decide +kernel
theorem zf235_12 : fetch 235 12 = some (.isub, 1) := by decide +kernel
theorem zf235_13 : fetch 235 13 = some (.invokestatic 333, 3) := by decide +kernel
theorem zf235_16 : fetch 235 16 = some (.iconst 1, 1) := by decide +kernel
theorem zf235_17 : fetch 235 17 = some (.if_icmp .gt 7, 3) := by decide +kernel
theorem zf235_24 : fetch 235 24 = some (.iconst (-1), 1) := by decide +kernel
theorem zf235_25 : fetch 235 25 = some (.ireturn, 1) := by decide +kernel
theorem zf235_20 : fetch 235 20 = some (.iload_n 2, 1) := by decide +kernel
theorem zf235_21 : fetch 235 21 = some (.goto 4, 3) := by decide +kernel
theorem zf264_0 : fetch 264 0 = some (.iconst 0, 1) := by decide +kernel
theorem zf264_1 : fetch 264 1 = some (.istore_n 2, 1) := by decide +kernel
theorem zf265_0 : fetch 265 0 = some (.aload_n 0, 1) := by decide +kernel
theorem zf265_1 : fetch 265 1 = some (.getfield 74, 3) := by decide +kernel
theorem zf265_4 : fetch 265 4 = some (.bipush 8, 2) := by decide +kernel
theorem zf265_6 : fetch 265 6 = some (.bipush 8, 2) := by decide +kernel
theorem zf265_8 : fetch 265 8 = some (.iload_n 1, 1) := by decide +kernel
theorem zf265_9 : fetch 265 9 = some (.imul, 1) := by decide +kernel
theorem zf265_10 : fetch 265 10 = some (.iload_n 2, 1) := by decide +kernel
theorem zf265_11 : fetch 265 11 = some (.iadd, 1) := by decide +kernel
theorem zf265_12 : fetch 265 12 = some (.imul, 1) := by decide +kernel
theorem zf265_13 : fetch 265 13 = some (.iload_n 3, 1) := by decide +kernel
theorem zf265_14 : fetch 265 14 = some (.iadd, 1) := by decide +kernel
theorem zf265_15 : fetch 265 15 = some (.iaload, 1) := by decide +kernel
theorem zf265_16 : fetch 265 16 = some (.ireturn, 1) := by decide +kernel
theorem zf267_0 : fetch 267 0 = some (.aload_n 0, 1) := by decide +kernel
theorem zf267_1 : fetch 267 1 = some (.iload_n 1, 1) := by decide +kernel
theorem zf267_2 : fetch 267 2 = some (.invokevirtual 443, 3) := by decide +kernel
theorem zf267_5 : fetch 267 5 = some (.aload_n 0, 1) := by decide +kernel
theorem zf267_6 : fetch 267 6 = some (.iconst (-1), 1) := by decide +kernel
theorem zf267_7 : fetch 267 7 = some (.putfield 450, 3) := by decide +kernel
theorem zf267_10 : fetch 267 10 = some (.aload_n 0, 1) := by decide +kernel
theorem zf267_11 : fetch 267 11 = some (.iconst 0, 1) := by decide +kernel
theorem zf267_12 : fetch 267 12 = some (.putfield 453, 3) := by decide +kernel
theorem zf267_15 : fetch 267 15 = some (.aload_n 0, 1) := by decide +kernel
theorem zf267_16 : fetch 267 16 = some (.iconst 0, 1) := by decide +kernel
theorem zf267_17 : fetch 267 17 = some (.putfield 456, 3) := by decide +kernel
theorem zf267_20 : fetch 267 20 = some (.aload_n 0, 1) := by decide +kernel
theorem zf267_21 : fetch 267 21 = some (.iload_n 1, 1) := by decide +kernel
theorem zf267_22 : fetch 267 22 = some (.iload_n 2, 1) := by decide +kernel
theorem zf267_23 : fetch 267 23 = some (.iload_n 3, 1) := by decide +kernel
theorem zf267_24 : fetch 267 24 = some (.iconst 1, 1) := by decide +kernel
theorem zf267_25 : fetch 267 25 = some (.iload_n 2, 1) := by decide +kernel
theorem zf267_26 : fetch 267 26 = some (.ishl, 1) := by decide +kernel
theorem zf267_27 : fetch 267 27 = some (.iconst 0, 1) := by decide +kernel
theorem zf267_28 : fetch 267 28 = some (.iconst 0, 1) := by decide +kernel
theorem zf267_29 : fetch 267 29 = some (.iconst 0, 1) := by decide +kernel
theorem zf267_30 : fetch 267 30 = some (.invokevirtual 459, 3) := by decide +kernel
theorem zf267_33 : fetch 267 33 = some (.aload_n 0, 1) := by decide +kernel
theorem zf267_34 : fetch 267 34 = some (.getfield 450, 3) := by decide +kernel
theorem zf267_37 : fetch 267 37 = some (.iconst (-1), 1) := by decide +kernel
theorem zf267_38 : fetch 267 38 = some (.if_icmp .eq 7, 3) := by decide +kernel
theorem zf267_45 : fetch 267 45 = some (.iconst 0, 1) := by decide +kernel
theorem zf267_46 : fetch 267 46 = some (.ireturn, 1) := by decide +kernel
theorem zf267_41 : fetch 267 41 = some (.iconst 1, 1) := by decide +kernel
theorem zf267_42 : fetch 267 42 = some (.goto 4, 3) := by decide +kernel
theorem zf270_0 : fetch 270 0 = some (.aload_n 0, 1) := by decide +kernel
theorem zf270_1 : fetch 270 1 = some (.iload_n 1, 1) := by decide +kernel
theorem zf270_2 : fetch 270 2 = some (.iload_n 2, 1) := by decide +kernel
theorem zf270_3 : fetch 270 3 = some (.iload_n 3, 1) := by decide +kernel
theorem zf270_4 : fetch 270 4 = some (.invokevirtual 463, 3) := by decide +kernel
theorem zf270_7 : fetch 270 7 = some (.ifCond .ne 5, 3) := by decide +kernel
theorem zf270_12 : fetch 270 12 = some (.ldc2_w 467, 3) := by decide +kernel
theorem zf270_15 : fetch 270 15 = some (.lstore 4, 2) := by decide +kernel
theorem zf270_17 : fetch 270 17 = some (.iconst 0, 1) := by decide +kernel
theorem zf270_18 : fetch 270 18 = some (.istore 6, 2) := by decide +kernel
theorem zf270_10 : fetch 270 10 = some (.iconst (-1), 1) := by decide +kernel
theorem zf270_11 : fetch 270 11 = some (.ireturn, 1) := by decide +kernel
theorem zf271_31 : fetch 271 31 = some (.iload 5, 2) := by decide +kernel
theorem zf271_33 : fetch 271 33 = some (.aload_n 0, 1) := by decide +kernel
theorem zf271_34 : fetch 271 34 = some (.getfield 297, 3) := by decide +kernel
theorem zf271_37 : fetch 271 37 = some (.if_icmp .ge 36, 3) := by decide +kernel
theorem zf271_73 : fetch 271 73 = some (.iload_n 3, 1) := by decide +kernel
theorem zf271_74 : fetch 271 74 = some (.ireturn, 1) := by decide +kernel
theorem zf271_40 : fetch 271 40 = some (.aload_n 0, 1) := by decide +kernel
theorem zf271_41 : fetch 271 41 = some (.iload 5, 2) := by decide +kernel
theorem zf271_43 : fetch 271 43 = some (.iload_n 1, 1) := by decide +kernel
theorem zf271_44 : fetch 271 44 = some (.iload_n 2, 1) := by decide +kernel
theorem zf271_45 : fetch 271 45 = some (.invokevirtual 471, 3) := by decide +kernel
theorem zf271_48 : fetch 271 48 = some (.istore 6, 2) := by decide +kernel
theorem zf271_50 : fetch 271 50 = some (.iload 6, 2) := by decide +kernel
theorem zf271_52 : fetch 271 52 = some (.iload 4, 2) := by decide +kernel
theorem zf271_54 : fetch 271 54 = some (.if_icmp .gt 6, 3) := by decide +kernel
theorem zf271_60 : fetch 271 60 = some (.iload 5, 2) := by decide +kernel
theorem zf271_62 : fetch 271 62 = some (.istore_n 3, 1) := by decide +kernel
theorem zf271_63 : fetch 271 63 = some (.iload 6, 2) := by decide +kernel
theorem zf271_65 : fetch 271 65 = some (.istore 4, 2) := by decide +kernel
theorem zf271_67 : fetch 271 67 = some (.iinc 5 1, 3) := by decide +kernel
theorem zf271_70 : fetch 271 70 = some (.goto (-39), 3) := by decide +kernel
theorem zf271_57 : fetch 271 57 = some (.goto 10, 3) := by decide +kernel
theorem zf273_0 : fetch 273 0 = some (.iconst 0, 1) := by decide +kernel
theorem zf273_1 : fetch 273 1 = some (.istore_n 1, 1) := by decide +kernel
theorem zf274_0 : fetch 274 0 = some (.iconst 0, 1) := by decide +kernel
theorem zf274_1 : fetch 274 1 = some (.istore_n 2, 1) := by decide +kernel
theorem zf274_2 : fetch 274 2 = some (.iconst 0, 1) := by decide +kernel
theorem zf274_3 : fetch 274 3 = some (.istore_n 3, 1) := by decide +kernel
theorem zf272_51 : fetch 272 51 = some (.iload 5, 2) := by decide +kernel
theorem zf272_53 : fetch 272 53 = some (.aload_n 0, 1) := by decide +kernel
theorem zf272_54 : fetch 272 54 = some (.getfield 297, 3) := by decide +kernel
theorem zf272_57 : fetch 272 57 = some (.if_icmp .ge 26, 3) := by decide +kernel
theorem zf272_83 : fetch 272 83 = some (.iload 4, 2) := by decide +kernel
theorem zf272_85 : fetch 272 85 = some (.iload_n 2, 1) := by decide +kernel
theorem zf272_86 : fetch 272 86 = some (.invokestatic 229, 3) := by decide +kernel
theorem zf272_89 : fetch 272 89 = some (.ifCond .eq 5, 3) := by decide +kernel
theorem zf272_94 : fetch 272 94 = some (.iconst 1, 1) := by decide +kernel
theorem zf272_95 : fetch 272 95 = some (.istore 5, 2) := by decide +kernel
theorem zf272_92 : fetch 272 92 = some (.iconst 0, 1) := by decide +kernel
theorem zf272_93 : fetch 272 93 = some (.ireturn, 1) := by decide +kernel
theorem zf272_60 : fetch 272 60 = some (.aload_n 0, 1) := by decide +kernel
theorem zf272_61 : fetch 272 61 = some (.getfield 77, 3) := by decide +kernel
theorem zf272_64 : fetch 272 64 = some (.iload 5, 2) := by decide +kernel
theorem zf272_66 : fetch 272 66 = some (.aload_n 0, 1) := by decide +kernel
theorem zf272_67 : fetch 272 67 = some (.getfield 61, 3) := by decide +kernel
theorem zf272_70 : fetch 272 70 = some (.iload 5, 2) := by decide +kernel
theorem zf272_72 : fetch 272 72 = some (.invokestatic 300, 3) := by decide +kernel
theorem zf272_75 : fetch 272 75 = some (.iaload, 1) := by decide +kernel
theorem zf272_76 : fetch 272 76 = some (.iastore, 1) := by decide +kernel
theorem zf272_77 : fetch 272 77 = some (.iinc 5 1, 3) := by decide +kernel
theorem zf272_80 : fetch 272 80 = some (.goto (-29), 3) := by decide +kernel
theorem zf278_23 : fetch 278 23 = some (.iload_n 3, 1) := by decide +kernel
theorem zf278_24 : fetch 278 24 = some (.bipush 20, 2) := by decide +kernel
theorem zf278_26 : fetch 278 26 = some (.if_icmp .ge 30, 3) := by decide +kernel
theorem zf278_56 : fetch 278 56 = some (.iload_n 1, 1) := by decide +kernel
theorem zf278_57 : fetch 278 57 = some (.iconst (-1), 1) := by decide +kernel
theorem zf278_58 : fetch 278 58 = some (.if_icmp .ne 7, 3) := by decide +kernel
theorem zf278_65 : fetch 278 65 = some (.iconst (-1), 1) := by decide +kernel
theorem zf278_66 : fetch 278 66 = some (.ireturn, 1) := by decide +kernel
theorem zf278_61 : fetch 278 61 = some (.iload_n 2, 1) := by decide +kernel
theorem zf278_62 : fetch 278 62 = some (.goto 4, 3) := by decide +kernel
theorem zf278_29 : fetch 278 29 = some (.aload_n 0, 1) := by decide +kernel
theorem zf278_30 : fetch 278 30 = some (.iload_n 3, 1) := by decide +kernel
theorem zf278_31 : fetch 278 31 = some (.invokevirtual 491, 3) := by decide +kernel
theorem zf278_34 : fetch 278 34 = some (.ifCond .ne 6, 3) := by decide +kernel
theorem zf278_40 : fetch 278 40 = some (.iload_n 2, 1) := by decide +kernel
theorem zf278_41 : fetch 278 41 = some (.iload_n 1, 1) := by decide +kernel
theorem zf278_42 : fetch 278 42 = some (.if_icmp .ne 5, 3) := by decide +kernel
theorem zf278_47 : fetch 278 47 = some (.iinc 2 1, 3) := by decide +kernel
theorem zf278_50 : fetch 278 50 = some (.iinc 3 1, 3) := by decide +kernel
theorem zf278_53 : fetch 278 53 = some (.goto (-30), 3) := by decide +kernel
theorem zf278_45 : fetch 278 45 = some (.iload_n 3, 1) := by decide +kernel
theorem zf278_46 : fetch 278 46 = some (.ireturn, 1) := by decide +kernel
theorem zf278_37 : fetch 278 37 = some (.goto 13, 3) := by decide +kernel
theorem zf280_28 : fetch 280 28 = some (.iload 4, 2) := by decide +kernel
theorem zf280_30 : fetch 280 30 = some (.bipush 20, 2) := by decide +kernel
theorem zf280_32 : fetch 280 32 = some (.if_icmp .ge 29, 3) := by decide +kernel
theorem zf280_61 : fetch 280 61 = some (.iload_n 3, 1) := by decide +kernel
theorem zf280_62 : fetch 280 62 = some (.ifCond .ne 5, 3) := by decide +kernel
theorem zf280_67 : fetch 280 67 = some (.iconst (-1), 1) := by decide +kernel
theorem zf280_68 : fetch 280 68 = some (.istore 4, 2) := by decide +kernel
theorem zf280_70 : fetch 280 70 = some (.iconst 0, 1) := by decide +kernel
theorem zf280_71 : fetch 280 71 = some (.istore 5, 2) := by decide +kernel
theorem zf280_73 : fetch 280 73 = some (.iconst 0, 1) := by decide +kernel
theorem zf280_74 : fetch 280 74 = some (.istore 6, 2) := by decide +kernel
theorem zf280_65 : fetch 280 65 = some (.iconst (-1), 1) := by decide +kernel
theorem zf280_66 : fetch 280 66 = some (.ireturn, 1) := by decide +kernel
theorem zf280_35 : fetch 280 35 = some (.iload_n 3, 1) := by decide +kernel
theorem zf280_36 : fetch 280 36 = some (.aload_n 0, 1) := by decide +kernel
theorem zf280_37 : fetch 280 37 = some (.iload 4, 2) := by decide +kernel
theorem zf280_39 : fetch 280 39 = some (.invokevirtual 491, 3) := by decide +kernel
theorem zf280_42 : fetch 280 42 = some (.ifCond .eq 10, 3) := by decide +kernel
theorem zf280_52 : fetch 280 52 = some (.iconst 0, 1) := by decide +kernel
theorem zf280_53 : fetch 280 53 = some (.ior, 1) := by decide +kernel
theorem zf280_54 : fetch 280 54 = some (.istore_n 3, 1) := by decide +kernel
theorem zf280_55 : fetch 280 55 = some (.iinc 4 1, 3) := by decide +kernel
theorem zf280_58 : fetch 280 58 = some (.goto (-30), 3) := by decide +kernel
theorem zf280_45 : fetch 280 45 = some (.iconst 1, 1) := by decide +kernel
theorem zf280_46 : fetch 280 46 = some (.iload 4, 2) := by decide +kernel
theorem zf280_48 : fetch 280 48 = some (.ishl, 1) := by decide +kernel
theorem zf280_49 : fetch 280 49 = some (.goto 4, 3) := by decide +kernel
theorem zf282_0 : fetch 282 0 = some (.iconst 1, 1) := by decide +kernel
theorem zf282_1 : fetch 282 1 = some (.iload_n 1, 1) := by decide +kernel
theorem zf282_2 : fetch 282 2 = some (.ishl, 1) := by decide +kernel
theorem zf282_3 : fetch 282 3 = some (.istore_n 3, 1) := by decide +kernel
theorem zf282_4 : fetch 282 4 = some (.iconst 0, 1) := by decide +kernel
theorem zf282_5 : fetch 282 5 = some (.istore 4, 2) := by decide +kernel
theorem zf284_29 : fetch 284 29 = some (.iload_n 3, 1) := by decide +kernel
theorem zf284_30 : fetch 284 30 = some (.aload_n 0, 1) := by decide +kernel
theorem zf284_31 : fetch 284 31 = some (.getfield 294, 3) := by decide +kernel
theorem zf284_34 : fetch 284 34 = some (.if_icmp .ge 34, 3) := by decide +kernel
theorem zf284_68 : fetch 284 68 = some (.iload_n 2, 1) := by decide +kernel
theorem zf284_69 : fetch 284 69 = some (.ireturn, 1) := by decide +kernel
theorem zf284_37 : fetch 284 37 = some (.iload_n 1, 1) := by decide +kernel
theorem zf284_38 : fetch 284 38 = some (.iconst 1, 1) := by decide +kernel
theorem zf284_39 : fetch 284 39 = some (.iload_n 3, 1) := by decide +kernel
theorem zf284_40 : fetch 284 40 = some (.ishl, 1) := by decide +kernel
theorem zf284_41 : fetch 284 41 = some (.iconst (-1), 1) := by decide +kernel
theorem zf284_42 : fetch 284 42 = some (.ixor, 1) := by decide +kernel
theorem zf284_43 : fetch 284 43 = some (.iand, 1) := by decide +kernel
theorem zf284_44 : fetch 284 44 = some (.aload_n 0, 1) := by decide +kernel
theorem zf284_45 : fetch 284 45 = some (.iconst 0, 1) := by decide +kernel
theorem zf284_46 : fetch 284 46 = some (.iload_n 3, 1) := by decide +kernel
theorem zf284_47 : fetch 284 47 = some (.invokevirtual 497, 3) := by decide +kernel
theorem zf284_50 : fetch 284 50 = some (.iconst (-1), 1) := by decide +kernel
theorem zf284_51 : fetch 284 51 = some (.ixor, 1) := by decide +kernel
theorem zf284_52 : fetch 284 52 = some (.iand, 1) := by decide +kernel
theorem zf284_53 : fetch 284 53 = some (.ifCond .eq 9, 3) := by decide +kernel
theorem zf284_62 : fetch 284 62 = some (.iinc 3 1, 3) := by decide +kernel
theorem zf284_65 : fetch 284 65 = some (.goto (-36), 3) := by decide +kernel
theorem zf284_56 : fetch 284 56 = some (.iload_n 2, 1) := by decide +kernel
theorem zf284_57 : fetch 284 57 = some (.iconst 1, 1) := by decide +kernel
theorem zf284_58 : fetch 284 58 = some (.iload_n 3, 1) := by decide +kernel
theorem zf284_59 : fetch 284 59 = some (.ishl, 1) := by decide +kernel
theorem zf284_60 : fetch 284 60 = some (.ior, 1) := by decide +kernel
theorem zf284_61 : fetch 284 61 = some (.istore_n 2, 1) := by decide +kernel
theorem zf286_0 : fetch 286 0 = some (.aload_n 0, 1) := by decide +kernel
theorem zf286_1 : fetch 286 1 = some (.iload_n 1, 1) := by decide +kernel
theorem zf286_2 : fetch 286 2 = some (.invokevirtual 339, 3) := by decide +kernel
theorem zf286_5 : fetch 286 5 = some (.ifCond .eq 32, 3) := by decide +kernel
theorem zf286_37 : fetch 286 37 = some (.iconst 0, 1) := by decide +kernel
theorem zf286_38 : fetch 286 38 = some (.ireturn, 1) := by decide +kernel
theorem zf286_8 : fetch 286 8 = some (.aload_n 0, 1) := by decide +kernel
theorem zf286_9 : fetch 286 9 = some (.iload_n 2, 1) := by decide +kernel
theorem zf286_10 : fetch 286 10 = some (.invokevirtual 339, 3) := by decide +kernel
theorem zf286_13 : fetch 286 13 = some (.ifCond .eq 24, 3) := by decide +kernel
theorem zf286_16 : fetch 286 16 = some (.iload_n 1, 1) := by decide +kernel
theorem zf286_17 : fetch 286 17 = some (.iload_n 2, 1) := by decide +kernel
theorem zf286_18 : fetch 286 18 = some (.if_icmp .eq 19, 3) := by decide +kernel
theorem zf286_21 : fetch 286 21 = some (.iload_n 3, 1) := by decide +kernel
theorem zf286_22 : fetch 286 22 = some (.i2l, 1) := by decide +kernel
theorem zf286_23 : fetch 286 23 = some (.lconst 0, 1) := by decide +kernel
theorem zf286_24 : fetch 286 24 = some (.ldc2_w 346, 3) := by decide +kernel
theorem zf286_27 : fetch 286 27 = some (.invokestatic 217, 3) := by decide +kernel
theorem zf286_30 : fetch 286 30 = some (.ifCond .eq 7, 3) := by decide +kernel
theorem zf286_33 : fetch 286 33 = some (.iconst 1, 1) := by decide +kernel
theorem zf286_34 : fetch 286 34 = some (.goto 4, 3) := by decide +kernel
theorem zf287_0 : fetch 287 0 = some (.iload_n 3, 1) := by decide +kernel
theorem zf287_1 : fetch 287 1 = some (.iload 4, 2) := by decide +kernel
theorem zf287_3 : fetch 287 3 = some (.iadd, 1) := by decide +kernel
theorem zf287_4 : fetch 287 4 = some (.ifCond .le 8, 3) := by decide +kernel
theorem zf287_12 : fetch 287 12 = some (.iconst 0, 1) := by decide +kernel
theorem zf287_7 : fetch 287 7 = some (.bipush 6, 2) := by decide +kernel
theorem zf287_9 : fetch 287 9 = some (.goto 4, 3) := by decide +kernel
theorem zf288_29 : fetch 288 29 = some (.iload 6, 2) := by decide +kernel
theorem zf288_31 : fetch 288 31 = some (.iconst 4, 1) := by decide +kernel
theorem zf288_32 : fetch 288 32 = some (.if_icmp .ge 93, 3) := by decide +kernel
theorem zf288_125 : fetch 288 125 = some (.iload 4, 2) := by decide +kernel
theorem zf288_127 : fetch 288 127 = some (.iconst (-1), 1) := by decide +kernel
theorem zf288_128 : fetch 288 128 = some (.if_icmp .ne 8, 3) := by decide +kernel
theorem zf288_136 : fetch 288 136 = some (.iconst (-1), 1) := by decide +kernel
theorem zf288_137 : fetch 288 137 = some (.ireturn, 1) := by decide +kernel
theorem zf288_131 : fetch 288 131 = some (.iload 5, 2) := by decide +kernel
theorem zf288_133 : fetch 288 133 = some (.goto 4, 3) := by decide +kernel
theorem zf288_35 : fetch 288 35 = some (.iload 6, 2) := by decide +kernel
theorem zf288_37 : fetch 288 37 = some (.iconst 2, 1) := by decide +kernel
theorem zf288_38 : fetch 288 38 = some (.idiv, 1) := by decide +kernel
theorem zf288_39 : fetch 288 39 = some (.istore 7, 2) := by decide +kernel
theorem zf288_41 : fetch 288 41 = some (.iload 6, 2) := by decide +kernel
theorem zf288_43 : fetch 288 43 = some (.iconst 2, 1) := by decide +kernel
theorem zf288_44 : fetch 288 44 = some (.irem, 1) := by decide +kernel
theorem zf288_45 : fetch 288 45 = some (.istore 8, 2) := by decide +kernel
theorem zf288_47 : fetch 288 47 = some (.aload_n 0, 1) := by decide +kernel
theorem zf288_48 : fetch 288 48 = some (.iload_n 1, 1) := by decide +kernel
theorem zf288_49 : fetch 288 49 = some (.iload_n 3, 1) := by decide +kernel
theorem zf288_50 : fetch 288 50 = some (.iconst 1, 1) := by decide +kernel
theorem zf288_51 : fetch 288 51 = some (.iload 7, 2) := by decide +kernel
theorem zf288_53 : fetch 288 53 = some (.isub, 1) := by decide +kernel
theorem zf288_54 : fetch 288 54 = some (.iload 8, 2) := by decide +kernel
theorem zf288_56 : fetch 288 56 = some (.invokevirtual 503, 3) := by decide +kernel
theorem zf288_59 : fetch 288 59 = some (.aload_n 0, 1) := by decide +kernel
theorem zf288_60 : fetch 288 60 = some (.iload_n 1, 1) := by decide +kernel
theorem zf288_61 : fetch 288 61 = some (.iload_n 3, 1) := by decide +kernel
theorem zf288_62 : fetch 288 62 = some (.iload 7, 2) := by decide +kernel
theorem zf288_64 : fetch 288 64 = some (.iload 8, 2) := by decide +kernel
theorem zf288_66 : fetch 288 66 = some (.invokevirtual 503, 3) := by decide +kernel
theorem zf288_69 : fetch 288 69 = some (.if_icmp .gt 50, 3) := by decide +kernel
theorem zf288_119 : fetch 288 119 = some (.iinc 6 1, 3) := by decide +kernel
theorem zf288_122 : fetch 288 122 = some (.goto (-93), 3) := by decide +kernel
theorem zf288_72 : fetch 288 72 = some (.aload_n 0, 1) := by decide +kernel
theorem zf288_73 : fetch 288 73 = some (.iload_n 2, 1) := by decide +kernel
theorem zf288_74 : fetch 288 74 = some (.iload_n 3, 1) := by decide +kernel
theorem zf288_75 : fetch 288 75 = some (.iconst 1, 1) := by decide +kernel
theorem zf288_76 : fetch 288 76 = some (.iload 8, 2) := by decide +kernel
theorem zf288_78 : fetch 288 78 = some (.isub, 1) := by decide +kernel
theorem zf288_79 : fetch 288 79 = some (.iload 7, 2) := by decide +kernel
theorem zf288_81 : fetch 288 81 = some (.invokevirtual 503, 3) := by decide +kernel
theorem zf288_84 : fetch 288 84 = some (.aload_n 0, 1) := by decide +kernel
theorem zf288_85 : fetch 288 85 = some (.iload_n 2, 1) := by decide +kernel
theorem zf288_86 : fetch 288 86 = some (.iload_n 3, 1) := by decide +kernel
theorem zf288_87 : fetch 288 87 = some (.iload 8, 2) := by decide +kernel
theorem zf288_89 : fetch 288 89 = some (.iload 7, 2) := by decide +kernel
theorem zf288_91 : fetch 288 91 = some (.invokevirtual 503, 3) := by decide +kernel
theorem zf288_94 : fetch 288 94 = some (.if_icmp .le 6, 3) := by decide +kernel
theorem zf288_100 : fetch 288 100 = some (.iload 5, 2) := by decide +kernel
theorem zf288_102 : fetch 288 102 = some (.iload 4, 2) := by decide +kernel
theorem zf288_104 : fetch 288 104 = some (.if_icmp .ne 12, 3) := by decide +kernel
theorem zf288_116 : fetch 288 116 = some (.iinc 5 1, 3) := by decide +kernel
theorem zf288_107 : fetch 288 107 = some (.bipush 10, 2) := by decide +kernel
theorem zf288_109 : fetch 288 109 = some (.iload 7, 2) := by decide +kernel
theorem zf288_111 : fetch 288 111 = some (.imul, 1) := by decide +kernel
theorem zf288_112 : fetch 288 112 = some (.iload 8, 2) := by decide +kernel
theorem zf288_114 : fetch 288 114 = some (.iadd, 1) := by decide +kernel
theorem zf288_115 : fetch 288 115 = some (.ireturn, 1) := by decide +kernel
theorem zf288_97 : fetch 288 97 = some (.goto 22, 3) := by decide +kernel
theorem zf291_0 : fetch 291 0 = some (.lconst 0, 1) := by decide +kernel
theorem zf291_1 : fetch 291 1 = some (.lstore_n 2, 1) := by decide +kernel
theorem zf291_2 : fetch 291 2 = some (.iconst 0, 1) := by decide +kernel
theorem zf291_3 : fetch 291 3 = some (.istore 4, 2) := by decide +kernel
theorem zf293_9 : fetch 293 9 = some (.iload_n 2, 1) := by decide +kernel
theorem zf293_10 : fetch 293 10 = some (.aload_n 0, 1) := by decide +kernel
theorem zf293_11 : fetch 293 11 = some (.getfield 306, 3) := by decide +kernel
theorem zf293_14 : fetch 293 14 = some (.if_icmp .ge 20, 3) := by decide +kernel
theorem zf293_34 : fetch 293 34 = some (.iconst (-1), 1) := by decide +kernel
theorem zf293_35 : fetch 293 35 = some (.istore_n 2, 1) := by decide +kernel
theorem zf293_36 : fetch 293 36 = some (.iconst 0, 1) := by decide +kernel
theorem zf293_37 : fetch 293 37 = some (.istore_n 3, 1) := by decide +kernel
theorem zf293_17 : fetch 293 17 = some (.iload_n 1, 1) := by decide +kernel
theorem zf293_18 : fetch 293 18 = some (.iconst 1, 1) := by decide +kernel
theorem zf293_19 : fetch 293 19 = some (.aload_n 0, 1) := by decide +kernel
theorem zf293_20 : fetch 293 20 = some (.getfield 86, 3) := by decide +kernel
theorem zf293_23 : fetch 293 23 = some (.iload_n 2, 1) := by decide +kernel
theorem zf293_24 : fetch 293 24 = some (.iaload, 1) := by decide +kernel
theorem zf293_25 : fetch 293 25 = some (.ishl, 1) := by decide +kernel
theorem zf293_26 : fetch 293 26 = some (.ior, 1) := by decide +kernel
theorem zf293_27 : fetch 293 27 = some (.istore_n 1, 1) := by decide +kernel
theorem zf293_28 : fetch 293 28 = some (.iinc 2 1, 3) := by decide +kernel
theorem zf293_31 : fetch 293 31 = some (.goto (-22), 3) := by decide +kernel
theorem zf295_39 : fetch 295 39 = some (.iload_n 2, 1) := by decide +kernel
theorem zf295_40 : fetch 295 40 = some (.bipush 60, 2) := by decide +kernel
theorem zf295_42 : fetch 295 42 = some (.if_icmp .gt 31, 3) := by decide +kernel
theorem zf295_73 : fetch 295 73 = some (.iconst (-1), 1) := by decide +kernel
theorem zf295_74 : fetch 295 74 = some (.ireturn, 1) := by decide +kernel
theorem zf295_45 : fetch 295 45 = some (.aload_n 0, 1) := by decide +kernel
theorem zf295_46 : fetch 295 46 = some (.aload_n 0, 1) := by decide +kernel
theorem zf295_47 : fetch 295 47 = some (.getfield 64, 3) := by decide +kernel
theorem zf295_50 : fetch 295 50 = some (.invokevirtual 514, 3) := by decide +kernel
theorem zf295_53 : fetch 295 53 = some (.iload_n 1, 1) := by decide +kernel
theorem zf295_54 : fetch 295 54 = some (.if_icmp .lt 5, 3) := by decide +kernel
theorem zf295_59 : fetch 295 59 = some (.aload_n 0, 1) := by decide +kernel
theorem zf295_60 : fetch 295 60 = some (.aload_n 0, 1) := by decide +kernel
theorem zf295_61 : fetch 295 61 = some (.getfield 64, 3) := by decide +kernel
theorem zf295_64 : fetch 295 64 = some (.invokevirtual 402, 3) := by decide +kernel
theorem zf295_67 : fetch 295 67 = some (.iinc 2 1, 3) := by decide +kernel
theorem zf295_70 : fetch 295 70 = some (.goto (-31), 3) := by decide +kernel
theorem zf295_57 : fetch 295 57 = some (.iload_n 2, 1) := by decide +kernel
theorem zf295_58 : fetch 295 58 = some (.ireturn, 1) := by decide +kernel
theorem zf297_40 : fetch 297 40 = some (.iload 4, 2) := by decide +kernel
theorem zf297_42 : fetch 297 42 = some (.aload_n 0, 1) := by decide +kernel
theorem zf297_43 : fetch 297 43 = some (.getfield 294, 3) := by decide +kernel
theorem zf297_46 : fetch 297 46 = some (.if_icmp .ge 40, 3) := by decide +kernel
theorem zf297_86 : fetch 297 86 = some (.iload_n 3, 1) := by decide +kernel
theorem zf297_87 : fetch 297 87 = some (.ireturn, 1) := by decide +kernel
theorem zf297_49 : fetch 297 49 = some (.aload_n 0, 1) := by decide +kernel
theorem zf297_50 : fetch 297 50 = some (.getfield 43, 3) := by decide +kernel
theorem zf297_53 : fetch 297 53 = some (.iconst 3, 1) := by decide +kernel
theorem zf297_54 : fetch 297 54 = some (.iload 4, 2) := by decide +kernel
theorem zf297_56 : fetch 297 56 = some (.imul, 1) := by decide +kernel
theorem zf297_57 : fetch 297 57 = some (.iconst 1, 1) := by decide +kernel
theorem zf297_58 : fetch 297 58 = some (.iadd, 1) := by decide +kernel
theorem zf297_59 : fetch 297 59 = some (.iaload, 1) := by decide +kernel
theorem zf297_60 : fetch 297 60 = some (.aload_n 0, 1) := by decide +kernel
theorem zf297_61 : fetch 297 61 = some (.getfield 43, 3) := by decide +kernel
theorem zf297_64 : fetch 297 64 = some (.iconst 3, 1) := by decide +kernel
theorem zf297_65 : fetch 297 65 = some (.iload_n 3, 1) := by decide +kernel
theorem zf297_66 : fetch 297 66 = some (.imul, 1) := by decide +kernel
theorem zf297_67 : fetch 297 67 = some (.iconst 1, 1) := by decide +kernel
theorem zf297_68 : fetch 297 68 = some (.iadd, 1) := by decide +kernel
theorem zf297_69 : fetch 297 69 = some (.iaload, 1) := by decide +kernel
theorem zf297_70 : fetch 297 70 = some (.if_icmp .le 8, 3) := by decide +kernel
theorem zf297_78 : fetch 297 78 = some (.iload_n 3, 1) := by decide +kernel
theorem zf297_79 : fetch 297 79 = some (.istore_n 3, 1) := by decide +kernel
theorem zf297_80 : fetch 297 80 = some (.iinc 4 1, 3) := by decide +kernel
theorem zf297_83 : fetch 297 83 = some (.goto (-43), 3) := by decide +kernel
theorem zf297_73 : fetch 297 73 = some (.iload 4, 2) := by decide +kernel
theorem zf297_75 : fetch 297 75 = some (.goto 4, 3) := by decide +kernel
theorem zf298_0 : fetch 298 0 = some (.iconst 0, 1) := by decide +kernel
theorem zf298_1 : fetch 298 1 = some (.istore_n 2, 1) := by decide +kernel
theorem zf298_2 : fetch 298 2 = some (.iconst 1, 1) := by decide +kernel
theorem zf298_3 : fetch 298 3 = some (.istore_n 3, 1) := by decide +kernel
theorem zf299_18 : fetch 299 18 = some (.iload_n 2, 1) := by decide +kernel
theorem zf299_19 : fetch 299 19 = some (.aload_n 0, 1) := by decide +kernel
theorem zf299_20 : fetch 299 20 = some (.getfield 297, 3) := by decide +kernel
theorem zf299_23 : fetch 299 23 = some (.if_icmp .ge 31, 3) := by decide +kernel
theorem zf299_54 : fetch 299 54 = some (.iload_n 1, 1) := by decide +kernel
theorem zf299_55 : fetch 299 55 = some (.ireturn, 1) := by decide +kernel
theorem zf299_26 : fetch 299 26 = some (.iload_n 1, 1) := by decide +kernel
theorem zf299_27 : fetch 299 27 = some (.aload_n 0, 1) := by decide +kernel
theorem zf299_28 : fetch 299 28 = some (.aload_n 0, 1) := by decide +kernel
theorem zf299_29 : fetch 299 29 = some (.getfield 61, 3) := by decide +kernel
theorem zf299_32 : fetch 299 32 = some (.iload_n 2, 1) := by decide +kernel
theorem zf299_33 : fetch 299 33 = some (.invokevirtual 342, 3) := by decide +kernel
theorem zf299_36 : fetch 299 36 = some (.ifCond .eq 9, 3) := by decide +kernel
theorem zf299_45 : fetch 299 45 = some (.iconst 0, 1) := by decide +kernel
theorem zf299_46 : fetch 299 46 = some (.ior, 1) := by decide +kernel
theorem zf299_47 : fetch 299 47 = some (.istore_n 1, 1) := by decide +kernel
theorem zf299_48 : fetch 299 48 = some (.iinc 2 1, 3) := by decide +kernel
theorem zf299_51 : fetch 299 51 = some (.goto (-33), 3) := by decide +kernel
theorem zf299_39 : fetch 299 39 = some (.iconst 1, 1) := by decide +kernel
theorem zf299_40 : fetch 299 40 = some (.iload_n 2, 1) := by decide +kernel
theorem zf299_41 : fetch 299 41 = some (.ishl, 1) := by decide +kernel
theorem zf299_42 : fetch 299 42 = some (.goto 4, 3) := by decide +kernel
theorem zf300_19 : fetch 300 19 = some (.iload_n 3, 1) := by decide +kernel
theorem zf300_20 : fetch 300 20 = some (.aload_n 0, 1) := by decide +kernel
theorem zf300_21 : fetch 300 21 = some (.getfield 297, 3) := by decide +kernel
theorem zf300_24 : fetch 300 24 = some (.if_icmp .ge 44, 3) := by decide +kernel
theorem zf300_68 : fetch 300 68 = some (.iload_n 2, 1) := by decide +kernel
theorem zf300_69 : fetch 300 69 = some (.ireturn, 1) := by decide +kernel
theorem zf300_27 : fetch 300 27 = some (.iload_n 2, 1) := by decide +kernel
theorem zf300_28 : fetch 300 28 = some (.aload_n 0, 1) := by decide +kernel
theorem zf300_29 : fetch 300 29 = some (.aload_n 0, 1) := by decide +kernel
theorem zf300_30 : fetch 300 30 = some (.getfield 61, 3) := by decide +kernel
theorem zf300_33 : fetch 300 33 = some (.iload_n 3, 1) := by decide +kernel
theorem zf300_34 : fetch 300 34 = some (.invokevirtual 342, 3) := by decide +kernel
theorem zf300_37 : fetch 300 37 = some (.ifCond .eq 22, 3) := by decide +kernel
theorem zf300_59 : fetch 300 59 = some (.iconst 0, 1) := by decide +kernel
theorem zf300_60 : fetch 300 60 = some (.ior, 1) := by decide +kernel
theorem zf300_61 : fetch 300 61 = some (.istore_n 2, 1) := by decide +kernel
theorem zf300_62 : fetch 300 62 = some (.iinc 3 1, 3) := by decide +kernel
theorem zf300_65 : fetch 300 65 = some (.goto (-46), 3) := by decide +kernel
theorem zf300_40 : fetch 300 40 = some (.aload_n 0, 1) := by decide +kernel
theorem zf300_41 : fetch 300 41 = some (.getfield 61, 3) := by decide +kernel
theorem zf300_44 : fetch 300 44 = some (.iload_n 3, 1) := by decide +kernel
theorem zf300_45 : fetch 300 45 = some (.invokestatic 300, 3) := by decide +kernel
theorem zf300_48 : fetch 300 48 = some (.iaload, 1) := by decide +kernel
theorem zf300_49 : fetch 300 49 = some (.iload_n 1, 1) := by decide +kernel
theorem zf300_50 : fetch 300 50 = some (.if_icmp .ne 9, 3) := by decide +kernel
theorem zf300_53 : fetch 300 53 = some (.iconst 1, 1) := by decide +kernel
theorem zf300_54 : fetch 300 54 = some (.iload_n 3, 1) := by decide +kernel
theorem zf300_55 : fetch 300 55 = some (.ishl, 1) := by decide +kernel
theorem zf300_56 : fetch 300 56 = some (.goto 4, 3) := by decide +kernel
theorem zf302_62 : fetch 302 62 = some (.istore 6, 2) := by decide +kernel
theorem zf302_64 : fetch 302 64 = some (.aload_n 0, 1) := by decide +kernel
theorem zf302_65 : fetch 302 65 = some (.aload_n 0, 1) := by decide +kernel
theorem zf302_66 : fetch 302 66 = some (.iload_n 1, 1) := by decide +kernel
theorem zf302_67 : fetch 302 67 = some (.iload_n 2, 1) := by decide +kernel
theorem zf302_68 : fetch 302 68 = some (.iload_n 3, 1) := by decide +kernel
theorem zf302_69 : fetch 302 69 = some (.iload 4, 2) := by decide +kernel
theorem zf302_71 : fetch 302 71 = some (.aload_n 0, 1) := by decide +kernel
theorem zf302_72 : fetch 302 72 = some (.getfield 61, 3) := by decide +kernel
theorem zf302_75 : fetch 302 75 = some (.bipush 32, 2) := by decide +kernel
theorem zf302_77 : fetch 302 77 = some (.iaload, 1) := by decide +kernel
theorem zf302_78 : fetch 302 78 = some (.iconst 3, 1) := by decide +kernel
theorem zf302_79 : fetch 302 79 = some (.iadd, 1) := by decide +kernel
theorem zf302_80 : fetch 302 80 = some (.aload_n 0, 1) := by decide +kernel
theorem zf302_81 : fetch 302 81 = some (.getfield 61, 3) := by decide +kernel
theorem zf302_84 : fetch 302 84 = some (.bipush 33, 2) := by decide +kernel
theorem zf302_86 : fetch 302 86 = some (.iaload, 1) := by decide +kernel
theorem zf302_87 : fetch 302 87 = some (.aload_n 0, 1) := by decide +kernel
theorem zf302_88 : fetch 302 88 = some (.getfield 61, 3) := by decide +kernel
theorem zf302_91 : fetch 302 91 = some (.bipush 34, 2) := by decide +kernel
theorem zf302_93 : fetch 302 93 = some (.iaload, 1) := by decide +kernel
theorem zf302_94 : fetch 302 94 = some (.invokevirtual 329, 3) := by decide +kernel
theorem zf302_97 : fetch 302 97 = some (.invokevirtual 352, 3) := by decide +kernel
theorem zf302_100 : fetch 302 100 = some (.iconst (-1), 1) := by decide +kernel
theorem zf302_101 : fetch 302 101 = some (.if_icmp .ne 7, 3) := by decide +kernel
theorem zf302_108 : fetch 302 108 = some (.iload 5, 2) := by decide +kernel
theorem zf302_110 : fetch 302 110 = some (.istore 7, 2) := by decide +kernel
theorem zf302_112 : fetch 302 112 = some (.iload 6, 2) := by decide +kernel
theorem zf302_114 : fetch 302 114 = some (.iload 7, 2) := by decide +kernel
theorem zf302_116 : fetch 302 116 = some (.iadd, 1) := by decide +kernel
theorem zf302_117 : fetch 302 117 = some (.ireturn, 1) := by decide +kernel
theorem zf302_104 : fetch 302 104 = some (.iconst 0, 1) := by decide +kernel
theorem zf302_105 : fetch 302 105 = some (.goto 5, 3) := by decide +kernel
theorem zf228_0 : fetch 228 0 = some (.aload_n 0, 1) := by decide +kernel
theorem zf228_1 : fetch 228 1 = some (.iload_n 2, 1) := by decide +kernel
theorem zf228_2 : fetch 228 2 = some (.invokevirtual 339, 3) := by decide +kernel
theorem zf228_5 : fetch 228 5 = some (.ifCond .eq 18, 3) := by decide +kernel
theorem zf228_23 : fetch 228 23 = some (.iconst 0, 1) := by decide +kernel
theorem zf228_24 : fetch 228 24 = some (.ireturn, 1) := by decide +kernel
theorem zf228_8 : fetch 228 8 = some (.aload_n 1, 1) := by decide +kernel
theorem zf228_9 : fetch 228 9 = some (.iload_n 2, 1) := by decide +kernel
theorem zf228_10 : fetch 228 10 = some (.invokestatic 300, 3) := by decide +kernel
theorem zf228_13 : fetch 228 13 = some (.iconst 2, 1) := by decide +kernel
theorem zf228_14 : fetch 228 14 = some (.iadd, 1) := by decide +kernel
theorem zf228_15 : fetch 228 15 = some (.iaload, 1) := by decide +kernel
theorem zf228_16 : fetch 228 16 = some (.ifCond .ne 7, 3) := by decide +kernel
theorem zf228_19 : fetch 228 19 = some (.iconst 1, 1) := by decide +kernel
theorem zf228_20 : fetch 228 20 = some (.goto 4, 3) := by decide +kernel
theorem zf223_0 : fetch 223 0 = some (.aload_n 0, 1) := by decide +kernel
theorem zf223_1 : fetch 223 1 = some (.getfield 49, 3) := by decide +kernel
theorem zf223_4 : fetch 223 4 = some (.iconst 3, 1) := by decide +kernel
theorem zf223_5 : fetch 223 5 = some (.iload_n 1, 1) := by decide +kernel
theorem zf223_6 : fetch 223 6 = some (.imul, 1) := by decide +kernel
theorem zf223_7 : fetch 223 7 = some (.iload_n 2, 1) := by decide +kernel
theorem zf223_8 : fetch 223 8 = some (.iadd, 1) := by decide +kernel
theorem zf223_9 : fetch 223 9 = some (.iaload, 1) := by decide +kernel
theorem zf223_10 : fetch 223 10 = some (.ireturn, 1) := by decide +kernel
theorem zf306_120 : fetch 306 120 = some (.iload_n 3, 1) := by decide +kernel
theorem zf306_121 : fetch 306 121 = some (.aload_n 0, 1) := by decide +kernel
theorem zf306_122 : fetch 306 122 = some (.getfield 294, 3) := by decide +kernel
theorem zf306_125 : fetch 306 125 = some (.if_icmp .ge 20, 3) := by decide +kernel
theorem zf306_145 : fetch 306 145 = some (.iload_n 2, 1) := by decide +kernel
theorem zf306_146 : fetch 306 146 = some (.ireturn, 1) := by decide +kernel
theorem zf306_128 : fetch 306 128 = some (.iload_n 2, 1) := by decide +kernel
theorem zf306_129 : fetch 306 129 = some (.aload_n 0, 1) := by decide +kernel
theorem zf306_130 : fetch 306 130 = some (.getfield 61, 3) := by decide +kernel
theorem zf306_133 : fetch 306 133 = some (.iconst 0, 1) := by decide +kernel
theorem zf306_134 : fetch 306 134 = some (.iload_n 3, 1) := by decide +kernel
theorem zf306_135 : fetch 306 135 = some (.iadd, 1) := by decide +kernel
theorem zf306_136 : fetch 306 136 = some (.iaload, 1) := by decide +kernel
theorem zf306_137 : fetch 306 137 = some (.iadd, 1) := by decide +kernel
theorem zf306_138 : fetch 306 138 = some (.istore_n 2, 1) := by decide +kernel
theorem zf306_139 : fetch 306 139 = some (.iinc 3 1, 3) := by decide +kernel
theorem zf306_142 : fetch 306 142 = some (.goto (-22), 3) := by decide +kernel
theorem zf306_149 : fetch 306 149 = some (.iload_n 3, 1) := by decide +kernel
theorem zf306_150 : fetch 306 150 = some (.aload_n 0, 1) := by decide +kernel
theorem zf306_151 : fetch 306 151 = some (.getfield 297, 3) := by decide +kernel
theorem zf306_154 : fetch 306 154 = some (.if_icmp .ge 23, 3) := by decide +kernel
theorem zf306_177 : fetch 306 177 = some (.iload_n 2, 1) := by decide +kernel
theorem zf306_178 : fetch 306 178 = some (.ireturn, 1) := by decide +kernel
theorem zf306_157 : fetch 306 157 = some (.iload_n 2, 1) := by decide +kernel
theorem zf306_158 : fetch 306 158 = some (.aload_n 0, 1) := by decide +kernel
theorem zf306_159 : fetch 306 159 = some (.getfield 61, 3) := by decide +kernel
theorem zf306_162 : fetch 306 162 = some (.iload_n 3, 1) := by decide +kernel
theorem zf306_163 : fetch 306 163 = some (.invokestatic 300, 3) := by decide +kernel
theorem zf306_166 : fetch 306 166 = some (.iconst 1, 1) := by decide +kernel
theorem zf306_167 : fetch 306 167 = some (.iadd, 1) := by decide +kernel
theorem zf306_168 : fetch 306 168 = some (.iaload, 1) := by decide +kernel
theorem zf306_169 : fetch 306 169 = some (.iadd, 1) := by decide +kernel
theorem zf306_170 : fetch 306 170 = some (.istore_n 2, 1) := by decide +kernel
theorem zf306_171 : fetch 306 171 = some (.iinc 3 1, 3) := by decide +kernel
theorem zf306_174 : fetch 306 174 = some (.goto (-25), 3) := by decide +kernel
theorem zf1_5 : fetch 1 5 = some (.iload_n 2, 1) := by decide +kernel
theorem zf1_6 : fetch 1 6 = some (.ifCond .lt 27, 3) := by decide +kernel
theorem zf1_33 : fetch 1 33 = some (.iload_n 1, 1) := by decide +kernel
theorem zf1_34 : fetch 1 34 = some (.ireturn, 1) := by decide +kernel
theorem zf1_9 : fetch 1 9 = some (.iload_n 1, 1) := by decide +kernel
theorem zf1_10 : fetch 1 10 = some (.iload_n 0, 1) := by decide +kernel
theorem zf1_11 : fetch 1 11 = some (.iload_n 2, 1) := by decide +kernel
theorem zf1_12 : fetch 1 12 = some (.iushr, 1) := by decide +kernel
theorem zf1_13 : fetch 1 13 = some (.sipush 255, 3) := by decide +kernel
theorem zf1_16 : fetch 1 16 = some (.iand, 1) := by decide +kernel
theorem zf1_17 : fetch 1 17 = some (.ifCond .eq 7, 3) := by decide +kernel
theorem zf1_24 : fetch 1 24 = some (.iconst 0, 1) := by decide +kernel
theorem zf1_25 : fetch 1 25 = some (.iadd, 1) := by decide +kernel
theorem zf1_26 : fetch 1 26 = some (.istore_n 1, 1) := by decide +kernel
theorem zf1_27 : fetch 1 27 = some (.iinc 2 (-8), 3) := by decide +kernel
theorem zf1_30 : fetch 1 30 = some (.goto (-25), 3) := by decide +kernel
theorem zf1_20 : fetch 1 20 = some (.iconst 1, 1) := by decide +kernel
theorem zf1_21 : fetch 1 21 = some (.goto 4, 3) := by decide +kernel
theorem zf2_3 : fetch 2 3 = some (.iload_n 2, 1) := by decide +kernel
theorem zf2_4 : fetch 2 4 = some (.ifCond .lt 48, 3) := by decide +kernel
theorem zf2_52 : fetch 2 52 = some (.return_, 1) := by decide +kernel
theorem zf2_7 : fetch 2 7 = some (.iload_n 1, 1) := by decide +kernel
theorem zf2_8 : fetch 2 8 = some (.iload_n 2, 1) := by decide +kernel
theorem zf2_9 : fetch 2 9 = some (.iushr, 1) := by decide +kernel
theorem zf2_10 : fetch 2 10 = some (.i2b, 1) := by decide +kernel
theorem zf2_11 : fetch 2 11 = some (.istore_n 3, 1) := by decide +kernel
theorem zf2_12 : fetch 2 12 = some (.iload_n 3, 1) := by decide +kernel
theorem zf2_13 : fetch 2 13 = some (.ifCond .eq 33, 3) := by decide +kernel
theorem zf2_46 : fetch 2 46 = some (.iinc 2 (-8), 3) := by decide +kernel
theorem zf2_49 : fetch 2 49 = some (.goto (-46), 3) := by decide +kernel
theorem zf2_16 : fetch 2 16 = some (.aload_n 0, 1) := by decide +kernel
theorem zf2_17 : fetch 2 17 = some (.getfield 15, 3) := by decide +kernel
theorem zf2_20 : fetch 2 20 = some (.sipush 240, 3) := by decide +kernel
theorem zf2_23 : fetch 2 23 = some (.if_icmp .ge 23, 3) := by decide +kernel
theorem zf2_26 : fetch 2 26 = some (.aload_n 0, 1) := by decide +kernel
theorem zf2_27 : fetch 2 27 = some (.getfield 11, 3) := by decide +kernel
theorem zf2_30 : fetch 2 30 = some (.aload_n 0, 1) := by decide +kernel
theorem zf2_31 : fetch 2 31 = some (.getfield 15, 3) := by decide +kernel
theorem zf2_34 : fetch 2 34 = some (.iload_n 3, 1) := by decide +kernel
theorem zf2_35 : fetch 2 35 = some (.bastore, 1) := by decide +kernel
theorem zf2_36 : fetch 2 36 = some (.aload_n 0, 1) := by decide +kernel
theorem zf2_37 : fetch 2 37 = some (.dup, 1) := by decide +kernel
theorem zf2_38 : fetch 2 38 = some (.getfield 15, 3) := by decide +kernel
theorem zf2_41 : fetch 2 41 = some (.iconst 1, 1) := by decide +kernel
theorem zf2_42 : fetch 2 42 = some (.iadd, 1) := by decide +kernel
theorem zf2_43 : fetch 2 43 = some (.putfield 15, 3) := by decide +kernel
theorem zf6_0 : fetch 6 0 = some (.aload_n 0, 1) := by decide +kernel
theorem zf6_1 : fetch 6 1 = some (.iconst 0, 1) := by decide +kernel
theorem zf6_2 : fetch 6 2 = some (.putfield 32, 3) := by decide +kernel
theorem zf6_5 : fetch 6 5 = some (.aload_n 0, 1) := by decide +kernel
theorem zf6_6 : fetch 6 6 = some (.getfield 12, 3) := by decide +kernel
theorem zf6_9 : fetch 6 9 = some (.iconst 0, 1) := by decide +kernel
theorem zf6_10 : fetch 6 10 = some (.putfield 36, 3) := by decide +kernel
theorem zf6_13 : fetch 6 13 = some (.aload_n 0, 1) := by decide +kernel
theorem zf6_14 : fetch 6 14 = some (.getfield 12, 3) := by decide +kernel
theorem zf6_17 : fetch 6 17 = some (.iconst 0, 1) := by decide +kernel
theorem zf6_18 : fetch 6 18 = some (.putfield 39, 3) := by decide +kernel
theorem zf6_21 : fetch 6 21 = some (.getstatic 42, 3) := by decide +kernel
theorem zf6_24 : fetch 6 24 = some (.iconst 0, 1) := by decide +kernel
theorem zf6_25 : fetch 6 25 = some (.aload_n 0, 1) := by decide +kernel
theorem zf6_26 : fetch 6 26 = some (.getfield 12, 3) := by decide +kernel
theorem zf6_29 : fetch 6 29 = some (.getfield 46, 3) := by decide +kernel
theorem zf6_32 : fetch 6 32 = some (.iconst 0, 1) := by decide +kernel
theorem zf6_33 : fetch 6 33 = some (.iconst 4, 1) := by decide +kernel
theorem zf6_34 : fetch 6 34 = some (.invokestatic 49, 3) := by decide +kernel
theorem zf6_37 : fetch 6 37 = some (.iconst 0, 1) := by decide +kernel
theorem zf6_38 : fetch 6 38 = some (.istore_n 1, 1) := by decide +kernel
theorem zf22_15 : fetch 22 15 = some (.iload_n 1, 1) := by decide +kernel
theorem zf22_16 : fetch 22 16 = some (.sipush 240, 3) := by decide +kernel
theorem zf22_19 : fetch 22 19 = some (.if_icmp .gt 56, 3) := by decide +kernel
theorem zf22_75 : fetch 22 75 = some (.aload_n 0, 1) := by decide +kernel
theorem zf22_76 : fetch 22 76 = some (.getfield 17, 3) := by decide +kernel
theorem zf22_79 : fetch 22 79 = some (.getfield 21, 3) := by decide +kernel
theorem zf22_82 : fetch 22 82 = some (.ireturn, 1) := by decide +kernel
theorem zf22_22 : fetch 22 22 = some (.aload_n 0, 1) := by decide +kernel
theorem zf22_23 : fetch 22 23 = some (.invokevirtual 28, 3) := by decide +kernel
theorem zf22_26 : fetch 22 26 = some (.ifCond .ne 11, 3) := by decide +kernel
theorem zf22_37 : fetch 22 37 = some (.aload_n 0, 1) := by decide +kernel
theorem zf22_38 : fetch 22 38 = some (.getfield 17, 3) := by decide +kernel
theorem zf22_41 : fetch 22 41 = some (.invokevirtual 32, 3) := by decide +kernel
theorem zf22_44 : fetch 22 44 = some (.ifCond .ne 5, 3) := by decide +kernel
theorem zf22_49 : fetch 22 49 = some (.aload_n 0, 1) := by decide +kernel
theorem zf22_50 : fetch 22 50 = some (.getfield 17, 3) := by decide +kernel
theorem zf22_53 : fetch 22 53 = some (.bipush 59, 2) := by decide +kernel
theorem zf22_55 : fetch 22 55 = some (.invokevirtual 36, 3) := by decide +kernel
theorem zf22_58 : fetch 22 58 = some (.ifCond .ne 11, 3) := by decide +kernel
theorem zf22_69 : fetch 22 69 = some (.iinc 1 1, 3) := by decide +kernel
theorem zf22_72 : fetch 22 72 = some (.goto (-57), 3) := by decide +kernel
theorem zf22_61 : fetch 22 61 = some (.aload_n 0, 1) := by decide +kernel
theorem zf22_62 : fetch 22 62 = some (.getfield 17, 3) := by decide +kernel
theorem zf22_65 : fetch 22 65 = some (.getfield 21, 3) := by decide +kernel
theorem zf22_68 : fetch 22 68 = some (.ireturn, 1) := by decide +kernel
theorem zf22_47 : fetch 22 47 = some (.iconst (-1), 1) := by decide +kernel
theorem zf22_48 : fetch 22 48 = some (.ireturn, 1) := by decide +kernel
theorem zf22_29 : fetch 22 29 = some (.aload_n 0, 1) := by decide +kernel
theorem zf22_30 : fetch 22 30 = some (.getfield 17, 3) := by decide +kernel
theorem zf22_33 : fetch 22 33 = some (.getfield 21, 3) := by decide +kernel
theorem zf22_36 : fetch 22 36 = some (.ireturn, 1) := by decide +kernel
theorem zf38_10 : fetch 38 10 = some (.iload_n 1, 1) := by decide +kernel
theorem zf38_11 : fetch 38 11 = some (.bipush 16, 2) := by decide +kernel
theorem zf38_13 : fetch 38 13 = some (.if_icmp .ge 75, 3) := by decide +kernel
theorem zf38_88 : fetch 38 88 = some (.aload_n 0, 1) := by decide +kernel
theorem zf38_89 : fetch 38 89 = some (.getfield 23, 3) := by decide +kernel
theorem zf38_92 : fetch 38 92 = some (.getfield 44, 3) := by decide +kernel
theorem zf38_95 : fetch 38 95 = some (.ireturn, 1) := by decide +kernel
theorem zf38_16 : fetch 38 16 = some (.aload_n 0, 1) := by decide +kernel
theorem zf38_17 : fetch 38 17 = some (.iload_n 1, 1) := by decide +kernel
theorem zf38_18 : fetch 38 18 = some (.iconst 4, 1) := by decide +kernel
theorem zf38_19 : fetch 38 19 = some (.imul, 1) := by decide +kernel
theorem zf38_20 : fetch 38 20 = some (.invokevirtual 49, 3) := by decide +kernel
theorem zf38_23 : fetch 38 23 = some (.ifCond .ne 11, 3) := by decide +kernel
theorem zf38_34 : fetch 38 34 = some (.aload_n 0, 1) := by decide +kernel
theorem zf38_35 : fetch 38 35 = some (.iload_n 1, 1) := by decide +kernel
theorem zf38_36 : fetch 38 36 = some (.iconst 1, 1) := by decide +kernel
theorem zf38_37 : fetch 38 37 = some (.iadd, 1) := by decide +kernel
theorem zf38_38 : fetch 38 38 = some (.putfield 41, 3) := by decide +kernel
theorem zf38_41 : fetch 38 41 = some (.aload_n 0, 1) := by decide +kernel
theorem zf38_42 : fetch 38 42 = some (.getfield 23, 3) := by decide +kernel
theorem zf38_45 : fetch 38 45 = some (.invokevirtual 53, 3) := by decide +kernel
theorem zf38_48 : fetch 38 48 = some (.ifCond .ne 5, 3) := by decide +kernel
theorem zf38_53 : fetch 38 53 = some (.aload_n 0, 1) := by decide +kernel
theorem zf38_54 : fetch 38 54 = some (.getfield 41, 3) := by decide +kernel
theorem zf38_57 : fetch 38 57 = some (.bipush 16, 2) := by decide +kernel
theorem zf38_59 : fetch 38 59 = some (.if_icmp .eq 15, 3) := by decide +kernel
theorem zf38_74 : fetch 38 74 = some (.aload_n 0, 1) := by decide +kernel
theorem zf38_75 : fetch 38 75 = some (.getfield 23, 3) := by decide +kernel
theorem zf38_78 : fetch 38 78 = some (.getfield 44, 3) := by decide +kernel
theorem zf38_81 : fetch 38 81 = some (.ireturn, 1) := by decide +kernel
theorem zf38_62 : fetch 38 62 = some (.aload_n 0, 1) := by decide +kernel
theorem zf38_63 : fetch 38 63 = some (.getfield 23, 3) := by decide +kernel
theorem zf38_66 : fetch 38 66 = some (.bipush 59, 2) := by decide +kernel
theorem zf38_68 : fetch 38 68 = some (.invokevirtual 57, 3) := by decide +kernel
theorem zf38_71 : fetch 38 71 = some (.ifCond .ne 11, 3) := by decide +kernel
theorem zf38_82 : fetch 38 82 = some (.iinc 1 1, 3) := by decide +kernel
theorem zf38_85 : fetch 38 85 = some (.goto (-75), 3) := by decide +kernel
theorem zf38_51 : fetch 38 51 = some (.iconst (-1), 1) := by decide +kernel
theorem zf38_52 : fetch 38 52 = some (.ireturn, 1) := by decide +kernel
theorem zf38_26 : fetch 38 26 = some (.aload_n 0, 1) := by decide +kernel
theorem zf38_27 : fetch 38 27 = some (.getfield 23, 3) := by decide +kernel
theorem zf38_30 : fetch 38 30 = some (.getfield 44, 3) := by decide +kernel
theorem zf38_33 : fetch 38 33 = some (.ireturn, 1) := by decide +kernel
theorem zf44_83 : fetch 44 83 = some (.iload_n 1, 1) := by decide +kernel
theorem zf44_84 : fetch 44 84 = some (.iconst 2, 1) := by decide +kernel
theorem zf44_85 : fetch 44 85 = some (.if_icmp .ne 40, 3) := by decide +kernel
theorem zf44_125 : fetch 44 125 = some (.iconst (-1), 1) := by decide +kernel
theorem zf44_126 : fetch 44 126 = some (.ireturn, 1) := by decide +kernel
theorem zf44_88 : fetch 44 88 = some (.aload_n 0, 1) := by decide +kernel
theorem zf44_89 : fetch 44 89 = some (.getfield 49, 3) := by decide +kernel
theorem zf44_92 : fetch 44 92 = some (.invokevirtual 137, 3) := by decide +kernel
theorem zf44_95 : fetch 44 95 = some (.ifCond .eq 30, 3) := by decide +kernel
theorem zf44_98 : fetch 44 98 = some (.aload_n 0, 1) := by decide +kernel
theorem zf44_99 : fetch 44 99 = some (.getfield 49, 3) := by decide +kernel
theorem zf44_102 : fetch 44 102 = some (.invokevirtual 115, 3) := by decide +kernel
theorem zf44_105 : fetch 44 105 = some (.iconst (-1), 1) := by decide +kernel
theorem zf44_106 : fetch 44 106 = some (.if_icmp .ne 19, 3) := by decide +kernel
theorem zf44_109 : fetch 44 109 = some (.aload_n 0, 1) := by decide +kernel
theorem zf44_110 : fetch 44 110 = some (.getfield 10, 3) := by decide +kernel
theorem zf44_113 : fetch 44 113 = some (.iconst 0, 1) := by decide +kernel
theorem zf44_114 : fetch 44 114 = some (.putfield 102, 3) := by decide +kernel
theorem zf44_117 : fetch 44 117 = some (.aload_n 0, 1) := by decide +kernel
theorem zf44_118 : fetch 44 118 = some (.getfield 49, 3) := by decide +kernel
theorem zf44_121 : fetch 44 121 = some (.invokevirtual 138, 3) := by decide +kernel
theorem zf44_124 : fetch 44 124 = some (.ireturn, 1) := by decide +kernel
theorem zf56_0 : fetch 56 0 = some (.aload_n 0, 1) := by decide +kernel
theorem zf56_1 : fetch 56 1 = some (.getfield 32, 3) := by decide +kernel
theorem zf56_4 : fetch 56 4 = some (.iconst 4, 1) := by decide +kernel
theorem zf56_5 : fetch 56 5 = some (.if_icmp .ge 7, 3) := by decide +kernel
theorem zf56_12 : fetch 56 12 = some (.iconst 0, 1) := by decide +kernel
theorem zf56_13 : fetch 56 13 = some (.ireturn, 1) := by decide +kernel
theorem zf56_8 : fetch 56 8 = some (.iconst 1, 1) := by decide +kernel
theorem zf56_9 : fetch 56 9 = some (.goto 4, 3) := by decide +kernel
theorem zf57_0 : fetch 57 0 = some (.aload_n 0, 1) := by decide +kernel
theorem zf57_1 : fetch 57 1 = some (.invokevirtual 35, 3) := by decide +kernel
theorem zf57_4 : fetch 57 4 = some (.ifCond .eq 10, 3) := by decide +kernel
theorem zf57_14 : fetch 57 14 = some (.iconst (-1), 1) := by decide +kernel
theorem zf57_15 : fetch 57 15 = some (.ireturn, 1) := by decide +kernel
theorem zf57_7 : fetch 57 7 = some (.iload_n 2, 1) := by decide +kernel
theorem zf57_8 : fetch 57 8 = some (.sipush 240, 3) := by decide +kernel
theorem zf57_11 : fetch 57 11 = some (.if_icmp .le 5, 3) := by decide +kernel
theorem zf57_16 : fetch 57 16 = some (.aload_n 1, 1) := by decide +kernel
theorem zf57_17 : fetch 57 17 = some (.iconst 0, 1) := by decide +kernel
theorem zf57_18 : fetch 57 18 = some (.aload_n 0, 1) := by decide +kernel
theorem zf57_19 : fetch 57 19 = some (.getfield 23, 3) := by decide +kernel
theorem zf57_22 : fetch 57 22 = some (.aload_n 0, 1) := by decide +kernel
theorem zf57_23 : fetch 57 23 = some (.getfield 32, 3) := by decide +kernel
theorem zf57_26 : fetch 57 26 = some (.aaload, 1) := by decide +kernel
theorem zf57_27 : fetch 57 27 = some (.iconst 0, 1) := by decide +kernel
theorem zf57_28 : fetch 57 28 = some (.iload_n 2, 1) := by decide +kernel
theorem zf57_29 : fetch 57 29 = some (.invokestatic 39, 3) := by decide +kernel
theorem zf57_32 : fetch 57 32 = some (.aload_n 0, 1) := by decide +kernel
theorem zf57_33 : fetch 57 33 = some (.getfield 26, 3) := by decide +kernel
theorem zf57_36 : fetch 57 36 = some (.aload_n 0, 1) := by decide +kernel
theorem zf57_37 : fetch 57 37 = some (.getfield 32, 3) := by decide +kernel
theorem zf57_40 : fetch 57 40 = some (.iload_n 2, 1) := by decide +kernel
theorem zf57_41 : fetch 57 41 = some (.iastore, 1) := by decide +kernel
theorem zf57_42 : fetch 57 42 = some (.aload_n 0, 1) := by decide +kernel
theorem zf57_43 : fetch 57 43 = some (.dup, 1) := by decide +kernel
theorem zf57_44 : fetch 57 44 = some (.getfield 32, 3) := by decide +kernel
theorem zf57_47 : fetch 57 47 = some (.iconst 1, 1) := by decide +kernel
theorem zf57_48 : fetch 57 48 = some (.iadd, 1) := by decide +kernel
theorem zf57_49 : fetch 57 49 = some (.putfield 32, 3) := by decide +kernel
theorem zf57_52 : fetch 57 52 = some (.aload_n 0, 1) := by decide +kernel
theorem zf57_53 : fetch 57 53 = some (.getfield 32, 3) := by decide +kernel
theorem zf57_56 : fetch 57 56 = some (.iconst 1, 1) := by decide +kernel
theorem zf57_57 : fetch 57 57 = some (.isub, 1) := by decide +kernel
theorem zf57_58 : fetch 57 58 = some (.ireturn, 1) := by decide +kernel
theorem zf46_0 : fetch 46 0 = some (.aload_n 1, 1) := by decide +kernel
theorem zf46_1 : fetch 46 1 = some (.getfield 11, 3) := by decide +kernel
theorem zf46_4 : fetch 46 4 = some (.iconst 0, 1) := by decide +kernel
theorem zf46_5 : fetch 46 5 = some (.aload_n 0, 1) := by decide +kernel
theorem zf46_6 : fetch 46 6 = some (.getfield 11, 3) := by decide +kernel
theorem zf46_9 : fetch 46 9 = some (.iconst 0, 1) := by decide +kernel
theorem zf46_10 : fetch 46 10 = some (.aload_n 0, 1) := by decide +kernel
theorem zf46_11 : fetch 46 11 = some (.getfield 11, 3) := by decide +kernel
theorem zf46_14 : fetch 46 14 = some (.arraylength, 1) := by decide +kernel
theorem zf46_15 : fetch 46 15 = some (.invokestatic 21, 3) := by decide +kernel
theorem zf46_18 : fetch 46 18 = some (.aload_n 1, 1) := by decide +kernel
theorem zf46_19 : fetch 46 19 = some (.getfield 15, 3) := by decide +kernel
theorem zf46_22 : fetch 46 22 = some (.iconst 0, 1) := by decide +kernel
theorem zf46_23 : fetch 46 23 = some (.aload_n 0, 1) := by decide +kernel
theorem zf46_24 : fetch 46 24 = some (.getfield 15, 3) := by decide +kernel
theorem zf46_27 : fetch 46 27 = some (.iconst 0, 1) := by decide +kernel
theorem zf46_28 : fetch 46 28 = some (.aload_n 0, 1) := by decide +kernel
theorem zf46_29 : fetch 46 29 = some (.getfield 15, 3) := by decide +kernel
theorem zf46_32 : fetch 46 32 = some (.arraylength, 1) := by decide +kernel
theorem zf46_33 : fetch 46 33 = some (.invokestatic 21, 3) := by decide +kernel
theorem zf46_36 : fetch 46 36 = some (.aload_n 1, 1) := by decide +kernel
theorem zf46_37 : fetch 46 37 = some (.getfield 18, 3) := by decide +kernel
theorem zf46_40 : fetch 46 40 = some (.iconst 0, 1) := by decide +kernel
theorem zf46_41 : fetch 46 41 = some (.aload_n 0, 1) := by decide +kernel
theorem zf46_42 : fetch 46 42 = some (.getfield 18, 3) := by decide +kernel
theorem zf46_45 : fetch 46 45 = some (.iconst 0, 1) := by decide +kernel
theorem zf46_46 : fetch 46 46 = some (.aload_n 0, 1) := by decide +kernel
theorem zf46_47 : fetch 46 47 = some (.getfield 18, 3) := by decide +kernel
theorem zf46_50 : fetch 46 50 = some (.arraylength, 1) := by decide +kernel
theorem zf46_51 : fetch 46 51 = some (.invokestatic 21, 3) := by decide +kernel
theorem zf46_54 : fetch 46 54 = some (.aload_n 0, 1) := by decide +kernel
theorem zf46_55 : fetch 46 55 = some (.aload_n 1, 1) := by decide +kernel
theorem zf46_56 : fetch 46 56 = some (.getfield 27, 3) := by decide +kernel
theorem zf46_59 : fetch 46 59 = some (.putfield 27, 3) := by decide +kernel
theorem zf46_62 : fetch 46 62 = some (.aload_n 0, 1) := by decide +kernel
theorem zf46_63 : fetch 46 63 = some (.aload_n 1, 1) := by decide +kernel
theorem zf46_64 : fetch 46 64 = some (.getfield 31, 3) := by decide +kernel
theorem zf46_67 : fetch 46 67 = some (.putfield 31, 3) := by decide +kernel
theorem zf46_70 : fetch 46 70 = some (.return_, 1) := by decide +kernel
theorem zf47_0 : fetch 47 0 = some (.aload_n 0, 1) := by decide +kernel
theorem zf47_1 : fetch 47 1 = some (.getfield 15, 3) := by decide +kernel
theorem zf47_4 : fetch 47 4 = some (.iconst 0, 1) := by decide +kernel
theorem zf47_5 : fetch 47 5 = some (.invokestatic 22, 3) := by decide +kernel
theorem zf47_8 : fetch 47 8 = some (.aload_n 0, 1) := by decide +kernel
theorem zf47_9 : fetch 47 9 = some (.getfield 15, 3) := by decide +kernel
theorem zf47_12 : fetch 47 12 = some (.iconst 0, 1) := by decide +kernel
theorem zf47_13 : fetch 47 13 = some (.aload_n 1, 1) := by decide +kernel
theorem zf47_14 : fetch 47 14 = some (.invokevirtual 28, 3) := by decide +kernel
theorem zf47_17 : fetch 47 17 = some (.iastore, 1) := by decide +kernel
theorem zf47_18 : fetch 47 18 = some (.aload_n 0, 1) := by decide +kernel
theorem zf47_19 : fetch 47 19 = some (.getfield 15, 3) := by decide +kernel
theorem zf47_22 : fetch 47 22 = some (.iconst 1, 1) := by decide +kernel
theorem zf47_23 : fetch 47 23 = some (.aload_n 1, 1) := by decide +kernel
theorem zf47_24 : fetch 47 24 = some (.invokevirtual 32, 3) := by decide +kernel
theorem zf47_27 : fetch 47 27 = some (.iastore, 1) := by decide +kernel
theorem zf47_28 : fetch 47 28 = some (.aload_n 0, 1) := by decide +kernel
theorem zf47_29 : fetch 47 29 = some (.getfield 15, 3) := by decide +kernel
theorem zf47_32 : fetch 47 32 = some (.iconst 2, 1) := by decide +kernel
theorem zf47_33 : fetch 47 33 = some (.aload_n 1, 1) := by decide +kernel
theorem zf47_34 : fetch 47 34 = some (.invokevirtual 35, 3) := by decide +kernel
theorem zf47_37 : fetch 47 37 = some (.iastore, 1) := by decide +kernel
theorem zf47_38 : fetch 47 38 = some (.iconst 0, 1) := by decide +kernel
theorem zf47_39 : fetch 47 39 = some (.istore_n 2, 1) := by decide +kernel
theorem zf54_0 : fetch 54 0 = some (.aload_n 0, 1) := by decide +kernel
theorem zf54_1 : fetch 54 1 = some (.iconst 0, 1) := by decide +kernel
theorem zf54_2 : fetch 54 2 = some (.putfield 38, 3) := by decide +kernel
theorem zf54_5 : fetch 54 5 = some (.aload_n 0, 1) := by decide +kernel
theorem zf54_6 : fetch 54 6 = some (.iconst 0, 1) := by decide +kernel
theorem zf54_7 : fetch 54 7 = some (.putfield 42, 3) := by decide +kernel
theorem zf54_10 : fetch 54 10 = some (.return_, 1) := by decide +kernel
theorem zf55_0 : fetch 55 0 = some (.aload_n 0, 1) := by decide +kernel
theorem zf55_1 : fetch 55 1 = some (.getfield 17, 3) := by decide +kernel
theorem zf55_4 : fetch 55 4 = some (.iconst 0, 1) := by decide +kernel
theorem zf55_5 : fetch 55 5 = some (.invokestatic 28, 3) := by decide +kernel
theorem zf55_8 : fetch 55 8 = some (.return_, 1) := by decide +kernel
theorem zf68_5 : fetch 68 5 = some (.iload 4, 2) := by decide +kernel
theorem zf68_7 : fetch 68 7 = some (.iload_n 2, 1) := by decide +kernel
theorem zf68_8 : fetch 68 8 = some (.if_icmp .ge 21, 3) := by decide +kernel
theorem zf68_29 : fetch 68 29 = some (.iload_n 3, 1) := by decide +kernel
theorem zf68_30 : fetch 68 30 = some (.ireturn, 1) := by decide +kernel
theorem zf68_11 : fetch 68 11 = some (.iload_n 3, 1) := by decide +kernel
theorem zf68_12 : fetch 68 12 = some (.aload_n 0, 1) := by decide +kernel
theorem zf68_13 : fetch 68 13 = some (.getfield 15, 3) := by decide +kernel
theorem zf68_16 : fetch 68 16 = some (.iload_n 1, 1) := by decide +kernel
theorem zf68_17 : fetch 68 17 = some (.iload 4, 2) := by decide +kernel
theorem zf68_19 : fetch 68 19 = some (.iadd, 1) := by decide +kernel
theorem zf68_20 : fetch 68 20 = some (.iaload, 1) := by decide +kernel
theorem zf68_21 : fetch 68 21 = some (.iadd, 1) := by decide +kernel
theorem zf68_22 : fetch 68 22 = some (.istore_n 3, 1) := by decide +kernel
theorem zf68_23 : fetch 68 23 = some (.iinc 4 1, 3) := by decide +kernel
theorem zf68_26 : fetch 68 26 = some (.goto (-21), 3) := by decide +kernel
theorem zf88_0 : fetch 88 0 = some (.aload_n 0, 1) := by decide +kernel
theorem zf88_1 : fetch 88 1 = some (.getfield 15, 3) := by decide +kernel
theorem zf88_4 : fetch 88 4 = some (.bipush 21, 2) := by decide +kernel
theorem zf88_6 : fetch 88 6 = some (.iload_n 2, 1) := by decide +kernel
theorem zf88_7 : fetch 88 7 = some (.iadd, 1) := by decide +kernel
theorem zf88_8 : fetch 88 8 = some (.iaload, 1) := by decide +kernel
theorem zf88_9 : fetch 88 9 = some (.ifCond .le 19, 3) := by decide +kernel
theorem zf88_28 : fetch 88 28 = some (.aload_n 0, 1) := by decide +kernel
theorem zf88_29 : fetch 88 29 = some (.getfield 15, 3) := by decide +kernel
theorem zf88_32 : fetch 88 32 = some (.bipush 11, 2) := by decide +kernel
theorem zf88_34 : fetch 88 34 = some (.iload_n 1, 1) := by decide +kernel
theorem zf88_35 : fetch 88 35 = some (.iadd, 1) := by decide +kernel
theorem zf88_36 : fetch 88 36 = some (.bipush 99, 2) := by decide +kernel
theorem zf88_38 : fetch 88 38 = some (.aload_n 0, 1) := by decide +kernel
theorem zf88_39 : fetch 88 39 = some (.getfield 15, 3) := by decide +kernel
theorem zf88_42 : fetch 88 42 = some (.bipush 11, 2) := by decide +kernel
theorem zf88_44 : fetch 88 44 = some (.iload_n 1, 1) := by decide +kernel
theorem zf88_45 : fetch 88 45 = some (.iadd, 1) := by decide +kernel
theorem zf88_46 : fetch 88 46 = some (.iaload, 1) := by decide +kernel
theorem zf88_47 : fetch 88 47 = some (.iconst 1, 1) := by decide +kernel
theorem zf88_48 : fetch 88 48 = some (.iadd, 1) := by decide +kernel
theorem zf88_49 : fetch 88 49 = some (.invokestatic 64, 3) := by decide +kernel
theorem zf88_52 : fetch 88 52 = some (.iastore, 1) := by decide +kernel
theorem zf88_12 : fetch 88 12 = some (.aload_n 0, 1) := by decide +kernel
theorem zf88_13 : fetch 88 13 = some (.getfield 15, 3) := by decide +kernel
theorem zf88_16 : fetch 88 16 = some (.bipush 21, 2) := by decide +kernel
theorem zf88_18 : fetch 88 18 = some (.iload_n 2, 1) := by decide +kernel
theorem zf88_19 : fetch 88 19 = some (.iadd, 1) := by decide +kernel
theorem zf88_20 : fetch 88 20 = some (.dup2, 1) := by decide +kernel
theorem zf88_21 : fetch 88 21 = some (.iaload, 1) := by decide +kernel
theorem zf88_22 : fetch 88 22 = some (.iconst 1, 1) := by decide +kernel
theorem zf88_23 : fetch 88 23 = some (.isub, 1) := by decide +kernel
theorem zf88_24 : fetch 88 24 = some (.iastore, 1) := by decide +kernel
theorem zf88_25 : fetch 88 25 = some (.goto 28, 3) := by decide +kernel
theorem zf89_0 : fetch 89 0 = some (.aload_n 0, 1) := by decide +kernel
theorem zf89_1 : fetch 89 1 = some (.getfield 15, 3) := by decide +kernel
theorem zf89_4 : fetch 89 4 = some (.iconst 5, 1) := by decide +kernel
theorem zf89_5 : fetch 89 5 = some (.iaload, 1) := by decide +kernel
theorem zf89_6 : fetch 89 6 = some (.bipush 100, 2) := by decide +kernel
theorem zf89_8 : fetch 89 8 = some (.irem, 1) := by decide +kernel
theorem zf89_9 : fetch 89 9 = some (.iconst 4, 1) := by decide +kernel
theorem zf89_10 : fetch 89 10 = some (.imul, 1) := by decide +kernel
theorem zf89_11 : fetch 89 11 = some (.istore 5, 2) := by decide +kernel
theorem zf89_13 : fetch 89 13 = some (.aload_n 0, 1) := by decide +kernel
theorem zf89_14 : fetch 89 14 = some (.getfield 19, 3) := by decide +kernel
theorem zf89_17 : fetch 89 17 = some (.iload 5, 2) := by decide +kernel
theorem zf89_19 : fetch 89 19 = some (.iload_n 1, 1) := by decide +kernel
theorem zf89_20 : fetch 89 20 = some (.iastore, 1) := by decide +kernel
theorem zf89_21 : fetch 89 21 = some (.aload_n 0, 1) := by decide +kernel
theorem zf89_22 : fetch 89 22 = some (.getfield 19, 3) := by decide +kernel
theorem zf89_25 : fetch 89 25 = some (.iload 5, 2) := by decide +kernel
theorem zf89_27 : fetch 89 27 = some (.iconst 1, 1) := by decide +kernel
theorem zf89_28 : fetch 89 28 = some (.iadd, 1) := by decide +kernel
theorem zf89_29 : fetch 89 29 = some (.iload_n 2, 1) := by decide +kernel
theorem zf89_30 : fetch 89 30 = some (.iastore, 1) := by decide +kernel
theorem zf89_31 : fetch 89 31 = some (.aload_n 0, 1) := by decide +kernel
theorem zf89_32 : fetch 89 32 = some (.getfield 19, 3) := by decide +kernel
theorem zf89_35 : fetch 89 35 = some (.iload 5, 2) := by decide +kernel
theorem zf89_37 : fetch 89 37 = some (.iconst 2, 1) := by decide +kernel
theorem zf89_38 : fetch 89 38 = some (.iadd, 1) := by decide +kernel
theorem zf89_39 : fetch 89 39 = some (.iload_n 3, 1) := by decide +kernel
theorem zf89_40 : fetch 89 40 = some (.iastore, 1) := by decide +kernel
theorem zf89_41 : fetch 89 41 = some (.aload_n 0, 1) := by decide +kernel
theorem zf89_42 : fetch 89 42 = some (.getfield 19, 3) := by decide +kernel
theorem zf89_45 : fetch 89 45 = some (.iload 5, 2) := by decide +kernel
theorem zf89_47 : fetch 89 47 = some (.iconst 3, 1) := by decide +kernel
theorem zf89_48 : fetch 89 48 = some (.iadd, 1) := by decide +kernel
theorem zf89_49 : fetch 89 49 = some (.iload 4, 2) := by decide +kernel
theorem zf89_51 : fetch 89 51 = some (.iastore, 1) := by decide +kernel
theorem zf89_52 : fetch 89 52 = some (.aload_n 0, 1) := by decide +kernel
theorem zf89_53 : fetch 89 53 = some (.getfield 15, 3) := by decide +kernel
theorem zf89_56 : fetch 89 56 = some (.iconst 5, 1) := by decide +kernel
theorem zf89_57 : fetch 89 57 = some (.dup2, 1) := by decide +kernel
theorem zf89_58 : fetch 89 58 = some (.iaload, 1) := by decide +kernel
theorem zf89_59 : fetch 89 59 = some (.iconst 1, 1) := by decide +kernel
theorem zf89_60 : fetch 89 60 = some (.iadd, 1) := by decide +kernel
theorem zf89_61 : fetch 89 61 = some (.iastore, 1) := by decide +kernel
theorem zf89_62 : fetch 89 62 = some (.return_, 1) := by decide +kernel
theorem zf100_0 : fetch 100 0 = some (.iconst 0, 1) := by decide +kernel
theorem zf100_1 : fetch 100 1 = some (.istore_n 2, 1) := by decide +kernel
theorem zf102_0 : fetch 102 0 = some (.lload_n 1, 1) := by decide +kernel
theorem zf102_1 : fetch 102 1 = some (.invokestatic 293, 3) := by decide +kernel
theorem zf102_4 : fetch 102 4 = some (.lstore_n 3, 1) := by decide +kernel
theorem zf102_5 : fetch 102 5 = some (.lload_n 3, 1) := by decide +kernel
theorem zf102_6 : fetch 102 6 = some (.bipush 10, 2) := by decide +kernel
theorem zf102_8 : fetch 102 8 = some (.invokestatic 296, 3) := by decide +kernel
theorem zf102_11 : fetch 102 11 = some (.aload_n 0, 1) := by decide +kernel
theorem zf102_12 : fetch 102 12 = some (.getfield 202, 3) := by decide +kernel
theorem zf102_15 : fetch 102 15 = some (.if_icmp .ge 23, 3) := by decide +kernel
theorem zf102_18 : fetch 102 18 = some (.lload_n 3, 1) := by decide +kernel
theorem zf102_19 : fetch 102 19 = some (.invokestatic 293, 3) := by decide +kernel
theorem zf102_22 : fetch 102 22 = some (.lstore_n 3, 1) := by decide +kernel
theorem zf102_23 : fetch 102 23 = some (.aload_n 0, 1) := by decide +kernel
theorem zf102_24 : fetch 102 24 = some (.getfield 88, 3) := by decide +kernel
theorem zf102_27 : fetch 102 27 = some (.getfield 162, 3) := by decide +kernel
theorem zf102_30 : fetch 102 30 = some (.iconst 3, 1) := by decide +kernel
theorem zf102_31 : fetch 102 31 = some (.lload_n 3, 1) := by decide +kernel
theorem zf102_32 : fetch 102 32 = some (.bipush 10, 2) := by decide +kernel
theorem zf102_34 : fetch 102 34 = some (.invokestatic 296, 3) := by decide +kernel
theorem zf102_37 : fetch 102 37 = some (.iastore, 1) := by decide +kernel
theorem zf117_3 : fetch 117 3 = some (.iload 4, 2) := by decide +kernel
theorem zf117_5 : fetch 117 5 = some (.aload_n 0, 1) := by decide +kernel
theorem zf117_6 : fetch 117 6 = some (.getfield 49, 3) := by decide +kernel
theorem zf117_9 : fetch 117 9 = some (.getfield 311, 3) := by decide +kernel
theorem zf117_12 : fetch 117 12 = some (.iload_n 2, 1) := by decide +kernel
theorem zf117_13 : fetch 117 13 = some (.iaload, 1) := by decide +kernel
theorem zf117_14 : fetch 117 14 = some (.if_icmp .ge 91, 3) := by decide +kernel
theorem zf117_105 : fetch 117 105 = some (.aload_n 0, 1) := by decide +kernel
theorem zf117_106 : fetch 117 106 = some (.getfield 49, 3) := by decide +kernel
theorem zf117_109 : fetch 117 109 = some (.getfield 311, 3) := by decide +kernel
theorem zf117_112 : fetch 117 112 = some (.iload_n 2, 1) := by decide +kernel
theorem zf117_113 : fetch 117 113 = some (.iaload, 1) := by decide +kernel
theorem zf117_114 : fetch 117 114 = some (.ireturn, 1) := by decide +kernel
theorem zf117_17 : fetch 117 17 = some (.aload_n 0, 1) := by decide +kernel
theorem zf117_18 : fetch 117 18 = some (.aload_n 1, 1) := by decide +kernel
theorem zf117_19 : fetch 117 19 = some (.iload_n 2, 1) := by decide +kernel
theorem zf117_20 : fetch 117 20 = some (.iload 4, 2) := by decide +kernel
theorem zf117_22 : fetch 117 22 = some (.invokevirtual 322, 3) := by decide +kernel
theorem zf117_25 : fetch 117 25 = some (.ifCond .ne 6, 3) := by decide +kernel
theorem zf117_31 : fetch 117 31 = some (.aload_n 0, 1) := by decide +kernel
theorem zf117_32 : fetch 117 32 = some (.getfield 49, 3) := by decide +kernel
theorem zf117_35 : fetch 117 35 = some (.iload_n 2, 1) := by decide +kernel
theorem zf117_36 : fetch 117 36 = some (.iload 4, 2) := by decide +kernel
theorem zf117_38 : fetch 117 38 = some (.iconst 0, 1) := by decide +kernel
theorem zf117_39 : fetch 117 39 = some (.invokevirtual 314, 3) := by decide +kernel
theorem zf117_42 : fetch 117 42 = some (.iconst 1, 1) := by decide +kernel
theorem zf117_43 : fetch 117 43 = some (.if_icmp .ne 17, 3) := by decide +kernel
theorem zf117_60 : fetch 117 60 = some (.iconst 1, 1) := by decide +kernel
theorem zf117_61 : fetch 117 61 = some (.istore 5, 2) := by decide +kernel
theorem zf117_63 : fetch 117 63 = some (.iconst 0, 1) := by decide +kernel
theorem zf117_64 : fetch 117 64 = some (.istore 6, 2) := by decide +kernel
theorem zf117_46 : fetch 117 46 = some (.aload_n 0, 1) := by decide +kernel
theorem zf117_47 : fetch 117 47 = some (.getfield 49, 3) := by decide +kernel
theorem zf117_50 : fetch 117 50 = some (.iload_n 2, 1) := by decide +kernel
theorem zf117_51 : fetch 117 51 = some (.iload 4, 2) := by decide +kernel
theorem zf117_53 : fetch 117 53 = some (.iconst 1, 1) := by decide +kernel
theorem zf117_54 : fetch 117 54 = some (.invokevirtual 314, 3) := by decide +kernel
theorem zf117_57 : fetch 117 57 = some (.goto 4, 3) := by decide +kernel
theorem zf117_28 : fetch 117 28 = some (.iload 4, 2) := by decide +kernel
theorem zf117_30 : fetch 117 30 = some (.ireturn, 1) := by decide +kernel
theorem zf80_0 : fetch 80 0 = some (.iload_n 1, 1) := by decide +kernel
theorem zf80_1 : fetch 80 1 = some (.iload_n 2, 1) := by decide +kernel
theorem zf80_2 : fetch 80 2 = some (.if_icmp .ne 7, 3) := by decide +kernel
theorem zf80_9 : fetch 80 9 = some (.iload_n 0, 1) := by decide +kernel
theorem zf80_10 : fetch 80 10 = some (.ineg, 1) := by decide +kernel
theorem zf80_11 : fetch 80 11 = some (.ireturn, 1) := by decide +kernel
theorem zf80_5 : fetch 80 5 = some (.iload_n 0, 1) := by decide +kernel
theorem zf80_6 : fetch 80 6 = some (.goto 5, 3) := by decide +kernel
theorem zf81_0 : fetch 81 0 = some (.aload_n 0, 1) := by decide +kernel
theorem zf81_1 : fetch 81 1 = some (.getfield 20, 3) := by decide +kernel
theorem zf81_4 : fetch 81 4 = some (.iload_n 1, 1) := by decide +kernel
theorem zf81_5 : fetch 81 5 = some (.invokevirtual 34, 3) := by decide +kernel
theorem zf81_8 : fetch 81 8 = some (.istore 6, 2) := by decide +kernel
theorem zf81_10 : fetch 81 10 = some (.aload_n 0, 1) := by decide +kernel
theorem zf81_11 : fetch 81 11 = some (.getfield 20, 3) := by decide +kernel
theorem zf81_14 : fetch 81 14 = some (.iload_n 2, 1) := by decide +kernel
theorem zf81_15 : fetch 81 15 = some (.invokevirtual 38, 3) := by decide +kernel
theorem zf81_18 : fetch 81 18 = some (.istore 7, 2) := by decide +kernel
theorem zf81_20 : fetch 81 20 = some (.aload_n 0, 1) := by decide +kernel
theorem zf81_21 : fetch 81 21 = some (.getfield 24, 3) := by decide +kernel
theorem zf81_24 : fetch 81 24 = some (.getfield 41, 3) := by decide +kernel
theorem zf81_27 : fetch 81 27 = some (.iconst (-1), 1) := by decide +kernel
theorem zf81_28 : fetch 81 28 = some (.if_icmp .ne 33, 3) := by decide +kernel
theorem zf81_61 : fetch 81 61 = some (.aload_n 0, 1) := by decide +kernel
theorem zf81_62 : fetch 81 62 = some (.getfield 24, 3) := by decide +kernel
theorem zf81_65 : fetch 81 65 = some (.getfield 47, 3) := by decide +kernel
theorem zf81_68 : fetch 81 68 = some (.iconst 0, 1) := by decide +kernel
theorem zf81_69 : fetch 81 69 = some (.iload_n 3, 1) := by decide +kernel
theorem zf81_70 : fetch 81 70 = some (.iastore, 1) := by decide +kernel
theorem zf81_71 : fetch 81 71 = some (.aload_n 0, 1) := by decide +kernel
theorem zf81_72 : fetch 81 72 = some (.getfield 24, 3) := by decide +kernel
theorem zf81_75 : fetch 81 75 = some (.getfield 47, 3) := by decide +kernel
theorem zf81_78 : fetch 81 78 = some (.iconst 1, 1) := by decide +kernel
theorem zf81_79 : fetch 81 79 = some (.iload 6, 2) := by decide +kernel
theorem zf81_81 : fetch 81 81 = some (.iastore, 1) := by decide +kernel
theorem zf81_82 : fetch 81 82 = some (.aload_n 0, 1) := by decide +kernel
theorem zf81_83 : fetch 81 83 = some (.getfield 24, 3) := by decide +kernel
theorem zf81_86 : fetch 81 86 = some (.getfield 47, 3) := by decide +kernel
theorem zf81_89 : fetch 81 89 = some (.iconst 2, 1) := by decide +kernel
theorem zf81_90 : fetch 81 90 = some (.iload 4, 2) := by decide +kernel
theorem zf81_92 : fetch 81 92 = some (.iastore, 1) := by decide +kernel
theorem zf81_93 : fetch 81 93 = some (.aload_n 0, 1) := by decide +kernel
theorem zf81_94 : fetch 81 94 = some (.getfield 24, 3) := by decide +kernel
theorem zf81_97 : fetch 81 97 = some (.getfield 47, 3) := by decide +kernel
theorem zf81_100 : fetch 81 100 = some (.iconst 3, 1) := by decide +kernel
theorem zf81_101 : fetch 81 101 = some (.iload 7, 2) := by decide +kernel
theorem zf81_103 : fetch 81 103 = some (.iastore, 1) := by decide +kernel
theorem zf81_104 : fetch 81 104 = some (.aload_n 0, 1) := by decide +kernel
theorem zf81_105 : fetch 81 105 = some (.getfield 24, 3) := by decide +kernel
theorem zf81_108 : fetch 81 108 = some (.getfield 47, 3) := by decide +kernel
theorem zf81_111 : fetch 81 111 = some (.iconst 4, 1) := by decide +kernel
theorem zf81_112 : fetch 81 112 = some (.aload_n 0, 1) := by decide +kernel
theorem zf81_113 : fetch 81 113 = some (.getfield 20, 3) := by decide +kernel
theorem zf81_116 : fetch 81 116 = some (.iload_n 1, 1) := by decide +kernel
theorem zf81_117 : fetch 81 117 = some (.invokevirtual 50, 3) := by decide +kernel
theorem zf81_120 : fetch 81 120 = some (.iastore, 1) := by decide +kernel
theorem zf81_121 : fetch 81 121 = some (.aload_n 0, 1) := by decide +kernel
theorem zf81_122 : fetch 81 122 = some (.getfield 24, 3) := by decide +kernel
theorem zf81_125 : fetch 81 125 = some (.getfield 47, 3) := by decide +kernel
theorem zf81_128 : fetch 81 128 = some (.iconst 5, 1) := by decide +kernel
theorem zf81_129 : fetch 81 129 = some (.iload 5, 2) := by decide +kernel
theorem zf81_131 : fetch 81 131 = some (.iastore, 1) := by decide +kernel
theorem zf81_132 : fetch 81 132 = some (.aload_n 0, 1) := by decide +kernel
theorem zf81_133 : fetch 81 133 = some (.getfield 24, 3) := by decide +kernel
theorem zf81_136 : fetch 81 136 = some (.invokevirtual 53, 3) := by decide +kernel
theorem zf81_139 : fetch 81 139 = some (.istore 8, 2) := by decide +kernel
theorem zf81_141 : fetch 81 141 = some (.iconst 0, 1) := by decide +kernel
theorem zf81_142 : fetch 81 142 = some (.bipush 60, 2) := by decide +kernel
theorem zf81_144 : fetch 81 144 = some (.iload 8, 2) := by decide +kernel
theorem zf81_146 : fetch 81 146 = some (.invokestatic 57, 3) := by decide +kernel
theorem zf81_149 : fetch 81 149 = some (.invokestatic 63, 3) := by decide +kernel
theorem zf81_152 : fetch 81 152 = some (.ireturn, 1) := by decide +kernel
theorem zf81_31 : fetch 81 31 = some (.iload 6, 2) := by decide +kernel
theorem zf81_33 : fetch 81 33 = some (.ifCond .ne 7, 3) := by decide +kernel
theorem zf81_40 : fetch 81 40 = some (.bipush 6, 2) := by decide +kernel
theorem zf81_42 : fetch 81 42 = some (.iload_n 3, 1) := by decide +kernel
theorem zf81_43 : fetch 81 43 = some (.imul, 1) := by decide +kernel
theorem zf81_44 : fetch 81 44 = some (.iload 6, 2) := by decide +kernel
theorem zf81_46 : fetch 81 46 = some (.idiv, 1) := by decide +kernel
theorem zf81_47 : fetch 81 47 = some (.iload 7, 2) := by decide +kernel
theorem zf81_49 : fetch 81 49 = some (.iadd, 1) := by decide +kernel
theorem zf81_50 : fetch 81 50 = some (.iload 4, 2) := by decide +kernel
theorem zf81_52 : fetch 81 52 = some (.iadd, 1) := by decide +kernel
theorem zf81_53 : fetch 81 53 = some (.iload 5, 2) := by decide +kernel
theorem zf81_55 : fetch 81 55 = some (.isub, 1) := by decide +kernel
theorem zf81_56 : fetch 81 56 = some (.istore 8, 2) := by decide +kernel
theorem zf81_58 : fetch 81 58 = some (.goto 83, 3) := by decide +kernel
theorem zf81_36 : fetch 81 36 = some (.iconst 0, 1) := by decide +kernel
theorem zf81_37 : fetch 81 37 = some (.goto 10, 3) := by decide +kernel
theorem zf86_0 : fetch 86 0 = some (.iload_n 2, 1) := by decide +kernel
theorem zf86_1 : fetch 86 1 = some (.ifCond .ne 9, 3) := by decide +kernel
theorem zf86_10 : fetch 86 10 = some (.iload_n 0, 1) := by decide +kernel
theorem zf86_11 : fetch 86 11 = some (.iload_n 1, 1) := by decide +kernel
theorem zf86_12 : fetch 86 12 = some (.isub, 1) := by decide +kernel
theorem zf86_13 : fetch 86 13 = some (.ireturn, 1) := by decide +kernel
theorem zf86_4 : fetch 86 4 = some (.iload_n 0, 1) := by decide +kernel
theorem zf86_5 : fetch 86 5 = some (.iload_n 1, 1) := by decide +kernel
theorem zf86_6 : fetch 86 6 = some (.iadd, 1) := by decide +kernel
theorem zf86_7 : fetch 86 7 = some (.goto 6, 3) := by decide +kernel
theorem zf87_9 : fetch 87 9 = some (.iload_n 3, 1) := by decide +kernel
theorem zf87_10 : fetch 87 10 = some (.ifCond .lt 39, 3) := by decide +kernel
theorem zf87_49 : fetch 87 49 = some (.iload_n 2, 1) := by decide +kernel
theorem zf87_50 : fetch 87 50 = some (.ireturn, 1) := by decide +kernel
theorem zf87_13 : fetch 87 13 = some (.aload_n 0, 1) := by decide +kernel
theorem zf87_14 : fetch 87 14 = some (.iload_n 3, 1) := by decide +kernel
theorem zf87_15 : fetch 87 15 = some (.invokevirtual 34, 3) := by decide +kernel
theorem zf87_18 : fetch 87 18 = some (.iload_n 1, 1) := by decide +kernel
theorem zf87_19 : fetch 87 19 = some (.isub, 1) := by decide +kernel
theorem zf87_20 : fetch 87 20 = some (.istore 4, 2) := by decide +kernel
theorem zf87_22 : fetch 87 22 = some (.iload 4, 2) := by decide +kernel
theorem zf87_24 : fetch 87 24 = some (.ifCond .ne 5, 3) := by decide +kernel
theorem zf87_29 : fetch 87 29 = some (.iload 4, 2) := by decide +kernel
theorem zf87_31 : fetch 87 31 = some (.iconst 1, 1) := by decide +kernel
theorem zf87_32 : fetch 87 32 = some (.if_icmp .eq 9, 3) := by decide +kernel
theorem zf87_41 : fetch 87 41 = some (.iload_n 3, 1) := by decide +kernel
theorem zf87_42 : fetch 87 42 = some (.istore_n 2, 1) := by decide +kernel
theorem zf87_43 : fetch 87 43 = some (.iinc 3 (-1), 3) := by decide +kernel
theorem zf87_46 : fetch 87 46 = some (.goto (-37), 3) := by decide +kernel
theorem zf87_35 : fetch 87 35 = some (.iload 4, 2) := by decide +kernel
theorem zf87_37 : fetch 87 37 = some (.iconst (-1), 1) := by decide +kernel
theorem zf87_38 : fetch 87 38 = some (.if_icmp .ne 5, 3) := by decide +kernel
theorem zf87_27 : fetch 87 27 = some (.iload_n 3, 1) := by decide +kernel
theorem zf87_28 : fetch 87 28 = some (.ireturn, 1) := by decide +kernel
theorem zf126_0 : fetch 126 0 = some (.iload_n 2, 1) := by decide +kernel
theorem zf126_1 : fetch 126 1 = some (.bipush 8, 2) := by decide +kernel
theorem zf126_3 : fetch 126 3 = some (.imul, 1) := by decide +kernel
theorem zf126_4 : fetch 126 4 = some (.iload_n 3, 1) := by decide +kernel
theorem zf126_5 : fetch 126 5 = some (.iadd, 1) := by decide +kernel
theorem zf126_6 : fetch 126 6 = some (.bipush 8, 2) := by decide +kernel
theorem zf126_8 : fetch 126 8 = some (.imul, 1) := by decide +kernel
theorem zf126_9 : fetch 126 9 = some (.istore 4, 2) := by decide +kernel
theorem zf126_11 : fetch 126 11 = some (.iconst 0, 1) := by decide +kernel
theorem zf126_12 : fetch 126 12 = some (.istore 5, 2) := by decide +kernel
theorem zf48_0 : fetch 48 0 = some (.iconst 0, 1) := by decide +kernel
theorem zf48_1 : fetch 48 1 = some (.istore_n 2, 1) := by decide +kernel
theorem zf48_2 : fetch 48 2 = some (.aload_n 0, 1) := by decide +kernel
theorem zf48_3 : fetch 48 3 = some (.arraylength, 1) := by decide +kernel
theorem zf48_4 : fetch 48 4 = some (.istore_n 3, 1) := by decide +kernel
theorem zf128_32 : fetch 128 32 = some (.iload 4, 2) := by decide +kernel
theorem zf128_34 : fetch 128 34 = some (.aload_n 0, 1) := by decide +kernel
theorem zf128_35 : fetch 128 35 = some (.getfield 29, 3) := by decide +kernel
theorem zf128_38 : fetch 128 38 = some (.getfield 43, 3) := by decide +kernel
theorem zf128_41 : fetch 128 41 = some (.if_icmp .ge 144, 3) := by decide +kernel
theorem zf128_185 : fetch 128 185 = some (.return_, 1) := by decide +kernel
theorem zf128_44 : fetch 128 44 = some (.iconst 0, 1) := by decide +kernel
theorem zf128_45 : fetch 128 45 = some (.istore 5, 2) := by decide +kernel
theorem zf131_5 : fetch 131 5 = some (.iload 4, 2) := by decide +kernel
theorem zf131_7 : fetch 131 7 = some (.iload_n 2, 1) := by decide +kernel
theorem zf131_8 : fetch 131 8 = some (.if_icmp .ge 29, 3) := by decide +kernel
theorem zf131_37 : fetch 131 37 = some (.iload_n 3, 1) := by decide +kernel
theorem zf131_38 : fetch 131 38 = some (.ireturn, 1) := by decide +kernel
theorem zf131_11 : fetch 131 11 = some (.iload_n 3, 1) := by decide +kernel
theorem zf131_12 : fetch 131 12 = some (.aload_n 0, 1) := by decide +kernel
theorem zf131_13 : fetch 131 13 = some (.getfield 15, 3) := by decide +kernel
theorem zf131_16 : fetch 131 16 = some (.bipush 29, 2) := by decide +kernel
theorem zf131_18 : fetch 131 18 = some (.iload 4, 2) := by decide +kernel
theorem zf131_20 : fetch 131 20 = some (.iadd, 1) := by decide +kernel
theorem zf131_21 : fetch 131 21 = some (.iaload, 1) := by decide +kernel
theorem zf131_22 : fetch 131 22 = some (.iload_n 1, 1) := by decide +kernel
theorem zf131_23 : fetch 131 23 = some (.ishr, 1) := by decide +kernel
theorem zf131_24 : fetch 131 24 = some (.iconst 1, 1) := by decide +kernel
theorem zf131_25 : fetch 131 25 = some (.iand, 1) := by decide +kernel
theorem zf131_26 : fetch 131 26 = some (.iload 4, 2) := by decide +kernel
theorem zf131_28 : fetch 131 28 = some (.ishl, 1) := by decide +kernel
theorem zf131_29 : fetch 131 29 = some (.ior, 1) := by decide +kernel
theorem zf131_30 : fetch 131 30 = some (.istore_n 3, 1) := by decide +kernel
theorem zf131_31 : fetch 131 31 = some (.iinc 4 1, 3) := by decide +kernel
theorem zf131_34 : fetch 131 34 = some (.goto (-29), 3) := by decide +kernel
theorem zf132_28 : fetch 132 28 = some (.iload 4, 2) := by decide +kernel
theorem zf132_30 : fetch 132 30 = some (.iconst 3, 1) := by decide +kernel
theorem zf132_31 : fetch 132 31 = some (.if_icmp .gt 39, 3) := by decide +kernel
theorem zf132_70 : fetch 132 70 = some (.iconst (-1), 1) := by decide +kernel
theorem zf132_71 : fetch 132 71 = some (.ireturn, 1) := by decide +kernel
theorem zf132_34 : fetch 132 34 = some (.iload_n 2, 1) := by decide +kernel
theorem zf132_35 : fetch 132 35 = some (.ifCond .eq 35, 3) := by decide +kernel
theorem zf132_38 : fetch 132 38 = some (.aload_n 0, 1) := by decide +kernel
theorem zf132_39 : fetch 132 39 = some (.aload_n 1, 1) := by decide +kernel
theorem zf132_40 : fetch 132 40 = some (.iload 4, 2) := by decide +kernel
theorem zf132_42 : fetch 132 42 = some (.iload_n 2, 1) := by decide +kernel
theorem zf132_43 : fetch 132 43 = some (.iload_n 3, 1) := by decide +kernel
theorem zf132_44 : fetch 132 44 = some (.invokevirtual 68, 3) := by decide +kernel
theorem zf132_47 : fetch 132 47 = some (.istore 5, 2) := by decide +kernel
theorem zf132_49 : fetch 132 49 = some (.iload 5, 2) := by decide +kernel
theorem zf132_51 : fetch 132 51 = some (.iconst (-1), 1) := by decide +kernel
theorem zf132_52 : fetch 132 52 = some (.if_icmp .eq 12, 3) := by decide +kernel
theorem zf132_64 : fetch 132 64 = some (.iinc 4 1, 3) := by decide +kernel
theorem zf132_67 : fetch 132 67 = some (.goto (-39), 3) := by decide +kernel
theorem zf132_55 : fetch 132 55 = some (.iload 4, 2) := by decide +kernel
theorem zf132_57 : fetch 132 57 = some (.bipush 100, 2) := by decide +kernel
theorem zf132_59 : fetch 132 59 = some (.imul, 1) := by decide +kernel
theorem zf132_60 : fetch 132 60 = some (.iload 5, 2) := by decide +kernel
theorem zf132_62 : fetch 132 62 = some (.iadd, 1) := by decide +kernel
theorem zf132_63 : fetch 132 63 = some (.ireturn, 1) := by decide +kernel
theorem zf136_36 : fetch 136 36 = some (.iload 6, 2) := by decide +kernel
theorem zf136_38 : fetch 136 38 = some (.aload_n 0, 1) := by decide +kernel
theorem zf136_39 : fetch 136 39 = some (.getfield 67, 3) := by decide +kernel
theorem zf136_42 : fetch 136 42 = some (.getfield 344, 3) := by decide +kernel
theorem zf136_45 : fetch 136 45 = some (.iload_n 3, 1) := by decide +kernel
theorem zf136_46 : fetch 136 46 = some (.iaload, 1) := by decide +kernel
theorem zf136_47 : fetch 136 47 = some (.if_icmp .ge 29, 3) := by decide +kernel
theorem zf136_76 : fetch 136 76 = some (.lload 4, 2) := by decide +kernel
theorem zf136_78 : fetch 136 78 = some (.l2i, 1) := by decide +kernel
theorem zf136_79 : fetch 136 79 = some (.ireturn, 1) := by decide +kernel
theorem zf136_50 : fetch 136 50 = some (.lload 4, 2) := by decide +kernel
theorem zf136_52 : fetch 136 52 = some (.aload_n 0, 1) := by decide +kernel
theorem zf136_53 : fetch 136 53 = some (.getfield 19, 3) := by decide +kernel
theorem zf136_56 : fetch 136 56 = some (.iload_n 1, 1) := by decide +kernel
theorem zf136_57 : fetch 136 57 = some (.invokevirtual 191, 3) := by decide +kernel
theorem zf136_60 : fetch 136 60 = some (.iconst 1, 1) := by decide +kernel
theorem zf136_61 : fetch 136 61 = some (.iadd, 1) := by decide +kernel
theorem zf136_62 : fetch 136 62 = some (.i2l, 1) := by decide +kernel
theorem zf136_63 : fetch 136 63 = some (.lmul, 1) := by decide +kernel
theorem zf136_64 : fetch 136 64 = some (.ldc2_w 365, 3) := by decide +kernel
theorem zf136_67 : fetch 136 67 = some (.ldiv, 1) := by decide +kernel
theorem zf136_68 : fetch 136 68 = some (.lstore 4, 2) := by decide +kernel
theorem zf136_70 : fetch 136 70 = some (.iinc 6 1, 3) := by decide +kernel
theorem zf136_73 : fetch 136 73 = some (.goto (-37), 3) := by decide +kernel
theorem zf139_2 : fetch 139 2 = some (.iload_n 2, 1) := by decide +kernel
theorem zf139_3 : fetch 139 3 = some (.aload_n 0, 1) := by decide +kernel
theorem zf139_4 : fetch 139 4 = some (.getfield 29, 3) := by decide +kernel
theorem zf139_7 : fetch 139 7 = some (.getfield 43, 3) := by decide +kernel
theorem zf139_10 : fetch 139 10 = some (.if_icmp .ge 89, 3) := by decide +kernel
theorem zf139_99 : fetch 139 99 = some (.return_, 1) := by decide +kernel
theorem zf139_13 : fetch 139 13 = some (.aload_n 0, 1) := by decide +kernel
theorem zf139_14 : fetch 139 14 = some (.getfield 23, 3) := by decide +kernel
theorem zf139_17 : fetch 139 17 = some (.iload_n 2, 1) := by decide +kernel
theorem zf139_18 : fetch 139 18 = some (.iconst 0, 1) := by decide +kernel
theorem zf139_19 : fetch 139 19 = some (.iastore, 1) := by decide +kernel
theorem zf139_20 : fetch 139 20 = some (.iconst 0, 1) := by decide +kernel
theorem zf139_21 : fetch 139 21 = some (.istore_n 3, 1) := by decide +kernel
theorem zf140_21 : fetch 140 21 = some (.iload 5, 2) := by decide +kernel
theorem zf140_23 : fetch 140 23 = some (.aload_n 0, 1) := by decide +kernel
theorem zf140_24 : fetch 140 24 = some (.getfield 29, 3) := by decide +kernel
theorem zf140_27 : fetch 140 27 = some (.getfield 43, 3) := by decide +kernel
theorem zf140_30 : fetch 140 30 = some (.if_icmp .ge 60, 3) := by decide +kernel
theorem zf140_90 : fetch 140 90 = some (.iload 4, 2) := by decide +kernel
theorem zf140_92 : fetch 140 92 = some (.ireturn, 1) := by decide +kernel
theorem zf140_33 : fetch 140 33 = some (.iconst 0, 1) := by decide +kernel
theorem zf140_34 : fetch 140 34 = some (.istore 6, 2) := by decide +kernel
theorem zf150_7 : fetch 150 7 = some (.iload_n 1, 1) := by decide +kernel
theorem zf150_8 : fetch 150 8 = some (.bipush 20, 2) := by decide +kernel
theorem zf150_10 : fetch 150 10 = some (.if_icmp .ge 43, 3) := by decide +kernel
theorem zf150_53 : fetch 150 53 = some (.return_, 1) := by decide +kernel
theorem zf150_13 : fetch 150 13 = some (.iload_n 1, 1) := by decide +kernel
theorem zf150_14 : fetch 150 14 = some (.bipush 10, 2) := by decide +kernel
theorem zf150_16 : fetch 150 16 = some (.if_icmp .eq 31, 3) := by decide +kernel
theorem zf150_47 : fetch 150 47 = some (.iinc 1 1, 3) := by decide +kernel
theorem zf150_50 : fetch 150 50 = some (.goto (-43), 3) := by decide +kernel
theorem zf150_19 : fetch 150 19 = some (.aload_n 0, 1) := by decide +kernel
theorem zf150_20 : fetch 150 20 = some (.iload_n 1, 1) := by decide +kernel
theorem zf150_21 : fetch 150 21 = some (.invokevirtual 48, 3) := by decide +kernel
theorem zf150_24 : fetch 150 24 = some (.ifCond .eq 23, 3) := by decide +kernel
theorem zf150_27 : fetch 150 27 = some (.aload_n 0, 1) := by decide +kernel
theorem zf150_28 : fetch 150 28 = some (.getfield 11, 3) := by decide +kernel
theorem zf150_31 : fetch 150 31 = some (.aload_n 0, 1) := by decide +kernel
theorem zf150_32 : fetch 150 32 = some (.getfield 45, 3) := by decide +kernel
theorem zf150_35 : fetch 150 35 = some (.iload_n 1, 1) := by decide +kernel
theorem zf150_36 : fetch 150 36 = some (.iastore, 1) := by decide +kernel
theorem zf150_37 : fetch 150 37 = some (.aload_n 0, 1) := by decide +kernel
theorem zf150_38 : fetch 150 38 = some (.dup, 1) := by decide +kernel
theorem zf150_39 : fetch 150 39 = some (.getfield 45, 3) := by decide +kernel
theorem zf150_42 : fetch 150 42 = some (.iconst 1, 1) := by decide +kernel
theorem zf150_43 : fetch 150 43 = some (.iadd, 1) := by decide +kernel
theorem zf150_44 : fetch 150 44 = some (.putfield 45, 3) := by decide +kernel
theorem zf154_13 : fetch 154 13 = some (.iload 5, 2) := by decide +kernel
theorem zf154_15 : fetch 154 15 = some (.iconst 1, 1) := by decide +kernel
theorem zf154_16 : fetch 154 16 = some (.if_icmp .gt 64, 3) := by decide +kernel
theorem zf154_80 : fetch 154 80 = some (.iload_n 3, 1) := by decide +kernel
theorem zf154_81 : fetch 154 81 = some (.ireturn, 1) := by decide +kernel
theorem zf154_19 : fetch 154 19 = some (.aload_n 0, 1) := by decide +kernel
theorem zf154_20 : fetch 154 20 = some (.getfield 45, 3) := by decide +kernel
theorem zf154_23 : fetch 154 23 = some (.ifCond .le 57, 3) := by decide +kernel
theorem zf154_26 : fetch 154 26 = some (.iconst 1, 1) := by decide +kernel
theorem zf154_27 : fetch 154 27 = some (.istore 6, 2) := by decide +kernel
theorem zf160_5 : fetch 160 5 = some (.iload 4, 2) := by decide +kernel
theorem zf160_7 : fetch 160 7 = some (.aload_n 0, 1) := by decide +kernel
theorem zf160_8 : fetch 160 8 = some (.getfield 30, 3) := by decide +kernel
theorem zf160_11 : fetch 160 11 = some (.getfield 88, 3) := by decide +kernel
theorem zf160_14 : fetch 160 14 = some (.if_icmp .ge 18, 3) := by decide +kernel
theorem zf160_32 : fetch 160 32 = some (.lload_n 2, 1) := by decide +kernel
theorem zf160_33 : fetch 160 33 = some (.lconst 0, 1) := by decide +kernel
theorem zf160_34 : fetch 160 34 = some (.lcmp, 1) := by decide +kernel
theorem zf160_35 : fetch 160 35 = some (.ifCond .ne 7, 3) := by decide +kernel
theorem zf160_42 : fetch 160 42 = some (.aload_n 0, 1) := by decide +kernel
theorem zf160_43 : fetch 160 43 = some (.iload_n 1, 1) := by decide +kernel
theorem zf160_44 : fetch 160 44 = some (.invokevirtual 91, 3) := by decide +kernel
theorem zf160_47 : fetch 160 47 = some (.ldc2_w 95, 3) := by decide +kernel
theorem zf160_50 : fetch 160 50 = some (.lmul, 1) := by decide +kernel
theorem zf160_51 : fetch 160 51 = some (.lload_n 2, 1) := by decide +kernel
theorem zf160_52 : fetch 160 52 = some (.ldiv, 1) := by decide +kernel
theorem zf160_53 : fetch 160 53 = some (.l2i, 1) := by decide +kernel
theorem zf160_54 : fetch 160 54 = some (.ireturn, 1) := by decide +kernel
theorem zf160_38 : fetch 160 38 = some (.iconst 0, 1) := by decide +kernel
theorem zf160_39 : fetch 160 39 = some (.goto 15, 3) := by decide +kernel
theorem zf160_17 : fetch 160 17 = some (.lload_n 2, 1) := by decide +kernel
theorem zf160_18 : fetch 160 18 = some (.aload_n 0, 1) := by decide +kernel
theorem zf160_19 : fetch 160 19 = some (.iload 4, 2) := by decide +kernel
theorem zf160_21 : fetch 160 21 = some (.invokevirtual 91, 3) := by decide +kernel
theorem zf160_24 : fetch 160 24 = some (.ladd, 1) := by decide +kernel
theorem zf160_25 : fetch 160 25 = some (.lstore_n 2, 1) := by decide +kernel
theorem zf160_26 : fetch 160 26 = some (.iinc 4 1, 3) := by decide +kernel
theorem zf160_29 : fetch 160 29 = some (.goto (-24), 3) := by decide +kernel
theorem zf163_0 : fetch 163 0 = some (.iconst 0, 1) := by decide +kernel
theorem zf163_1 : fetch 163 1 = some (.istore_n 2, 1) := by decide +kernel
theorem zf166_13 : fetch 166 13 = some (.istore 5, 2) := by decide +kernel
theorem zf166_15 : fetch 166 15 = some (.iload_n 3, 1) := by decide +kernel
theorem zf166_16 : fetch 166 16 = some (.iconst 1, 1) := by decide +kernel
theorem zf166_17 : fetch 166 17 = some (.if_icmp .ne 22, 3) := by decide +kernel
theorem zf166_39 : fetch 166 39 = some (.iload_n 3, 1) := by decide +kernel
theorem zf166_40 : fetch 166 40 = some (.iload 4, 2) := by decide +kernel
theorem zf166_42 : fetch 166 42 = some (.iadd, 1) := by decide +kernel
theorem zf166_43 : fetch 166 43 = some (.iconst 2, 1) := by decide +kernel
theorem zf166_44 : fetch 166 44 = some (.if_icmp .ne 10, 3) := by decide +kernel
theorem zf166_54 : fetch 166 54 = some (.iload 5, 2) := by decide +kernel
theorem zf166_56 : fetch 166 56 = some (.ireturn, 1) := by decide +kernel
theorem zf166_47 : fetch 166 47 = some (.iload 5, 2) := by decide +kernel
theorem zf166_49 : fetch 166 49 = some (.iconst 2, 1) := by decide +kernel
theorem zf166_50 : fetch 166 50 = some (.isub, 1) := by decide +kernel
theorem zf166_51 : fetch 166 51 = some (.goto 5, 3) := by decide +kernel
theorem zf166_20 : fetch 166 20 = some (.iload 5, 2) := by decide +kernel
theorem zf166_22 : fetch 166 22 = some (.iload_n 2, 1) := by decide +kernel
theorem zf166_23 : fetch 166 23 = some (.iconst 2, 1) := by decide +kernel
theorem zf166_24 : fetch 166 24 = some (.idiv, 1) := by decide +kernel
theorem zf166_25 : fetch 166 25 = some (.aload_n 0, 1) := by decide +kernel
theorem zf166_26 : fetch 166 26 = some (.getfield 19, 3) := by decide +kernel
theorem zf166_29 : fetch 166 29 = some (.iload_n 1, 1) := by decide +kernel
theorem zf166_30 : fetch 166 30 = some (.invokevirtual 188, 3) := by decide +kernel
theorem zf166_33 : fetch 166 33 = some (.iconst 3, 1) := by decide +kernel
theorem zf166_34 : fetch 166 34 = some (.idiv, 1) := by decide +kernel
theorem zf166_35 : fetch 166 35 = some (.iadd, 1) := by decide +kernel
theorem zf166_36 : fetch 166 36 = some (.isub, 1) := by decide +kernel
theorem zf166_37 : fetch 166 37 = some (.istore 5, 2) := by decide +kernel
theorem zf167_33 : fetch 167 33 = some (.iload 7, 2) := by decide +kernel
theorem zf167_35 : fetch 167 35 = some (.iconst 1, 1) := by decide +kernel
theorem zf167_36 : fetch 167 36 = some (.if_icmp .gt 102, 3) := by decide +kernel
theorem zf167_138 : fetch 167 138 = some (.iinc 6 1, 3) := by decide +kernel
theorem zf167_141 : fetch 167 141 = some (.goto (-117), 3) := by decide +kernel
theorem zf167_39 : fetch 167 39 = some (.aload_n 0, 1) := by decide +kernel
theorem zf167_40 : fetch 167 40 = some (.iload_n 1, 1) := by decide +kernel
theorem zf167_41 : fetch 167 41 = some (.iload_n 3, 1) := by decide +kernel
theorem zf167_42 : fetch 167 42 = some (.iload 6, 2) := by decide +kernel
theorem zf167_44 : fetch 167 44 = some (.iload 7, 2) := by decide +kernel
theorem zf167_46 : fetch 167 46 = some (.invokevirtual 425, 3) := by decide +kernel
theorem zf167_49 : fetch 167 49 = some (.aload_n 0, 1) := by decide +kernel
theorem zf167_50 : fetch 167 50 = some (.iload_n 1, 1) := by decide +kernel
theorem zf167_51 : fetch 167 51 = some (.iload_n 3, 1) := by decide +kernel
theorem zf167_52 : fetch 167 52 = some (.iconst 1, 1) := by decide +kernel
theorem zf167_53 : fetch 167 53 = some (.iload 6, 2) := by decide +kernel
theorem zf167_55 : fetch 167 55 = some (.isub, 1) := by decide +kernel
theorem zf167_56 : fetch 167 56 = some (.iload 7, 2) := by decide +kernel
theorem zf167_58 : fetch 167 58 = some (.invokevirtual 425, 3) := by decide +kernel
theorem zf167_61 : fetch 167 61 = some (.if_icmp .lt 32, 3) := by decide +kernel
theorem zf167_93 : fetch 167 93 = some (.iconst 0, 1) := by decide +kernel
theorem zf167_64 : fetch 167 64 = some (.aload_n 0, 1) := by decide +kernel
theorem zf167_65 : fetch 167 65 = some (.iload_n 2, 1) := by decide +kernel
theorem zf167_66 : fetch 167 66 = some (.iload_n 3, 1) := by decide +kernel
theorem zf167_67 : fetch 167 67 = some (.iload 7, 2) := by decide +kernel
theorem zf167_69 : fetch 167 69 = some (.iload 6, 2) := by decide +kernel
theorem zf167_71 : fetch 167 71 = some (.invokevirtual 425, 3) := by decide +kernel
theorem zf167_74 : fetch 167 74 = some (.aload_n 0, 1) := by decide +kernel
theorem zf167_75 : fetch 167 75 = some (.iload_n 2, 1) := by decide +kernel
theorem zf167_76 : fetch 167 76 = some (.iload_n 3, 1) := by decide +kernel
theorem zf167_77 : fetch 167 77 = some (.iconst 1, 1) := by decide +kernel
theorem zf167_78 : fetch 167 78 = some (.iload 7, 2) := by decide +kernel
theorem zf167_80 : fetch 167 80 = some (.isub, 1) := by decide +kernel
theorem zf167_81 : fetch 167 81 = some (.iload 6, 2) := by decide +kernel
theorem zf167_83 : fetch 167 83 = some (.invokevirtual 425, 3) := by decide +kernel
theorem zf167_86 : fetch 167 86 = some (.if_icmp .lt 7, 3) := by decide +kernel
theorem zf167_89 : fetch 167 89 = some (.iconst 1, 1) := by decide +kernel
theorem zf167_90 : fetch 167 90 = some (.goto 4, 3) := by decide +kernel
theorem zf169_74 : fetch 169 74 = some (.iload 4, 2) := by decide +kernel
theorem zf169_76 : fetch 169 76 = some (.bipush 60, 2) := by decide +kernel
theorem zf169_78 : fetch 169 78 = some (.if_icmp .gt 28, 3) := by decide +kernel
theorem zf169_106 : fetch 169 106 = some (.iconst (-1), 1) := by decide +kernel
theorem zf169_107 : fetch 169 107 = some (.ireturn, 1) := by decide +kernel
theorem zf169_81 : fetch 169 81 = some (.iload_n 2, 1) := by decide +kernel
theorem zf169_82 : fetch 169 82 = some (.iload_n 3, 1) := by decide +kernel
theorem zf169_83 : fetch 169 83 = some (.iload 4, 2) := by decide +kernel
theorem zf169_85 : fetch 169 85 = some (.iadd, 1) := by decide +kernel
theorem zf169_86 : fetch 169 86 = some (.iconst 4, 1) := by decide +kernel
theorem zf169_87 : fetch 169 87 = some (.idiv, 1) := by decide +kernel
theorem zf169_88 : fetch 169 88 = some (.iadd, 1) := by decide +kernel
theorem zf169_89 : fetch 169 89 = some (.iload_n 3, 1) := by decide +kernel
theorem zf169_90 : fetch 169 90 = some (.iconst 4, 1) := by decide +kernel
theorem zf169_91 : fetch 169 91 = some (.idiv, 1) := by decide +kernel
theorem zf169_92 : fetch 169 92 = some (.isub, 1) := by decide +kernel
theorem zf169_93 : fetch 169 93 = some (.iload_n 1, 1) := by decide +kernel
theorem zf169_94 : fetch 169 94 = some (.if_icmp .lt 6, 3) := by decide +kernel
theorem zf169_100 : fetch 169 100 = some (.iinc 4 1, 3) := by decide +kernel
theorem zf169_103 : fetch 169 103 = some (.goto (-29), 3) := by decide +kernel
theorem zf169_97 : fetch 169 97 = some (.iload 4, 2) := by decide +kernel
theorem zf169_99 : fetch 169 99 = some (.ireturn, 1) := by decide +kernel
theorem zf172_4 : fetch 172 4 = some (.iload_n 3, 1) := by decide +kernel
theorem zf172_5 : fetch 172 5 = some (.aload_n 0, 1) := by decide +kernel
theorem zf172_6 : fetch 172 6 = some (.getfield 27, 3) := by decide +kernel
theorem zf172_9 : fetch 172 9 = some (.if_icmp .ge 39, 3) := by decide +kernel
theorem zf172_48 : fetch 172 48 = some (.iload_n 2, 1) := by decide +kernel
theorem zf172_49 : fetch 172 49 = some (.ireturn, 1) := by decide +kernel
theorem zf172_12 : fetch 172 12 = some (.aload_n 0, 1) := by decide +kernel
theorem zf172_13 : fetch 172 13 = some (.iload_n 3, 1) := by decide +kernel
theorem zf172_14 : fetch 172 14 = some (.invokevirtual 34, 3) := by decide +kernel
theorem zf172_17 : fetch 172 17 = some (.i2l, 1) := by decide +kernel
theorem zf172_18 : fetch 172 18 = some (.iload_n 1, 1) := by decide +kernel
theorem zf172_19 : fetch 172 19 = some (.i2l, 1) := by decide +kernel
theorem zf172_20 : fetch 172 20 = some (.lsub, 1) := by decide +kernel
theorem zf172_21 : fetch 172 21 = some (.invokestatic 48, 3) := by decide +kernel
theorem zf172_24 : fetch 172 24 = some (.aload_n 0, 1) := by decide +kernel
theorem zf172_25 : fetch 172 25 = some (.iload_n 2, 1) := by decide +kernel
theorem zf172_26 : fetch 172 26 = some (.invokevirtual 34, 3) := by decide +kernel
theorem zf172_29 : fetch 172 29 = some (.i2l, 1) := by decide +kernel
theorem zf172_30 : fetch 172 30 = some (.iload_n 1, 1) := by decide +kernel
theorem zf172_31 : fetch 172 31 = some (.i2l, 1) := by decide +kernel
theorem zf172_32 : fetch 172 32 = some (.lsub, 1) := by decide +kernel
theorem zf172_33 : fetch 172 33 = some (.invokestatic 48, 3) := by decide +kernel
theorem zf172_36 : fetch 172 36 = some (.lcmp, 1) := by decide +kernel
theorem zf172_37 : fetch 172 37 = some (.ifCond .ge 5, 3) := by decide +kernel
theorem zf172_42 : fetch 172 42 = some (.iinc 3 1, 3) := by decide +kernel
theorem zf172_45 : fetch 172 45 = some (.goto (-41), 3) := by decide +kernel
theorem zf172_40 : fetch 172 40 = some (.iload_n 3, 1) := by decide +kernel
theorem zf172_41 : fetch 172 41 = some (.istore_n 2, 1) := by decide +kernel
theorem zf171_4 : fetch 171 4 = some (.iload_n 2, 1) := by decide +kernel
theorem zf171_5 : fetch 171 5 = some (.aload_n 0, 1) := by decide +kernel
theorem zf171_6 : fetch 171 6 = some (.getfield 27, 3) := by decide +kernel
theorem zf171_9 : fetch 171 9 = some (.if_icmp .ge 24, 3) := by decide +kernel
theorem zf171_33 : fetch 171 33 = some (.iload_n 1, 1) := by decide +kernel
theorem zf171_34 : fetch 171 34 = some (.ireturn, 1) := by decide +kernel
theorem zf171_12 : fetch 171 12 = some (.aload_n 0, 1) := by decide +kernel
theorem zf171_13 : fetch 171 13 = some (.iload_n 2, 1) := by decide +kernel
theorem zf171_14 : fetch 171 14 = some (.invokevirtual 45, 3) := by decide +kernel
theorem zf171_17 : fetch 171 17 = some (.aload_n 0, 1) := by decide +kernel
theorem zf171_18 : fetch 171 18 = some (.iload_n 1, 1) := by decide +kernel
theorem zf171_19 : fetch 171 19 = some (.invokevirtual 45, 3) := by decide +kernel
theorem zf171_22 : fetch 171 22 = some (.if_icmp .le 5, 3) := by decide +kernel
theorem zf171_27 : fetch 171 27 = some (.iinc 2 1, 3) := by decide +kernel
theorem zf171_30 : fetch 171 30 = some (.goto (-26), 3) := by decide +kernel
theorem zf171_25 : fetch 171 25 = some (.iload_n 2, 1) := by decide +kernel
theorem zf171_26 : fetch 171 26 = some (.istore_n 1, 1) := by decide +kernel
theorem zf179_5 : fetch 179 5 = some (.iload_n 2, 1) := by decide +kernel
theorem zf179_6 : fetch 179 6 = some (.ifCond .lt 27, 3) := by decide +kernel
theorem zf179_33 : fetch 179 33 = some (.iload_n 1, 1) := by decide +kernel
theorem zf179_34 : fetch 179 34 = some (.ireturn, 1) := by decide +kernel
theorem zf179_9 : fetch 179 9 = some (.iload_n 1, 1) := by decide +kernel
theorem zf179_10 : fetch 179 10 = some (.iload_n 0, 1) := by decide +kernel
theorem zf179_11 : fetch 179 11 = some (.iload_n 2, 1) := by decide +kernel
theorem zf179_12 : fetch 179 12 = some (.ishr, 1) := by decide +kernel
theorem zf179_13 : fetch 179 13 = some (.sipush 255, 3) := by decide +kernel
theorem zf179_16 : fetch 179 16 = some (.iand, 1) := by decide +kernel
theorem zf179_17 : fetch 179 17 = some (.ifCond .eq 7, 3) := by decide +kernel
theorem zf179_24 : fetch 179 24 = some (.iconst 0, 1) := by decide +kernel
theorem zf179_25 : fetch 179 25 = some (.iadd, 1) := by decide +kernel
theorem zf179_26 : fetch 179 26 = some (.istore_n 1, 1) := by decide +kernel
theorem zf179_27 : fetch 179 27 = some (.iinc 2 (-8), 3) := by decide +kernel
theorem zf179_30 : fetch 179 30 = some (.goto (-25), 3) := by decide +kernel
theorem zf179_20 : fetch 179 20 = some (.iconst 1, 1) := by decide +kernel
theorem zf179_21 : fetch 179 21 = some (.goto 4, 3) := by decide +kernel
theorem zf180_3 : fetch 180 3 = some (.iload_n 2, 1) := by decide +kernel
theorem zf180_4 : fetch 180 4 = some (.ifCond .lt 45, 3) := by decide +kernel
theorem zf180_49 : fetch 180 49 = some (.return_, 1) := by decide +kernel
theorem zf180_7 : fetch 180 7 = some (.iload_n 1, 1) := by decide +kernel
theorem zf180_8 : fetch 180 8 = some (.iload_n 2, 1) := by decide +kernel
theorem zf180_9 : fetch 180 9 = some (.ishr, 1) := by decide +kernel
theorem zf180_10 : fetch 180 10 = some (.sipush 255, 3) := by decide +kernel
theorem zf180_13 : fetch 180 13 = some (.iand, 1) := by decide +kernel
theorem zf180_14 : fetch 180 14 = some (.ifCond .ne 6, 3) := by decide +kernel
theorem zf180_20 : fetch 180 20 = some (.aload_n 0, 1) := by decide +kernel
theorem zf180_21 : fetch 180 21 = some (.getfield 9, 3) := by decide +kernel
theorem zf180_24 : fetch 180 24 = some (.aload_n 0, 1) := by decide +kernel
theorem zf180_25 : fetch 180 25 = some (.getfield 109, 3) := by decide +kernel
theorem zf180_28 : fetch 180 28 = some (.iload_n 1, 1) := by decide +kernel
theorem zf180_29 : fetch 180 29 = some (.iload_n 2, 1) := by decide +kernel
theorem zf180_30 : fetch 180 30 = some (.ishr, 1) := by decide +kernel
theorem zf180_31 : fetch 180 31 = some (.i2b, 1) := by decide +kernel
theorem zf180_32 : fetch 180 32 = some (.bastore, 1) := by decide +kernel
theorem zf180_33 : fetch 180 33 = some (.aload_n 0, 1) := by decide +kernel
theorem zf180_34 : fetch 180 34 = some (.dup, 1) := by decide +kernel
theorem zf180_35 : fetch 180 35 = some (.getfield 109, 3) := by decide +kernel
theorem zf180_38 : fetch 180 38 = some (.iconst 1, 1) := by decide +kernel
theorem zf180_39 : fetch 180 39 = some (.iadd, 1) := by decide +kernel
theorem zf180_40 : fetch 180 40 = some (.putfield 109, 3) := by decide +kernel
theorem zf180_43 : fetch 180 43 = some (.iinc 2 (-8), 3) := by decide +kernel
theorem zf180_46 : fetch 180 46 = some (.goto (-43), 3) := by decide +kernel
theorem zf180_17 : fetch 180 17 = some (.goto 26, 3) := by decide +kernel
theorem zf213_0 : fetch 213 0 = some (.aload_n 0, 1) := by decide +kernel
theorem zf213_1 : fetch 213 1 = some (.aload_n 0, 1) := by decide +kernel
theorem zf213_2 : fetch 213 2 = some (.getfield 9, 3) := by decide +kernel
theorem zf213_5 : fetch 213 5 = some (.iconst 0, 1) := by decide +kernel
theorem zf213_6 : fetch 213 6 = some (.aload_n 0, 1) := by decide +kernel
theorem zf213_7 : fetch 213 7 = some (.getfield 109, 3) := by decide +kernel
theorem zf213_10 : fetch 213 10 = some (.invokevirtual 207, 3) := by decide +kernel
theorem zf213_13 : fetch 213 13 = some (.iconst 0, 1) := by decide +kernel
theorem zf213_14 : fetch 213 14 = some (.istore_n 1, 1) := by decide +kernel
theorem zf213_15 : fetch 213 15 = some (.iconst 1, 1) := by decide +kernel
theorem zf213_16 : fetch 213 16 = some (.istore_n 2, 1) := by decide +kernel
theorem zf199_0 : fetch 199 0 = some (.aload_n 0, 1) := by decide +kernel
theorem zf199_1 : fetch 199 1 = some (.aload_n 1, 1) := by decide +kernel
theorem zf199_2 : fetch 199 2 = some (.iload_n 2, 1) := by decide +kernel
theorem zf199_3 : fetch 199 3 = some (.iload_n 3, 1) := by decide +kernel
theorem zf199_4 : fetch 199 4 = some (.invokevirtual 207, 3) := by decide +kernel
theorem zf199_7 : fetch 199 7 = some (.aload_n 0, 1) := by decide +kernel
theorem zf199_8 : fetch 199 8 = some (.bipush 121, 2) := by decide +kernel
theorem zf199_10 : fetch 199 10 = some (.putfield 201, 3) := by decide +kernel
theorem zf199_13 : fetch 199 13 = some (.aload_n 0, 1) := by decide +kernel
theorem zf199_14 : fetch 199 14 = some (.iconst 0, 1) := by decide +kernel
theorem zf199_15 : fetch 199 15 = some (.putfield 131, 3) := by decide +kernel
theorem zf199_18 : fetch 199 18 = some (.aload_n 0, 1) := by decide +kernel
theorem zf199_19 : fetch 199 19 = some (.iconst 0, 1) := by decide +kernel
theorem zf199_20 : fetch 199 20 = some (.putfield 197, 3) := by decide +kernel
theorem zf199_23 : fetch 199 23 = some (.aload_n 0, 1) := by decide +kernel
theorem zf199_24 : fetch 199 24 = some (.iconst 0, 1) := by decide +kernel
theorem zf199_25 : fetch 199 25 = some (.putfield 204, 3) := by decide +kernel
theorem zf199_28 : fetch 199 28 = some (.aload_n 0, 1) := by decide +kernel
theorem zf199_29 : fetch 199 29 = some (.invokevirtual 211, 3) := by decide +kernel
theorem zf185_0 : fetch 185 0 = some (.aload_n 0, 1) := by decide +kernel
theorem zf185_1 : fetch 185 1 = some (.aload_n 1, 1) := by decide +kernel
theorem zf185_2 : fetch 185 2 = some (.putfield 23, 3) := by decide +kernel
theorem zf185_5 : fetch 185 5 = some (.aload_n 0, 1) := by decide +kernel
theorem zf185_6 : fetch 185 6 = some (.iload_n 2, 1) := by decide +kernel
theorem zf185_7 : fetch 185 7 = some (.putfield 125, 3) := by decide +kernel
theorem zf185_10 : fetch 185 10 = some (.aload_n 0, 1) := by decide +kernel
theorem zf185_11 : fetch 185 11 = some (.iload_n 3, 1) := by decide +kernel
theorem zf185_12 : fetch 185 12 = some (.putfield 122, 3) := by decide +kernel
theorem zf185_15 : fetch 185 15 = some (.aload_n 0, 1) := by decide +kernel
theorem zf185_16 : fetch 185 16 = some (.iconst 0, 1) := by decide +kernel
theorem zf185_17 : fetch 185 17 = some (.putfield 119, 3) := by decide +kernel
theorem zf185_20 : fetch 185 20 = some (.aload_n 0, 1) := by decide +kernel
theorem zf185_21 : fetch 185 21 = some (.iconst (-1), 1) := by decide +kernel
theorem zf185_22 : fetch 185 22 = some (.putfield 128, 3) := by decide +kernel
theorem zf185_25 : fetch 185 25 = some (.return_, 1) := by decide +kernel
theorem zf184_30 : fetch 184 30 = some (.iload_n 1, 1) := by decide +kernel
theorem zf184_31 : fetch 184 31 = some (.iconst 4, 1) := by decide +kernel
theorem zf184_32 : fetch 184 32 = some (.if_icmp .ge 21, 3) := by decide +kernel
theorem zf184_53 : fetch 184 53 = some (.iconst 1, 1) := by decide +kernel
theorem zf184_54 : fetch 184 54 = some (.istore_n 1, 1) := by decide +kernel
theorem zf184_35 : fetch 184 35 = some (.aload_n 0, 1) := by decide +kernel
theorem zf184_36 : fetch 184 36 = some (.getfield 40, 3) := by decide +kernel
theorem zf184_39 : fetch 184 39 = some (.iload_n 1, 1) := by decide +kernel
theorem zf184_40 : fetch 184 40 = some (.bipush 115, 2) := by decide +kernel
theorem zf184_42 : fetch 184 42 = some (.iload_n 1, 1) := by decide +kernel
theorem zf184_43 : fetch 184 43 = some (.invokestatic 221, 3) := by decide +kernel
theorem zf184_46 : fetch 184 46 = some (.iastore, 1) := by decide +kernel
theorem zf184_47 : fetch 184 47 = some (.iinc 1 1, 3) := by decide +kernel
theorem zf184_50 : fetch 184 50 = some (.goto (-20), 3) := by decide +kernel
theorem zf216_223 : fetch 216 223 = some (.iload_n 3, 1) := by decide +kernel
theorem zf216_224 : fetch 216 224 = some (.iconst 4, 1) := by decide +kernel
theorem zf216_225 : fetch 216 225 = some (.if_icmp .ge 21, 3) := by decide +kernel
theorem zf216_246 : fetch 216 246 = some (.iconst 0, 1) := by decide +kernel
theorem zf216_247 : fetch 216 247 = some (.istore_n 3, 1) := by decide +kernel
theorem zf216_228 : fetch 216 228 = some (.aload_n 0, 1) := by decide +kernel
theorem zf216_229 : fetch 216 229 = some (.getfield 37, 3) := by decide +kernel
theorem zf216_232 : fetch 216 232 = some (.iload_n 3, 1) := by decide +kernel
theorem zf216_233 : fetch 216 233 = some (.aload_n 0, 1) := by decide +kernel
theorem zf216_234 : fetch 216 234 = some (.getfield 40, 3) := by decide +kernel
theorem zf216_237 : fetch 216 237 = some (.iload_n 3, 1) := by decide +kernel
theorem zf216_238 : fetch 216 238 = some (.iaload, 1) := by decide +kernel
theorem zf216_239 : fetch 216 239 = some (.iastore, 1) := by decide +kernel
theorem zf216_240 : fetch 216 240 = some (.iinc 3 1, 3) := by decide +kernel
theorem zf216_243 : fetch 216 243 = some (.goto (-20), 3) := by decide +kernel
theorem zf216_137 : fetch 216 137 = some (.iload_n 3, 1) := by decide +kernel
theorem zf216_138 : fetch 216 138 = some (.bipush 64, 2) := by decide +kernel
theorem zf216_140 : fetch 216 140 = some (.if_icmp .ge 33, 3) := by decide +kernel
theorem zf216_173 : fetch 216 173 = some (.aload_n 0, 1) := by decide +kernel
theorem zf216_174 : fetch 216 174 = some (.getfield 58, 3) := by decide +kernel
theorem zf216_177 : fetch 216 177 = some (.aload_n 0, 1) := by decide +kernel
theorem zf216_178 : fetch 216 178 = some (.getfield 289, 3) := by decide +kernel
theorem zf216_181 : fetch 216 181 = some (.aload_n 0, 1) := by decide +kernel
theorem zf216_182 : fetch 216 182 = some (.getfield 58, 3) := by decide +kernel
theorem zf216_185 : fetch 216 185 = some (.iconst 4, 1) := by decide +kernel
theorem zf216_186 : fetch 216 186 = some (.iaload, 1) := by decide +kernel
theorem zf216_187 : fetch 216 187 = some (.iastore, 1) := by decide +kernel
theorem zf216_188 : fetch 216 188 = some (.aload_n 0, 1) := by decide +kernel
theorem zf216_189 : fetch 216 189 = some (.dup, 1) := by decide +kernel
theorem zf216_190 : fetch 216 190 = some (.getfield 289, 3) := by decide +kernel
theorem zf216_193 : fetch 216 193 = some (.iconst 1, 1) := by decide +kernel
theorem zf216_194 : fetch 216 194 = some (.iadd, 1) := by decide +kernel
theorem zf216_195 : fetch 216 195 = some (.putfield 289, 3) := by decide +kernel
theorem zf216_198 : fetch 216 198 = some (.aload_n 0, 1) := by decide +kernel
theorem zf216_199 : fetch 216 199 = some (.getfield 289, 3) := by decide +kernel
theorem zf216_202 : fetch 216 202 = some (.iconst 1, 1) := by decide +kernel
theorem zf216_203 : fetch 216 203 = some (.isub, 1) := by decide +kernel
theorem zf216_204 : fetch 216 204 = some (.ireturn, 1) := by decide +kernel
theorem zf216_143 : fetch 216 143 = some (.aload_n 0, 1) := by decide +kernel
theorem zf216_144 : fetch 216 144 = some (.getfield 55, 3) := by decide +kernel
theorem zf216_147 : fetch 216 147 = some (.bipush 64, 2) := by decide +kernel
theorem zf216_149 : fetch 216 149 = some (.aload_n 0, 1) := by decide +kernel
theorem zf216_150 : fetch 216 150 = some (.getfield 289, 3) := by decide +kernel
theorem zf216_153 : fetch 216 153 = some (.imul, 1) := by decide +kernel
theorem zf216_154 : fetch 216 154 = some (.iload_n 3, 1) := by decide +kernel
theorem zf216_155 : fetch 216 155 = some (.iadd, 1) := by decide +kernel
theorem zf216_156 : fetch 216 156 = some (.aload_n 0, 1) := by decide +kernel
theorem zf216_157 : fetch 216 157 = some (.getfield 55, 3) := by decide +kernel
theorem zf216_160 : fetch 216 160 = some (.sipush 256, 3) := by decide +kernel
theorem zf216_163 : fetch 216 163 = some (.iload_n 3, 1) := by decide +kernel
theorem zf216_164 : fetch 216 164 = some (.iadd, 1) := by decide +kernel
theorem zf216_165 : fetch 216 165 = some (.iaload, 1) := by decide +kernel
theorem zf216_166 : fetch 216 166 = some (.iastore, 1) := by decide +kernel
theorem zf216_167 : fetch 216 167 = some (.iinc 3 1, 3) := by decide +kernel
theorem zf216_170 : fetch 216 170 = some (.goto (-33), 3) := by decide +kernel
theorem zf216_71 : fetch 216 71 = some (.iload_n 3, 1) := by decide +kernel
theorem zf216_72 : fetch 216 72 = some (.iload_n 2, 1) := by decide +kernel
theorem zf216_73 : fetch 216 73 = some (.if_icmp .ge 30, 3) := by decide +kernel
theorem zf216_103 : fetch 216 103 = some (.aload_n 0, 1) := by decide +kernel
theorem zf216_104 : fetch 216 104 = some (.getfield 16, 3) := by decide +kernel
theorem zf216_107 : fetch 216 107 = some (.aload_n 0, 1) := by decide +kernel
theorem zf216_108 : fetch 216 108 = some (.getfield 286, 3) := by decide +kernel
theorem zf216_111 : fetch 216 111 = some (.iload_n 2, 1) := by decide +kernel
theorem zf216_112 : fetch 216 112 = some (.iastore, 1) := by decide +kernel
theorem zf216_113 : fetch 216 113 = some (.aload_n 0, 1) := by decide +kernel
theorem zf216_114 : fetch 216 114 = some (.dup, 1) := by decide +kernel
theorem zf216_115 : fetch 216 115 = some (.getfield 286, 3) := by decide +kernel
theorem zf216_118 : fetch 216 118 = some (.iconst 1, 1) := by decide +kernel
theorem zf216_119 : fetch 216 119 = some (.iadd, 1) := by decide +kernel
theorem zf216_120 : fetch 216 120 = some (.putfield 286, 3) := by decide +kernel
theorem zf216_123 : fetch 216 123 = some (.aload_n 0, 1) := by decide +kernel
theorem zf216_124 : fetch 216 124 = some (.getfield 286, 3) := by decide +kernel
theorem zf216_127 : fetch 216 127 = some (.iconst 1, 1) := by decide +kernel
theorem zf216_128 : fetch 216 128 = some (.isub, 1) := by decide +kernel
theorem zf216_129 : fetch 216 129 = some (.ireturn, 1) := by decide +kernel
theorem zf216_76 : fetch 216 76 = some (.aload_n 0, 1) := by decide +kernel
theorem zf216_77 : fetch 216 77 = some (.getfield 13, 3) := by decide +kernel
theorem zf216_80 : fetch 216 80 = some (.sipush 240, 3) := by decide +kernel
theorem zf216_83 : fetch 216 83 = some (.aload_n 0, 1) := by decide +kernel
theorem zf216_84 : fetch 216 84 = some (.getfield 286, 3) := by decide +kernel
theorem zf216_87 : fetch 216 87 = some (.imul, 1) := by decide +kernel
theorem zf216_88 : fetch 216 88 = some (.iload_n 3, 1) := by decide +kernel
theorem zf216_89 : fetch 216 89 = some (.iadd, 1) := by decide +kernel
theorem zf216_90 : fetch 216 90 = some (.aload_n 0, 1) := by decide +kernel
theorem zf216_91 : fetch 216 91 = some (.getfield 9, 3) := by decide +kernel
theorem zf216_94 : fetch 216 94 = some (.iload_n 3, 1) := by decide +kernel
theorem zf216_95 : fetch 216 95 = some (.baload, 1) := by decide +kernel
theorem zf216_96 : fetch 216 96 = some (.bastore, 1) := by decide +kernel
theorem zf216_97 : fetch 216 97 = some (.iinc 3 1, 3) := by decide +kernel
theorem zf216_100 : fetch 216 100 = some (.goto (-29), 3) := by decide +kernel
theorem zf229_52 : fetch 229 52 = some (.iload_n 1, 1) := by decide +kernel
theorem zf229_53 : fetch 229 53 = some (.sipush 277, 3) := by decide +kernel
theorem zf229_56 : fetch 229 56 = some (.if_icmp .ge 30, 3) := by decide +kernel
theorem zf229_86 : fetch 229 86 = some (.aload_n 0, 1) := by decide +kernel
theorem zf229_87 : fetch 229 87 = some (.dup, 1) := by decide +kernel
theorem zf229_88 : fetch 229 88 = some (.getfield 309, 3) := by decide +kernel
theorem zf229_91 : fetch 229 91 = some (.iconst 1, 1) := by decide +kernel
theorem zf229_92 : fetch 229 92 = some (.iadd, 1) := by decide +kernel
theorem zf229_93 : fetch 229 93 = some (.putfield 309, 3) := by decide +kernel
theorem zf229_96 : fetch 229 96 = some (.return_, 1) := by decide +kernel
theorem zf229_59 : fetch 229 59 = some (.aload_n 0, 1) := by decide +kernel
theorem zf229_60 : fetch 229 60 = some (.getfield 71, 3) := by decide +kernel
theorem zf229_63 : fetch 229 63 = some (.sipush 277, 3) := by decide +kernel
theorem zf229_66 : fetch 229 66 = some (.aload_n 0, 1) := by decide +kernel
theorem zf229_67 : fetch 229 67 = some (.getfield 309, 3) := by decide +kernel
theorem zf229_70 : fetch 229 70 = some (.imul, 1) := by decide +kernel
theorem zf229_71 : fetch 229 71 = some (.iload_n 1, 1) := by decide +kernel
theorem zf229_72 : fetch 229 72 = some (.iadd, 1) := by decide +kernel
theorem zf229_73 : fetch 229 73 = some (.aload_n 0, 1) := by decide +kernel
