theorem dX6_restoreBelt_0 : decode cX6_restoreBelt 0 = .ok (.aload_n 1, 1) := by decide +kernel
theorem dX6_restoreBelt_1 : decode cX6_restoreBelt 1 = .ok (.getfield 186, 3) := by decide +kernel
theorem dX6_restoreBelt_4 : decode cX6_restoreBelt 4 = .ok (.ifCond .eq 31, 3) := by decide +kernel
theorem dX6_restoreBelt_7 : decode cX6_restoreBelt 7 = .ok (.aload_n 0, 1) := by decide +kernel
theorem dX6_restoreBelt_8 : decode cX6_restoreBelt 8 = .ok (.aload_n 1, 1) := by decide +kernel
theorem dX6_restoreBelt_9 : decode cX6_restoreBelt 9 = .ok (.iconst 0, 1) := by decide +kernel
theorem dX6_restoreBelt_10 : decode cX6_restoreBelt 10 = .ok (.aload_n 1, 1) := by decide +kernel
theorem dX6_restoreBelt_11 : decode cX6_restoreBelt 11 = .ok (.getfield 189, 3) := by decide +kernel
theorem dX6_restoreBelt_14 : decode cX6_restoreBelt 14 = .ok (.invokevirtual 192, 3) := by decide +kernel
theorem dX6_restoreBelt_17 : decode cX6_restoreBelt 17 = .ok (.aload_n 0, 1) := by decide +kernel
theorem dX6_restoreBelt_18 : decode cX6_restoreBelt 18 = .ok (.aload_n 1, 1) := by decide +kernel
theorem dX6_restoreBelt_19 : decode cX6_restoreBelt 19 = .ok (.iconst 1, 1) := by decide +kernel
theorem dX6_restoreBelt_20 : decode cX6_restoreBelt 20 = .ok (.aload_n 1, 1) := by decide +kernel
theorem dX6_restoreBelt_21 : decode cX6_restoreBelt 21 = .ok (.getfield 196, 3) := by decide +kernel
theorem dX6_restoreBelt_24 : decode cX6_restoreBelt 24 = .ok (.invokevirtual 192, 3) := by decide +kernel
theorem dX6_restoreBelt_27 : decode cX6_restoreBelt 27 = .ok (.aload_n 1, 1) := by decide +kernel
theorem dX6_restoreBelt_28 : decode cX6_restoreBelt 28 = .ok (.aload_n 1, 1) := by decide +kernel
theorem dX6_restoreBelt_29 : decode cX6_restoreBelt 29 = .ok (.getfield 199, 3) := by decide +kernel
theorem dX6_restoreBelt_32 : decode cX6_restoreBelt 32 = .ok (.putfield 89, 3) := by decide +kernel
theorem dX6_restoreBelt_35 : decode cX6_restoreBelt 35 = .ok (.return_, 1) := by decide +kernel
theorem dX7_init_0 : decode cX7_init 0 = .ok (.aload_n 0, 1) := by decide +kernel
theorem dX7_init_1 : decode cX7_init 1 = .ok (.invokespecial 3, 3) := by decide +kernel
theorem dX7_init_4 : decode cX7_init 4 = .ok (.aload_n 0, 1) := by decide +kernel
theorem dX7_init_5 : decode cX7_init 5 = .ok (.sipush 160, 3) := by decide +kernel
theorem dX7_init_8 : decode cX7_init 8 = .ok (.newarray .int, 2) := by decide +kernel
theorem dX7_init_10 : decode cX7_init 10 = .ok (.putfield 11, 3) := by decide +kernel
theorem dX7_init_13 : decode cX7_init 13 = .ok (.return_, 1) := by decide +kernel
theorem dX7_take_0 : decode cX7_take 0 = .ok (.aload_n 0, 1) := by decide +kernel
theorem dX7_take_1 : decode cX7_take 1 = .ok (.getfield 15, 3) := by decide +kernel
theorem dX7_take_4 : decode cX7_take 4 = .ok (.sipush 160, 3) := by decide +kernel
theorem dX7_take_7 : decode cX7_take 7 = .ok (.if_icmp .ge 27, 3) := by decide +kernel
theorem dX7_take_10 : decode cX7_take 10 = .ok (.aload_n 0, 1) := by decide +kernel
theorem dX7_take_11 : decode cX7_take 11 = .ok (.getfield 11, 3) := by decide +kernel
theorem dX7_take_14 : decode cX7_take 14 = .ok (.aload_n 0, 1) := by decide +kernel
theorem dX7_take_15 : decode cX7_take 15 = .ok (.getfield 15, 3) := by decide +kernel
theorem dX7_take_18 : decode cX7_take 18 = .ok (.iload_n 1, 1) := by decide +kernel
theorem dX7_take_19 : decode cX7_take 19 = .ok (.sipush 255, 3) := by decide +kernel
theorem dX7_take_22 : decode cX7_take 22 = .ok (.iand, 1) := by decide +kernel
theorem dX7_take_23 : decode cX7_take 23 = .ok (.iastore, 1) := by decide +kernel
theorem dX7_take_24 : decode cX7_take 24 = .ok (.aload_n 0, 1) := by decide +kernel
theorem dX7_take_25 : decode cX7_take 25 = .ok (.dup, 1) := by decide +kernel
theorem dX7_take_26 : decode cX7_take 26 = .ok (.getfield 15, 3) := by decide +kernel
theorem dX7_take_29 : decode cX7_take 29 = .ok (.iconst 1, 1) := by decide +kernel
theorem dX7_take_30 : decode cX7_take 30 = .ok (.iadd, 1) := by decide +kernel
theorem dX7_take_31 : decode cX7_take 31 = .ok (.putfield 15, 3) := by decide +kernel
theorem dX7_take_34 : decode cX7_take 34 = .ok (.return_, 1) := by decide +kernel
set_option maxRecDepth 20000 in
theorem ggX7_readInto_X9_clear : GoodIn wsX7_readInto wsX9_clear := goodIn_r _ [10, 11, 215, 216, 217, 218, 219] (by decide +kernel) (by decide +kernel)
set_option maxRecDepth 20000 in
theorem gX7_readInto_X9_clear : GoodIn wsX7_readInto (wsV RX7 23 RX9 yX9_clear wsX9_clear) := goodIn_app (goodIn_of _ (by decide +kernel)) ggX7_readInto_X9_clear
set_option maxRecDepth 20000 in
theorem ggX7_readInto_X7_next : GoodIn wsX7_readInto wsX7_next := goodIn_r _ [16, 2, 4, 17, 5, 3, 18, 19, 15, 20, 21, 22, 23, 24, 25, 26, 27, 28, 29, 30, 31, 32, 33, 34, 35, 36, 37, 38, 39, 40, 41, 42, 43, 44, 45, 46, 47, 48, 49, 50, 51, 52, 53, 54, 55, 56, 57, 58, 59, 60, 61, 62, 63, 64, 65, 66, 67, 68, 69, 70, 71, 72, 73, 74, 75, 76, 77, 78, 79, 80, 81, 82, 83, 84, 85, 86, 87, 88, 89, 90, 91, 92, 93, 94, 95, 96, 97, 98, 99, 100, 101, 102, 103, 104, 105, 106, 107, 108, 109, 110, 111, 112, 113, 114, 115, 116, 117, 118, 119, 120, 121, 122, 123, 124, 125, 126, 127, 128, 129, 130, 131, 132, 133, 134, 135, 136, 137, 138, 139, 140, 141, 142, 143, 144, 145, 208, 209, 210, 211, 212, 213, 214] (by decide +kernel) (by decide +kernel)
set_option maxRecDepth 20000 in
theorem gX7_readInto_X7_next : GoodIn wsX7_readInto (wsV RX7 31 RX7 yX7_next wsX7_next) := goodIn_app (goodIn_of _ (by decide +kernel)) ggX7_readInto_X7_next
set_option maxRecDepth 20000 in
theorem ggX7_readInto_X7_readPart : GoodIn wsX7_readInto wsX7_readPart := goodIn_r _ [149, 3, 1, 12, 13, 14, 15, 16, 2, 4, 17, 5, 18, 19, 20, 21, 22, 23, 24, 25, 26, 27, 28, 29, 30, 31, 32, 33, 34, 35, 36, 37, 38, 39, 40, 41, 42, 43, 44, 45, 46, 47, 48, 49, 50, 51, 52, 53, 54, 55, 56, 57, 58, 59, 60, 61, 62, 63, 64, 65, 66, 67, 68, 69, 70, 71, 72, 73, 74, 75, 76, 77, 78, 79, 80, 81, 82, 83, 84, 85, 86, 87, 88, 89, 90, 91, 92, 93, 94, 95, 96, 97, 98, 99, 100, 101, 102, 103, 104, 105, 106, 107, 108, 109, 110, 111, 112, 113, 114, 115, 116, 117, 118, 119, 120, 121, 122, 123, 124, 125, 126, 127, 128, 129, 130, 131, 132, 133, 134, 135, 136, 137, 138, 139, 140, 141, 142, 143, 144, 145, 150, 151, 152, 153, 154, 155, 156, 157, 158, 159, 9, 160, 161, 162, 163, 164, 11, 165, 166, 167, 168, 169, 170, 171, 172, 173, 174, 175, 176, 177, 178, 179, 180, 181, 182, 183, 184, 185, 186, 187, 188, 189, 190, 191, 192, 193, 194, 195, 196, 197, 198, 199, 200, 201, 202, 203, 204, 205, 206, 207, 208, 209, 210, 211, 212, 213, 214, 215, 216, 217, 218, 219] (by decide +kernel) (by decide +kernel)
set_option maxRecDepth 20000 in
theorem gX7_readInto_X7_readPart : GoodIn wsX7_readInto (wsV RX7 34 RX7 yX7_readPart wsX7_readPart) := goodIn_app (goodIn_of _ (by decide +kernel)) ggX7_readInto_X7_readPart
theorem dX7_readInto_0 : decode cX7_readInto 0 = .ok (.aload_n 0, 1) := by decide +kernel
theorem dX7_readInto_1 : decode cX7_readInto 1 = .ok (.aload_n 1, 1) := by decide +kernel
theorem dX7_readInto_2 : decode cX7_readInto 2 = .ok (.putfield 19, 3) := by decide +kernel
theorem dX7_readInto_5 : decode cX7_readInto 5 = .ok (.aload_n 0, 1) := by decide +kernel
theorem dX7_readInto_6 : decode cX7_readInto 6 = .ok (.getfield 19, 3) := by decide +kernel
theorem dX7_readInto_9 : decode cX7_readInto 9 = .ok (.invokevirtual 23, 3) := by decide +kernel
theorem dX7_readInto_12 : decode cX7_readInto 12 = .ok (.aload_n 0, 1) := by decide +kernel
theorem dX7_readInto_13 : decode cX7_readInto 13 = .ok (.iconst 0, 1) := by decide +kernel
theorem dX7_readInto_14 : decode cX7_readInto 14 = .ok (.putfield 28, 3) := by decide +kernel
theorem dX7_readInto_17 : decode cX7_readInto 17 = .ok (.aload_n 0, 1) := by decide +kernel
theorem dX7_readInto_18 : decode cX7_readInto 18 = .ok (.invokevirtual 31, 3) := by decide +kernel
theorem dX7_readInto_21 : decode cX7_readInto 21 = .ok (.iconst 1, 1) := by decide +kernel
theorem dX7_readInto_22 : decode cX7_readInto 22 = .ok (.istore_n 2, 1) := by decide +kernel
theorem dX7_readInto_23 : decode cX7_readInto 23 = .ok (.iconst 0, 1) := by decide +kernel
theorem dX7_readInto_24 : decode cX7_readInto 24 = .ok (.istore_n 3, 1) := by decide +kernel
theorem dX7_readInto_25 : decode cX7_readInto 25 = .ok (.iload_n 3, 1) := by decide +kernel
theorem dX7_readInto_26 : decode cX7_readInto 26 = .ok (.iconst 3, 1) := by decide +kernel
theorem dX7_readInto_27 : decode cX7_readInto 27 = .ok (.if_icmp .ge 19, 3) := by decide +kernel
theorem dX7_readInto_30 : decode cX7_readInto 30 = .ok (.iload_n 2, 1) := by decide +kernel
theorem dX7_readInto_31 : decode cX7_readInto 31 = .ok (.ifCond .eq 15, 3) := by decide +kernel
theorem dX7_readInto_34 : decode cX7_readInto 34 = .ok (.aload_n 0, 1) := by decide +kernel
theorem dX7_readInto_35 : decode cX7_readInto 35 = .ok (.iload_n 3, 1) := by decide +kernel
theorem dX7_readInto_36 : decode cX7_readInto 36 = .ok (.invokevirtual 34, 3) := by decide +kernel
theorem dX7_readInto_39 : decode cX7_readInto 39 = .ok (.istore_n 2, 1) := by decide +kernel
theorem dX7_readInto_40 : decode cX7_readInto 40 = .ok (.iinc 3 1, 3) := by decide +kernel
theorem dX7_readInto_43 : decode cX7_readInto 43 = .ok (.goto (-18), 3) := by decide +kernel
theorem dX7_readInto_46 : decode cX7_readInto 46 = .ok (.iload_n 2, 1) := by decide +kernel
theorem dX7_readInto_47 : decode cX7_readInto 47 = .ok (.ifCond .eq 14, 3) := by decide +kernel
theorem dX7_readInto_50 : decode cX7_readInto 50 = .ok (.aload_n 0, 1) := by decide +kernel
theorem dX7_readInto_51 : decode cX7_readInto 51 = .ok (.getfield 38, 3) := by decide +kernel
theorem dX7_readInto_54 : decode cX7_readInto 54 = .ok (.ifCond .ne 7, 3) := by decide +kernel
theorem dX7_readInto_57 : decode cX7_readInto 57 = .ok (.iconst 1, 1) := by decide +kernel
theorem dX7_readInto_58 : decode cX7_readInto 58 = .ok (.goto 4, 3) := by decide +kernel
theorem dX7_readInto_61 : decode cX7_readInto 61 = .ok (.iconst 0, 1) := by decide +kernel
theorem dX7_readInto_62 : decode cX7_readInto 62 = .ok (.istore_n 2, 1) := by decide +kernel
theorem dX7_readInto_63 : decode cX7_readInto 63 = .ok (.aload_n 0, 1) := by decide +kernel
theorem dX7_readInto_64 : decode cX7_readInto 64 = .ok (.iconst 0, 1) := by decide +kernel
theorem dX7_readInto_65 : decode cX7_readInto 65 = .ok (.putfield 15, 3) := by decide +kernel
theorem dX7_readInto_68 : decode cX7_readInto 68 = .ok (.iload_n 2, 1) := by decide +kernel
theorem dX7_readInto_69 : decode cX7_readInto 69 = .ok (.ifCond .eq 7, 3) := by decide +kernel
theorem dX7_readInto_72 : decode cX7_readInto 72 = .ok (.iconst (-1), 1) := by decide +kernel
theorem dX7_readInto_73 : decode cX7_readInto 73 = .ok (.goto 7, 3) := by decide +kernel
theorem dX7_readInto_76 : decode cX7_readInto 76 = .ok (.aload_n 0, 1) := by decide +kernel
theorem dX7_readInto_77 : decode cX7_readInto 77 = .ok (.getfield 41, 3) := by decide +kernel
theorem dX7_readInto_80 : decode cX7_readInto 80 = .ok (.ireturn, 1) := by decide +kernel
set_option maxRecDepth 20000 in
theorem ggX7_readPart_X7_next : GoodIn wsX7_readPart wsX7_next := goodIn_r _ [7, 8, 9, 10, 11, 1, 12, 13, 6, 14, 15, 16, 17, 18, 19, 20, 21, 22, 23, 24, 25, 26, 27, 28, 29, 30, 31, 32, 33, 34, 35, 36, 37, 38, 39, 40, 41, 42, 43, 44, 45, 46, 47, 48, 49, 50, 51, 52, 53, 54, 55, 56, 57, 58, 59, 60, 61, 62, 63, 64, 65, 66, 67, 68, 69, 70, 71, 72, 73, 74, 75, 76, 77, 78, 79, 80, 81, 82, 83, 84, 85, 86, 87, 88, 89, 90, 91, 92, 93, 94, 95, 96, 97, 98, 99, 100, 101, 102, 103, 104, 105, 106, 107, 108, 109, 110, 111, 112, 113, 114, 115, 116, 117, 118, 119, 120, 121, 122, 123, 124, 125, 126, 127, 128, 129, 130, 131, 132, 133, 134, 135, 136, 137, 138, 139, 200, 201, 202, 203, 204, 205, 206] (by decide +kernel) (by decide +kernel)
set_option maxRecDepth 20000 in
theorem gX7_readPart_X7_next : GoodIn wsX7_readPart (wsV RX7 31 RX7 yX7_next wsX7_next) := goodIn_app (goodIn_of _ (by decide +kernel)) ggX7_readPart_X7_next
set_option maxRecDepth 20000 in
theorem ggX7_readPart_X7_readEither : GoodIn wsX7_readPart wsX7_readEither := goodIn_r _ [143, 1, 2, 144, 145, 146, 6, 3, 4, 5, 7, 8, 9, 10, 11, 12, 13, 14, 15, 16, 17, 18, 19, 20, 21, 22, 23, 24, 25, 26, 27, 28, 29, 30, 31, 32, 33, 34, 35, 36, 37, 38, 39, 40, 41, 42, 43, 44, 45, 46, 47, 48, 49, 50, 51, 52, 53, 54, 55, 56, 57, 58, 59, 60, 61, 62, 63, 64, 65, 66, 67, 68, 69, 70, 71, 72, 73, 74, 75, 76, 77, 78, 79, 80, 81, 82, 83, 84, 85, 86, 87, 88, 89, 90, 91, 92, 93, 94, 95, 96, 97, 98, 99, 100, 101, 102, 103, 104, 105, 106, 107, 108, 109, 110, 111, 112, 113, 114, 115, 116, 117, 118, 119, 120, 121, 122, 123, 124, 125, 126, 127, 128, 129, 130, 131, 132, 133, 134, 135, 136, 137, 138, 139, 147, 148, 149, 150, 151, 152, 153, 154, 155, 156, 157, 158, 159, 160, 161, 162, 140, 141, 142, 163, 164, 165, 166, 167, 168, 169, 170, 171, 172, 173, 174, 175, 176, 177, 178, 179, 180, 181, 182, 183, 184, 185, 186, 187, 188, 189, 190, 191, 192, 193, 194, 200, 201, 202, 203, 204, 205, 206, 207, 208, 209, 210, 211] (by decide +kernel) (by decide +kernel)
set_option maxRecDepth 20000 in
theorem gX7_readPart_X7_readEither : GoodIn wsX7_readPart (wsV RX7 44 RX7 yX7_readEither wsX7_readEither) := goodIn_app (goodIn_of _ (by decide +kernel)) ggX7_readPart_X7_readEither
set_option maxRecDepth 20000 in
theorem ggX7_readPart_X9_endPart : GoodIn wsX7_readPart wsX9_endPart := goodIn_r _ [198, 199, 156, 207, 208, 209, 210, 211] (by decide +kernel) (by decide +kernel)
set_option maxRecDepth 20000 in
theorem gX7_readPart_X9_endPart : GoodIn wsX7_readPart (wsV RX7 47 RX9 yX9_endPart wsX9_endPart) := goodIn_app (goodIn_of _ (by decide +kernel)) ggX7_readPart_X9_endPart
theorem dX7_readPart_0 : decode cX7_readPart 0 = .ok (.aload_n 0, 1) := by decide +kernel
theorem dX7_readPart_1 : decode cX7_readPart 1 = .ok (.getfield 38, 3) := by decide +kernel
theorem dX7_readPart_4 : decode cX7_readPart 4 = .ok (.iconst 4, 1) := by decide +kernel
theorem dX7_readPart_5 : decode cX7_readPart 5 = .ok (.iload_n 1, 1) := by decide +kernel
theorem dX7_readPart_6 : decode cX7_readPart 6 = .ok (.iadd, 1) := by decide +kernel
theorem dX7_readPart_7 : decode cX7_readPart 7 = .ok (.if_icmp .eq 5, 3) := by decide +kernel
theorem dX7_readPart_10 : decode cX7_readPart 10 = .ok (.iconst 0, 1) := by decide +kernel
theorem dX7_readPart_11 : decode cX7_readPart 11 = .ok (.ireturn, 1) := by decide +kernel
theorem dX7_readPart_12 : decode cX7_readPart 12 = .ok (.aload_n 0, 1) := by decide +kernel
theorem dX7_readPart_13 : decode cX7_readPart 13 = .ok (.invokevirtual 31, 3) := by decide +kernel
theorem dX7_readPart_16 : decode cX7_readPart 16 = .ok (.aload_n 0, 1) := by decide +kernel
theorem dX7_readPart_17 : decode cX7_readPart 17 = .ok (.iconst 0, 1) := by decide +kernel
theorem dX7_readPart_18 : decode cX7_readPart 18 = .ok (.invokevirtual 44, 3) := by decide +kernel
theorem dX7_readPart_21 : decode cX7_readPart 21 = .ok (.ifCond .eq 12, 3) := by decide +kernel
theorem dX7_readPart_24 : decode cX7_readPart 24 = .ok (.aload_n 0, 1) := by decide +kernel
theorem dX7_readPart_25 : decode cX7_readPart 25 = .ok (.getfield 38, 3) := by decide +kernel
theorem dX7_readPart_28 : decode cX7_readPart 28 = .ok (.bipush 59, 2) := by decide +kernel
theorem dX7_readPart_30 : decode cX7_readPart 30 = .ok (.if_icmp .eq 5, 3) := by decide +kernel
theorem dX7_readPart_33 : decode cX7_readPart 33 = .ok (.iconst 0, 1) := by decide +kernel
theorem dX7_readPart_34 : decode cX7_readPart 34 = .ok (.ireturn, 1) := by decide +kernel
theorem dX7_readPart_35 : decode cX7_readPart 35 = .ok (.aload_n 0, 1) := by decide +kernel
theorem dX7_readPart_36 : decode cX7_readPart 36 = .ok (.invokevirtual 31, 3) := by decide +kernel
theorem dX7_readPart_39 : decode cX7_readPart 39 = .ok (.aload_n 0, 1) := by decide +kernel
theorem dX7_readPart_40 : decode cX7_readPart 40 = .ok (.getfield 19, 3) := by decide +kernel
theorem dX7_readPart_43 : decode cX7_readPart 43 = .ok (.iload_n 1, 1) := by decide +kernel
theorem dX7_readPart_44 : decode cX7_readPart 44 = .ok (.invokevirtual 47, 3) := by decide +kernel
theorem dX7_readPart_47 : decode cX7_readPart 47 = .ok (.iconst 1, 1) := by decide +kernel
theorem dX7_readPart_48 : decode cX7_readPart 48 = .ok (.ireturn, 1) := by decide +kernel
set_option maxRecDepth 20000 in
theorem ggX7_readEither_X7_readBoth : GoodIn wsX7_readEither wsX7_readBoth := goodIn_r _ [154, 1, 2, 155, 156, 157, 6, 7, 8, 9, 10, 11, 12, 13, 14, 15, 16, 17, 18, 19, 20, 21, 22, 23, 24, 25, 26, 27, 28, 29, 30, 31, 32, 33, 34, 35, 36, 37, 38, 39, 40, 41, 42, 43, 44, 45, 46, 47, 48, 49, 50, 51, 52, 53, 54, 55, 56, 57, 58, 59, 60, 61, 62, 63, 64, 65, 66, 67, 68, 69, 70, 71, 72, 73, 74, 75, 76, 77, 78, 79, 80, 81, 82, 83, 84, 85, 86, 87, 88, 89, 90, 91, 92, 93, 94, 95, 96, 97, 98, 99, 100, 101, 102, 103, 104, 105, 106, 107, 108, 109, 110, 111, 112, 113, 114, 115, 116, 117, 118, 119, 120, 121, 122, 123, 124, 125, 126, 127, 128, 129, 130, 131, 132, 133, 134, 135, 136, 137, 138, 139, 140, 141, 142, 143, 144, 145, 146, 147, 148, 149, 150, 151, 152, 153, 158, 159, 160, 161, 162, 163, 164, 165, 0, 3, 4, 5, 166, 167, 168, 169, 170, 171, 172, 173, 174, 175, 176, 177, 178, 179, 180, 181, 182, 183, 184, 185, 186, 187, 188, 189, 190, 191, 192, 193, 194, 195, 196, 197, 198, 199, 200, 201, 202, 203, 204, 205] (by decide +kernel) (by decide +kernel)
set_option maxRecDepth 20000 in
theorem gX7_readEither_X7_readBoth : GoodIn wsX7_readEither (wsV RX7 51 RX7 yX7_readBoth wsX7_readBoth) := goodIn_app (goodIn_of _ (by decide +kernel)) ggX7_readEither_X7_readBoth
set_option maxRecDepth 20000 in
theorem ggX7_readEither_X7_next : GoodIn wsX7_readEither wsX7_next := goodIn_r _ [10, 11, 12, 13, 14, 1, 15, 16, 6, 17, 18, 19, 20, 21, 22, 23, 24, 25, 26, 27, 28, 29, 30, 31, 32, 33, 34, 35, 36, 37, 38, 39, 40, 41, 42, 43, 44, 45, 46, 47, 48, 49, 50, 51, 52, 53, 54, 55, 56, 57, 58, 59, 60, 61, 62, 63, 64, 65, 66, 67, 68, 69, 70, 71, 72, 73, 74, 75, 76, 77, 78, 79, 80, 81, 82, 83, 84, 85, 86, 87, 88, 89, 90, 91, 92, 93, 94, 95, 96, 97, 98, 99, 100, 101, 102, 103, 104, 105, 106, 107, 108, 109, 110, 111, 112, 113, 114, 115, 116, 117, 118, 119, 120, 121, 122, 123, 124, 125, 126, 127, 128, 129, 130, 131, 132, 133, 134, 135, 136, 137, 138, 139, 140, 141, 142, 194, 195, 196, 197, 198, 199, 200] (by decide +kernel) (by decide +kernel)
set_option maxRecDepth 20000 in
theorem gX7_readEither_X7_next : GoodIn wsX7_readEither (wsV RX7 31 RX7 yX7_next wsX7_next) := goodIn_app (goodIn_of _ (by decide +kernel)) ggX7_readEither_X7_next
set_option maxRecDepth 20000 in
theorem ggX7_readEither_X9_addSign : GoodIn wsX7_readEither wsX9_addSign := goodIn_r _ [147, 148, 149, 150, 146, 151, 152, 153, 201, 202, 203, 204, 205] (by decide +kernel) (by decide +kernel)
set_option maxRecDepth 20000 in
theorem gX7_readEither_X9_addSign : GoodIn wsX7_readEither (wsV RX7 54 RX9 yX9_addSign wsX9_addSign) := goodIn_app (goodIn_of _ (by decide +kernel)) ggX7_readEither_X9_addSign
theorem dX7_readEither_0 : decode cX7_readEither 0 = .ok (.aload_n 0, 1) := by decide +kernel
theorem dX7_readEither_1 : decode cX7_readEither 1 = .ok (.iload_n 1, 1) := by decide +kernel
theorem dX7_readEither_2 : decode cX7_readEither 2 = .ok (.invokevirtual 51, 3) := by decide +kernel
theorem dX7_readEither_5 : decode cX7_readEither 5 = .ok (.istore_n 2, 1) := by decide +kernel
theorem dX7_readEither_6 : decode cX7_readEither 6 = .ok (.iconst 0, 1) := by decide +kernel
theorem dX7_readEither_7 : decode cX7_readEither 7 = .ok (.istore_n 3, 1) := by decide +kernel
theorem dX7_readEither_8 : decode cX7_readEither 8 = .ok (.iload_n 3, 1) := by decide +kernel
theorem dX7_readEither_9 : decode cX7_readEither 9 = .ok (.sipush 160, 3) := by decide +kernel
theorem dX7_readEither_12 : decode cX7_readEither 12 = .ok (.if_icmp .ge 41, 3) := by decide +kernel
theorem dX7_readEither_15 : decode cX7_readEither 15 = .ok (.iload_n 2, 1) := by decide +kernel
theorem dX7_readEither_16 : decode cX7_readEither 16 = .ok (.ifCond .eq 37, 3) := by decide +kernel
theorem dX7_readEither_19 : decode cX7_readEither 19 = .ok (.aload_n 0, 1) := by decide +kernel
theorem dX7_readEither_20 : decode cX7_readEither 20 = .ok (.getfield 38, 3) := by decide +kernel
theorem dX7_readEither_23 : decode cX7_readEither 23 = .ok (.bipush 7, 2) := by decide +kernel
theorem dX7_readEither_25 : decode cX7_readEither 25 = .ok (.if_icmp .ne 28, 3) := by decide +kernel
theorem dX7_readEither_28 : decode cX7_readEither 28 = .ok (.aload_n 0, 1) := by decide +kernel
theorem dX7_readEither_29 : decode cX7_readEither 29 = .ok (.invokevirtual 31, 3) := by decide +kernel
theorem dX7_readEither_32 : decode cX7_readEither 32 = .ok (.aload_n 0, 1) := by decide +kernel
theorem dX7_readEither_33 : decode cX7_readEither 33 = .ok (.iload_n 1, 1) := by decide +kernel
theorem dX7_readEither_34 : decode cX7_readEither 34 = .ok (.invokevirtual 51, 3) := by decide +kernel
theorem dX7_readEither_37 : decode cX7_readEither 37 = .ok (.istore_n 2, 1) := by decide +kernel
theorem dX7_readEither_38 : decode cX7_readEither 38 = .ok (.aload_n 0, 1) := by decide +kernel
theorem dX7_readEither_39 : decode cX7_readEither 39 = .ok (.getfield 19, 3) := by decide +kernel
theorem dX7_readEither_42 : decode cX7_readEither 42 = .ok (.bipush 124, 2) := by decide +kernel
theorem dX7_readEither_44 : decode cX7_readEither 44 = .ok (.invokevirtual 54, 3) := by decide +kernel
theorem dX7_readEither_47 : decode cX7_readEither 47 = .ok (.iinc 3 1, 3) := by decide +kernel
theorem dX7_readEither_50 : decode cX7_readEither 50 = .ok (.goto (-42), 3) := by decide +kernel
theorem dX7_readEither_53 : decode cX7_readEither 53 = .ok (.iload_n 2, 1) := by decide +kernel
theorem dX7_readEither_54 : decode cX7_readEither 54 = .ok (.ireturn, 1) := by decide +kernel
set_option maxRecDepth 20000 in
theorem ggX7_readBoth_X7_readNot : GoodIn wsX7_readBoth wsX7_readNot := goodIn_r _ [170, 1, 2, 171, 172, 173, 6, 7, 8, 9, 10, 11, 12, 13, 14, 15, 16, 17, 18, 19, 20, 21, 22, 23, 24, 25, 26, 27, 28, 29, 30, 31, 32, 33, 34, 35, 36, 37, 38, 39, 40, 41, 42, 43, 44, 45, 46, 47, 48, 49, 50, 51, 52, 53, 54, 55, 56, 57, 58, 59, 60, 61, 62, 63, 64, 65, 66, 67, 68, 69, 70, 71, 72, 73, 74, 75, 76, 77, 78, 79, 80, 81, 82, 83, 84, 85, 86, 87, 88, 89, 90, 91, 92, 93, 94, 95, 96, 97, 98, 99, 100, 101, 102, 103, 104, 105, 106, 107, 108, 109, 110, 111, 112, 113, 114, 115, 116, 117, 118, 119, 120, 121, 122, 123, 124, 125, 126, 127, 128, 129, 130, 131, 132, 133, 134, 135, 136, 137, 138, 139, 140, 141, 142, 3, 4, 5, 143, 144, 145, 146, 147, 148, 149, 150, 151, 152, 153, 0, 154, 155, 156, 157, 158, 159, 160, 161, 162, 163, 164, 165, 166, 167, 168, 169, 174, 175, 176, 177, 178, 179, 180, 181, 182, 183, 184, 185, 186, 187, 188, 189, 190, 191, 192, 193, 194, 195, 196, 197, 198, 199, 200, 201, 202, 203, 204, 205] (by decide +kernel) (by decide +kernel)
set_option maxRecDepth 20000 in
theorem gX7_readBoth_X7_readNot : GoodIn wsX7_readBoth (wsV RX7 57 RX7 yX7_readNot wsX7_readNot) := goodIn_app (goodIn_of _ (by decide +kernel)) ggX7_readBoth_X7_readNot
set_option maxRecDepth 20000 in
theorem ggX7_readBoth_X7_next : GoodIn wsX7_readBoth wsX7_next := goodIn_r _ [10, 11, 12, 13, 14, 1, 15, 16, 6, 17, 18, 19, 20, 21, 22, 23, 24, 25, 26, 27, 28, 29, 30, 31, 32, 33, 34, 35, 36, 37, 38, 39, 40, 41, 42, 43, 44, 45, 46, 47, 48, 49, 50, 51, 52, 53, 54, 55, 56, 57, 58, 59, 60, 61, 62, 63, 64, 65, 66, 67, 68, 69, 70, 71, 72, 73, 74, 75, 76, 77, 78, 79, 80, 81, 82, 83, 84, 85, 86, 87, 88, 89, 90, 91, 92, 93, 94, 95, 96, 97, 98, 99, 100, 101, 102, 103, 104, 105, 106, 107, 108, 109, 110, 111, 112, 113, 114, 115, 116, 117, 118, 119, 120, 121, 122, 123, 124, 125, 126, 127, 128, 129, 130, 131, 132, 133, 134, 135, 136, 137, 138, 139, 140, 141, 142, 194, 195, 196, 197, 198, 199, 200] (by decide +kernel) (by decide +kernel)
set_option maxRecDepth 20000 in
theorem gX7_readBoth_X7_next : GoodIn wsX7_readBoth (wsV RX7 31 RX7 yX7_next wsX7_next) := goodIn_app (goodIn_of _ (by decide +kernel)) ggX7_readBoth_X7_next
set_option maxRecDepth 20000 in
theorem ggX7_readBoth_X9_addSign : GoodIn wsX7_readBoth wsX9_addSign := goodIn_r _ [147, 148, 149, 150, 146, 151, 152, 153, 201, 202, 203, 204, 205] (by decide +kernel) (by decide +kernel)
set_option maxRecDepth 20000 in
theorem gX7_readBoth_X9_addSign : GoodIn wsX7_readBoth (wsV RX7 54 RX9 yX9_addSign wsX9_addSign) := goodIn_app (goodIn_of _ (by decide +kernel)) ggX7_readBoth_X9_addSign
theorem dX7_readBoth_0 : decode cX7_readBoth 0 = .ok (.aload_n 0, 1) := by decide +kernel
theorem dX7_readBoth_1 : decode cX7_readBoth 1 = .ok (.iload_n 1, 1) := by decide +kernel
theorem dX7_readBoth_2 : decode cX7_readBoth 2 = .ok (.invokevirtual 57, 3) := by decide +kernel
theorem dX7_readBoth_5 : decode cX7_readBoth 5 = .ok (.istore_n 2, 1) := by decide +kernel
theorem dX7_readBoth_6 : decode cX7_readBoth 6 = .ok (.iconst 0, 1) := by decide +kernel
theorem dX7_readBoth_7 : decode cX7_readBoth 7 = .ok (.istore_n 3, 1) := by decide +kernel
theorem dX7_readBoth_8 : decode cX7_readBoth 8 = .ok (.iload_n 3, 1) := by decide +kernel
theorem dX7_readBoth_9 : decode cX7_readBoth 9 = .ok (.sipush 160, 3) := by decide +kernel
theorem dX7_readBoth_12 : decode cX7_readBoth 12 = .ok (.if_icmp .ge 41, 3) := by decide +kernel
theorem dX7_readBoth_15 : decode cX7_readBoth 15 = .ok (.iload_n 2, 1) := by decide +kernel
theorem dX7_readBoth_16 : decode cX7_readBoth 16 = .ok (.ifCond .eq 37, 3) := by decide +kernel
theorem dX7_readBoth_19 : decode cX7_readBoth 19 = .ok (.aload_n 0, 1) := by decide +kernel
theorem dX7_readBoth_20 : decode cX7_readBoth 20 = .ok (.getfield 38, 3) := by decide +kernel
theorem dX7_readBoth_23 : decode cX7_readBoth 23 = .ok (.bipush 8, 2) := by decide +kernel
theorem dX7_readBoth_25 : decode cX7_readBoth 25 = .ok (.if_icmp .ne 28, 3) := by decide +kernel
theorem dX7_readBoth_28 : decode cX7_readBoth 28 = .ok (.aload_n 0, 1) := by decide +kernel
theorem dX7_readBoth_29 : decode cX7_readBoth 29 = .ok (.invokevirtual 31, 3) := by decide +kernel
theorem dX7_readBoth_32 : decode cX7_readBoth 32 = .ok (.aload_n 0, 1) := by decide +kernel
theorem dX7_readBoth_33 : decode cX7_readBoth 33 = .ok (.iload_n 1, 1) := by decide +kernel
theorem dX7_readBoth_34 : decode cX7_readBoth 34 = .ok (.invokevirtual 57, 3) := by decide +kernel
theorem dX7_readBoth_37 : decode cX7_readBoth 37 = .ok (.istore_n 2, 1) := by decide +kernel
theorem dX7_readBoth_38 : decode cX7_readBoth 38 = .ok (.aload_n 0, 1) := by decide +kernel
theorem dX7_readBoth_39 : decode cX7_readBoth 39 = .ok (.getfield 19, 3) := by decide +kernel
theorem dX7_readBoth_42 : decode cX7_readBoth 42 = .ok (.bipush 38, 2) := by decide +kernel
theorem dX7_readBoth_44 : decode cX7_readBoth 44 = .ok (.invokevirtual 54, 3) := by decide +kernel
theorem dX7_readBoth_47 : decode cX7_readBoth 47 = .ok (.iinc 3 1, 3) := by decide +kernel
theorem dX7_readBoth_50 : decode cX7_readBoth 50 = .ok (.goto (-42), 3) := by decide +kernel
theorem dX7_readBoth_53 : decode cX7_readBoth 53 = .ok (.iload_n 2, 1) := by decide +kernel
theorem dX7_readBoth_54 : decode cX7_readBoth 54 = .ok (.ireturn, 1) := by decide +kernel
set_option maxRecDepth 20000 in
theorem ggX7_readNot_X7_readCompared : GoodIn wsX7_readNot wsX7_readCompared := goodIn_r _ [162, 1, 2, 163, 164, 165, 6, 7, 8, 9, 10, 11, 12, 13, 14, 15, 16, 17, 18, 19, 20, 21, 22, 23, 24, 25, 26, 27, 28, 29, 30, 31, 32, 33, 34, 35, 36, 37, 38, 39, 40, 41, 42, 43, 44, 45, 46, 47, 48, 49, 50, 51, 52, 53, 54, 55, 56, 57, 58, 59, 60, 61, 62, 63, 64, 65, 66, 67, 68, 69, 70, 71, 72, 73, 74, 75, 76, 77, 78, 79, 80, 81, 82, 83, 84, 85, 86, 87, 88, 89, 90, 91, 92, 93, 94, 95, 96, 97, 98, 99, 100, 101, 102, 103, 104, 105, 106, 107, 108, 109, 110, 111, 112, 113, 114, 115, 116, 117, 118, 119, 120, 121, 122, 123, 124, 125, 126, 127, 128, 129, 130, 131, 132, 133, 134, 135, 136, 137, 138, 139, 140, 141, 142, 146, 147, 148, 149, 150, 151, 152, 153, 154, 155, 156, 157, 143, 144, 145, 158, 159, 160, 161, 166, 167, 168, 169, 170, 171, 172, 173, 0, 3, 4, 5, 174, 175, 176, 177, 178, 179, 180, 181, 182, 183, 184, 185, 186, 187, 188, 189, 190, 191, 192, 193, 194, 195, 196, 197, 198, 199, 200, 201, 202, 203, 204, 205] (by decide +kernel) (by decide +kernel)
set_option maxRecDepth 20000 in
theorem gX7_readNot_X7_readCompared : GoodIn wsX7_readNot (wsV RX7 60 RX7 yX7_readCompared wsX7_readCompared) := goodIn_app (goodIn_of _ (by decide +kernel)) ggX7_readNot_X7_readCompared
set_option maxRecDepth 20000 in
theorem ggX7_readNot_X7_next : GoodIn wsX7_readNot wsX7_next := goodIn_r _ [10, 11, 12, 13, 14, 1, 15, 16, 6, 17, 18, 19, 20, 21, 22, 23, 24, 25, 26, 27, 28, 29, 30, 31, 32, 33, 34, 35, 36, 37, 38, 39, 40, 41, 42, 43, 44, 45, 46, 47, 48, 49, 50, 51, 52, 53, 54, 55, 56, 57, 58, 59, 60, 61, 62, 63, 64, 65, 66, 67, 68, 69, 70, 71, 72, 73, 74, 75, 76, 77, 78, 79, 80, 81, 82, 83, 84, 85, 86, 87, 88, 89, 90, 91, 92, 93, 94, 95, 96, 97, 98, 99, 100, 101, 102, 103, 104, 105, 106, 107, 108, 109, 110, 111, 112, 113, 114, 115, 116, 117, 118, 119, 120, 121, 122, 123, 124, 125, 126, 127, 128, 129, 130, 131, 132, 133, 134, 135, 136, 137, 138, 139, 140, 141, 142, 194, 195, 196, 197, 198, 199, 200] (by decide +kernel) (by decide +kernel)
set_option maxRecDepth 20000 in
theorem gX7_readNot_X7_next : GoodIn wsX7_readNot (wsV RX7 31 RX7 yX7_next wsX7_next) := goodIn_app (goodIn_of _ (by decide +kernel)) ggX7_readNot_X7_next
set_option maxRecDepth 20000 in
theorem ggX7_readNot_X7_readNot : GoodIn wsX7_readNot wsX7_readNot := goodIn_r _ [0, 1, 2, 3, 4, 5, 6, 7, 8, 9, 10, 11, 12, 13, 14, 15, 16, 17, 18, 19, 20, 21, 22, 23, 24, 25, 26, 27, 28, 29, 30, 31, 32, 33, 34, 35, 36, 37, 38, 39, 40, 41, 42, 43, 44, 45, 46, 47, 48, 49, 50, 51, 52, 53, 54, 55, 56, 57, 58, 59, 60, 61, 62, 63, 64, 65, 66, 67, 68, 69, 70, 71, 72, 73, 74, 75, 76, 77, 78, 79, 80, 81, 82, 83, 84, 85, 86, 87, 88, 89, 90, 91, 92, 93, 94, 95, 96, 97, 98, 99, 100, 101, 102, 103, 104, 105, 106, 107, 108, 109, 110, 111, 112, 113, 114, 115, 116, 117, 118, 119, 120, 121, 122, 123, 124, 125, 126, 127, 128, 129, 130, 131, 132, 133, 134, 135, 136, 137, 138, 139, 140, 141, 142, 143, 144, 145, 146, 147, 148, 149, 150, 151, 152, 153, 154, 155, 156, 157, 158, 159, 160, 161, 162, 163, 164, 165, 166, 167, 168, 169, 170, 171, 172, 173, 174, 175, 176, 177, 178, 179, 180, 181, 182, 183, 184, 185, 186, 187, 188, 189, 190, 191, 192, 193, 194, 195, 196, 197, 198, 199, 200, 201, 202, 203, 204, 205] (by decide +kernel) (by decide +kernel)
set_option maxRecDepth 20000 in
theorem gX7_readNot_X7_readNot : GoodIn wsX7_readNot (wsV RX7 57 RX7 yX7_readNot wsX7_readNot) := goodIn_app (goodIn_of _ (by decide +kernel)) ggX7_readNot_X7_readNot
set_option maxRecDepth 20000 in
theorem ggX7_readNot_X9_addSign : GoodIn wsX7_readNot wsX9_addSign := goodIn_r _ [150, 151, 152, 153, 149, 154, 155, 156, 201, 202, 203, 204, 205] (by decide +kernel) (by decide +kernel)
set_option maxRecDepth 20000 in
theorem gX7_readNot_X9_addSign : GoodIn wsX7_readNot (wsV RX7 54 RX9 yX9_addSign wsX9_addSign) := goodIn_app (goodIn_of _ (by decide +kernel)) ggX7_readNot_X9_addSign
theorem dX7_readNot_0 : decode cX7_readNot 0 = .ok (.aload_n 0, 1) := by decide +kernel
theorem dX7_readNot_1 : decode cX7_readNot 1 = .ok (.getfield 38, 3) := by decide +kernel
theorem dX7_readNot_4 : decode cX7_readNot 4 = .ok (.bipush 9, 2) := by decide +kernel
theorem dX7_readNot_6 : decode cX7_readNot 6 = .ok (.if_icmp .eq 9, 3) := by decide +kernel
theorem dX7_readNot_9 : decode cX7_readNot 9 = .ok (.aload_n 0, 1) := by decide +kernel
theorem dX7_readNot_10 : decode cX7_readNot 10 = .ok (.iload_n 1, 1) := by decide +kernel
theorem dX7_readNot_11 : decode cX7_readNot 11 = .ok (.invokevirtual 60, 3) := by decide +kernel
theorem dX7_readNot_14 : decode cX7_readNot 14 = .ok (.ireturn, 1) := by decide +kernel
theorem dX7_readNot_15 : decode cX7_readNot 15 = .ok (.iload_n 1, 1) := by decide +kernel
theorem dX7_readNot_16 : decode cX7_readNot 16 = .ok (.iconst 5, 1) := by decide +kernel
theorem dX7_readNot_17 : decode cX7_readNot 17 = .ok (.if_icmp .lt 5, 3) := by decide +kernel
theorem dX7_readNot_20 : decode cX7_readNot 20 = .ok (.iconst 0, 1) := by decide +kernel
theorem dX7_readNot_21 : decode cX7_readNot 21 = .ok (.ireturn, 1) := by decide +kernel
theorem dX7_readNot_22 : decode cX7_readNot 22 = .ok (.aload_n 0, 1) := by decide +kernel
theorem dX7_readNot_23 : decode cX7_readNot 23 = .ok (.invokevirtual 31, 3) := by decide +kernel
theorem dX7_readNot_26 : decode cX7_readNot 26 = .ok (.aload_n 0, 1) := by decide +kernel
theorem dX7_readNot_27 : decode cX7_readNot 27 = .ok (.iload_n 1, 1) := by decide +kernel
theorem dX7_readNot_28 : decode cX7_readNot 28 = .ok (.iconst 1, 1) := by decide +kernel
theorem dX7_readNot_29 : decode cX7_readNot 29 = .ok (.iadd, 1) := by decide +kernel
theorem dX7_readNot_30 : decode cX7_readNot 30 = .ok (.invokevirtual 57, 3) := by decide +kernel
theorem dX7_readNot_33 : decode cX7_readNot 33 = .ok (.istore_n 2, 1) := by decide +kernel
theorem dX7_readNot_34 : decode cX7_readNot 34 = .ok (.aload_n 0, 1) := by decide +kernel
theorem dX7_readNot_35 : decode cX7_readNot 35 = .ok (.getfield 19, 3) := by decide +kernel
theorem dX7_readNot_38 : decode cX7_readNot 38 = .ok (.bipush 33, 2) := by decide +kernel
theorem dX7_readNot_40 : decode cX7_readNot 40 = .ok (.invokevirtual 54, 3) := by decide +kernel
theorem dX7_readNot_43 : decode cX7_readNot 43 = .ok (.iload_n 2, 1) := by decide +kernel
theorem dX7_readNot_44 : decode cX7_readNot 44 = .ok (.ireturn, 1) := by decide +kernel
set_option maxRecDepth 20000 in
theorem ggX7_readCompared_X7_readSum : GoodIn wsX7_readCompared wsX7_readSum := goodIn_r _ [189, 1, 2, 190, 191, 192, 6, 7, 8, 9, 10, 11, 12, 13, 14, 15, 16, 17, 18, 19, 20, 21, 22, 23, 24, 25, 26, 27, 28, 29, 30, 31, 32, 33, 34, 35, 36, 37, 38, 39, 40, 41, 42, 43, 44, 45, 46, 47, 48, 49, 50, 51, 52, 53, 54, 55, 56, 57, 58, 59, 60, 61, 62, 63, 64, 65, 66, 67, 68, 69, 70, 71, 72, 73, 74, 75, 76, 77, 78, 79, 80, 81, 82, 83, 84, 85, 86, 87, 88, 89, 90, 91, 92, 93, 94, 95, 96, 97, 98, 99, 100, 101, 102, 103, 104, 105, 106, 107, 108, 109, 110, 111, 112, 113, 114, 115, 116, 117, 118, 119, 120, 121, 122, 123, 124, 125, 126, 127, 128, 129, 130, 131, 132, 133, 134, 135, 136, 137, 138, 139, 140, 141, 142, 143, 144, 145, 146, 147, 148, 149, 150, 151, 152, 153, 154, 155, 156, 157, 158, 159, 160, 161, 0, 3, 4, 5, 162, 163, 164, 165, 166, 167, 168, 169, 170, 171, 172, 173, 174, 175, 176, 177, 178, 179, 180, 181, 182, 183, 184, 185, 186, 187, 188, 193, 194, 195, 196, 197, 198, 199, 200, 201, 202, 203, 204, 205] (by decide +kernel) (by decide +kernel)
set_option maxRecDepth 20000 in
theorem gX7_readCompared_X7_readSum : GoodIn wsX7_readCompared (wsV RX7 63 RX7 yX7_readSum wsX7_readSum) := goodIn_app (goodIn_of _ (by decide +kernel)) ggX7_readCompared_X7_readSum
set_option maxRecDepth 20000 in
theorem ggX7_readCompared_X7_next : GoodIn wsX7_readCompared wsX7_next := goodIn_r _ [10, 11, 12, 13, 14, 1, 15, 16, 6, 17, 18, 19, 20, 21, 22, 23, 24, 25, 26, 27, 28, 29, 30, 31, 32, 33, 34, 35, 36, 37, 38, 39, 40, 41, 42, 43, 44, 45, 46, 47, 48, 49, 50, 51, 52, 53, 54, 55, 56, 57, 58, 59, 60, 61, 62, 63, 64, 65, 66, 67, 68, 69, 70, 71, 72, 73, 74, 75, 76, 77, 78, 79, 80, 81, 82, 83, 84, 85, 86, 87, 88, 89, 90, 91, 92, 93, 94, 95, 96, 97, 98, 99, 100, 101, 102, 103, 104, 105, 106, 107, 108, 109, 110, 111, 112, 113, 114, 115, 116, 117, 118, 119, 120, 121, 122, 123, 124, 125, 126, 127, 128, 129, 130, 131, 132, 133, 134, 135, 136, 137, 138, 139, 140, 141, 142, 194, 195, 196, 197, 198, 199, 200] (by decide +kernel) (by decide +kernel)
set_option maxRecDepth 20000 in
theorem gX7_readCompared_X7_next : GoodIn wsX7_readCompared (wsV RX7 31 RX7 yX7_next wsX7_next) := goodIn_app (goodIn_of _ (by decide +kernel)) ggX7_readCompared_X7_next
set_option maxRecDepth 20000 in
theorem ggX7_readCompared_X9_addSign : GoodIn wsX7_readCompared wsX9_addSign := goodIn_r _ [147, 148, 149, 150, 146, 151, 152, 153, 201, 202, 203, 204, 205] (by decide +kernel) (by decide +kernel)
set_option maxRecDepth 20000 in
theorem gX7_readCompared_X9_addSign : GoodIn wsX7_readCompared (wsV RX7 54 RX9 yX9_addSign wsX9_addSign) := goodIn_app (goodIn_of _ (by decide +kernel)) ggX7_readCompared_X9_addSign
theorem dX7_readCompared_0 : decode cX7_readCompared 0 = .ok (.aload_n 0, 1) := by decide +kernel
theorem dX7_readCompared_1 : decode cX7_readCompared 1 = .ok (.iload_n 1, 1) := by decide +kernel
theorem dX7_readCompared_2 : decode cX7_readCompared 2 = .ok (.invokevirtual 63, 3) := by decide +kernel
theorem dX7_readCompared_5 : decode cX7_readCompared 5 = .ok (.istore_n 2, 1) := by decide +kernel
theorem dX7_readCompared_6 : decode cX7_readCompared 6 = .ok (.aload_n 0, 1) := by decide +kernel
theorem dX7_readCompared_7 : decode cX7_readCompared 7 = .ok (.getfield 38, 3) := by decide +kernel
theorem dX7_readCompared_10 : decode cX7_readCompared 10 = .ok (.istore_n 3, 1) := by decide +kernel
theorem dX7_readCompared_11 : decode cX7_readCompared 11 = .ok (.iload_n 2, 1) := by decide +kernel
theorem dX7_readCompared_12 : decode cX7_readCompared 12 = .ok (.ifCond .eq 33, 3) := by decide +kernel
theorem dX7_readCompared_15 : decode cX7_readCompared 15 = .ok (.iload_n 3, 1) := by decide +kernel
theorem dX7_readCompared_16 : decode cX7_readCompared 16 = .ok (.bipush 60, 2) := by decide +kernel
theorem dX7_readCompared_18 : decode cX7_readCompared 18 = .ok (.if_icmp .eq 9, 3) := by decide +kernel
theorem dX7_readCompared_21 : decode cX7_readCompared 21 = .ok (.iload_n 3, 1) := by decide +kernel
theorem dX7_readCompared_22 : decode cX7_readCompared 22 = .ok (.bipush 61, 2) := by decide +kernel
theorem dX7_readCompared_24 : decode cX7_readCompared 24 = .ok (.if_icmp .ne 21, 3) := by decide +kernel
theorem dX7_readCompared_27 : decode cX7_readCompared 27 = .ok (.aload_n 0, 1) := by decide +kernel
theorem dX7_readCompared_28 : decode cX7_readCompared 28 = .ok (.invokevirtual 31, 3) := by decide +kernel
theorem dX7_readCompared_31 : decode cX7_readCompared 31 = .ok (.aload_n 0, 1) := by decide +kernel
theorem dX7_readCompared_32 : decode cX7_readCompared 32 = .ok (.iload_n 1, 1) := by decide +kernel
theorem dX7_readCompared_33 : decode cX7_readCompared 33 = .ok (.invokevirtual 63, 3) := by decide +kernel
theorem dX7_readCompared_36 : decode cX7_readCompared 36 = .ok (.istore_n 2, 1) := by decide +kernel
theorem dX7_readCompared_37 : decode cX7_readCompared 37 = .ok (.aload_n 0, 1) := by decide +kernel
theorem dX7_readCompared_38 : decode cX7_readCompared 38 = .ok (.getfield 19, 3) := by decide +kernel
theorem dX7_readCompared_41 : decode cX7_readCompared 41 = .ok (.iload_n 3, 1) := by decide +kernel
theorem dX7_readCompared_42 : decode cX7_readCompared 42 = .ok (.invokevirtual 54, 3) := by decide +kernel
theorem dX7_readCompared_45 : decode cX7_readCompared 45 = .ok (.iload_n 2, 1) := by decide +kernel
theorem dX7_readCompared_46 : decode cX7_readCompared 46 = .ok (.ireturn, 1) := by decide +kernel
set_option maxRecDepth 20000 in
theorem ggX7_readSum_X7_readTerm : GoodIn wsX7_readSum wsX7_readTerm := goodIn_r _ [193, 1, 2, 171, 172, 173, 6, 7, 8, 9, 10, 11, 12, 13, 14, 15, 16, 17, 18, 19, 20, 21, 22, 23, 24, 25, 26, 27, 28, 29, 30, 31, 32, 33, 34, 35, 36, 37, 38, 39, 40, 41, 42, 43, 44, 45, 46, 47, 48, 49, 50, 51, 52, 53, 54, 55, 56, 57, 58, 59, 60, 61, 62, 63, 64, 65, 66, 67, 68, 69, 70, 71, 72, 73, 74, 75, 76, 77, 78, 79, 80, 81, 82, 83, 84, 85, 86, 87, 88, 89, 90, 91, 92, 93, 94, 95, 96, 97, 98, 99, 100, 101, 102, 103, 104, 105, 106, 107, 108, 109, 110, 111, 112, 113, 114, 115, 116, 117, 118, 119, 120, 121, 122, 123, 124, 125, 126, 127, 128, 129, 130, 131, 132, 133, 134, 135, 136, 137, 138, 139, 140, 141, 142, 143, 144, 145, 146, 147, 148, 149, 150, 151, 152, 153, 154, 155, 156, 157, 158, 159, 160, 161, 162, 163, 164, 165, 166, 167, 168, 169, 170, 174, 175, 176, 177, 178, 179, 180, 181, 182, 183, 184, 185, 186, 187, 188, 189, 190, 191, 192, 0, 3, 4, 5, 194, 195, 196, 197, 198, 199, 200, 201, 202, 203, 204, 205] (by decide +kernel) (by decide +kernel)
set_option maxRecDepth 20000 in
theorem gX7_readSum_X7_readTerm : GoodIn wsX7_readSum (wsV RX7 66 RX7 yX7_readTerm wsX7_readTerm) := goodIn_app (goodIn_of _ (by decide +kernel)) ggX7_readSum_X7_readTerm
set_option maxRecDepth 20000 in
theorem ggX7_readSum_X7_next : GoodIn wsX7_readSum wsX7_next := goodIn_r _ [10, 11, 12, 13, 14, 1, 15, 16, 6, 17, 18, 19, 20, 21, 22, 23, 24, 25, 26, 27, 28, 29, 30, 31, 32, 33, 34, 35, 36, 37, 38, 39, 40, 41, 42, 43, 44, 45, 46, 47, 48, 49, 50, 51, 52, 53, 54, 55, 56, 57, 58, 59, 60, 61, 62, 63, 64, 65, 66, 67, 68, 69, 70, 71, 72, 73, 74, 75, 76, 77, 78, 79, 80, 81, 82, 83, 84, 85, 86, 87, 88, 89, 90, 91, 92, 93, 94, 95, 96, 97, 98, 99, 100, 101, 102, 103, 104, 105, 106, 107, 108, 109, 110, 111, 112, 113, 114, 115, 116, 117, 118, 119, 120, 121, 122, 123, 124, 125, 126, 127, 128, 129, 130, 131, 132, 133, 134, 135, 136, 137, 138, 139, 140, 141, 142, 194, 195, 196, 197, 198, 199, 200] (by decide +kernel) (by decide +kernel)
set_option maxRecDepth 20000 in
theorem gX7_readSum_X7_next : GoodIn wsX7_readSum (wsV RX7 31 RX7 yX7_next wsX7_next) := goodIn_app (goodIn_of _ (by decide +kernel)) ggX7_readSum_X7_next
set_option maxRecDepth 20000 in
theorem ggX7_readSum_X9_addSign : GoodIn wsX7_readSum wsX9_addSign := goodIn_r _ [147, 148, 149, 150, 146, 151, 152, 153, 201, 202, 203, 204, 205] (by decide +kernel) (by decide +kernel)
set_option maxRecDepth 20000 in
theorem gX7_readSum_X9_addSign : GoodIn wsX7_readSum (wsV RX7 54 RX9 yX9_addSign wsX9_addSign) := goodIn_app (goodIn_of _ (by decide +kernel)) ggX7_readSum_X9_addSign
theorem dX7_readSum_0 : decode cX7_readSum 0 = .ok (.aload_n 0, 1) := by decide +kernel
theorem dX7_readSum_1 : decode cX7_readSum 1 = .ok (.iload_n 1, 1) := by decide +kernel
theorem dX7_readSum_2 : decode cX7_readSum 2 = .ok (.invokevirtual 66, 3) := by decide +kernel
theorem dX7_readSum_5 : decode cX7_readSum 5 = .ok (.istore_n 2, 1) := by decide +kernel
theorem dX7_readSum_6 : decode cX7_readSum 6 = .ok (.iconst 0, 1) := by decide +kernel
theorem dX7_readSum_7 : decode cX7_readSum 7 = .ok (.istore_n 3, 1) := by decide +kernel
theorem dX7_readSum_8 : decode cX7_readSum 8 = .ok (.iload_n 3, 1) := by decide +kernel
theorem dX7_readSum_9 : decode cX7_readSum 9 = .ok (.sipush 160, 3) := by decide +kernel
theorem dX7_readSum_12 : decode cX7_readSum 12 = .ok (.if_icmp .ge 56, 3) := by decide +kernel
theorem dX7_readSum_15 : decode cX7_readSum 15 = .ok (.iload_n 2, 1) := by decide +kernel
theorem dX7_readSum_16 : decode cX7_readSum 16 = .ok (.ifCond .eq 52, 3) := by decide +kernel
theorem dX7_readSum_19 : decode cX7_readSum 19 = .ok (.aload_n 0, 1) := by decide +kernel
theorem dX7_readSum_20 : decode cX7_readSum 20 = .ok (.getfield 38, 3) := by decide +kernel
theorem dX7_readSum_23 : decode cX7_readSum 23 = .ok (.bipush 43, 2) := by decide +kernel
theorem dX7_readSum_25 : decode cX7_readSum 25 = .ok (.if_icmp .eq 12, 3) := by decide +kernel
theorem dX7_readSum_28 : decode cX7_readSum 28 = .ok (.aload_n 0, 1) := by decide +kernel
theorem dX7_readSum_29 : decode cX7_readSum 29 = .ok (.getfield 38, 3) := by decide +kernel
theorem dX7_readSum_32 : decode cX7_readSum 32 = .ok (.bipush 45, 2) := by decide +kernel
theorem dX7_readSum_34 : decode cX7_readSum 34 = .ok (.if_icmp .ne 34, 3) := by decide +kernel
theorem dX7_readSum_37 : decode cX7_readSum 37 = .ok (.aload_n 0, 1) := by decide +kernel
theorem dX7_readSum_38 : decode cX7_readSum 38 = .ok (.getfield 38, 3) := by decide +kernel
theorem dX7_readSum_41 : decode cX7_readSum 41 = .ok (.istore 4, 2) := by decide +kernel
theorem dX7_readSum_43 : decode cX7_readSum 43 = .ok (.aload_n 0, 1) := by decide +kernel
theorem dX7_readSum_44 : decode cX7_readSum 44 = .ok (.invokevirtual 31, 3) := by decide +kernel
theorem dX7_readSum_47 : decode cX7_readSum 47 = .ok (.aload_n 0, 1) := by decide +kernel
theorem dX7_readSum_48 : decode cX7_readSum 48 = .ok (.iload_n 1, 1) := by decide +kernel
theorem dX7_readSum_49 : decode cX7_readSum 49 = .ok (.invokevirtual 66, 3) := by decide +kernel
theorem dX7_readSum_52 : decode cX7_readSum 52 = .ok (.istore_n 2, 1) := by decide +kernel
theorem dX7_readSum_53 : decode cX7_readSum 53 = .ok (.aload_n 0, 1) := by decide +kernel
theorem dX7_readSum_54 : decode cX7_readSum 54 = .ok (.getfield 19, 3) := by decide +kernel
theorem dX7_readSum_57 : decode cX7_readSum 57 = .ok (.iload 4, 2) := by decide +kernel
theorem dX7_readSum_59 : decode cX7_readSum 59 = .ok (.invokevirtual 54, 3) := by decide +kernel
theorem dX7_readSum_62 : decode cX7_readSum 62 = .ok (.iinc 3 1, 3) := by decide +kernel
theorem dX7_readSum_65 : decode cX7_readSum 65 = .ok (.goto (-57), 3) := by decide +kernel
theorem dX7_readSum_68 : decode cX7_readSum 68 = .ok (.iload_n 2, 1) := by decide +kernel
theorem dX7_readSum_69 : decode cX7_readSum 69 = .ok (.ireturn, 1) := by decide +kernel
set_option maxRecDepth 20000 in
theorem ggX7_readTerm_X7_readOne : GoodIn wsX7_readTerm wsX7_readOne := goodIn_r _ [175, 1, 2, 22, 176, 177, 178, 146, 179, 148, 149, 150, 151, 152, 153, 7, 8, 9, 6, 10, 11, 12, 13, 14, 15, 16, 17, 18, 19, 20, 21, 23, 24, 25, 26, 27, 28, 29, 30, 31, 32, 33, 34, 35, 36, 37, 38, 39, 40, 41, 42, 43, 44, 45, 46, 47, 48, 49, 50, 51, 52, 53, 54, 55, 56, 57, 58, 59, 60, 61, 62, 63, 64, 65, 66, 67, 68, 69, 70, 71, 72, 73, 74, 75, 76, 77, 78, 79, 80, 81, 82, 83, 84, 85, 86, 87, 88, 89, 90, 91, 92, 93, 94, 95, 96, 97, 98, 99, 100, 101, 102, 103, 104, 105, 106, 107, 108, 109, 110, 111, 112, 113, 114, 115, 116, 117, 118, 119, 120, 121, 122, 123, 124, 125, 126, 127, 128, 129, 130, 131, 132, 133, 134, 135, 136, 137, 138, 139, 140, 141, 142, 180, 181, 182, 183, 184, 185, 186, 187, 188, 189, 154, 155, 156, 157, 143, 144, 145, 147, 158, 159, 160, 161, 162, 163, 164, 165, 166, 167, 168, 169, 170, 3, 4, 5, 171, 172, 173, 174, 190, 191, 192, 193, 0, 194, 195, 196, 197, 198, 199, 200, 201, 202, 203, 204, 205] (by decide +kernel) (by decide +kernel)
set_option maxRecDepth 20000 in
theorem gX7_readTerm_X7_readOne : GoodIn wsX7_readTerm (wsV RX7 69 RX7 yX7_readOne wsX7_readOne) := goodIn_app (goodIn_of _ (by decide +kernel)) ggX7_readTerm_X7_readOne
set_option maxRecDepth 20000 in
theorem ggX7_readTerm_X7_next : GoodIn wsX7_readTerm wsX7_next := goodIn_r _ [10, 11, 12, 13, 14, 1, 15, 16, 6, 17, 18, 19, 20, 21, 22, 23, 24, 25, 26, 27, 28, 29, 30, 31, 32, 33, 34, 35, 36, 37, 38, 39, 40, 41, 42, 43, 44, 45, 46, 47, 48, 49, 50, 51, 52, 53, 54, 55, 56, 57, 58, 59, 60, 61, 62, 63, 64, 65, 66, 67, 68, 69, 70, 71, 72, 73, 74, 75, 76, 77, 78, 79, 80, 81, 82, 83, 84, 85, 86, 87, 88, 89, 90, 91, 92, 93, 94, 95, 96, 97, 98, 99, 100, 101, 102, 103, 104, 105, 106, 107, 108, 109, 110, 111, 112, 113, 114, 115, 116, 117, 118, 119, 120, 121, 122, 123, 124, 125, 126, 127, 128, 129, 130, 131, 132, 133, 134, 135, 136, 137, 138, 139, 140, 141, 142, 194, 195, 196, 197, 198, 199, 200] (by decide +kernel) (by decide +kernel)
set_option maxRecDepth 20000 in
theorem gX7_readTerm_X7_next : GoodIn wsX7_readTerm (wsV RX7 31 RX7 yX7_next wsX7_next) := goodIn_app (goodIn_of _ (by decide +kernel)) ggX7_readTerm_X7_next
set_option maxRecDepth 20000 in
theorem ggX7_readTerm_X9_addSign : GoodIn wsX7_readTerm wsX9_addSign := goodIn_r _ [147, 148, 149, 150, 146, 151, 152, 153, 201, 202, 203, 204, 205] (by decide +kernel) (by decide +kernel)
set_option maxRecDepth 20000 in
theorem gX7_readTerm_X9_addSign : GoodIn wsX7_readTerm (wsV RX7 54 RX9 yX9_addSign wsX9_addSign) := goodIn_app (goodIn_of _ (by decide +kernel)) ggX7_readTerm_X9_addSign
theorem dX7_readTerm_0 : decode cX7_readTerm 0 = .ok (.aload_n 0, 1) := by decide +kernel
theorem dX7_readTerm_1 : decode cX7_readTerm 1 = .ok (.iload_n 1, 1) := by decide +kernel
theorem dX7_readTerm_2 : decode cX7_readTerm 2 = .ok (.invokevirtual 69, 3) := by decide +kernel
theorem dX7_readTerm_5 : decode cX7_readTerm 5 = .ok (.istore_n 2, 1) := by decide +kernel
theorem dX7_readTerm_6 : decode cX7_readTerm 6 = .ok (.iconst 0, 1) := by decide +kernel
theorem dX7_readTerm_7 : decode cX7_readTerm 7 = .ok (.istore_n 3, 1) := by decide +kernel
theorem dX7_readTerm_8 : decode cX7_readTerm 8 = .ok (.iload_n 3, 1) := by decide +kernel
theorem dX7_readTerm_9 : decode cX7_readTerm 9 = .ok (.sipush 160, 3) := by decide +kernel
theorem dX7_readTerm_12 : decode cX7_readTerm 12 = .ok (.if_icmp .ge 41, 3) := by decide +kernel
theorem dX7_readTerm_15 : decode cX7_readTerm 15 = .ok (.iload_n 2, 1) := by decide +kernel
theorem dX7_readTerm_16 : decode cX7_readTerm 16 = .ok (.ifCond .eq 37, 3) := by decide +kernel
theorem dX7_readTerm_19 : decode cX7_readTerm 19 = .ok (.aload_n 0, 1) := by decide +kernel
theorem dX7_readTerm_20 : decode cX7_readTerm 20 = .ok (.getfield 38, 3) := by decide +kernel
theorem dX7_readTerm_23 : decode cX7_readTerm 23 = .ok (.bipush 42, 2) := by decide +kernel
theorem dX7_readTerm_25 : decode cX7_readTerm 25 = .ok (.if_icmp .ne 28, 3) := by decide +kernel
theorem dX7_readTerm_28 : decode cX7_readTerm 28 = .ok (.aload_n 0, 1) := by decide +kernel
theorem dX7_readTerm_29 : decode cX7_readTerm 29 = .ok (.invokevirtual 31, 3) := by decide +kernel
theorem dX7_readTerm_32 : decode cX7_readTerm 32 = .ok (.aload_n 0, 1) := by decide +kernel
theorem dX7_readTerm_33 : decode cX7_readTerm 33 = .ok (.iload_n 1, 1) := by decide +kernel
theorem dX7_readTerm_34 : decode cX7_readTerm 34 = .ok (.invokevirtual 69, 3) := by decide +kernel
theorem dX7_readTerm_37 : decode cX7_readTerm 37 = .ok (.istore_n 2, 1) := by decide +kernel
theorem dX7_readTerm_38 : decode cX7_readTerm 38 = .ok (.aload_n 0, 1) := by decide +kernel
theorem dX7_readTerm_39 : decode cX7_readTerm 39 = .ok (.getfield 19, 3) := by decide +kernel
theorem dX7_readTerm_42 : decode cX7_readTerm 42 = .ok (.bipush 42, 2) := by decide +kernel
theorem dX7_readTerm_44 : decode cX7_readTerm 44 = .ok (.invokevirtual 54, 3) := by decide +kernel
theorem dX7_readTerm_47 : decode cX7_readTerm 47 = .ok (.iinc 3 1, 3) := by decide +kernel
theorem dX7_readTerm_50 : decode cX7_readTerm 50 = .ok (.goto (-42), 3) := by decide +kernel
theorem dX7_readTerm_53 : decode cX7_readTerm 53 = .ok (.iload_n 2, 1) := by decide +kernel
theorem dX7_readTerm_54 : decode cX7_readTerm 54 = .ok (.ireturn, 1) := by decide +kernel
set_option maxRecDepth 20000 in
theorem ggX7_readOne_X9_addNumber : GoodIn wsX7_readOne wsX9_addNumber := goodIn_r _ [8, 9, 10, 11, 7, 12, 13, 14, 201, 202, 203, 204, 205] (by decide +kernel) (by decide +kernel)
set_option maxRecDepth 20000 in
theorem gX7_readOne_X9_addNumber : GoodIn wsX7_readOne (wsV RX7 75 RX9 yX9_addNumber wsX9_addNumber) := goodIn_app (goodIn_of _ (by decide +kernel)) ggX7_readOne_X9_addNumber
set_option maxRecDepth 20000 in
theorem ggX7_readOne_X7_next : GoodIn wsX7_readOne wsX7_next := goodIn_r _ [19, 20, 21, 22, 23, 1, 24, 25, 18, 26, 27, 28, 29, 30, 3, 31, 32, 33, 34, 35, 36, 37, 38, 39, 40, 41, 42, 43, 44, 45, 46, 47, 48, 49, 50, 51, 52, 53, 54, 55, 56, 57, 58, 59, 60, 61, 62, 63, 64, 65, 66, 67, 68, 69, 70, 71, 72, 73, 74, 75, 76, 77, 78, 79, 80, 81, 82, 83, 84, 85, 86, 87, 88, 89, 90, 91, 92, 93, 94, 95, 96, 97, 98, 99, 100, 101, 102, 103, 104, 105, 106, 107, 108, 109, 110, 111, 112, 113, 114, 115, 116, 117, 118, 119, 120, 121, 122, 123, 124, 125, 126, 127, 128, 129, 130, 131, 132, 133, 134, 135, 136, 137, 138, 139, 140, 141, 142, 143, 144, 145, 146, 147, 148, 149, 150, 194, 195, 196, 197, 198, 199, 200] (by decide +kernel) (by decide +kernel)
set_option maxRecDepth 20000 in
theorem gX7_readOne_X7_next : GoodIn wsX7_readOne (wsV RX7 31 RX7 yX7_next wsX7_next) := goodIn_app (goodIn_of _ (by decide +kernel)) ggX7_readOne_X7_next
set_option maxRecDepth 20000 in
theorem ggX7_readOne_X9_addName : GoodIn wsX7_readOne wsX9_addName := goodIn_r _ [154, 9, 10, 11, 7, 12, 13, 14, 201, 202, 203, 204, 205] (by decide +kernel) (by decide +kernel)
set_option maxRecDepth 20000 in
theorem gX7_readOne_X9_addName : GoodIn wsX7_readOne (wsV RX7 78 RX9 yX9_addName wsX9_addName) := goodIn_app (goodIn_of _ (by decide +kernel)) ggX7_readOne_X9_addName
set_option maxRecDepth 20000 in
theorem ggX7_readOne_X7_readNegated : GoodIn wsX7_readOne wsX7_readNegated := goodIn_r _ [181, 2, 15, 16, 17, 18, 19, 20, 21, 22, 23, 1, 24, 25, 26, 27, 28, 29, 30, 3, 31, 32, 33, 34, 35, 36, 37, 38, 39, 40, 41, 42, 43, 44, 45, 46, 47, 48, 49, 50, 51, 52, 53, 54, 55, 56, 57, 58, 59, 60, 61, 62, 63, 64, 65, 66, 67, 68, 69, 70, 71, 72, 73, 74, 75, 76, 77, 78, 79, 80, 81, 82, 83, 84, 85, 86, 87, 88, 89, 90, 91, 92, 93, 94, 95, 96, 97, 98, 99, 100, 101, 102, 103, 104, 105, 106, 107, 108, 109, 110, 111, 112, 113, 114, 115, 116, 117, 118, 119, 120, 121, 122, 123, 124, 125, 126, 127, 128, 129, 130, 131, 132, 133, 134, 135, 136, 137, 138, 139, 140, 141, 142, 143, 144, 145, 146, 147, 148, 149, 150, 182, 183, 184, 165, 166, 167, 7, 168, 9, 10, 11, 12, 13, 14, 161, 162, 163, 164, 169, 170, 171, 172, 173, 174, 175, 176, 177, 178, 179, 180, 185, 186, 187, 188, 0, 4, 5, 6, 8, 151, 152, 153, 154, 155, 156, 157, 158, 159, 160, 189, 190, 191, 192, 193, 194, 195, 196, 197, 198, 199, 200, 201, 202, 203, 204, 205] (by decide +kernel) (by decide +kernel)
set_option maxRecDepth 20000 in
theorem gX7_readOne_X7_readNegated : GoodIn wsX7_readOne (wsV RX7 81 RX7 yX7_readNegated wsX7_readNegated) := goodIn_app (goodIn_of _ (by decide +kernel)) ggX7_readOne_X7_readNegated
set_option maxRecDepth 20000 in
theorem ggX7_readOne_X7_readBracketed : GoodIn wsX7_readOne wsX7_readBracketed := goodIn_r _ [169, 1, 15, 16, 17, 18, 19, 20, 21, 22, 23, 24, 25, 26, 27, 28, 29, 30, 3, 31, 32, 33, 34, 35, 36, 37, 38, 39, 40, 41, 42, 43, 44, 45, 46, 47, 48, 49, 50, 51, 52, 53, 54, 55, 56, 57, 58, 59, 60, 61, 62, 63, 64, 65, 66, 67, 68, 69, 70, 71, 72, 73, 74, 75, 76, 77, 78, 79, 80, 81, 82, 83, 84, 85, 86, 87, 88, 89, 90, 91, 92, 93, 94, 95, 96, 97, 98, 99, 100, 101, 102, 103, 104, 105, 106, 107, 108, 109, 110, 111, 112, 113, 114, 115, 116, 117, 118, 119, 120, 121, 122, 123, 124, 125, 126, 127, 128, 129, 130, 131, 132, 133, 134, 135, 136, 137, 138, 139, 140, 141, 142, 143, 144, 145, 146, 147, 148, 149, 150, 170, 171, 172, 161, 2, 162, 163, 164, 165, 166, 167, 7, 168, 9, 10, 11, 12, 13, 14, 173, 174, 175, 176, 177, 178, 179, 180, 181, 182, 183, 184, 185, 186, 187, 188, 0, 4, 5, 6, 8, 151, 152, 153, 154, 155, 156, 157, 158, 159, 160, 189, 190, 191, 192, 193, 194, 195, 196, 197, 198, 199, 200, 201, 202, 203, 204, 205] (by decide +kernel) (by decide +kernel)
set_option maxRecDepth 20000 in
theorem gX7_readOne_X7_readBracketed : GoodIn wsX7_readOne (wsV RX7 84 RX7 yX7_readBracketed wsX7_readBracketed) := goodIn_app (goodIn_of _ (by decide +kernel)) ggX7_readOne_X7_readBracketed
theorem dX7_readOne_0 : decode cX7_readOne 0 = .ok (.aload_n 0, 1) := by decide +kernel
theorem dX7_readOne_1 : decode cX7_readOne 1 = .ok (.getfield 38, 3) := by decide +kernel
theorem dX7_readOne_4 : decode cX7_readOne 4 = .ok (.lookupswitch 120 #[(2, 44), (3, 61), (40, 99), (45, 78)], 44) := by decide +kernel
theorem dX7_readOne_48 : decode cX7_readOne 48 = .ok (.aload_n 0, 1) := by decide +kernel
theorem dX7_readOne_49 : decode cX7_readOne 49 = .ok (.getfield 19, 3) := by decide +kernel
theorem dX7_readOne_52 : decode cX7_readOne 52 = .ok (.aload_n 0, 1) := by decide +kernel
theorem dX7_readOne_53 : decode cX7_readOne 53 = .ok (.getfield 72, 3) := by decide +kernel
theorem dX7_readOne_56 : decode cX7_readOne 56 = .ok (.invokevirtual 75, 3) := by decide +kernel
theorem dX7_readOne_59 : decode cX7_readOne 59 = .ok (.aload_n 0, 1) := by decide +kernel
theorem dX7_readOne_60 : decode cX7_readOne 60 = .ok (.invokevirtual 31, 3) := by decide +kernel
theorem dX7_readOne_63 : decode cX7_readOne 63 = .ok (.iconst 1, 1) := by decide +kernel
theorem dX7_readOne_64 : decode cX7_readOne 64 = .ok (.ireturn, 1) := by decide +kernel
theorem dX7_readOne_65 : decode cX7_readOne 65 = .ok (.aload_n 0, 1) := by decide +kernel
theorem dX7_readOne_66 : decode cX7_readOne 66 = .ok (.getfield 19, 3) := by decide +kernel
theorem dX7_readOne_69 : decode cX7_readOne 69 = .ok (.aload_n 0, 1) := by decide +kernel
theorem dX7_readOne_70 : decode cX7_readOne 70 = .ok (.getfield 72, 3) := by decide +kernel
theorem dX7_readOne_73 : decode cX7_readOne 73 = .ok (.invokevirtual 78, 3) := by decide +kernel
theorem dX7_readOne_76 : decode cX7_readOne 76 = .ok (.aload_n 0, 1) := by decide +kernel
theorem dX7_readOne_77 : decode cX7_readOne 77 = .ok (.invokevirtual 31, 3) := by decide +kernel
theorem dX7_readOne_80 : decode cX7_readOne 80 = .ok (.iconst 1, 1) := by decide +kernel
theorem dX7_readOne_81 : decode cX7_readOne 81 = .ok (.ireturn, 1) := by decide +kernel
theorem dX7_readOne_82 : decode cX7_readOne 82 = .ok (.iload_n 1, 1) := by decide +kernel
theorem dX7_readOne_83 : decode cX7_readOne 83 = .ok (.iconst 5, 1) := by decide +kernel
theorem dX7_readOne_84 : decode cX7_readOne 84 = .ok (.if_icmp .ge 17, 3) := by decide +kernel
theorem dX7_readOne_87 : decode cX7_readOne 87 = .ok (.aload_n 0, 1) := by decide +kernel
theorem dX7_readOne_88 : decode cX7_readOne 88 = .ok (.iload_n 1, 1) := by decide +kernel
theorem dX7_readOne_89 : decode cX7_readOne 89 = .ok (.iconst 1, 1) := by decide +kernel
theorem dX7_readOne_90 : decode cX7_readOne 90 = .ok (.iadd, 1) := by decide +kernel
theorem dX7_readOne_91 : decode cX7_readOne 91 = .ok (.invokevirtual 81, 3) := by decide +kernel
theorem dX7_readOne_94 : decode cX7_readOne 94 = .ok (.ifCond .eq 7, 3) := by decide +kernel
theorem dX7_readOne_97 : decode cX7_readOne 97 = .ok (.iconst 1, 1) := by decide +kernel
theorem dX7_readOne_98 : decode cX7_readOne 98 = .ok (.goto 4, 3) := by decide +kernel
theorem dX7_readOne_101 : decode cX7_readOne 101 = .ok (.iconst 0, 1) := by decide +kernel
theorem dX7_readOne_102 : decode cX7_readOne 102 = .ok (.ireturn, 1) := by decide +kernel
theorem dX7_readOne_103 : decode cX7_readOne 103 = .ok (.iload_n 1, 1) := by decide +kernel
theorem dX7_readOne_104 : decode cX7_readOne 104 = .ok (.iconst 5, 1) := by decide +kernel
theorem dX7_readOne_105 : decode cX7_readOne 105 = .ok (.if_icmp .ge 17, 3) := by decide +kernel
theorem dX7_readOne_108 : decode cX7_readOne 108 = .ok (.aload_n 0, 1) := by decide +kernel
theorem dX7_readOne_109 : decode cX7_readOne 109 = .ok (.iload_n 1, 1) := by decide +kernel
theorem dX7_readOne_110 : decode cX7_readOne 110 = .ok (.iconst 1, 1) := by decide +kernel
theorem dX7_readOne_111 : decode cX7_readOne 111 = .ok (.iadd, 1) := by decide +kernel
theorem dX7_readOne_112 : decode cX7_readOne 112 = .ok (.invokevirtual 84, 3) := by decide +kernel
theorem dX7_readOne_115 : decode cX7_readOne 115 = .ok (.ifCond .eq 7, 3) := by decide +kernel
theorem dX7_readOne_118 : decode cX7_readOne 118 = .ok (.iconst 1, 1) := by decide +kernel
theorem dX7_readOne_119 : decode cX7_readOne 119 = .ok (.goto 4, 3) := by decide +kernel
theorem dX7_readOne_122 : decode cX7_readOne 122 = .ok (.iconst 0, 1) := by decide +kernel
theorem dX7_readOne_123 : decode cX7_readOne 123 = .ok (.ireturn, 1) := by decide +kernel
theorem dX7_readOne_124 : decode cX7_readOne 124 = .ok (.iconst 0, 1) := by decide +kernel
theorem dX7_readOne_125 : decode cX7_readOne 125 = .ok (.ireturn, 1) := by decide +kernel
set_option maxRecDepth 20000 in
theorem ggX7_readNegated_X7_next : GoodIn wsX7_readNegated wsX7_next := goodIn_r _ [6, 7, 8, 9, 10, 11, 12, 13, 5, 14, 15, 16, 17, 18, 19, 20, 21, 22, 23, 24, 25, 26, 27, 28, 29, 30, 31, 32, 33, 34, 35, 36, 37, 38, 39, 40, 41, 42, 43, 44, 45, 46, 47, 48, 49, 50, 51, 52, 53, 54, 55, 56, 57, 58, 59, 60, 61, 62, 63, 64, 65, 66, 67, 68, 69, 70, 71, 72, 73, 74, 75, 76, 77, 78, 79, 80, 81, 82, 83, 84, 85, 86, 87, 88, 89, 90, 91, 92, 93, 94, 95, 96, 97, 98, 99, 100, 101, 102, 103, 104, 105, 106, 107, 108, 109, 110, 111, 112, 113, 114, 115, 116, 117, 118, 119, 120, 121, 122, 123, 124, 125, 126, 127, 128, 129, 130, 131, 132, 133, 134, 135, 136, 137, 138, 139, 194, 195, 196, 197, 198, 199, 200] (by decide +kernel) (by decide +kernel)
set_option maxRecDepth 20000 in
theorem gX7_readNegated_X7_next : GoodIn wsX7_readNegated (wsV RX7 31 RX7 yX7_next wsX7_next) := goodIn_app (goodIn_of _ (by decide +kernel)) ggX7_readNegated_X7_next
set_option maxRecDepth 20000 in
theorem ggX7_readNegated_X7_readOne : GoodIn wsX7_readNegated wsX7_readOne := goodIn_r _ [174, 11, 1, 19, 175, 176, 177, 146, 178, 148, 149, 150, 151, 152, 153, 2, 3, 4, 5, 6, 7, 8, 9, 10, 12, 13, 14, 15, 16, 17, 18, 20, 21, 22, 23, 24, 25, 26, 27, 28, 29, 30, 31, 32, 33, 34, 35, 36, 37, 38, 39, 40, 41, 42, 43, 44, 45, 46, 47, 48, 49, 50, 51, 52, 53, 54, 55, 56, 57, 58, 59, 60, 61, 62, 63, 64, 65, 66, 67, 68, 69, 70, 71, 72, 73, 74, 75, 76, 77, 78, 79, 80, 81, 82, 83, 84, 85, 86, 87, 88, 89, 90, 91, 92, 93, 94, 95, 96, 97, 98, 99, 100, 101, 102, 103, 104, 105, 106, 107, 108, 109, 110, 111, 112, 113, 114, 115, 116, 117, 118, 119, 120, 121, 122, 123, 124, 125, 126, 127, 128, 129, 130, 131, 132, 133, 134, 135, 136, 137, 138, 139, 179, 180, 181, 182, 183, 184, 185, 186, 187, 188, 154, 155, 156, 157, 143, 144, 145, 147, 158, 159, 160, 161, 162, 163, 164, 165, 166, 167, 168, 169, 0, 140, 141, 142, 170, 171, 172, 173, 189, 190, 191, 192, 193, 194, 195, 196, 197, 198, 199, 200, 201, 202, 203, 204, 205] (by decide +kernel) (by decide +kernel)
set_option maxRecDepth 20000 in
theorem gX7_readNegated_X7_readOne : GoodIn wsX7_readNegated (wsV RX7 69 RX7 yX7_readOne wsX7_readOne) := goodIn_app (goodIn_of _ (by decide +kernel)) ggX7_readNegated_X7_readOne
set_option maxRecDepth 20000 in
theorem ggX7_readNegated_X9_addSign : GoodIn wsX7_readNegated wsX9_addSign := goodIn_r _ [147, 148, 149, 150, 146, 151, 152, 153, 201, 202, 203, 204, 205] (by decide +kernel) (by decide +kernel)
set_option maxRecDepth 20000 in
theorem gX7_readNegated_X9_addSign : GoodIn wsX7_readNegated (wsV RX7 54 RX9 yX9_addSign wsX9_addSign) := goodIn_app (goodIn_of _ (by decide +kernel)) ggX7_readNegated_X9_addSign
theorem dX7_readNegated_0 : decode cX7_readNegated 0 = .ok (.aload_n 0, 1) := by decide +kernel
theorem dX7_readNegated_1 : decode cX7_readNegated 1 = .ok (.invokevirtual 31, 3) := by decide +kernel
theorem dX7_readNegated_4 : decode cX7_readNegated 4 = .ok (.aload_n 0, 1) := by decide +kernel
theorem dX7_readNegated_5 : decode cX7_readNegated 5 = .ok (.iload_n 1, 1) := by decide +kernel
theorem dX7_readNegated_6 : decode cX7_readNegated 6 = .ok (.invokevirtual 69, 3) := by decide +kernel
theorem dX7_readNegated_9 : decode cX7_readNegated 9 = .ok (.istore_n 2, 1) := by decide +kernel
theorem dX7_readNegated_10 : decode cX7_readNegated 10 = .ok (.aload_n 0, 1) := by decide +kernel
theorem dX7_readNegated_11 : decode cX7_readNegated 11 = .ok (.getfield 19, 3) := by decide +kernel
theorem dX7_readNegated_14 : decode cX7_readNegated 14 = .ok (.bipush 126, 2) := by decide +kernel
theorem dX7_readNegated_16 : decode cX7_readNegated 16 = .ok (.invokevirtual 54, 3) := by decide +kernel
theorem dX7_readNegated_19 : decode cX7_readNegated 19 = .ok (.iload_n 2, 1) := by decide +kernel
theorem dX7_readNegated_20 : decode cX7_readNegated 20 = .ok (.ireturn, 1) := by decide +kernel
set_option maxRecDepth 20000 in
theorem ggX7_readBracketed_X7_next : GoodIn wsX7_readBracketed wsX7_next := goodIn_r _ [6, 7, 8, 9, 10, 1, 11, 12, 5, 13, 14, 15, 16, 17, 18, 19, 20, 21, 22, 23, 24, 25, 26, 27, 28, 29, 30, 31, 32, 33, 34, 35, 36, 37, 38, 39, 40, 41, 42, 43, 44, 45, 46, 47, 48, 49, 50, 51, 52, 53, 54, 55, 56, 57, 58, 59, 60, 61, 62, 63, 64, 65, 66, 67, 68, 69, 70, 71, 72, 73, 74, 75, 76, 77, 78, 79, 80, 81, 82, 83, 84, 85, 86, 87, 88, 89, 90, 91, 92, 93, 94, 95, 96, 97, 98, 99, 100, 101, 102, 103, 104, 105, 106, 107, 108, 109, 110, 111, 112, 113, 114, 115, 116, 117, 118, 119, 120, 121, 122, 123, 124, 125, 126, 127, 128, 129, 130, 131, 132, 133, 134, 135, 136, 137, 138, 194, 195, 196, 197, 198, 199, 200] (by decide +kernel) (by decide +kernel)
set_option maxRecDepth 20000 in
theorem gX7_readBracketed_X7_next : GoodIn wsX7_readBracketed (wsV RX7 31 RX7 yX7_next wsX7_next) := goodIn_app (goodIn_of _ (by decide +kernel)) ggX7_readBracketed_X7_next
set_option maxRecDepth 20000 in
theorem ggX7_readBracketed_X7_readEither : GoodIn wsX7_readBracketed wsX7_readEither := goodIn_r _ [162, 1, 143, 163, 164, 165, 5, 2, 3, 4, 6, 7, 8, 9, 10, 11, 12, 13, 14, 15, 16, 17, 18, 19, 20, 21, 22, 23, 24, 25, 26, 27, 28, 29, 30, 31, 32, 33, 34, 35, 36, 37, 38, 39, 40, 41, 42, 43, 44, 45, 46, 47, 48, 49, 50, 51, 52, 53, 54, 55, 56, 57, 58, 59, 60, 61, 62, 63, 64, 65, 66, 67, 68, 69, 70, 71, 72, 73, 74, 75, 76, 77, 78, 79, 80, 81, 82, 83, 84, 85, 86, 87, 88, 89, 90, 91, 92, 93, 94, 95, 96, 97, 98, 99, 100, 101, 102, 103, 104, 105, 106, 107, 108, 109, 110, 111, 112, 113, 114, 115, 116, 117, 118, 119, 120, 121, 122, 123, 124, 125, 126, 127, 128, 129, 130, 131, 132, 133, 134, 135, 136, 137, 138, 147, 148, 149, 150, 151, 152, 153, 154, 155, 156, 157, 142, 144, 145, 146, 0, 139, 140, 141, 158, 159, 160, 161, 166, 167, 168, 169, 170, 171, 172, 173, 174, 175, 176, 177, 178, 179, 180, 181, 182, 183, 184, 185, 186, 187, 188, 189, 190, 191, 192, 193, 194, 195, 196, 197, 198, 199, 200, 201, 202, 203, 204, 205] (by decide +kernel) (by decide +kernel)
set_option maxRecDepth 20000 in
theorem gX7_readBracketed_X7_readEither : GoodIn wsX7_readBracketed (wsV RX7 44 RX7 yX7_readEither wsX7_readEither) := goodIn_app (goodIn_of _ (by decide +kernel)) ggX7_readBracketed_X7_readEither
theorem dX7_readBracketed_0 : decode cX7_readBracketed 0 = .ok (.aload_n 0, 1) := by decide +kernel
theorem dX7_readBracketed_1 : decode cX7_readBracketed 1 = .ok (.invokevirtual 31, 3) := by decide +kernel
theorem dX7_readBracketed_4 : decode cX7_readBracketed 4 = .ok (.aload_n 0, 1) := by decide +kernel
theorem dX7_readBracketed_5 : decode cX7_readBracketed 5 = .ok (.iload_n 1, 1) := by decide +kernel
theorem dX7_readBracketed_6 : decode cX7_readBracketed 6 = .ok (.invokevirtual 44, 3) := by decide +kernel
theorem dX7_readBracketed_9 : decode cX7_readBracketed 9 = .ok (.ifCond .eq 12, 3) := by decide +kernel
theorem dX7_readBracketed_12 : decode cX7_readBracketed 12 = .ok (.aload_n 0, 1) := by decide +kernel
theorem dX7_readBracketed_13 : decode cX7_readBracketed 13 = .ok (.getfield 38, 3) := by decide +kernel
theorem dX7_readBracketed_16 : decode cX7_readBracketed 16 = .ok (.bipush 41, 2) := by decide +kernel
theorem dX7_readBracketed_18 : decode cX7_readBracketed 18 = .ok (.if_icmp .eq 5, 3) := by decide +kernel
theorem dX7_readBracketed_21 : decode cX7_readBracketed 21 = .ok (.iconst 0, 1) := by decide +kernel
theorem dX7_readBracketed_22 : decode cX7_readBracketed 22 = .ok (.ireturn, 1) := by decide +kernel
theorem dX7_readBracketed_23 : decode cX7_readBracketed 23 = .ok (.aload_n 0, 1) := by decide +kernel
theorem dX7_readBracketed_24 : decode cX7_readBracketed 24 = .ok (.invokevirtual 31, 3) := by decide +kernel
theorem dX7_readBracketed_27 : decode cX7_readBracketed 27 = .ok (.iconst 1, 1) := by decide +kernel
theorem dX7_readBracketed_28 : decode cX7_readBracketed 28 = .ok (.ireturn, 1) := by decide +kernel
set_option maxRecDepth 20000 in
theorem ggX7_next_X7_isDigit : GoodIn wsX7_next wsX7_isDigit := goodIn_r _ [9] (by decide +kernel) (by decide +kernel)
set_option maxRecDepth 20000 in
theorem gX7_next_X7_isDigit : GoodIn wsX7_next (va_wsS RX7 87 yX7_isDigit wsX7_isDigit) := goodIn_app (goodIn_of _ (by decide +kernel)) ggX7_next_X7_isDigit
set_option maxRecDepth 20000 in
theorem ggX7_next_X7_nextNumber : GoodIn wsX7_next wsX7_nextNumber := goodIn_r _ [13, 14, 1, 2, 3, 4, 5, 6, 7, 8, 9, 135, 136, 137, 138, 139, 140, 141] (by decide +kernel) (by decide +kernel)
set_option maxRecDepth 20000 in
theorem gX7_next_X7_nextNumber : GoodIn wsX7_next (wsV RX7 90 RX7 yX7_nextNumber wsX7_nextNumber) := goodIn_app (goodIn_of _ (by decide +kernel)) ggX7_next_X7_nextNumber
set_option maxRecDepth 20000 in
theorem ggX7_next_X7_isLetter : GoodIn wsX7_next wsX7_isLetter := goodIn_r _ [17] (by decide +kernel) (by decide +kernel)
set_option maxRecDepth 20000 in
theorem gX7_next_X7_isLetter : GoodIn wsX7_next (va_wsS RX7 93 yX7_isLetter wsX7_isLetter) := goodIn_app (goodIn_of _ (by decide +kernel)) ggX7_next_X7_isLetter
set_option maxRecDepth 20000 in
theorem ggX7_next_X7_nextWord : GoodIn wsX7_next wsX7_nextWord := goodIn_r _ [21, 1, 2, 3, 5, 14, 15, 16, 8, 17, 22, 23, 24, 25, 4, 26, 27, 28, 29, 30, 31, 32, 33, 34, 35, 36, 37, 38, 39, 40, 41, 42, 43, 44, 45, 46, 47, 48, 49, 50, 51, 52, 53, 54, 55, 56, 57, 58, 59, 60, 61, 62, 63, 64, 65, 66, 135, 136, 137, 138, 139, 140, 141] (by decide +kernel) (by decide +kernel)
set_option maxRecDepth 20000 in
theorem gX7_next_X7_nextWord : GoodIn wsX7_next (wsV RX7 96 RX7 yX7_nextWord wsX7_nextWord) := goodIn_app (goodIn_of _ (by decide +kernel)) ggX7_next_X7_nextWord
set_option maxRecDepth 20000 in
theorem ggX7_next_J0_indexOf_0f7a4 : GoodIn wsX7_next wsJ0_indexOf_0f7a4 := goodIn_r _ [70, 71, 72, 73, 29, 74, 31, 32, 33, 34, 35, 36, 37, 75, 76, 77, 78, 79, 80, 81, 82, 83, 84, 40, 85, 86, 87, 88, 89, 90, 91, 92, 93, 94, 95, 96, 97, 98, 99, 100, 52, 101, 102, 103, 104, 105, 106, 107, 108, 109, 110, 57, 58, 59, 111, 112, 113, 45, 114, 115, 48, 116, 117, 118, 119, 61, 62, 63, 64, 65, 66, 120, 121, 122, 123, 124, 125, 126, 127, 128, 129, 130, 131, 132, 133, 134] (by decide +kernel) (by decide +kernel)
set_option maxRecDepth 20000 in
theorem gX7_next_J0_indexOf_0f7a4 : GoodIn wsX7_next (wsV RX7 101 RJ0 yJ0_indexOf_0f7a4 wsJ0_indexOf_0f7a4) := goodIn_app (goodIn_of _ (by decide +kernel)) ggX7_next_J0_indexOf_0f7a4
theorem dX7_next_0 : decode cX7_next 0 = .ok (.aload_n 0, 1) := by decide +kernel
theorem dX7_next_1 : decode cX7_next 1 = .ok (.getfield 28, 3) := by decide +kernel
theorem dX7_next_4 : decode cX7_next 4 = .ok (.aload_n 0, 1) := by decide +kernel
theorem dX7_next_5 : decode cX7_next 5 = .ok (.getfield 15, 3) := by decide +kernel
theorem dX7_next_8 : decode cX7_next 8 = .ok (.if_icmp .ge 44, 3) := by decide +kernel
theorem dX7_next_11 : decode cX7_next 11 = .ok (.aload_n 0, 1) := by decide +kernel
theorem dX7_next_12 : decode cX7_next 12 = .ok (.getfield 11, 3) := by decide +kernel
theorem dX7_next_15 : decode cX7_next 15 = .ok (.aload_n 0, 1) := by decide +kernel
theorem dX7_next_16 : decode cX7_next 16 = .ok (.getfield 28, 3) := by decide +kernel
theorem dX7_next_19 : decode cX7_next 19 = .ok (.iaload, 1) := by decide +kernel
theorem dX7_next_20 : decode cX7_next 20 = .ok (.bipush 32, 2) := by decide +kernel
theorem dX7_next_22 : decode cX7_next 22 = .ok (.if_icmp .eq 17, 3) := by decide +kernel
theorem dX7_next_25 : decode cX7_next 25 = .ok (.aload_n 0, 1) := by decide +kernel
theorem dX7_next_26 : decode cX7_next 26 = .ok (.getfield 11, 3) := by decide +kernel
theorem dX7_next_29 : decode cX7_next 29 = .ok (.aload_n 0, 1) := by decide +kernel
theorem dX7_next_30 : decode cX7_next 30 = .ok (.getfield 28, 3) := by decide +kernel
theorem dX7_next_33 : decode cX7_next 33 = .ok (.iaload, 1) := by decide +kernel
theorem dX7_next_34 : decode cX7_next 34 = .ok (.bipush 10, 2) := by decide +kernel
theorem dX7_next_36 : decode cX7_next 36 = .ok (.if_icmp .ne 16, 3) := by decide +kernel
theorem dX7_next_39 : decode cX7_next 39 = .ok (.aload_n 0, 1) := by decide +kernel
theorem dX7_next_40 : decode cX7_next 40 = .ok (.dup, 1) := by decide +kernel
theorem dX7_next_41 : decode cX7_next 41 = .ok (.getfield 28, 3) := by decide +kernel
theorem dX7_next_44 : decode cX7_next 44 = .ok (.iconst 1, 1) := by decide +kernel
theorem dX7_next_45 : decode cX7_next 45 = .ok (.iadd, 1) := by decide +kernel
theorem dX7_next_46 : decode cX7_next 46 = .ok (.putfield 28, 3) := by decide +kernel
theorem dX7_next_49 : decode cX7_next 49 = .ok (.goto (-49), 3) := by decide +kernel
theorem dX7_next_52 : decode cX7_next 52 = .ok (.aload_n 0, 1) := by decide +kernel
theorem dX7_next_53 : decode cX7_next 53 = .ok (.aload_n 0, 1) := by decide +kernel
theorem dX7_next_54 : decode cX7_next 54 = .ok (.getfield 28, 3) := by decide +kernel
theorem dX7_next_57 : decode cX7_next 57 = .ok (.putfield 41, 3) := by decide +kernel
theorem dX7_next_60 : decode cX7_next 60 = .ok (.aload_n 0, 1) := by decide +kernel
theorem dX7_next_61 : decode cX7_next 61 = .ok (.getfield 28, 3) := by decide +kernel
theorem dX7_next_64 : decode cX7_next 64 = .ok (.aload_n 0, 1) := by decide +kernel
theorem dX7_next_65 : decode cX7_next 65 = .ok (.getfield 15, 3) := by decide +kernel
theorem dX7_next_68 : decode cX7_next 68 = .ok (.if_icmp .lt 11, 3) := by decide +kernel
theorem dX7_next_71 : decode cX7_next 71 = .ok (.aload_n 0, 1) := by decide +kernel
theorem dX7_next_72 : decode cX7_next 72 = .ok (.iconst 0, 1) := by decide +kernel
theorem dX7_next_73 : decode cX7_next 73 = .ok (.putfield 38, 3) := by decide +kernel
theorem dX7_next_76 : decode cX7_next 76 = .ok (.goto 92, 3) := by decide +kernel
theorem dX7_next_79 : decode cX7_next 79 = .ok (.aload_n 0, 1) := by decide +kernel
theorem dX7_next_80 : decode cX7_next 80 = .ok (.getfield 11, 3) := by decide +kernel
theorem dX7_next_83 : decode cX7_next 83 = .ok (.aload_n 0, 1) := by decide +kernel
theorem dX7_next_84 : decode cX7_next 84 = .ok (.getfield 28, 3) := by decide +kernel
theorem dX7_next_87 : decode cX7_next 87 = .ok (.iaload, 1) := by decide +kernel
theorem dX7_next_88 : decode cX7_next 88 = .ok (.invokestatic 87, 3) := by decide +kernel
theorem dX7_next_91 : decode cX7_next 91 = .ok (.ifCond .eq 10, 3) := by decide +kernel
theorem dX7_next_94 : decode cX7_next 94 = .ok (.aload_n 0, 1) := by decide +kernel
theorem dX7_next_95 : decode cX7_next 95 = .ok (.invokevirtual 90, 3) := by decide +kernel
theorem dX7_next_98 : decode cX7_next 98 = .ok (.goto 70, 3) := by decide +kernel
theorem dX7_next_101 : decode cX7_next 101 = .ok (.aload_n 0, 1) := by decide +kernel
theorem dX7_next_102 : decode cX7_next 102 = .ok (.getfield 11, 3) := by decide +kernel
theorem dX7_next_105 : decode cX7_next 105 = .ok (.aload_n 0, 1) := by decide +kernel
theorem dX7_next_106 : decode cX7_next 106 = .ok (.getfield 28, 3) := by decide +kernel
theorem dX7_next_109 : decode cX7_next 109 = .ok (.iaload, 1) := by decide +kernel
theorem dX7_next_110 : decode cX7_next 110 = .ok (.invokestatic 93, 3) := by decide +kernel
theorem dX7_next_113 : decode cX7_next 113 = .ok (.ifCond .eq 10, 3) := by decide +kernel
theorem dX7_next_116 : decode cX7_next 116 = .ok (.aload_n 0, 1) := by decide +kernel
theorem dX7_next_117 : decode cX7_next 117 = .ok (.invokevirtual 96, 3) := by decide +kernel
theorem dX7_next_120 : decode cX7_next 120 = .ok (.goto 48, 3) := by decide +kernel
theorem dX7_next_123 : decode cX7_next 123 = .ok (.aload_n 0, 1) := by decide +kernel
theorem dX7_next_124 : decode cX7_next 124 = .ok (.ldc 99, 2) := by decide +kernel
theorem dX7_next_126 : decode cX7_next 126 = .ok (.aload_n 0, 1) := by decide +kernel
theorem dX7_next_127 : decode cX7_next 127 = .ok (.getfield 11, 3) := by decide +kernel
theorem dX7_next_130 : decode cX7_next 130 = .ok (.aload_n 0, 1) := by decide +kernel
theorem dX7_next_131 : decode cX7_next 131 = .ok (.getfield 28, 3) := by decide +kernel
theorem dX7_next_134 : decode cX7_next 134 = .ok (.iaload, 1) := by decide +kernel
theorem dX7_next_135 : decode cX7_next 135 = .ok (.i2c, 1) := by decide +kernel
theorem dX7_next_136 : decode cX7_next 136 = .ok (.invokevirtual 101, 3) := by decide +kernel
theorem dX7_next_139 : decode cX7_next 139 = .ok (.ifCond .lt 15, 3) := by decide +kernel
theorem dX7_next_142 : decode cX7_next 142 = .ok (.aload_n 0, 1) := by decide +kernel
theorem dX7_next_143 : decode cX7_next 143 = .ok (.getfield 11, 3) := by decide +kernel
theorem dX7_next_146 : decode cX7_next 146 = .ok (.aload_n 0, 1) := by decide +kernel
theorem dX7_next_147 : decode cX7_next 147 = .ok (.getfield 28, 3) := by decide +kernel
theorem dX7_next_150 : decode cX7_next 150 = .ok (.iaload, 1) := by decide +kernel
theorem dX7_next_151 : decode cX7_next 151 = .ok (.goto 4, 3) := by decide +kernel
theorem dX7_next_154 : decode cX7_next 154 = .ok (.iconst 1, 1) := by decide +kernel
theorem dX7_next_155 : decode cX7_next 155 = .ok (.putfield 38, 3) := by decide +kernel
theorem dX7_next_158 : decode cX7_next 158 = .ok (.aload_n 0, 1) := by decide +kernel
theorem dX7_next_159 : decode cX7_next 159 = .ok (.dup, 1) := by decide +kernel
theorem dX7_next_160 : decode cX7_next 160 = .ok (.getfield 28, 3) := by decide +kernel
theorem dX7_next_163 : decode cX7_next 163 = .ok (.iconst 1, 1) := by decide +kernel
theorem dX7_next_164 : decode cX7_next 164 = .ok (.iadd, 1) := by decide +kernel
theorem dX7_next_165 : decode cX7_next 165 = .ok (.putfield 28, 3) := by decide +kernel
theorem dX7_next_168 : decode cX7_next 168 = .ok (.return_, 1) := by decide +kernel
set_option maxRecDepth 20000 in
theorem ggX7_nextNumber_X7_isDigit : GoodIn wsX7_nextNumber wsX7_isDigit := goodIn_r _ [10] (by decide +kernel) (by decide +kernel)
set_option maxRecDepth 20000 in
theorem gX7_nextNumber_X7_isDigit : GoodIn wsX7_nextNumber (va_wsS RX7 87 yX7_isDigit wsX7_isDigit) := goodIn_app (goodIn_of _ (by decide +kernel)) ggX7_nextNumber_X7_isDigit
theorem dX7_nextNumber_0 : decode cX7_nextNumber 0 = .ok (.aload_n 0, 1) := by decide +kernel
theorem dX7_nextNumber_1 : decode cX7_nextNumber 1 = .ok (.iconst 0, 1) := by decide +kernel
theorem dX7_nextNumber_2 : decode cX7_nextNumber 2 = .ok (.putfield 72, 3) := by decide +kernel
theorem dX7_nextNumber_5 : decode cX7_nextNumber 5 = .ok (.aload_n 0, 1) := by decide +kernel
theorem dX7_nextNumber_6 : decode cX7_nextNumber 6 = .ok (.getfield 28, 3) := by decide +kernel
theorem dX7_nextNumber_9 : decode cX7_nextNumber 9 = .ok (.aload_n 0, 1) := by decide +kernel
theorem dX7_nextNumber_10 : decode cX7_nextNumber 10 = .ok (.getfield 15, 3) := by decide +kernel
theorem dX7_nextNumber_13 : decode cX7_nextNumber 13 = .ok (.if_icmp .ge 55, 3) := by decide +kernel
theorem dX7_nextNumber_16 : decode cX7_nextNumber 16 = .ok (.aload_n 0, 1) := by decide +kernel
theorem dX7_nextNumber_17 : decode cX7_nextNumber 17 = .ok (.getfield 11, 3) := by decide +kernel
theorem dX7_nextNumber_20 : decode cX7_nextNumber 20 = .ok (.aload_n 0, 1) := by decide +kernel
theorem dX7_nextNumber_21 : decode cX7_nextNumber 21 = .ok (.getfield 28, 3) := by decide +kernel
theorem dX7_nextNumber_24 : decode cX7_nextNumber 24 = .ok (.iaload, 1) := by decide +kernel
theorem dX7_nextNumber_25 : decode cX7_nextNumber 25 = .ok (.invokestatic 87, 3) := by decide +kernel
theorem dX7_nextNumber_28 : decode cX7_nextNumber 28 = .ok (.ifCond .eq 40, 3) := by decide +kernel
theorem dX7_nextNumber_31 : decode cX7_nextNumber 31 = .ok (.aload_n 0, 1) := by decide +kernel
theorem dX7_nextNumber_32 : decode cX7_nextNumber 32 = .ok (.aload_n 0, 1) := by decide +kernel
theorem dX7_nextNumber_33 : decode cX7_nextNumber 33 = .ok (.getfield 72, 3) := by decide +kernel
theorem dX7_nextNumber_36 : decode cX7_nextNumber 36 = .ok (.bipush 10, 2) := by decide +kernel
theorem dX7_nextNumber_38 : decode cX7_nextNumber 38 = .ok (.imul, 1) := by decide +kernel
theorem dX7_nextNumber_39 : decode cX7_nextNumber 39 = .ok (.aload_n 0, 1) := by decide +kernel
theorem dX7_nextNumber_40 : decode cX7_nextNumber 40 = .ok (.getfield 11, 3) := by decide +kernel
theorem dX7_nextNumber_43 : decode cX7_nextNumber 43 = .ok (.aload_n 0, 1) := by decide +kernel
theorem dX7_nextNumber_44 : decode cX7_nextNumber 44 = .ok (.getfield 28, 3) := by decide +kernel
theorem dX7_nextNumber_47 : decode cX7_nextNumber 47 = .ok (.iaload, 1) := by decide +kernel
theorem dX7_nextNumber_48 : decode cX7_nextNumber 48 = .ok (.iadd, 1) := by decide +kernel
theorem dX7_nextNumber_49 : decode cX7_nextNumber 49 = .ok (.bipush 48, 2) := by decide +kernel
theorem dX7_nextNumber_51 : decode cX7_nextNumber 51 = .ok (.isub, 1) := by decide +kernel
theorem dX7_nextNumber_52 : decode cX7_nextNumber 52 = .ok (.putfield 72, 3) := by decide +kernel
theorem dX7_nextNumber_55 : decode cX7_nextNumber 55 = .ok (.aload_n 0, 1) := by decide +kernel
theorem dX7_nextNumber_56 : decode cX7_nextNumber 56 = .ok (.dup, 1) := by decide +kernel
theorem dX7_nextNumber_57 : decode cX7_nextNumber 57 = .ok (.getfield 28, 3) := by decide +kernel
theorem dX7_nextNumber_60 : decode cX7_nextNumber 60 = .ok (.iconst 1, 1) := by decide +kernel
theorem dX7_nextNumber_61 : decode cX7_nextNumber 61 = .ok (.iadd, 1) := by decide +kernel
theorem dX7_nextNumber_62 : decode cX7_nextNumber 62 = .ok (.putfield 28, 3) := by decide +kernel
theorem dX7_nextNumber_65 : decode cX7_nextNumber 65 = .ok (.goto (-60), 3) := by decide +kernel
theorem dX7_nextNumber_68 : decode cX7_nextNumber 68 = .ok (.aload_n 0, 1) := by decide +kernel
theorem dX7_nextNumber_69 : decode cX7_nextNumber 69 = .ok (.aload_n 0, 1) := by decide +kernel
theorem dX7_nextNumber_70 : decode cX7_nextNumber 70 = .ok (.getfield 28, 3) := by decide +kernel
theorem dX7_nextNumber_73 : decode cX7_nextNumber 73 = .ok (.aload_n 0, 1) := by decide +kernel
theorem dX7_nextNumber_74 : decode cX7_nextNumber 74 = .ok (.getfield 41, 3) := by decide +kernel
theorem dX7_nextNumber_77 : decode cX7_nextNumber 77 = .ok (.isub, 1) := by decide +kernel
theorem dX7_nextNumber_78 : decode cX7_nextNumber 78 = .ok (.iconst 4, 1) := by decide +kernel
theorem dX7_nextNumber_79 : decode cX7_nextNumber 79 = .ok (.if_icmp .gt 7, 3) := by decide +kernel
theorem dX7_nextNumber_82 : decode cX7_nextNumber 82 = .ok (.iconst 2, 1) := by decide +kernel
theorem dX7_nextNumber_83 : decode cX7_nextNumber 83 = .ok (.goto 4, 3) := by decide +kernel
theorem dX7_nextNumber_86 : decode cX7_nextNumber 86 = .ok (.iconst 1, 1) := by decide +kernel
theorem dX7_nextNumber_87 : decode cX7_nextNumber 87 = .ok (.putfield 38, 3) := by decide +kernel
theorem dX7_nextNumber_90 : decode cX7_nextNumber 90 = .ok (.return_, 1) := by decide +kernel
set_option maxRecDepth 20000 in
theorem ggX7_nextWord_X7_isLetter : GoodIn wsX7_nextWord wsX7_isLetter := goodIn_r _ [9] (by decide +kernel) (by decide +kernel)
set_option maxRecDepth 20000 in
theorem gX7_nextWord_X7_isLetter : GoodIn wsX7_nextWord (va_wsS RX7 93 yX7_isLetter wsX7_isLetter) := goodIn_app (goodIn_of _ (by decide +kernel)) ggX7_nextWord_X7_isLetter
set_option maxRecDepth 20000 in
theorem ggX7_nextWord_X7_isWord : GoodIn wsX7_nextWord wsX7_isWord := goodIn_r _ [13, 1, 14, 3, 15, 16, 17, 18, 19, 20, 21, 22, 23, 24, 25, 26, 27, 28, 29, 30, 31, 32, 33, 34, 35, 36, 37, 38, 39, 40, 41, 42, 43, 44, 45, 46, 47, 48, 49, 50, 51, 52, 53, 54, 55, 56, 57, 58, 59, 60, 61, 62] (by decide +kernel) (by decide +kernel)
set_option maxRecDepth 20000 in
theorem gX7_nextWord_X7_isWord : GoodIn wsX7_nextWord (wsV RX7 107 RX7 yX7_isWord wsX7_isWord) := goodIn_app (goodIn_of _ (by decide +kernel)) ggX7_nextWord_X7_isWord
theorem dX7_nextWord_0 : decode cX7_nextWord 0 = .ok (.aload_n 0, 1) := by decide +kernel
theorem dX7_nextWord_1 : decode cX7_nextWord 1 = .ok (.getfield 28, 3) := by decide +kernel
theorem dX7_nextWord_4 : decode cX7_nextWord 4 = .ok (.aload_n 0, 1) := by decide +kernel
theorem dX7_nextWord_5 : decode cX7_nextWord 5 = .ok (.getfield 15, 3) := by decide +kernel
theorem dX7_nextWord_8 : decode cX7_nextWord 8 = .ok (.if_icmp .ge 31, 3) := by decide +kernel
theorem dX7_nextWord_11 : decode cX7_nextWord 11 = .ok (.aload_n 0, 1) := by decide +kernel
theorem dX7_nextWord_12 : decode cX7_nextWord 12 = .ok (.getfield 11, 3) := by decide +kernel
theorem dX7_nextWord_15 : decode cX7_nextWord 15 = .ok (.aload_n 0, 1) := by decide +kernel
theorem dX7_nextWord_16 : decode cX7_nextWord 16 = .ok (.getfield 28, 3) := by decide +kernel
theorem dX7_nextWord_19 : decode cX7_nextWord 19 = .ok (.iaload, 1) := by decide +kernel
theorem dX7_nextWord_20 : decode cX7_nextWord 20 = .ok (.invokestatic 93, 3) := by decide +kernel
theorem dX7_nextWord_23 : decode cX7_nextWord 23 = .ok (.ifCond .eq 16, 3) := by decide +kernel
theorem dX7_nextWord_26 : decode cX7_nextWord 26 = .ok (.aload_n 0, 1) := by decide +kernel
theorem dX7_nextWord_27 : decode cX7_nextWord 27 = .ok (.dup, 1) := by decide +kernel
theorem dX7_nextWord_28 : decode cX7_nextWord 28 = .ok (.getfield 28, 3) := by decide +kernel
theorem dX7_nextWord_31 : decode cX7_nextWord 31 = .ok (.iconst 1, 1) := by decide +kernel
theorem dX7_nextWord_32 : decode cX7_nextWord 32 = .ok (.iadd, 1) := by decide +kernel
theorem dX7_nextWord_33 : decode cX7_nextWord 33 = .ok (.putfield 28, 3) := by decide +kernel
theorem dX7_nextWord_36 : decode cX7_nextWord 36 = .ok (.goto (-36), 3) := by decide +kernel
theorem dX7_nextWord_39 : decode cX7_nextWord 39 = .ok (.aload_n 0, 1) := by decide +kernel
theorem dX7_nextWord_40 : decode cX7_nextWord 40 = .ok (.iconst 1, 1) := by decide +kernel
theorem dX7_nextWord_41 : decode cX7_nextWord 41 = .ok (.putfield 38, 3) := by decide +kernel
theorem dX7_nextWord_44 : decode cX7_nextWord 44 = .ok (.iconst 0, 1) := by decide +kernel
theorem dX7_nextWord_45 : decode cX7_nextWord 45 = .ok (.istore_n 1, 1) := by decide +kernel
theorem dX7_nextWord_46 : decode cX7_nextWord 46 = .ok (.iload_n 1, 1) := by decide +kernel
theorem dX7_nextWord_47 : decode cX7_nextWord 47 = .ok (.bipush 12, 2) := by decide +kernel
theorem dX7_nextWord_49 : decode cX7_nextWord 49 = .ok (.if_icmp .ge 42, 3) := by decide +kernel
theorem dX7_nextWord_52 : decode cX7_nextWord 52 = .ok (.aload_n 0, 1) := by decide +kernel
theorem dX7_nextWord_53 : decode cX7_nextWord 53 = .ok (.iload_n 1, 1) := by decide +kernel
theorem dX7_nextWord_54 : decode cX7_nextWord 54 = .ok (.invokevirtual 107, 3) := by decide +kernel
theorem dX7_nextWord_57 : decode cX7_nextWord 57 = .ok (.ifCond .eq 28, 3) := by decide +kernel
theorem dX7_nextWord_60 : decode cX7_nextWord 60 = .ok (.aload_n 0, 1) := by decide +kernel
theorem dX7_nextWord_61 : decode cX7_nextWord 61 = .ok (.iload_n 1, 1) := by decide +kernel
theorem dX7_nextWord_62 : decode cX7_nextWord 62 = .ok (.putfield 72, 3) := by decide +kernel
theorem dX7_nextWord_65 : decode cX7_nextWord 65 = .ok (.aload_n 0, 1) := by decide +kernel
theorem dX7_nextWord_66 : decode cX7_nextWord 66 = .ok (.iload_n 1, 1) := by decide +kernel
theorem dX7_nextWord_67 : decode cX7_nextWord 67 = .ok (.bipush 6, 2) := by decide +kernel
theorem dX7_nextWord_69 : decode cX7_nextWord 69 = .ok (.if_icmp .ge 7, 3) := by decide +kernel
theorem dX7_nextWord_72 : decode cX7_nextWord 72 = .ok (.iconst 3, 1) := by decide +kernel
theorem dX7_nextWord_73 : decode cX7_nextWord 73 = .ok (.goto 9, 3) := by decide +kernel
theorem dX7_nextWord_76 : decode cX7_nextWord 76 = .ok (.iconst 4, 1) := by decide +kernel
theorem dX7_nextWord_77 : decode cX7_nextWord 77 = .ok (.iload_n 1, 1) := by decide +kernel
theorem dX7_nextWord_78 : decode cX7_nextWord 78 = .ok (.iadd, 1) := by decide +kernel
theorem dX7_nextWord_79 : decode cX7_nextWord 79 = .ok (.bipush 6, 2) := by decide +kernel
theorem dX7_nextWord_81 : decode cX7_nextWord 81 = .ok (.isub, 1) := by decide +kernel
theorem dX7_nextWord_82 : decode cX7_nextWord 82 = .ok (.putfield 38, 3) := by decide +kernel
theorem dX7_nextWord_85 : decode cX7_nextWord 85 = .ok (.iinc 1 1, 3) := by decide +kernel
theorem dX7_nextWord_88 : decode cX7_nextWord 88 = .ok (.goto (-42), 3) := by decide +kernel
theorem dX7_nextWord_91 : decode cX7_nextWord 91 = .ok (.return_, 1) := by decide +kernel
set_option maxRecDepth 20000 in
theorem ggX7_isWord_J0_charAt_5068e : GoodIn wsX7_isWord wsJ0_charAt_5068e := goodIn_r _ [8, 9, 10, 11, 12, 7, 13, 14, 15, 16, 17, 18, 19, 20, 21, 22, 23, 24, 25, 26, 27, 28, 29, 30, 31, 32, 33, 34, 35, 36, 37, 38, 39, 40, 41, 42, 43, 44] (by decide +kernel) (by decide +kernel)
set_option maxRecDepth 20000 in
theorem gX7_isWord_J0_charAt_5068e : GoodIn wsX7_isWord (wsV RX7 112 RJ0 yJ0_charAt_5068e wsJ0_charAt_5068e) := goodIn_app (goodIn_of _ (by decide +kernel)) ggX7_isWord_J0_charAt_5068e
theorem dX7_isWord_0 : decode cX7_isWord 0 = .ok (.aload_n 0, 1) := by decide +kernel
theorem dX7_isWord_1 : decode cX7_isWord 1 = .ok (.getfield 28, 3) := by decide +kernel
theorem dX7_isWord_4 : decode cX7_isWord 4 = .ok (.aload_n 0, 1) := by decide +kernel
theorem dX7_isWord_5 : decode cX7_isWord 5 = .ok (.getfield 41, 3) := by decide +kernel
theorem dX7_isWord_8 : decode cX7_isWord 8 = .ok (.isub, 1) := by decide +kernel
theorem dX7_isWord_9 : decode cX7_isWord 9 = .ok (.istore_n 2, 1) := by decide +kernel
theorem dX7_isWord_10 : decode cX7_isWord 10 = .ok (.iload_n 2, 1) := by decide +kernel
theorem dX7_isWord_11 : decode cX7_isWord 11 = .ok (.bipush 6, 2) := by decide +kernel
theorem dX7_isWord_13 : decode cX7_isWord 13 = .ok (.if_icmp .lt 5, 3) := by decide +kernel
theorem dX7_isWord_16 : decode cX7_isWord 16 = .ok (.iconst 0, 1) := by decide +kernel
theorem dX7_isWord_17 : decode cX7_isWord 17 = .ok (.ireturn, 1) := by decide +kernel
theorem dX7_isWord_18 : decode cX7_isWord 18 = .ok (.iconst 0, 1) := by decide +kernel
theorem dX7_isWord_19 : decode cX7_isWord 19 = .ok (.istore_n 3, 1) := by decide +kernel
theorem dX7_isWord_20 : decode cX7_isWord 20 = .ok (.iload_n 3, 1) := by decide +kernel
theorem dX7_isWord_21 : decode cX7_isWord 21 = .ok (.bipush 6, 2) := by decide +kernel
theorem dX7_isWord_23 : decode cX7_isWord 23 = .ok (.if_icmp .ge 50, 3) := by decide +kernel
theorem dX7_isWord_26 : decode cX7_isWord 26 = .ok (.iload_n 3, 1) := by decide +kernel
theorem dX7_isWord_27 : decode cX7_isWord 27 = .ok (.iload_n 2, 1) := by decide +kernel
theorem dX7_isWord_28 : decode cX7_isWord 28 = .ok (.if_icmp .ge 17, 3) := by decide +kernel
theorem dX7_isWord_31 : decode cX7_isWord 31 = .ok (.aload_n 0, 1) := by decide +kernel
theorem dX7_isWord_32 : decode cX7_isWord 32 = .ok (.getfield 11, 3) := by decide +kernel
theorem dX7_isWord_35 : decode cX7_isWord 35 = .ok (.aload_n 0, 1) := by decide +kernel
theorem dX7_isWord_36 : decode cX7_isWord 36 = .ok (.getfield 41, 3) := by decide +kernel
theorem dX7_isWord_39 : decode cX7_isWord 39 = .ok (.iload_n 3, 1) := by decide +kernel
theorem dX7_isWord_40 : decode cX7_isWord 40 = .ok (.iadd, 1) := by decide +kernel
theorem dX7_isWord_41 : decode cX7_isWord 41 = .ok (.iaload, 1) := by decide +kernel
theorem dX7_isWord_42 : decode cX7_isWord 42 = .ok (.goto 5, 3) := by decide +kernel
theorem dX7_isWord_45 : decode cX7_isWord 45 = .ok (.bipush 32, 2) := by decide +kernel
theorem dX7_isWord_47 : decode cX7_isWord 47 = .ok (.istore 4, 2) := by decide +kernel
theorem dX7_isWord_49 : decode cX7_isWord 49 = .ok (.ldc 110, 2) := by decide +kernel
theorem dX7_isWord_51 : decode cX7_isWord 51 = .ok (.iload_n 1, 1) := by decide +kernel
theorem dX7_isWord_52 : decode cX7_isWord 52 = .ok (.bipush 6, 2) := by decide +kernel
theorem dX7_isWord_54 : decode cX7_isWord 54 = .ok (.imul, 1) := by decide +kernel
theorem dX7_isWord_55 : decode cX7_isWord 55 = .ok (.iload_n 3, 1) := by decide +kernel
theorem dX7_isWord_56 : decode cX7_isWord 56 = .ok (.iadd, 1) := by decide +kernel
theorem dX7_isWord_57 : decode cX7_isWord 57 = .ok (.invokevirtual 112, 3) := by decide +kernel
theorem dX7_isWord_60 : decode cX7_isWord 60 = .ok (.iload 4, 2) := by decide +kernel
theorem dX7_isWord_62 : decode cX7_isWord 62 = .ok (.if_icmp .eq 5, 3) := by decide +kernel
theorem dX7_isWord_65 : decode cX7_isWord 65 = .ok (.iconst 0, 1) := by decide +kernel
theorem dX7_isWord_66 : decode cX7_isWord 66 = .ok (.ireturn, 1) := by decide +kernel
theorem dX7_isWord_67 : decode cX7_isWord 67 = .ok (.iinc 3 1, 3) := by decide +kernel
theorem dX7_isWord_70 : decode cX7_isWord 70 = .ok (.goto (-50), 3) := by decide +kernel
theorem dX7_isWord_73 : decode cX7_isWord 73 = .ok (.iconst 1, 1) := by decide +kernel
theorem dX7_isWord_74 : decode cX7_isWord 74 = .ok (.ireturn, 1) := by decide +kernel
theorem dX7_isDigit_0 : decode cX7_isDigit 0 = .ok (.bipush 48, 2) := by decide +kernel
theorem dX7_isDigit_2 : decode cX7_isDigit 2 = .ok (.iload_n 0, 1) := by decide +kernel
theorem dX7_isDigit_3 : decode cX7_isDigit 3 = .ok (.if_icmp .gt 13, 3) := by decide +kernel
theorem dX7_isDigit_6 : decode cX7_isDigit 6 = .ok (.iload_n 0, 1) := by decide +kernel
theorem dX7_isDigit_7 : decode cX7_isDigit 7 = .ok (.bipush 57, 2) := by decide +kernel
theorem dX7_isDigit_9 : decode cX7_isDigit 9 = .ok (.if_icmp .gt 7, 3) := by decide +kernel
theorem dX7_isDigit_12 : decode cX7_isDigit 12 = .ok (.iconst 1, 1) := by decide +kernel
theorem dX7_isDigit_13 : decode cX7_isDigit 13 = .ok (.goto 4, 3) := by decide +kernel
theorem dX7_isDigit_16 : decode cX7_isDigit 16 = .ok (.iconst 0, 1) := by decide +kernel
theorem dX7_isDigit_17 : decode cX7_isDigit 17 = .ok (.ireturn, 1) := by decide +kernel
theorem dX7_isLetter_0 : decode cX7_isLetter 0 = .ok (.bipush 97, 2) := by decide +kernel
theorem dX7_isLetter_2 : decode cX7_isLetter 2 = .ok (.iload_n 0, 1) := by decide +kernel
theorem dX7_isLetter_3 : decode cX7_isLetter 3 = .ok (.if_icmp .gt 13, 3) := by decide +kernel
theorem dX7_isLetter_6 : decode cX7_isLetter 6 = .ok (.iload_n 0, 1) := by decide +kernel
theorem dX7_isLetter_7 : decode cX7_isLetter 7 = .ok (.bipush 122, 2) := by decide +kernel
theorem dX7_isLetter_9 : decode cX7_isLetter 9 = .ok (.if_icmp .gt 7, 3) := by decide +kernel
theorem dX7_isLetter_12 : decode cX7_isLetter 12 = .ok (.iconst 1, 1) := by decide +kernel
theorem dX7_isLetter_13 : decode cX7_isLetter 13 = .ok (.goto 4, 3) := by decide +kernel
theorem dX7_isLetter_16 : decode cX7_isLetter 16 = .ok (.iconst 0, 1) := by decide +kernel
theorem dX7_isLetter_17 : decode cX7_isLetter 17 = .ok (.ireturn, 1) := by decide +kernel
theorem dX8_init_0 : decode cX8_init 0 = .ok (.aload_n 0, 1) := by decide +kernel
theorem dX8_init_1 : decode cX8_init 1 = .ok (.invokespecial 1, 3) := by decide +kernel
theorem dX8_init_4 : decode cX8_init 4 = .ok (.aload_n 0, 1) := by decide +kernel
theorem dX8_init_5 : decode cX8_init 5 = .ok (.iconst (-1), 1) := by decide +kernel
theorem dX8_init_6 : decode cX8_init 6 = .ok (.putfield 9, 3) := by decide +kernel
theorem dX8_init_9 : decode cX8_init 9 = .ok (.aload_n 0, 1) := by decide +kernel
theorem dX8_init_10 : decode cX8_init 10 = .ok (.bipush 40, 2) := by decide +kernel
theorem dX8_init_12 : decode cX8_init 12 = .ok (.newarray .int, 2) := by decide +kernel
theorem dX8_init_14 : decode cX8_init 14 = .ok (.putfield 13, 3) := by decide +kernel
theorem dX8_init_17 : decode cX8_init 17 = .ok (.return_, 1) := by decide +kernel
set_option maxRecDepth 20000 in
theorem ggX8_become_J7_fill_53178 : GoodIn wsX8_become wsJ7_fill_53178 := goodIn_r _ [7] (by decide +kernel) (by decide +kernel)
set_option maxRecDepth 20000 in
theorem gX8_become_J7_fill_53178 : GoodIn wsX8_become (va_wsS RX8 20 yJ7_fill_53178 wsJ7_fill_53178) := goodIn_app (goodIn_of _ (by decide +kernel)) ggX8_become_J7_fill_53178
theorem dX8_become_0 : decode cX8_become 0 = .ok (.aload_n 0, 1) := by decide +kernel
theorem dX8_become_1 : decode cX8_become 1 = .ok (.iload_n 1, 1) := by decide +kernel
theorem dX8_become_2 : decode cX8_become 2 = .ok (.putfield 9, 3) := by decide +kernel
theorem dX8_become_5 : decode cX8_become 5 = .ok (.aload_n 0, 1) := by decide +kernel
theorem dX8_become_6 : decode cX8_become 6 = .ok (.iload_n 2, 1) := by decide +kernel
theorem dX8_become_7 : decode cX8_become 7 = .ok (.putfield 17, 3) := by decide +kernel
theorem dX8_become_10 : decode cX8_become 10 = .ok (.aload_n 0, 1) := by decide +kernel
theorem dX8_become_11 : decode cX8_become 11 = .ok (.getfield 13, 3) := by decide +kernel
theorem dX8_become_14 : decode cX8_become 14 = .ok (.iconst 0, 1) := by decide +kernel
theorem dX8_become_15 : decode cX8_become 15 = .ok (.invokestatic 20, 3) := by decide +kernel
theorem dX8_become_18 : decode cX8_become 18 = .ok (.return_, 1) := by decide +kernel
theorem dX8_put_0 : decode cX8_put 0 = .ok (.aload_n 0, 1) := by decide +kernel
theorem dX8_put_1 : decode cX8_put 1 = .ok (.getfield 9, 3) := by decide +kernel
theorem dX8_put_4 : decode cX8_put 4 = .ok (.lookupswitch 50 #[(0, 28), (1, 39)], 28) := by decide +kernel
theorem dX8_put_32 : decode cX8_put 32 = .ok (.aload_n 0, 1) := by decide +kernel
theorem dX8_put_33 : decode cX8_put 33 = .ok (.getfield 13, 3) := by decide +kernel
theorem dX8_put_36 : decode cX8_put 36 = .ok (.iload_n 1, 1) := by decide +kernel
theorem dX8_put_37 : decode cX8_put 37 = .ok (.iload_n 2, 1) := by decide +kernel
theorem dX8_put_38 : decode cX8_put 38 = .ok (.i2b, 1) := by decide +kernel
theorem dX8_put_39 : decode cX8_put 39 = .ok (.iastore, 1) := by decide +kernel
theorem dX8_put_40 : decode cX8_put 40 = .ok (.goto 21, 3) := by decide +kernel
theorem dX8_put_43 : decode cX8_put 43 = .ok (.aload_n 0, 1) := by decide +kernel
theorem dX8_put_44 : decode cX8_put 44 = .ok (.getfield 13, 3) := by decide +kernel
theorem dX8_put_47 : decode cX8_put 47 = .ok (.iload_n 1, 1) := by decide +kernel
theorem dX8_put_48 : decode cX8_put 48 = .ok (.iload_n 2, 1) := by decide +kernel
theorem dX8_put_49 : decode cX8_put 49 = .ok (.i2s, 1) := by decide +kernel
theorem dX8_put_50 : decode cX8_put 50 = .ok (.iastore, 1) := by decide +kernel
theorem dX8_put_51 : decode cX8_put 51 = .ok (.goto 10, 3) := by decide +kernel
theorem dX8_put_54 : decode cX8_put 54 = .ok (.aload_n 0, 1) := by decide +kernel
theorem dX8_put_55 : decode cX8_put 55 = .ok (.getfield 13, 3) := by decide +kernel
theorem dX8_put_58 : decode cX8_put 58 = .ok (.iload_n 1, 1) := by decide +kernel
theorem dX8_put_59 : decode cX8_put 59 = .ok (.iload_n 2, 1) := by decide +kernel
theorem dX8_put_60 : decode cX8_put 60 = .ok (.iastore, 1) := by decide +kernel
theorem dX8_put_61 : decode cX8_put 61 = .ok (.return_, 1) := by decide +kernel
theorem dX8_holds_0 : decode cX8_holds 0 = .ok (.iload_n 1, 1) := by decide +kernel
theorem dX8_holds_1 : decode cX8_holds 1 = .ok (.ifCond .lt 29, 3) := by decide +kernel
theorem dX8_holds_4 : decode cX8_holds 4 = .ok (.iload_n 2, 1) := by decide +kernel
theorem dX8_holds_5 : decode cX8_holds 5 = .ok (.ifCond .lt 25, 3) := by decide +kernel
theorem dX8_holds_8 : decode cX8_holds 8 = .ok (.iload_n 2, 1) := by decide +kernel
theorem dX8_holds_9 : decode cX8_holds 9 = .ok (.aload_n 0, 1) := by decide +kernel
theorem dX8_holds_10 : decode cX8_holds 10 = .ok (.getfield 17, 3) := by decide +kernel
theorem dX8_holds_13 : decode cX8_holds 13 = .ok (.if_icmp .gt 17, 3) := by decide +kernel
theorem dX8_holds_16 : decode cX8_holds 16 = .ok (.iload_n 1, 1) := by decide +kernel
theorem dX8_holds_17 : decode cX8_holds 17 = .ok (.aload_n 0, 1) := by decide +kernel
theorem dX8_holds_18 : decode cX8_holds 18 = .ok (.getfield 17, 3) := by decide +kernel
theorem dX8_holds_21 : decode cX8_holds 21 = .ok (.iload_n 2, 1) := by decide +kernel
theorem dX8_holds_22 : decode cX8_holds 22 = .ok (.isub, 1) := by decide +kernel
theorem dX8_holds_23 : decode cX8_holds 23 = .ok (.if_icmp .gt 7, 3) := by decide +kernel
theorem dX8_holds_26 : decode cX8_holds 26 = .ok (.iconst 1, 1) := by decide +kernel
theorem dX8_holds_27 : decode cX8_holds 27 = .ok (.goto 4, 3) := by decide +kernel
theorem dX8_holds_30 : decode cX8_holds 30 = .ok (.iconst 0, 1) := by decide +kernel
theorem dX8_holds_31 : decode cX8_holds 31 = .ok (.ireturn, 1) := by decide +kernel
theorem dX9_init_0 : decode cX9_init 0 = .ok (.aload_n 0, 1) := by decide +kernel
theorem dX9_init_1 : decode cX9_init 1 = .ok (.invokespecial 1, 3) := by decide +kernel
theorem dX9_init_4 : decode cX9_init 4 = .ok (.aload_n 0, 1) := by decide +kernel
theorem dX9_init_5 : decode cX9_init 5 = .ok (.sipush 160, 3) := by decide +kernel
theorem dX9_init_8 : decode cX9_init 8 = .ok (.newarray .int, 2) := by decide +kernel
theorem dX9_init_10 : decode cX9_init 10 = .ok (.putfield 9, 3) := by decide +kernel
theorem dX9_init_13 : decode cX9_init 13 = .ok (.aload_n 0, 1) := by decide +kernel
theorem dX9_init_14 : decode cX9_init 14 = .ok (.iconst 3, 1) := by decide +kernel
theorem dX9_init_15 : decode cX9_init 15 = .ok (.newarray .int, 2) := by decide +kernel
theorem dX9_init_17 : decode cX9_init 17 = .ok (.putfield 15, 3) := by decide +kernel
theorem dX9_init_20 : decode cX9_init 20 = .ok (.aload_n 0, 1) := by decide +kernel
theorem dX9_init_21 : decode cX9_init 21 = .ok (.bipush 80, 2) := by decide +kernel
theorem dX9_init_23 : decode cX9_init 23 = .ok (.newarray .int, 2) := by decide +kernel
theorem dX9_init_25 : decode cX9_init 25 = .ok (.putfield 18, 3) := by decide +kernel
theorem dX9_init_28 : decode cX9_init 28 = .ok (.return_, 1) := by decide +kernel
theorem dX9_clear_0 : decode cX9_clear 0 = .ok (.aload_n 0, 1) := by decide +kernel
theorem dX9_clear_1 : decode cX9_clear 1 = .ok (.iconst 0, 1) := by decide +kernel
theorem dX9_clear_2 : decode cX9_clear 2 = .ok (.putfield 21, 3) := by decide +kernel
theorem dX9_clear_5 : decode cX9_clear 5 = .ok (.return_, 1) := by decide +kernel
set_option maxRecDepth 20000 in
theorem ggX9_addNumber_X9_add : GoodIn wsX9_addNumber wsX9_add := goodIn_r _ [5, 6, 7, 8, 9, 10, 11, 12] (by decide +kernel) (by decide +kernel)
set_option maxRecDepth 20000 in
theorem gX9_addNumber_X9_add : GoodIn wsX9_addNumber (wsV RX9 25 RX9 yX9_add wsX9_add) := goodIn_app (goodIn_of _ (by decide +kernel)) ggX9_addNumber_X9_add
theorem dX9_addNumber_0 : decode cX9_addNumber 0 = .ok (.aload_n 0, 1) := by decide +kernel
theorem dX9_addNumber_1 : decode cX9_addNumber 1 = .ok (.iload_n 1, 1) := by decide +kernel
theorem dX9_addNumber_2 : decode cX9_addNumber 2 = .ok (.invokevirtual 25, 3) := by decide +kernel
theorem dX9_addNumber_5 : decode cX9_addNumber 5 = .ok (.return_, 1) := by decide +kernel
set_option maxRecDepth 20000 in
theorem ggX9_addName_X9_add : GoodIn wsX9_addName wsX9_add := goodIn_r _ [5, 6, 7, 8, 9, 10, 11, 12] (by decide +kernel) (by decide +kernel)
set_option maxRecDepth 20000 in
theorem gX9_addName_X9_add : GoodIn wsX9_addName (wsV RX9 25 RX9 yX9_add wsX9_add) := goodIn_app (goodIn_of _ (by decide +kernel)) ggX9_addName_X9_add
theorem dX9_addName_0 : decode cX9_addName 0 = .ok (.aload_n 0, 1) := by decide +kernel
theorem dX9_addName_1 : decode cX9_addName 1 = .ok (.iconst (-1), 1) := by decide +kernel
theorem dX9_addName_2 : decode cX9_addName 2 = .ok (.iload_n 1, 1) := by decide +kernel
theorem dX9_addName_3 : decode cX9_addName 3 = .ok (.isub, 1) := by decide +kernel
theorem dX9_addName_4 : decode cX9_addName 4 = .ok (.invokevirtual 25, 3) := by decide +kernel
theorem dX9_addName_7 : decode cX9_addName 7 = .ok (.return_, 1) := by decide +kernel
set_option maxRecDepth 20000 in
theorem ggX9_addSign_X9_add : GoodIn wsX9_addSign wsX9_add := goodIn_r _ [5, 6, 7, 8, 9, 10, 11, 12] (by decide +kernel) (by decide +kernel)
set_option maxRecDepth 20000 in
theorem gX9_addSign_X9_add : GoodIn wsX9_addSign (wsV RX9 25 RX9 yX9_add wsX9_add) := goodIn_app (goodIn_of _ (by decide +kernel)) ggX9_addSign_X9_add
theorem dX9_addSign_0 : decode cX9_addSign 0 = .ok (.aload_n 0, 1) := by decide +kernel
theorem dX9_addSign_1 : decode cX9_addSign 1 = .ok (.iload_n 1, 1) := by decide +kernel
theorem dX9_addSign_2 : decode cX9_addSign 2 = .ok (.ineg, 1) := by decide +kernel
theorem dX9_addSign_3 : decode cX9_addSign 3 = .ok (.invokevirtual 25, 3) := by decide +kernel
theorem dX9_addSign_6 : decode cX9_addSign 6 = .ok (.return_, 1) := by decide +kernel
theorem dX9_add_0 : decode cX9_add 0 = .ok (.aload_n 0, 1) := by decide +kernel
theorem dX9_add_1 : decode cX9_add 1 = .ok (.getfield 21, 3) := by decide +kernel
theorem dX9_add_4 : decode cX9_add 4 = .ok (.aload_n 0, 1) := by decide +kernel
theorem dX9_add_5 : decode cX9_add 5 = .ok (.getfield 9, 3) := by decide +kernel
theorem dX9_add_8 : decode cX9_add 8 = .ok (.arraylength, 1) := by decide +kernel
theorem dX9_add_9 : decode cX9_add 9 = .ok (.if_icmp .ge 23, 3) := by decide +kernel
theorem dX9_add_12 : decode cX9_add 12 = .ok (.aload_n 0, 1) := by decide +kernel
theorem dX9_add_13 : decode cX9_add 13 = .ok (.getfield 9, 3) := by decide +kernel
theorem dX9_add_16 : decode cX9_add 16 = .ok (.aload_n 0, 1) := by decide +kernel
theorem dX9_add_17 : decode cX9_add 17 = .ok (.getfield 21, 3) := by decide +kernel
theorem dX9_add_20 : decode cX9_add 20 = .ok (.iload_n 1, 1) := by decide +kernel
theorem dX9_add_21 : decode cX9_add 21 = .ok (.iastore, 1) := by decide +kernel
theorem dX9_add_22 : decode cX9_add 22 = .ok (.aload_n 0, 1) := by decide +kernel
theorem dX9_add_23 : decode cX9_add 23 = .ok (.dup, 1) := by decide +kernel
theorem dX9_add_24 : decode cX9_add 24 = .ok (.getfield 21, 3) := by decide +kernel
theorem dX9_add_27 : decode cX9_add 27 = .ok (.iconst 1, 1) := by decide +kernel
theorem dX9_add_28 : decode cX9_add 28 = .ok (.iadd, 1) := by decide +kernel
theorem dX9_add_29 : decode cX9_add 29 = .ok (.putfield 21, 3) := by decide +kernel
theorem dX9_add_32 : decode cX9_add 32 = .ok (.return_, 1) := by decide +kernel
theorem dX9_endPart_0 : decode cX9_endPart 0 = .ok (.aload_n 0, 1) := by decide +kernel
theorem dX9_endPart_1 : decode cX9_endPart 1 = .ok (.getfield 15, 3) := by decide +kernel
theorem dX9_endPart_4 : decode cX9_endPart 4 = .ok (.iload_n 1, 1) := by decide +kernel
theorem dX9_endPart_5 : decode cX9_endPart 5 = .ok (.aload_n 0, 1) := by decide +kernel
theorem dX9_endPart_6 : decode cX9_endPart 6 = .ok (.getfield 21, 3) := by decide +kernel
theorem dX9_endPart_9 : decode cX9_endPart 9 = .ok (.iastore, 1) := by decide +kernel
theorem dX9_endPart_10 : decode cX9_endPart 10 = .ok (.return_, 1) := by decide +kernel
set_option maxRecDepth 20000 in
theorem ggX9_says_X9_push : GoodIn wsX9_says wsX9_push := goodIn_r _ [8, 1, 9, 21, 22, 23, 24, 25] (by decide +kernel) (by decide +kernel)
set_option maxRecDepth 20000 in
theorem gX9_says_X9_push : GoodIn wsX9_says (wsV RX9 32 RX9 yX9_push wsX9_push) := goodIn_app (goodIn_of _ (by decide +kernel)) ggX9_says_X9_push
set_option maxRecDepth 20000 in
theorem ggX9_says_X9_work : GoodIn wsX9_says wsX9_work := goodIn_r _ [13, 14, 15, 16, 7, 17, 1, 9, 4, 5, 6, 8, 18, 19, 20, 21, 22, 23, 24, 25] (by decide +kernel) (by decide +kernel)
set_option maxRecDepth 20000 in
theorem gX9_says_X9_work : GoodIn wsX9_says (wsV RX9 35 RX9 yX9_work wsX9_work) := goodIn_app (goodIn_of _ (by decide +kernel)) ggX9_says_X9_work
set_option maxRecDepth 20000 in
theorem ggX9_says_X9_pop : GoodIn wsX9_says wsX9_pop := goodIn_r _ [17, 1, 9, 21, 22, 23, 24, 25] (by decide +kernel) (by decide +kernel)
set_option maxRecDepth 20000 in
theorem gX9_says_X9_pop : GoodIn wsX9_says (wsV RX9 38 RX9 yX9_pop wsX9_pop) := goodIn_app (goodIn_of _ (by decide +kernel)) ggX9_says_X9_pop
theorem dX9_says_0 : decode cX9_says 0 = .ok (.aload_n 0, 1) := by decide +kernel
theorem dX9_says_1 : decode cX9_says 1 = .ok (.iconst 0, 1) := by decide +kernel
theorem dX9_says_2 : decode cX9_says 2 = .ok (.putfield 29, 3) := by decide +kernel
theorem dX9_says_5 : decode cX9_says 5 = .ok (.iload_n 1, 1) := by decide +kernel
theorem dX9_says_6 : decode cX9_says 6 = .ok (.ifCond .ne 7, 3) := by decide +kernel
theorem dX9_says_9 : decode cX9_says 9 = .ok (.iconst 0, 1) := by decide +kernel
theorem dX9_says_10 : decode cX9_says 10 = .ok (.goto 11, 3) := by decide +kernel
theorem dX9_says_13 : decode cX9_says 13 = .ok (.aload_n 0, 1) := by decide +kernel
theorem dX9_says_14 : decode cX9_says 14 = .ok (.getfield 15, 3) := by decide +kernel
theorem dX9_says_17 : decode cX9_says 17 = .ok (.iload_n 1, 1) := by decide +kernel
theorem dX9_says_18 : decode cX9_says 18 = .ok (.iconst 1, 1) := by decide +kernel
theorem dX9_says_19 : decode cX9_says 19 = .ok (.isub, 1) := by decide +kernel
theorem dX9_says_20 : decode cX9_says 20 = .ok (.iaload, 1) := by decide +kernel
theorem dX9_says_21 : decode cX9_says 21 = .ok (.istore_n 3, 1) := by decide +kernel
theorem dX9_says_22 : decode cX9_says 22 = .ok (.iload_n 3, 1) := by decide +kernel
theorem dX9_says_23 : decode cX9_says 23 = .ok (.aload_n 0, 1) := by decide +kernel
theorem dX9_says_24 : decode cX9_says 24 = .ok (.getfield 15, 3) := by decide +kernel
theorem dX9_says_27 : decode cX9_says 27 = .ok (.iload_n 1, 1) := by decide +kernel
theorem dX9_says_28 : decode cX9_says 28 = .ok (.iaload, 1) := by decide +kernel
theorem dX9_says_29 : decode cX9_says 29 = .ok (.if_icmp .ge 58, 3) := by decide +kernel
theorem dX9_says_32 : decode cX9_says 32 = .ok (.aload_n 0, 1) := by decide +kernel
theorem dX9_says_33 : decode cX9_says 33 = .ok (.getfield 9, 3) := by decide +kernel
theorem dX9_says_36 : decode cX9_says 36 = .ok (.iload_n 3, 1) := by decide +kernel
theorem dX9_says_37 : decode cX9_says 37 = .ok (.iaload, 1) := by decide +kernel
theorem dX9_says_38 : decode cX9_says 38 = .ok (.istore 4, 2) := by decide +kernel
theorem dX9_says_40 : decode cX9_says 40 = .ok (.iload 4, 2) := by decide +kernel
theorem dX9_says_42 : decode cX9_says 42 = .ok (.ifCond .lt 12, 3) := by decide +kernel
theorem dX9_says_45 : decode cX9_says 45 = .ok (.aload_n 0, 1) := by decide +kernel
theorem dX9_says_46 : decode cX9_says 46 = .ok (.iload 4, 2) := by decide +kernel
theorem dX9_says_48 : decode cX9_says 48 = .ok (.invokevirtual 32, 3) := by decide +kernel
theorem dX9_says_51 : decode cX9_says 51 = .ok (.goto 30, 3) := by decide +kernel
theorem dX9_says_54 : decode cX9_says 54 = .ok (.iload 4, 2) := by decide +kernel
theorem dX9_says_56 : decode cX9_says 56 = .ok (.bipush (-6), 2) := by decide +kernel
theorem dX9_says_58 : decode cX9_says 58 = .ok (.if_icmp .lt 16, 3) := by decide +kernel
theorem dX9_says_61 : decode cX9_says 61 = .ok (.aload_n 0, 1) := by decide +kernel
theorem dX9_says_62 : decode cX9_says 62 = .ok (.aload_n 2, 1) := by decide +kernel
theorem dX9_says_63 : decode cX9_says 63 = .ok (.iconst (-1), 1) := by decide +kernel
theorem dX9_says_64 : decode cX9_says 64 = .ok (.iload 4, 2) := by decide +kernel
theorem dX9_says_66 : decode cX9_says 66 = .ok (.isub, 1) := by decide +kernel
theorem dX9_says_67 : decode cX9_says 67 = .ok (.iaload, 1) := by decide +kernel
theorem dX9_says_68 : decode cX9_says 68 = .ok (.invokevirtual 32, 3) := by decide +kernel
theorem dX9_says_71 : decode cX9_says 71 = .ok (.goto 10, 3) := by decide +kernel
theorem dX9_says_74 : decode cX9_says 74 = .ok (.aload_n 0, 1) := by decide +kernel
theorem dX9_says_75 : decode cX9_says 75 = .ok (.iload 4, 2) := by decide +kernel
theorem dX9_says_77 : decode cX9_says 77 = .ok (.ineg, 1) := by decide +kernel
theorem dX9_says_78 : decode cX9_says 78 = .ok (.invokevirtual 35, 3) := by decide +kernel
theorem dX9_says_81 : decode cX9_says 81 = .ok (.iinc 3 1, 3) := by decide +kernel
theorem dX9_says_84 : decode cX9_says 84 = .ok (.goto (-62), 3) := by decide +kernel
theorem dX9_says_87 : decode cX9_says 87 = .ok (.aload_n 0, 1) := by decide +kernel
theorem dX9_says_88 : decode cX9_says 88 = .ok (.invokevirtual 38, 3) := by decide +kernel
theorem dX9_says_91 : decode cX9_says 91 = .ok (.ireturn, 1) := by decide +kernel
set_option maxRecDepth 20000 in
theorem ggX9_work_X9_pop : GoodIn wsX9_work wsX9_pop := goodIn_r _ [5, 6, 7, 15, 16, 17, 18, 19] (by decide +kernel) (by decide +kernel)
set_option maxRecDepth 20000 in
theorem gX9_work_X9_pop : GoodIn wsX9_work (wsV RX9 38 RX9 yX9_pop wsX9_pop) := goodIn_app (goodIn_of _ (by decide +kernel)) ggX9_work_X9_pop
set_option maxRecDepth 20000 in
theorem ggX9_work_X9_push : GoodIn wsX9_work wsX9_push := goodIn_r _ [11, 6, 7, 15, 16, 17, 18, 19] (by decide +kernel) (by decide +kernel)
set_option maxRecDepth 20000 in
theorem gX9_work_X9_push : GoodIn wsX9_work (wsV RX9 32 RX9 yX9_push wsX9_push) := goodIn_app (goodIn_of _ (by decide +kernel)) ggX9_work_X9_push
set_option maxRecDepth 20000 in
theorem ggX9_work_X9_joined : GoodIn wsX9_work wsX9_joined := goodIn_r _ [14] (by decide +kernel) (by decide +kernel)
set_option maxRecDepth 20000 in
theorem gX9_work_X9_joined : GoodIn wsX9_work (va_wsS RX9 42 yX9_joined wsX9_joined) := goodIn_app (goodIn_of _ (by decide +kernel)) ggX9_work_X9_joined
theorem dX9_work_0 : decode cX9_work 0 = .ok (.aload_n 0, 1) := by decide +kernel
theorem dX9_work_1 : decode cX9_work 1 = .ok (.invokevirtual 38, 3) := by decide +kernel
theorem dX9_work_4 : decode cX9_work 4 = .ok (.istore_n 2, 1) := by decide +kernel
theorem dX9_work_5 : decode cX9_work 5 = .ok (.iload_n 1, 1) := by decide +kernel
theorem dX9_work_6 : decode cX9_work 6 = .ok (.lookupswitch 51 #[(33, 26), (126, 42)], 26) := by decide +kernel
theorem dX9_work_32 : decode cX9_work 32 = .ok (.aload_n 0, 1) := by decide +kernel
theorem dX9_work_33 : decode cX9_work 33 = .ok (.iload_n 2, 1) := by decide +kernel
theorem dX9_work_34 : decode cX9_work 34 = .ok (.ifCond .ne 7, 3) := by decide +kernel
theorem dX9_work_37 : decode cX9_work 37 = .ok (.iconst 1, 1) := by decide +kernel
theorem dX9_work_38 : decode cX9_work 38 = .ok (.goto 4, 3) := by decide +kernel
theorem dX9_work_41 : decode cX9_work 41 = .ok (.iconst 0, 1) := by decide +kernel
theorem dX9_work_42 : decode cX9_work 42 = .ok (.invokevirtual 32, 3) := by decide +kernel
theorem dX9_work_45 : decode cX9_work 45 = .ok (.goto 25, 3) := by decide +kernel
theorem dX9_work_48 : decode cX9_work 48 = .ok (.aload_n 0, 1) := by decide +kernel
theorem dX9_work_49 : decode cX9_work 49 = .ok (.iload_n 2, 1) := by decide +kernel
theorem dX9_work_50 : decode cX9_work 50 = .ok (.ineg, 1) := by decide +kernel
theorem dX9_work_51 : decode cX9_work 51 = .ok (.invokevirtual 32, 3) := by decide +kernel
theorem dX9_work_54 : decode cX9_work 54 = .ok (.goto 16, 3) := by decide +kernel
theorem dX9_work_57 : decode cX9_work 57 = .ok (.aload_n 0, 1) := by decide +kernel
theorem dX9_work_58 : decode cX9_work 58 = .ok (.aload_n 0, 1) := by decide +kernel
theorem dX9_work_59 : decode cX9_work 59 = .ok (.invokevirtual 38, 3) := by decide +kernel
theorem dX9_work_62 : decode cX9_work 62 = .ok (.iload_n 1, 1) := by decide +kernel
theorem dX9_work_63 : decode cX9_work 63 = .ok (.iload_n 2, 1) := by decide +kernel
theorem dX9_work_64 : decode cX9_work 64 = .ok (.invokestatic 42, 3) := by decide +kernel
theorem dX9_work_67 : decode cX9_work 67 = .ok (.invokevirtual 32, 3) := by decide +kernel
theorem dX9_work_70 : decode cX9_work 70 = .ok (.return_, 1) := by decide +kernel
theorem dX9_joined_0 : decode cX9_joined 0 = .ok (.iload_n 1, 1) := by decide +kernel
theorem dX9_joined_1 : decode cX9_joined 1 = .ok (.lookupswitch 117 #[(38, 73), (43, 109), (45, 113), (60, 87), (61, 98), (124, 59)], 59) := by decide +kernel
theorem dX9_joined_60 : decode cX9_joined 60 = .ok (.iload_n 0, 1) := by decide +kernel
theorem dX9_joined_61 : decode cX9_joined 61 = .ok (.ifCond .ne 7, 3) := by decide +kernel
theorem dX9_joined_64 : decode cX9_joined 64 = .ok (.iload_n 2, 1) := by decide +kernel
theorem dX9_joined_65 : decode cX9_joined 65 = .ok (.ifCond .eq 7, 3) := by decide +kernel
theorem dX9_joined_68 : decode cX9_joined 68 = .ok (.iconst 1, 1) := by decide +kernel
theorem dX9_joined_69 : decode cX9_joined 69 = .ok (.goto 4, 3) := by decide +kernel
theorem dX9_joined_72 : decode cX9_joined 72 = .ok (.iconst 0, 1) := by decide +kernel
theorem dX9_joined_73 : decode cX9_joined 73 = .ok (.ireturn, 1) := by decide +kernel
theorem dX9_joined_74 : decode cX9_joined 74 = .ok (.iload_n 0, 1) := by decide +kernel
theorem dX9_joined_75 : decode cX9_joined 75 = .ok (.ifCond .eq 11, 3) := by decide +kernel
theorem dX9_joined_78 : decode cX9_joined 78 = .ok (.iload_n 2, 1) := by decide +kernel
theorem dX9_joined_79 : decode cX9_joined 79 = .ok (.ifCond .eq 7, 3) := by decide +kernel
theorem dX9_joined_82 : decode cX9_joined 82 = .ok (.iconst 1, 1) := by decide +kernel
theorem dX9_joined_83 : decode cX9_joined 83 = .ok (.goto 4, 3) := by decide +kernel
theorem dX9_joined_86 : decode cX9_joined 86 = .ok (.iconst 0, 1) := by decide +kernel
theorem dX9_joined_87 : decode cX9_joined 87 = .ok (.ireturn, 1) := by decide +kernel
theorem dX9_joined_88 : decode cX9_joined 88 = .ok (.iload_n 0, 1) := by decide +kernel
theorem dX9_joined_89 : decode cX9_joined 89 = .ok (.iload_n 2, 1) := by decide +kernel
theorem dX9_joined_90 : decode cX9_joined 90 = .ok (.if_icmp .ge 7, 3) := by decide +kernel
theorem dX9_joined_93 : decode cX9_joined 93 = .ok (.iconst 1, 1) := by decide +kernel
theorem dX9_joined_94 : decode cX9_joined 94 = .ok (.goto 4, 3) := by decide +kernel
theorem dX9_joined_97 : decode cX9_joined 97 = .ok (.iconst 0, 1) := by decide +kernel
theorem dX9_joined_98 : decode cX9_joined 98 = .ok (.ireturn, 1) := by decide +kernel
theorem dX9_joined_99 : decode cX9_joined 99 = .ok (.iload_n 0, 1) := by decide +kernel
theorem dX9_joined_100 : decode cX9_joined 100 = .ok (.iload_n 2, 1) := by decide +kernel
theorem dX9_joined_101 : decode cX9_joined 101 = .ok (.if_icmp .ne 7, 3) := by decide +kernel
theorem dX9_joined_104 : decode cX9_joined 104 = .ok (.iconst 1, 1) := by decide +kernel
theorem dX9_joined_105 : decode cX9_joined 105 = .ok (.goto 4, 3) := by decide +kernel
theorem dX9_joined_108 : decode cX9_joined 108 = .ok (.iconst 0, 1) := by decide +kernel
theorem dX9_joined_109 : decode cX9_joined 109 = .ok (.ireturn, 1) := by decide +kernel
theorem dX9_joined_110 : decode cX9_joined 110 = .ok (.iload_n 0, 1) := by decide +kernel
theorem dX9_joined_111 : decode cX9_joined 111 = .ok (.iload_n 2, 1) := by decide +kernel
theorem dX9_joined_112 : decode cX9_joined 112 = .ok (.iadd, 1) := by decide +kernel
theorem dX9_joined_113 : decode cX9_joined 113 = .ok (.ireturn, 1) := by decide +kernel
theorem dX9_joined_114 : decode cX9_joined 114 = .ok (.iload_n 0, 1) := by decide +kernel
theorem dX9_joined_115 : decode cX9_joined 115 = .ok (.iload_n 2, 1) := by decide +kernel
theorem dX9_joined_116 : decode cX9_joined 116 = .ok (.isub, 1) := by decide +kernel
theorem dX9_joined_117 : decode cX9_joined 117 = .ok (.ireturn, 1) := by decide +kernel
theorem dX9_joined_118 : decode cX9_joined 118 = .ok (.iload_n 0, 1) := by decide +kernel
theorem dX9_joined_119 : decode cX9_joined 119 = .ok (.iload_n 2, 1) := by decide +kernel
theorem dX9_joined_120 : decode cX9_joined 120 = .ok (.imul, 1) := by decide +kernel
theorem dX9_joined_121 : decode cX9_joined 121 = .ok (.ireturn, 1) := by decide +kernel
theorem dX9_push_0 : decode cX9_push 0 = .ok (.aload_n 0, 1) := by decide +kernel
theorem dX9_push_1 : decode cX9_push 1 = .ok (.getfield 29, 3) := by decide +kernel
theorem dX9_push_4 : decode cX9_push 4 = .ok (.aload_n 0, 1) := by decide +kernel
theorem dX9_push_5 : decode cX9_push 5 = .ok (.getfield 18, 3) := by decide +kernel
theorem dX9_push_8 : decode cX9_push 8 = .ok (.arraylength, 1) := by decide +kernel
theorem dX9_push_9 : decode cX9_push 9 = .ok (.if_icmp .ge 23, 3) := by decide +kernel
theorem dX9_push_12 : decode cX9_push 12 = .ok (.aload_n 0, 1) := by decide +kernel
theorem dX9_push_13 : decode cX9_push 13 = .ok (.getfield 18, 3) := by decide +kernel
theorem dX9_push_16 : decode cX9_push 16 = .ok (.aload_n 0, 1) := by decide +kernel
theorem dX9_push_17 : decode cX9_push 17 = .ok (.getfield 29, 3) := by decide +kernel
theorem dX9_push_20 : decode cX9_push 20 = .ok (.iload_n 1, 1) := by decide +kernel
theorem dX9_push_21 : decode cX9_push 21 = .ok (.iastore, 1) := by decide +kernel
theorem dX9_push_22 : decode cX9_push 22 = .ok (.aload_n 0, 1) := by decide +kernel
theorem dX9_push_23 : decode cX9_push 23 = .ok (.dup, 1) := by decide +kernel
theorem dX9_push_24 : decode cX9_push 24 = .ok (.getfield 29, 3) := by decide +kernel
theorem dX9_push_27 : decode cX9_push 27 = .ok (.iconst 1, 1) := by decide +kernel
theorem dX9_push_28 : decode cX9_push 28 = .ok (.iadd, 1) := by decide +kernel
theorem dX9_push_29 : decode cX9_push 29 = .ok (.putfield 29, 3) := by decide +kernel
theorem dX9_push_32 : decode cX9_push 32 = .ok (.return_, 1) := by decide +kernel
theorem dX9_pop_0 : decode cX9_pop 0 = .ok (.aload_n 0, 1) := by decide +kernel
theorem dX9_pop_1 : decode cX9_pop 1 = .ok (.getfield 29, 3) := by decide +kernel
theorem dX9_pop_4 : decode cX9_pop 4 = .ok (.ifCond .ne 5, 3) := by decide +kernel
theorem dX9_pop_7 : decode cX9_pop 7 = .ok (.iconst 0, 1) := by decide +kernel
theorem dX9_pop_8 : decode cX9_pop 8 = .ok (.ireturn, 1) := by decide +kernel
theorem dX9_pop_9 : decode cX9_pop 9 = .ok (.aload_n 0, 1) := by decide +kernel
theorem dX9_pop_10 : decode cX9_pop 10 = .ok (.dup, 1) := by decide +kernel
theorem dX9_pop_11 : decode cX9_pop 11 = .ok (.getfield 29, 3) := by decide +kernel
theorem dX9_pop_14 : decode cX9_pop 14 = .ok (.iconst 1, 1) := by decide +kernel
theorem dX9_pop_15 : decode cX9_pop 15 = .ok (.isub, 1) := by decide +kernel
theorem dX9_pop_16 : decode cX9_pop 16 = .ok (.putfield 29, 3) := by decide +kernel
theorem dX9_pop_19 : decode cX9_pop 19 = .ok (.aload_n 0, 1) := by decide +kernel
theorem dX9_pop_20 : decode cX9_pop 20 = .ok (.getfield 18, 3) := by decide +kernel
theorem dX9_pop_23 : decode cX9_pop 23 = .ok (.aload_n 0, 1) := by decide +kernel
theorem dX9_pop_24 : decode cX9_pop 24 = .ok (.getfield 29, 3) := by decide +kernel
theorem dX9_pop_27 : decode cX9_pop 27 = .ok (.iaload, 1) := by decide +kernel
theorem dX9_pop_28 : decode cX9_pop 28 = .ok (.ireturn, 1) := by decide +kernel
set_option maxRecDepth 20000 in
theorem ggX10_init_X2_init : GoodIn wsX10_init wsX2_init := goodIn_r _ [4, 5, 6, 7, 8, 9, 10, 11, 12, 13, 14, 15, 16, 17, 18, 19, 20, 21, 22, 23, 24, 25, 26, 27, 28, 29, 30, 31, 32, 33, 34, 35, 36, 37, 38, 39, 40, 41, 42, 43, 44, 45, 46, 47, 48, 49, 50, 51, 52, 53, 54, 55, 56, 57, 58, 59, 60, 61, 62, 63, 64, 65, 66, 67, 68, 69, 70, 71, 72, 73, 74, 75, 76, 77, 78, 79, 80, 81, 82, 83, 84, 85, 86, 87, 88, 89, 90, 91, 92, 93, 94] (by decide +kernel) (by decide +kernel)
set_option maxRecDepth 20000 in
theorem gX10_init_X2_init : GoodIn wsX10_init (wsX2_init) := ggX10_init_X2_init
theorem dX10_init_0 : decode cX10_init 0 = .ok (.aload_n 0, 1) := by decide +kernel
theorem dX10_init_1 : decode cX10_init 1 = .ok (.iload_n 1, 1) := by decide +kernel
theorem dX10_init_2 : decode cX10_init 2 = .ok (.iload_n 2, 1) := by decide +kernel
theorem dX10_init_3 : decode cX10_init 3 = .ok (.iload_n 3, 1) := by decide +kernel
theorem dX10_init_4 : decode cX10_init 4 = .ok (.iload 4, 2) := by decide +kernel
theorem dX10_init_6 : decode cX10_init 6 = .ok (.invokespecial 1, 3) := by decide +kernel
theorem dX10_init_9 : decode cX10_init 9 = .ok (.return_, 1) := by decide +kernel
set_option maxRecDepth 20000 in
theorem ggX10_way_X2_way : GoodIn wsX10_way wsX2_way := goodIn_r _ [6] (by decide +kernel) (by decide +kernel)
set_option maxRecDepth 20000 in
theorem gX10_way_X2_way_s7 : GoodIn wsX10_way (va_wsSU RX10 7 yX2_way wsX2_way) := goodIn_app (goodIn_of _ (by decide +kernel)) ggX10_way_X2_way
theorem dX10_way_0 : decode cX10_way 0 = .ok (.aload_n 0, 1) := by decide +kernel
theorem dX10_way_1 : decode cX10_way 1 = .ok (.invokespecial 7, 3) := by decide +kernel
theorem dX10_way_4 : decode cX10_way 4 = .ok (.ineg, 1) := by decide +kernel
theorem dX10_way_5 : decode cX10_way 5 = .ok (.ireturn, 1) := by decide +kernel
set_option maxRecDepth 20000 in
theorem ggX10_wrap_X2_wrap : GoodIn wsX10_wrap wsX2_wrap := goodIn_r _ [6, 7, 8, 9, 10, 11, 12, 13, 14, 15, 16, 17, 18, 19, 20, 21, 22, 23, 24, 25, 26, 27, 28, 29, 30, 31, 32, 33, 34, 35, 36, 37, 38, 39, 40, 41, 42, 43, 44, 45, 46, 47, 48, 49, 50, 51, 52, 53, 54, 55, 56, 57, 58, 59, 60, 61, 62, 63, 64, 65, 66, 67, 68, 69, 70, 71, 72, 73, 74, 75, 76, 77, 78, 79, 80, 81, 82, 83, 84, 85, 86, 87, 88, 89, 90, 91, 92, 93, 94, 95, 96, 97, 98, 99] (by decide +kernel) (by decide +kernel)
set_option maxRecDepth 20000 in
theorem gX10_wrap_X2_wrap_s11 : GoodIn wsX10_wrap (va_wsSU RX10 11 yX2_wrap wsX2_wrap) := goodIn_app (goodIn_of _ (by decide +kernel)) ggX10_wrap_X2_wrap
theorem dX10_wrap_0 : decode cX10_wrap 0 = .ok (.aload_n 0, 1) := by decide +kernel
theorem dX10_wrap_1 : decode cX10_wrap 1 = .ok (.invokespecial 11, 3) := by decide +kernel
theorem dX10_wrap_4 : decode cX10_wrap 4 = .ok (.iconst 2, 1) := by decide +kernel
theorem dX10_wrap_5 : decode cX10_wrap 5 = .ok (.idiv, 1) := by decide +kernel
theorem dX10_wrap_6 : decode cX10_wrap 6 = .ok (.ireturn, 1) := by decide +kernel
set_option maxRecDepth 20000 in
theorem ggX11_init_X6_init : GoodIn wsX11_init wsX6_init := goodIn_r _ [26, 27, 2, 3, 17, 28, 29, 30, 31, 32, 33, 34, 35, 36, 37, 38, 39, 40, 41, 42, 270, 271, 272, 273, 274, 275, 276, 277, 278, 279, 280, 281, 282, 283, 284, 285, 286, 287] (by decide +kernel) (by decide +kernel)
set_option maxRecDepth 20000 in
theorem gX11_init_X6_init_n9 : GoodIn wsX11_init (wsX6_init) := ggX11_init_X6_init
set_option maxRecDepth 20000 in
theorem ggX11_init_X7_init : GoodIn wsX11_init wsX7_init := goodIn_r _ [44, 45, 2, 3, 17, 46, 301, 302, 303, 304, 305, 306, 307] (by decide +kernel) (by decide +kernel)
set_option maxRecDepth 20000 in
theorem gX11_init_X7_init_n18 : GoodIn wsX11_init (wsX7_init) := ggX11_init_X7_init
set_option maxRecDepth 20000 in
theorem ggX11_init_X9_init : GoodIn wsX11_init wsX9_init := goodIn_r _ [48, 49, 2, 3, 17, 50, 51, 52, 308, 309, 310, 311, 312] (by decide +kernel) (by decide +kernel)
set_option maxRecDepth 20000 in
theorem gX11_init_X9_init_n29 : GoodIn wsX11_init (wsX9_init) := ggX11_init_X9_init
set_option maxRecDepth 20000 in
theorem ggX11_init_J0_length_8abf5 : GoodIn wsX11_init wsJ0_length_8abf5 := goodIn_r _ [57, 58, 59, 60, 61, 56, 62, 63, 64] (by decide +kernel) (by decide +kernel)
set_option maxRecDepth 20000 in
theorem gX11_init_J0_length_8abf5 : GoodIn wsX11_init (wsV RX11 32 RJ0 yJ0_length_8abf5 wsJ0_length_8abf5) := goodIn_app (goodIn_of _ (by decide +kernel)) ggX11_init_J0_length_8abf5
set_option maxRecDepth 20000 in
theorem ggX11_init_J0_charAt_5068e : GoodIn wsX11_init wsJ0_charAt_5068e := goodIn_r _ [68, 58, 69, 70, 71, 56, 72, 63, 64, 73, 74, 75, 76, 77, 78, 79, 80, 81, 82, 83, 84, 85, 86, 87, 88, 89, 90, 91, 92, 93, 94, 95, 96, 97, 98, 99, 100, 101] (by decide +kernel) (by decide +kernel)
set_option maxRecDepth 20000 in
theorem gX11_init_J0_charAt_5068e : GoodIn wsX11_init (wsV RX11 38 RJ0 yJ0_charAt_5068e wsJ0_charAt_5068e) := goodIn_app (goodIn_of _ (by decide +kernel)) ggX11_init_J0_charAt_5068e
set_option maxRecDepth 20000 in
theorem ggX11_init_X7_take : GoodIn wsX11_init wsX7_take := goodIn_r _ [105, 106, 46, 301, 302, 303, 304, 305, 306, 307] (by decide +kernel) (by decide +kernel)
set_option maxRecDepth 20000 in
theorem gX11_init_X7_take : GoodIn wsX11_init (wsV RX11 42 RX7 yX7_take wsX7_take) := goodIn_app (goodIn_of _ (by decide +kernel)) ggX11_init_X7_take
set_option maxRecDepth 20000 in
theorem ggX11_init_X7_readInto : GoodIn wsX11_init wsX7_readInto := goodIn_r _ [110, 111, 112, 113, 106, 114, 115, 116, 117, 15, 118, 119, 120, 121, 122, 10, 123, 46, 124, 125, 126, 127, 128, 129, 130, 131, 132, 133, 134, 135, 136, 137, 138, 139, 140, 141, 142, 143, 66, 67, 56, 68, 58, 69, 70, 71, 72, 63, 64, 73, 74, 75, 76, 77, 78, 79, 80, 81, 82, 83, 84, 85, 86, 87, 88, 89, 90, 91, 92, 93, 94, 95, 96, 97, 98, 99, 100, 101, 144, 145, 146, 147, 148, 149, 150, 151, 152, 54, 55, 57, 59, 60, 61, 62, 153, 154, 155, 156, 157, 158, 159, 160, 161, 162, 163, 164, 165, 166, 167, 168, 169, 170, 171, 172, 173, 174, 175, 176, 177, 178, 179, 180, 181, 182, 183, 184, 185, 186, 187, 188, 189, 190, 191, 192, 193, 194, 195, 196, 197, 198, 199, 200, 201, 202, 203, 204, 205, 206, 207, 208, 209, 210, 211, 212, 213, 214, 215, 216, 217, 218, 219, 220, 221, 222, 223, 50, 224, 225, 226, 227, 228, 229, 230, 231, 232, 233, 234, 235, 236, 237, 238, 239, 240, 241, 242, 243, 244, 245, 246, 247, 248, 249, 250, 251, 252, 253, 254, 255, 256, 257, 258, 259, 260, 261, 262, 263, 264, 51, 301, 302, 303, 304, 305, 306, 307, 308, 309, 310, 311, 312] (by decide +kernel) (by decide +kernel)
set_option maxRecDepth 20000 in
theorem gX11_init_X7_readInto : GoodIn wsX11_init (wsV RX11 46 RX7 yX7_readInto wsX7_readInto) := goodIn_app (goodIn_of _ (by decide +kernel)) ggX11_init_X7_readInto
set_option maxRecDepth 20000 in
theorem ggX11_init_X8_init : GoodIn wsX11_init wsX8_init := goodIn_r _ [266, 267, 2, 3, 268, 17, 269, 313, 314, 315] (by decide +kernel) (by decide +kernel)
set_option maxRecDepth 20000 in
theorem gX11_init_X8_init_n64 : GoodIn wsX11_init (wsX8_init) := ggX11_init_X8_init
theorem dX11_init_0 : decode cX11_init 0 = .ok (.aload_n 0, 1) := by decide +kernel
theorem dX11_init_1 : decode cX11_init 1 = .ok (.invokespecial 1, 3) := by decide +kernel
theorem dX11_init_4 : decode cX11_init 4 = .ok (.aload_n 0, 1) := by decide +kernel
theorem dX11_init_5 : decode cX11_init 5 = .ok (.new 7, 3) := by decide +kernel
theorem dX11_init_8 : decode cX11_init 8 = .ok (.dup, 1) := by decide +kernel
theorem dX11_init_9 : decode cX11_init 9 = .ok (.invokespecial 9, 3) := by decide +kernel
theorem dX11_init_12 : decode cX11_init 12 = .ok (.putfield 10, 3) := by decide +kernel
theorem dX11_init_15 : decode cX11_init 15 = .ok (.aload_n 0, 1) := by decide +kernel
theorem dX11_init_16 : decode cX11_init 16 = .ok (.new 16, 3) := by decide +kernel
theorem dX11_init_19 : decode cX11_init 19 = .ok (.dup, 1) := by decide +kernel
theorem dX11_init_20 : decode cX11_init 20 = .ok (.invokespecial 18, 3) := by decide +kernel
theorem dX11_init_23 : decode cX11_init 23 = .ok (.putfield 19, 3) := by decide +kernel
theorem dX11_init_26 : decode cX11_init 26 = .ok (.aload_n 0, 1) := by decide +kernel
theorem dX11_init_27 : decode cX11_init 27 = .ok (.bipush 6, 2) := by decide +kernel
theorem dX11_init_29 : decode cX11_init 29 = .ok (.anewarray 23, 3) := by decide +kernel
theorem dX11_init_32 : decode cX11_init 32 = .ok (.putfield 25, 3) := by decide +kernel
theorem dX11_init_35 : decode cX11_init 35 = .ok (.iconst 0, 1) := by decide +kernel
theorem dX11_init_36 : decode cX11_init 36 = .ok (.istore_n 1, 1) := by decide +kernel
theorem dX11_init_37 : decode cX11_init 37 = .ok (.iload_n 1, 1) := by decide +kernel
theorem dX11_init_38 : decode cX11_init 38 = .ok (.bipush 6, 2) := by decide +kernel
theorem dX11_init_40 : decode cX11_init 40 = .ok (.if_icmp .ge 22, 3) := by decide +kernel
theorem dX11_init_43 : decode cX11_init 43 = .ok (.aload_n 0, 1) := by decide +kernel
theorem dX11_init_44 : decode cX11_init 44 = .ok (.getfield 25, 3) := by decide +kernel
theorem dX11_init_47 : decode cX11_init 47 = .ok (.iload_n 1, 1) := by decide +kernel
theorem dX11_init_48 : decode cX11_init 48 = .ok (.new 23, 3) := by decide +kernel
theorem dX11_init_51 : decode cX11_init 51 = .ok (.dup, 1) := by decide +kernel
theorem dX11_init_52 : decode cX11_init 52 = .ok (.invokespecial 29, 3) := by decide +kernel
theorem dX11_init_55 : decode cX11_init 55 = .ok (.aastore, 1) := by decide +kernel
theorem dX11_init_56 : decode cX11_init 56 = .ok (.iinc 1 1, 3) := by decide +kernel
theorem dX11_init_59 : decode cX11_init 59 = .ok (.goto (-22), 3) := by decide +kernel
theorem dX11_init_62 : decode cX11_init 62 = .ok (.iconst 0, 1) := by decide +kernel
theorem dX11_init_63 : decode cX11_init 63 = .ok (.istore_n 1, 1) := by decide +kernel
theorem dX11_init_64 : decode cX11_init 64 = .ok (.iload_n 1, 1) := by decide +kernel
theorem dX11_init_65 : decode cX11_init 65 = .ok (.ldc 30, 2) := by decide +kernel
theorem dX11_init_67 : decode cX11_init 67 = .ok (.invokevirtual 32, 3) := by decide +kernel
theorem dX11_init_70 : decode cX11_init 70 = .ok (.if_icmp .ge 22, 3) := by decide +kernel
theorem dX11_init_73 : decode cX11_init 73 = .ok (.aload_n 0, 1) := by decide +kernel
theorem dX11_init_74 : decode cX11_init 74 = .ok (.getfield 19, 3) := by decide +kernel
theorem dX11_init_77 : decode cX11_init 77 = .ok (.ldc 30, 2) := by decide +kernel
theorem dX11_init_79 : decode cX11_init 79 = .ok (.iload_n 1, 1) := by decide +kernel
theorem dX11_init_80 : decode cX11_init 80 = .ok (.invokevirtual 38, 3) := by decide +kernel
theorem dX11_init_83 : decode cX11_init 83 = .ok (.invokevirtual 42, 3) := by decide +kernel
theorem dX11_init_86 : decode cX11_init 86 = .ok (.iinc 1 1, 3) := by decide +kernel
theorem dX11_init_89 : decode cX11_init 89 = .ok (.goto (-25), 3) := by decide +kernel
theorem dX11_init_92 : decode cX11_init 92 = .ok (.aload_n 0, 1) := by decide +kernel
theorem dX11_init_93 : decode cX11_init 93 = .ok (.getfield 19, 3) := by decide +kernel
theorem dX11_init_96 : decode cX11_init 96 = .ok (.aload_n 0, 1) := by decide +kernel
theorem dX11_init_97 : decode cX11_init 97 = .ok (.getfield 25, 3) := by decide +kernel
theorem dX11_init_100 : decode cX11_init 100 = .ok (.iconst 0, 1) := by decide +kernel
theorem dX11_init_101 : decode cX11_init 101 = .ok (.aaload, 1) := by decide +kernel
theorem dX11_init_102 : decode cX11_init 102 = .ok (.invokevirtual 46, 3) := by decide +kernel
theorem dX11_init_105 : decode cX11_init 105 = .ok (.pop, 1) := by decide +kernel
theorem dX11_init_106 : decode cX11_init 106 = .ok (.aload_n 0, 1) := by decide +kernel
theorem dX11_init_107 : decode cX11_init 107 = .ok (.iconst 1, 1) := by decide +kernel
theorem dX11_init_108 : decode cX11_init 108 = .ok (.putfield 50, 3) := by decide +kernel
theorem dX11_init_111 : decode cX11_init 111 = .ok (.aload_n 0, 1) := by decide +kernel
theorem dX11_init_112 : decode cX11_init 112 = .ok (.bipush 6, 2) := by decide +kernel
theorem dX11_init_114 : decode cX11_init 114 = .ok (.newarray .int, 2) := by decide +kernel
theorem dX11_init_116 : decode cX11_init 116 = .ok (.putfield 54, 3) := by decide +kernel
theorem dX11_init_119 : decode cX11_init 119 = .ok (.aload_n 0, 1) := by decide +kernel
theorem dX11_init_120 : decode cX11_init 120 = .ok (.iconst 4, 1) := by decide +kernel
theorem dX11_init_121 : decode cX11_init 121 = .ok (.anewarray 58, 3) := by decide +kernel
theorem dX11_init_124 : decode cX11_init 124 = .ok (.putfield 60, 3) := by decide +kernel
theorem dX11_init_127 : decode cX11_init 127 = .ok (.iconst 0, 1) := by decide +kernel
theorem dX11_init_128 : decode cX11_init 128 = .ok (.istore_n 1, 1) := by decide +kernel
theorem dX11_init_129 : decode cX11_init 129 = .ok (.iload_n 1, 1) := by decide +kernel
theorem dX11_init_130 : decode cX11_init 130 = .ok (.iconst 4, 1) := by decide +kernel
theorem dX11_init_131 : decode cX11_init 131 = .ok (.if_icmp .ge 22, 3) := by decide +kernel
theorem dX11_init_134 : decode cX11_init 134 = .ok (.aload_n 0, 1) := by decide +kernel
theorem dX11_init_135 : decode cX11_init 135 = .ok (.getfield 60, 3) := by decide +kernel
theorem dX11_init_138 : decode cX11_init 138 = .ok (.iload_n 1, 1) := by decide +kernel
theorem dX11_init_139 : decode cX11_init 139 = .ok (.new 58, 3) := by decide +kernel
theorem dX11_init_142 : decode cX11_init 142 = .ok (.dup, 1) := by decide +kernel
theorem dX11_init_143 : decode cX11_init 143 = .ok (.invokespecial 64, 3) := by decide +kernel
theorem dX11_init_146 : decode cX11_init 146 = .ok (.aastore, 1) := by decide +kernel
theorem dX11_init_147 : decode cX11_init 147 = .ok (.iinc 1 1, 3) := by decide +kernel
theorem dX11_init_150 : decode cX11_init 150 = .ok (.goto (-21), 3) := by decide +kernel
theorem dX11_init_153 : decode cX11_init 153 = .ok (.aload_n 0, 1) := by decide +kernel
theorem dX11_init_154 : decode cX11_init 154 = .ok (.iconst 4, 1) := by decide +kernel
theorem dX11_init_155 : decode cX11_init 155 = .ok (.newarray .int, 2) := by decide +kernel
theorem dX11_init_157 : decode cX11_init 157 = .ok (.putfield 65, 3) := by decide +kernel
theorem dX11_init_160 : decode cX11_init 160 = .ok (.aload_n 0, 1) := by decide +kernel
theorem dX11_init_161 : decode cX11_init 161 = .ok (.iconst 4, 1) := by decide +kernel
theorem dX11_init_162 : decode cX11_init 162 = .ok (.newarray .int, 2) := by decide +kernel
theorem dX11_init_164 : decode cX11_init 164 = .ok (.putfield 68, 3) := by decide +kernel
theorem dX11_init_167 : decode cX11_init 167 = .ok (.return_, 1) := by decide +kernel
set_option maxRecDepth 20000 in
theorem ggX11_shaft_X11_within : GoodIn wsX11_shaft wsX11_within := goodIn_r _ [6] (by decide +kernel) (by decide +kernel)
set_option maxRecDepth 20000 in
theorem gX11_shaft_X11_within : GoodIn wsX11_shaft (va_wsS RX11 71 yX11_within wsX11_within) := goodIn_app (goodIn_of _ (by decide +kernel)) ggX11_shaft_X11_within
set_option maxRecDepth 20000 in
theorem ggX11_shaft_X6_addShaft : GoodIn wsX11_shaft wsX6_addShaft := goodIn_r _ [11, 12, 13, 14, 15, 16, 30, 31, 32, 33, 34, 35, 36, 37, 38, 39, 40, 41, 42, 43, 44, 45, 46, 47] (by decide +kernel) (by decide +kernel)
set_option maxRecDepth 20000 in
theorem gX11_shaft_X6_addShaft : GoodIn wsX11_shaft (wsV RX11 78 RX6 yX6_addShaft wsX6_addShaft) := goodIn_app (goodIn_of _ (by decide +kernel)) ggX11_shaft_X6_addShaft
theorem dX11_shaft_0 : decode cX11_shaft 0 = .ok (.iload_n 1, 1) := by decide +kernel
theorem dX11_shaft_1 : decode cX11_shaft 1 = .ok (.iconst 0, 1) := by decide +kernel
theorem dX11_shaft_2 : decode cX11_shaft 2 = .ok (.bipush 99, 2) := by decide +kernel
theorem dX11_shaft_4 : decode cX11_shaft 4 = .ok (.invokestatic 71, 3) := by decide +kernel
theorem dX11_shaft_7 : decode cX11_shaft 7 = .ok (.ifCond .eq 14, 3) := by decide +kernel
theorem dX11_shaft_10 : decode cX11_shaft 10 = .ok (.iload_n 2, 1) := by decide +kernel
theorem dX11_shaft_11 : decode cX11_shaft 11 = .ok (.iconst 1, 1) := by decide +kernel
theorem dX11_shaft_12 : decode cX11_shaft 12 = .ok (.sipush 9999, 3) := by decide +kernel
theorem dX11_shaft_15 : decode cX11_shaft 15 = .ok (.invokestatic 71, 3) := by decide +kernel
theorem dX11_shaft_18 : decode cX11_shaft 18 = .ok (.ifCond .ne 6, 3) := by decide +kernel
theorem dX11_shaft_21 : decode cX11_shaft 21 = .ok (.bipush (-2), 2) := by decide +kernel
theorem dX11_shaft_23 : decode cX11_shaft 23 = .ok (.ireturn, 1) := by decide +kernel
theorem dX11_shaft_24 : decode cX11_shaft 24 = .ok (.aload_n 0, 1) := by decide +kernel
theorem dX11_shaft_25 : decode cX11_shaft 25 = .ok (.getfield 10, 3) := by decide +kernel
theorem dX11_shaft_28 : decode cX11_shaft 28 = .ok (.getfield 75, 3) := by decide +kernel
theorem dX11_shaft_31 : decode cX11_shaft 31 = .ok (.bipush 8, 2) := by decide +kernel
theorem dX11_shaft_33 : decode cX11_shaft 33 = .ok (.if_icmp .ne 8, 3) := by decide +kernel
theorem dX11_shaft_36 : decode cX11_shaft 36 = .ok (.bipush (-4), 2) := by decide +kernel
theorem dX11_shaft_38 : decode cX11_shaft 38 = .ok (.goto 12, 3) := by decide +kernel
theorem dX11_shaft_41 : decode cX11_shaft 41 = .ok (.aload_n 0, 1) := by decide +kernel
theorem dX11_shaft_42 : decode cX11_shaft 42 = .ok (.getfield 10, 3) := by decide +kernel
theorem dX11_shaft_45 : decode cX11_shaft 45 = .ok (.iload_n 1, 1) := by decide +kernel
theorem dX11_shaft_46 : decode cX11_shaft 46 = .ok (.iload_n 2, 1) := by decide +kernel
theorem dX11_shaft_47 : decode cX11_shaft 47 = .ok (.invokevirtual 78, 3) := by decide +kernel
theorem dX11_shaft_50 : decode cX11_shaft 50 = .ok (.ireturn, 1) := by decide +kernel
set_option maxRecDepth 20000 in
theorem ggX11_engine_X11_within : GoodIn wsX11_engine wsX11_within := goodIn_r _ [7] (by decide +kernel) (by decide +kernel)
set_option maxRecDepth 20000 in
theorem gX11_engine_X11_within : GoodIn wsX11_engine (va_wsS RX11 71 yX11_within wsX11_within) := goodIn_app (goodIn_of _ (by decide +kernel)) ggX11_engine_X11_within
theorem dX11_engine_0 : decode cX11_engine 0 = .ok (.iload_n 1, 1) := by decide +kernel
theorem dX11_engine_1 : decode cX11_engine 1 = .ok (.ifCond .ne 32, 3) := by decide +kernel
theorem dX11_engine_4 : decode cX11_engine 4 = .ok (.iload_n 2, 1) := by decide +kernel
theorem dX11_engine_5 : decode cX11_engine 5 = .ok (.iconst 1, 1) := by decide +kernel
theorem dX11_engine_6 : decode cX11_engine 6 = .ok (.sipush 999, 3) := by decide +kernel
theorem dX11_engine_9 : decode cX11_engine 9 = .ok (.invokestatic 71, 3) := by decide +kernel
theorem dX11_engine_12 : decode cX11_engine 12 = .ok (.ifCond .eq 21, 3) := by decide +kernel
theorem dX11_engine_15 : decode cX11_engine 15 = .ok (.aload_n 0, 1) := by decide +kernel
theorem dX11_engine_16 : decode cX11_engine 16 = .ok (.getfield 10, 3) := by decide +kernel
theorem dX11_engine_19 : decode cX11_engine 19 = .ok (.getfield 82, 3) := by decide +kernel
theorem dX11_engine_22 : decode cX11_engine 22 = .ok (.istore_n 3, 1) := by decide +kernel
theorem dX11_engine_23 : decode cX11_engine 23 = .ok (.aload_n 0, 1) := by decide +kernel
theorem dX11_engine_24 : decode cX11_engine 24 = .ok (.getfield 10, 3) := by decide +kernel
theorem dX11_engine_27 : decode cX11_engine 27 = .ok (.iload_n 2, 1) := by decide +kernel
theorem dX11_engine_28 : decode cX11_engine 28 = .ok (.putfield 82, 3) := by decide +kernel
theorem dX11_engine_31 : decode cX11_engine 31 = .ok (.iload_n 3, 1) := by decide +kernel
theorem dX11_engine_32 : decode cX11_engine 32 = .ok (.ireturn, 1) := by decide +kernel
theorem dX11_engine_33 : decode cX11_engine 33 = .ok (.iload_n 1, 1) := by decide +kernel
theorem dX11_engine_34 : decode cX11_engine 34 = .ok (.iconst 1, 1) := by decide +kernel
theorem dX11_engine_35 : decode cX11_engine 35 = .ok (.if_icmp .ne 32, 3) := by decide +kernel
theorem dX11_engine_38 : decode cX11_engine 38 = .ok (.iload_n 2, 1) := by decide +kernel
theorem dX11_engine_39 : decode cX11_engine 39 = .ok (.iconst 1, 1) := by decide +kernel
theorem dX11_engine_40 : decode cX11_engine 40 = .ok (.sipush 9999, 3) := by decide +kernel
theorem dX11_engine_43 : decode cX11_engine 43 = .ok (.invokestatic 71, 3) := by decide +kernel
theorem dX11_engine_46 : decode cX11_engine 46 = .ok (.ifCond .eq 21, 3) := by decide +kernel
theorem dX11_engine_49 : decode cX11_engine 49 = .ok (.aload_n 0, 1) := by decide +kernel
theorem dX11_engine_50 : decode cX11_engine 50 = .ok (.getfield 10, 3) := by decide +kernel
theorem dX11_engine_53 : decode cX11_engine 53 = .ok (.getfield 85, 3) := by decide +kernel
theorem dX11_engine_56 : decode cX11_engine 56 = .ok (.istore_n 3, 1) := by decide +kernel
theorem dX11_engine_57 : decode cX11_engine 57 = .ok (.aload_n 0, 1) := by decide +kernel
theorem dX11_engine_58 : decode cX11_engine 58 = .ok (.getfield 10, 3) := by decide +kernel
theorem dX11_engine_61 : decode cX11_engine 61 = .ok (.iload_n 2, 1) := by decide +kernel
theorem dX11_engine_62 : decode cX11_engine 62 = .ok (.putfield 85, 3) := by decide +kernel
theorem dX11_engine_65 : decode cX11_engine 65 = .ok (.iload_n 3, 1) := by decide +kernel
theorem dX11_engine_66 : decode cX11_engine 66 = .ok (.ireturn, 1) := by decide +kernel
theorem dX11_engine_67 : decode cX11_engine 67 = .ok (.bipush (-2), 2) := by decide +kernel
theorem dX11_engine_69 : decode cX11_engine 69 = .ok (.ireturn, 1) := by decide +kernel
set_option maxRecDepth 20000 in
theorem ggX11_machine_X11_isShaft : GoodIn wsX11_machine wsX11_isShaft := goodIn_r _ [12, 1, 13, 14, 15, 11, 16, 34, 35, 36, 37, 38, 39, 40, 41, 42, 43, 44, 45, 46, 47, 48, 49, 50, 51, 52, 53, 54, 55, 56, 57, 58, 59, 60, 61, 62, 63, 64] (by decide +kernel) (by decide +kernel)
set_option maxRecDepth 20000 in
theorem gX11_machine_X11_isShaft : GoodIn wsX11_machine (wsV RX11 88 RX11 yX11_isShaft wsX11_isShaft) := goodIn_app (goodIn_of _ (by decide +kernel)) ggX11_machine_X11_isShaft
set_option maxRecDepth 20000 in
theorem ggX11_machine_X11_within : GoodIn wsX11_machine wsX11_within := goodIn_r _ [16] (by decide +kernel) (by decide +kernel)
set_option maxRecDepth 20000 in
theorem gX11_machine_X11_within : GoodIn wsX11_machine (va_wsS RX11 71 yX11_within wsX11_within) := goodIn_app (goodIn_of _ (by decide +kernel)) ggX11_machine_X11_within
set_option maxRecDepth 20000 in
theorem ggX11_machine_X5_init : GoodIn wsX11_machine wsX5_init := goodIn_r _ [19, 20, 21, 22, 23, 24, 25, 26, 65, 66, 67, 68, 69, 70, 71, 72, 73] (by decide +kernel) (by decide +kernel)
set_option maxRecDepth 20000 in
theorem gX11_machine_X5_init : GoodIn wsX11_machine (wsX5_init) := ggX11_machine_X5_init
set_option maxRecDepth 20000 in
theorem ggX11_machine_X6_addMachine : GoodIn wsX11_machine wsX6_addMachine := goodIn_r _ [31, 32, 33, 47, 48, 49, 50, 51, 52, 53, 54, 55, 56, 57, 58, 59, 60, 61, 62, 63, 64] (by decide +kernel) (by decide +kernel)
set_option maxRecDepth 20000 in
theorem gX11_machine_X6_addMachine : GoodIn wsX11_machine (wsV RX11 106 RX6 yX6_addMachine wsX6_addMachine) := goodIn_app (goodIn_of _ (by decide +kernel)) ggX11_machine_X6_addMachine
theorem dX11_machine_0 : decode cX11_machine 0 = .ok (.iload_n 3, 1) := by decide +kernel
theorem dX11_machine_1 : decode cX11_machine 1 = .ok (.sipush 10000, 3) := by decide +kernel
theorem dX11_machine_4 : decode cX11_machine 4 = .ok (.idiv, 1) := by decide +kernel
theorem dX11_machine_5 : decode cX11_machine 5 = .ok (.istore 5, 2) := by decide +kernel
theorem dX11_machine_7 : decode cX11_machine 7 = .ok (.iload_n 3, 1) := by decide +kernel
theorem dX11_machine_8 : decode cX11_machine 8 = .ok (.sipush 10000, 3) := by decide +kernel
theorem dX11_machine_11 : decode cX11_machine 11 = .ok (.irem, 1) := by decide +kernel
theorem dX11_machine_12 : decode cX11_machine 12 = .ok (.istore 6, 2) := by decide +kernel
theorem dX11_machine_14 : decode cX11_machine 14 = .ok (.iload_n 3, 1) := by decide +kernel
theorem dX11_machine_15 : decode cX11_machine 15 = .ok (.ifCond .lt 18, 3) := by decide +kernel
theorem dX11_machine_18 : decode cX11_machine 18 = .ok (.iload 5, 2) := by decide +kernel
theorem dX11_machine_20 : decode cX11_machine 20 = .ok (.sipush 9999, 3) := by decide +kernel
theorem dX11_machine_23 : decode cX11_machine 23 = .ok (.if_icmp .gt 10, 3) := by decide +kernel
theorem dX11_machine_26 : decode cX11_machine 26 = .ok (.iload 6, 2) := by decide +kernel
theorem dX11_machine_28 : decode cX11_machine 28 = .ok (.iload 5, 2) := by decide +kernel
theorem dX11_machine_30 : decode cX11_machine 30 = .ok (.if_icmp .ge 6, 3) := by decide +kernel
theorem dX11_machine_33 : decode cX11_machine 33 = .ok (.bipush (-2), 2) := by decide +kernel
theorem dX11_machine_35 : decode cX11_machine 35 = .ok (.ireturn, 1) := by decide +kernel
theorem dX11_machine_36 : decode cX11_machine 36 = .ok (.aload_n 0, 1) := by decide +kernel
theorem dX11_machine_37 : decode cX11_machine 37 = .ok (.iload_n 1, 1) := by decide +kernel
theorem dX11_machine_38 : decode cX11_machine 38 = .ok (.invokevirtual 88, 3) := by decide +kernel
theorem dX11_machine_41 : decode cX11_machine 41 = .ok (.ifCond .eq 25, 3) := by decide +kernel
theorem dX11_machine_44 : decode cX11_machine 44 = .ok (.iload_n 2, 1) := by decide +kernel
theorem dX11_machine_45 : decode cX11_machine 45 = .ok (.iconst 0, 1) := by decide +kernel
theorem dX11_machine_46 : decode cX11_machine 46 = .ok (.sipush 999, 3) := by decide +kernel
theorem dX11_machine_49 : decode cX11_machine 49 = .ok (.invokestatic 71, 3) := by decide +kernel
theorem dX11_machine_52 : decode cX11_machine 52 = .ok (.ifCond .eq 14, 3) := by decide +kernel
theorem dX11_machine_55 : decode cX11_machine 55 = .ok (.iload 4, 2) := by decide +kernel
theorem dX11_machine_57 : decode cX11_machine 57 = .ok (.iconst 0, 1) := by decide +kernel
theorem dX11_machine_58 : decode cX11_machine 58 = .ok (.bipush 24, 2) := by decide +kernel
theorem dX11_machine_60 : decode cX11_machine 60 = .ok (.invokestatic 71, 3) := by decide +kernel
theorem dX11_machine_63 : decode cX11_machine 63 = .ok (.ifCond .ne 6, 3) := by decide +kernel
theorem dX11_machine_66 : decode cX11_machine 66 = .ok (.bipush (-2), 2) := by decide +kernel
theorem dX11_machine_68 : decode cX11_machine 68 = .ok (.ireturn, 1) := by decide +kernel
theorem dX11_machine_69 : decode cX11_machine 69 = .ok (.aload_n 0, 1) := by decide +kernel
theorem dX11_machine_70 : decode cX11_machine 70 = .ok (.getfield 10, 3) := by decide +kernel
theorem dX11_machine_73 : decode cX11_machine 73 = .ok (.getfield 92, 3) := by decide +kernel
theorem dX11_machine_76 : decode cX11_machine 76 = .ok (.bipush 10, 2) := by decide +kernel
theorem dX11_machine_78 : decode cX11_machine 78 = .ok (.if_icmp .ne 6, 3) := by decide +kernel
theorem dX11_machine_81 : decode cX11_machine 81 = .ok (.bipush (-4), 2) := by decide +kernel
theorem dX11_machine_83 : decode cX11_machine 83 = .ok (.ireturn, 1) := by decide +kernel
theorem dX11_machine_84 : decode cX11_machine 84 = .ok (.new 95, 3) := by decide +kernel
theorem dX11_machine_87 : decode cX11_machine 87 = .ok (.dup, 1) := by decide +kernel
theorem dX11_machine_88 : decode cX11_machine 88 = .ok (.iload_n 1, 1) := by decide +kernel
theorem dX11_machine_89 : decode cX11_machine 89 = .ok (.iload 5, 2) := by decide +kernel
theorem dX11_machine_91 : decode cX11_machine 91 = .ok (.iload 6, 2) := by decide +kernel
theorem dX11_machine_93 : decode cX11_machine 93 = .ok (.invokespecial 97, 3) := by decide +kernel
theorem dX11_machine_96 : decode cX11_machine 96 = .ok (.astore 7, 2) := by decide +kernel
theorem dX11_machine_98 : decode cX11_machine 98 = .ok (.aload 7, 2) := by decide +kernel
theorem dX11_machine_100 : decode cX11_machine 100 = .ok (.iload_n 2, 1) := by decide +kernel
theorem dX11_machine_101 : decode cX11_machine 101 = .ok (.putfield 100, 3) := by decide +kernel
theorem dX11_machine_104 : decode cX11_machine 104 = .ok (.aload 7, 2) := by decide +kernel
theorem dX11_machine_106 : decode cX11_machine 106 = .ok (.iload 4, 2) := by decide +kernel
theorem dX11_machine_108 : decode cX11_machine 108 = .ok (.putfield 103, 3) := by decide +kernel
theorem dX11_machine_111 : decode cX11_machine 111 = .ok (.aload_n 0, 1) := by decide +kernel
theorem dX11_machine_112 : decode cX11_machine 112 = .ok (.getfield 10, 3) := by decide +kernel
theorem dX11_machine_115 : decode cX11_machine 115 = .ok (.aload 7, 2) := by decide +kernel
theorem dX11_machine_117 : decode cX11_machine 117 = .ok (.invokevirtual 106, 3) := by decide +kernel
theorem dX11_machine_120 : decode cX11_machine 120 = .ok (.ireturn, 1) := by decide +kernel
set_option maxRecDepth 20000 in
theorem ggX11_set_X11_isMachine : GoodIn wsX11_set wsX11_isMachine := goodIn_r _ [10, 1, 11, 12, 13, 9, 14, 18, 19, 20, 21, 22, 23, 24, 25, 26, 27, 28, 29, 30, 31, 32, 33, 34, 35, 36, 37, 38, 39, 40, 41, 42, 43, 44, 45, 46, 47, 48] (by decide +kernel) (by decide +kernel)
set_option maxRecDepth 20000 in
theorem gX11_set_X11_isMachine : GoodIn wsX11_set (wsV RX11 110 RX11 yX11_isMachine wsX11_isMachine) := goodIn_app (goodIn_of _ (by decide +kernel)) ggX11_set_X11_isMachine
set_option maxRecDepth 20000 in
theorem ggX11_set_X11_within : GoodIn wsX11_set wsX11_within := goodIn_r _ [14] (by decide +kernel) (by decide +kernel)
set_option maxRecDepth 20000 in
theorem gX11_set_X11_within : GoodIn wsX11_set (va_wsS RX11 71 yX11_within wsX11_within) := goodIn_app (goodIn_of _ (by decide +kernel)) ggX11_set_X11_within
set_option maxRecDepth 20000 in
theorem ggX11_set_X11_asBit : GoodIn wsX11_set wsX11_asBit := goodIn_r _ [17] (by decide +kernel) (by decide +kernel)
set_option maxRecDepth 20000 in
theorem gX11_set_X11_asBit : GoodIn wsX11_set (va_wsS RX11 121 yX11_asBit wsX11_asBit) := goodIn_app (goodIn_of _ (by decide +kernel)) ggX11_set_X11_asBit
theorem dX11_set_0 : decode cX11_set 0 = .ok (.aload_n 0, 1) := by decide +kernel
theorem dX11_set_1 : decode cX11_set 1 = .ok (.iload_n 1, 1) := by decide +kernel
theorem dX11_set_2 : decode cX11_set 2 = .ok (.invokevirtual 110, 3) := by decide +kernel
theorem dX11_set_5 : decode cX11_set 5 = .ok (.ifCond .ne 6, 3) := by decide +kernel
theorem dX11_set_8 : decode cX11_set 8 = .ok (.bipush (-2), 2) := by decide +kernel
theorem dX11_set_10 : decode cX11_set 10 = .ok (.ireturn, 1) := by decide +kernel
theorem dX11_set_11 : decode cX11_set 11 = .ok (.aload_n 0, 1) := by decide +kernel
theorem dX11_set_12 : decode cX11_set 12 = .ok (.getfield 10, 3) := by decide +kernel
theorem dX11_set_15 : decode cX11_set 15 = .ok (.getfield 113, 3) := by decide +kernel
theorem dX11_set_18 : decode cX11_set 18 = .ok (.iload_n 1, 1) := by decide +kernel
theorem dX11_set_19 : decode cX11_set 19 = .ok (.aaload, 1) := by decide +kernel
theorem dX11_set_20 : decode cX11_set 20 = .ok (.astore 4, 2) := by decide +kernel
theorem dX11_set_22 : decode cX11_set 22 = .ok (.iload_n 2, 1) := by decide +kernel
theorem dX11_set_23 : decode cX11_set 23 = .ok (.ifCond .ne 30, 3) := by decide +kernel
theorem dX11_set_26 : decode cX11_set 26 = .ok (.iload_n 3, 1) := by decide +kernel
theorem dX11_set_27 : decode cX11_set 27 = .ok (.iconst 0, 1) := by decide +kernel
theorem dX11_set_28 : decode cX11_set 28 = .ok (.sipush 999, 3) := by decide +kernel
theorem dX11_set_31 : decode cX11_set 31 = .ok (.invokestatic 71, 3) := by decide +kernel
theorem dX11_set_34 : decode cX11_set 34 = .ok (.ifCond .eq 19, 3) := by decide +kernel
theorem dX11_set_37 : decode cX11_set 37 = .ok (.aload 4, 2) := by decide +kernel
theorem dX11_set_39 : decode cX11_set 39 = .ok (.getfield 100, 3) := by decide +kernel
theorem dX11_set_42 : decode cX11_set 42 = .ok (.istore 5, 2) := by decide +kernel
theorem dX11_set_44 : decode cX11_set 44 = .ok (.aload 4, 2) := by decide +kernel
theorem dX11_set_46 : decode cX11_set 46 = .ok (.iload_n 3, 1) := by decide +kernel
theorem dX11_set_47 : decode cX11_set 47 = .ok (.putfield 100, 3) := by decide +kernel
theorem dX11_set_50 : decode cX11_set 50 = .ok (.iload 5, 2) := by decide +kernel
theorem dX11_set_52 : decode cX11_set 52 = .ok (.ireturn, 1) := by decide +kernel
theorem dX11_set_53 : decode cX11_set 53 = .ok (.iload_n 2, 1) := by decide +kernel
theorem dX11_set_54 : decode cX11_set 54 = .ok (.iconst 1, 1) := by decide +kernel
theorem dX11_set_55 : decode cX11_set 55 = .ok (.if_icmp .ne 29, 3) := by decide +kernel
theorem dX11_set_58 : decode cX11_set 58 = .ok (.iload_n 3, 1) := by decide +kernel
theorem dX11_set_59 : decode cX11_set 59 = .ok (.iconst 0, 1) := by decide +kernel
theorem dX11_set_60 : decode cX11_set 60 = .ok (.bipush 24, 2) := by decide +kernel
theorem dX11_set_62 : decode cX11_set 62 = .ok (.invokestatic 71, 3) := by decide +kernel
theorem dX11_set_65 : decode cX11_set 65 = .ok (.ifCond .eq 19, 3) := by decide +kernel
theorem dX11_set_68 : decode cX11_set 68 = .ok (.aload 4, 2) := by decide +kernel
theorem dX11_set_70 : decode cX11_set 70 = .ok (.getfield 103, 3) := by decide +kernel
theorem dX11_set_73 : decode cX11_set 73 = .ok (.istore 5, 2) := by decide +kernel
theorem dX11_set_75 : decode cX11_set 75 = .ok (.aload 4, 2) := by decide +kernel
theorem dX11_set_77 : decode cX11_set 77 = .ok (.iload_n 3, 1) := by decide +kernel
theorem dX11_set_78 : decode cX11_set 78 = .ok (.putfield 103, 3) := by decide +kernel
theorem dX11_set_81 : decode cX11_set 81 = .ok (.iload 5, 2) := by decide +kernel
theorem dX11_set_83 : decode cX11_set 83 = .ok (.ireturn, 1) := by decide +kernel
theorem dX11_set_84 : decode cX11_set 84 = .ok (.iload_n 2, 1) := by decide +kernel
theorem dX11_set_85 : decode cX11_set 85 = .ok (.iconst 2, 1) := by decide +kernel
theorem dX11_set_86 : decode cX11_set 86 = .ok (.if_icmp .ne 40, 3) := by decide +kernel
theorem dX11_set_89 : decode cX11_set 89 = .ok (.iload_n 3, 1) := by decide +kernel
theorem dX11_set_90 : decode cX11_set 90 = .ok (.iconst 0, 1) := by decide +kernel
theorem dX11_set_91 : decode cX11_set 91 = .ok (.iconst 1, 1) := by decide +kernel
theorem dX11_set_92 : decode cX11_set 92 = .ok (.invokestatic 71, 3) := by decide +kernel
theorem dX11_set_95 : decode cX11_set 95 = .ok (.ifCond .eq 31, 3) := by decide +kernel
theorem dX11_set_98 : decode cX11_set 98 = .ok (.aload 4, 2) := by decide +kernel
theorem dX11_set_100 : decode cX11_set 100 = .ok (.getfield 117, 3) := by decide +kernel
theorem dX11_set_103 : decode cX11_set 103 = .ok (.invokestatic 121, 3) := by decide +kernel
theorem dX11_set_106 : decode cX11_set 106 = .ok (.istore 5, 2) := by decide +kernel
theorem dX11_set_108 : decode cX11_set 108 = .ok (.aload 4, 2) := by decide +kernel
theorem dX11_set_110 : decode cX11_set 110 = .ok (.iload_n 3, 1) := by decide +kernel
theorem dX11_set_111 : decode cX11_set 111 = .ok (.iconst 1, 1) := by decide +kernel
theorem dX11_set_112 : decode cX11_set 112 = .ok (.if_icmp .ne 7, 3) := by decide +kernel
theorem dX11_set_115 : decode cX11_set 115 = .ok (.iconst 1, 1) := by decide +kernel
theorem dX11_set_116 : decode cX11_set 116 = .ok (.goto 4, 3) := by decide +kernel
theorem dX11_set_119 : decode cX11_set 119 = .ok (.iconst 0, 1) := by decide +kernel
theorem dX11_set_120 : decode cX11_set 120 = .ok (.putfield 117, 3) := by decide +kernel
theorem dX11_set_123 : decode cX11_set 123 = .ok (.iload 5, 2) := by decide +kernel
theorem dX11_set_125 : decode cX11_set 125 = .ok (.ireturn, 1) := by decide +kernel
theorem dX11_set_126 : decode cX11_set 126 = .ok (.bipush (-2), 2) := by decide +kernel
theorem dX11_set_128 : decode cX11_set 128 = .ok (.ireturn, 1) := by decide +kernel
set_option maxRecDepth 20000 in
theorem ggX11_drum_X11_within : GoodIn wsX11_drum wsX11_within := goodIn_r _ [6] (by decide +kernel) (by decide +kernel)
set_option maxRecDepth 20000 in
theorem gX11_drum_X11_within : GoodIn wsX11_drum (va_wsS RX11 71 yX11_within wsX11_within) := goodIn_app (goodIn_of _ (by decide +kernel)) ggX11_drum_X11_within
set_option maxRecDepth 20000 in
theorem ggX11_drum_X6_addDrum : GoodIn wsX11_drum wsX6_addDrum := goodIn_r _ [11, 12, 13, 27, 28, 29, 30, 31, 32, 33, 34, 35, 36, 37, 38, 39, 40, 41, 42, 43, 44] (by decide +kernel) (by decide +kernel)
set_option maxRecDepth 20000 in
theorem gX11_drum_X6_addDrum : GoodIn wsX11_drum (wsV RX11 128 RX6 yX6_addDrum wsX6_addDrum) := goodIn_app (goodIn_of _ (by decide +kernel)) ggX11_drum_X6_addDrum
theorem dX11_drum_0 : decode cX11_drum 0 = .ok (.iload_n 1, 1) := by decide +kernel
theorem dX11_drum_1 : decode cX11_drum 1 = .ok (.iconst 1, 1) := by decide +kernel
theorem dX11_drum_2 : decode cX11_drum 2 = .ok (.bipush 99, 2) := by decide +kernel
theorem dX11_drum_4 : decode cX11_drum 4 = .ok (.invokestatic 71, 3) := by decide +kernel
theorem dX11_drum_7 : decode cX11_drum 7 = .ok (.ifCond .ne 6, 3) := by decide +kernel
theorem dX11_drum_10 : decode cX11_drum 10 = .ok (.bipush (-2), 2) := by decide +kernel
theorem dX11_drum_12 : decode cX11_drum 12 = .ok (.ireturn, 1) := by decide +kernel
theorem dX11_drum_13 : decode cX11_drum 13 = .ok (.aload_n 0, 1) := by decide +kernel
theorem dX11_drum_14 : decode cX11_drum 14 = .ok (.getfield 10, 3) := by decide +kernel
theorem dX11_drum_17 : decode cX11_drum 17 = .ok (.getfield 125, 3) := by decide +kernel
theorem dX11_drum_20 : decode cX11_drum 20 = .ok (.bipush 12, 2) := by decide +kernel
theorem dX11_drum_22 : decode cX11_drum 22 = .ok (.if_icmp .ne 8, 3) := by decide +kernel
theorem dX11_drum_25 : decode cX11_drum 25 = .ok (.bipush (-4), 2) := by decide +kernel
theorem dX11_drum_27 : decode cX11_drum 27 = .ok (.goto 11, 3) := by decide +kernel
theorem dX11_drum_30 : decode cX11_drum 30 = .ok (.aload_n 0, 1) := by decide +kernel
theorem dX11_drum_31 : decode cX11_drum 31 = .ok (.getfield 10, 3) := by decide +kernel
theorem dX11_drum_34 : decode cX11_drum 34 = .ok (.iload_n 1, 1) := by decide +kernel
theorem dX11_drum_35 : decode cX11_drum 35 = .ok (.invokevirtual 128, 3) := by decide +kernel
theorem dX11_drum_38 : decode cX11_drum 38 = .ok (.ireturn, 1) := by decide +kernel
set_option maxRecDepth 20000 in
theorem ggX11_belt_X11_isKind : GoodIn wsX11_belt wsX11_isKind := goodIn_r _ [7, 8, 9, 6, 10] (by decide +kernel) (by decide +kernel)
set_option maxRecDepth 20000 in
theorem gX11_belt_X11_isKind : GoodIn wsX11_belt (va_wsS RX11 132 yX11_isKind wsX11_isKind) := goodIn_app (goodIn_of _ (by decide +kernel)) ggX11_belt_X11_isKind
set_option maxRecDepth 20000 in
theorem ggX11_belt_X11_isShaft : GoodIn wsX11_belt wsX11_isShaft := goodIn_r _ [14, 1, 15, 8, 9, 6, 10, 101, 102, 103, 104, 105, 106, 107, 108, 109, 110, 111, 112, 113, 114, 115, 116, 117, 118, 119, 120, 121, 122, 123, 124, 125, 126, 127, 128, 129, 130, 131] (by decide +kernel) (by decide +kernel)
set_option maxRecDepth 20000 in
theorem gX11_belt_X11_isShaft : GoodIn wsX11_belt (wsV RX11 88 RX11 yX11_isShaft wsX11_isShaft) := goodIn_app (goodIn_of _ (by decide +kernel)) ggX11_belt_X11_isShaft
set_option maxRecDepth 20000 in
theorem ggX11_belt_X11_isDrum : GoodIn wsX11_belt wsX11_isDrum := goodIn_r _ [19, 1, 20, 8, 9, 6, 10, 101, 102, 103, 104, 105, 106, 107, 108, 109, 110, 111, 112, 113, 114, 115, 116, 117, 118, 119, 120, 121, 122, 123, 124, 125, 126, 127, 128, 129, 130, 131] (by decide +kernel) (by decide +kernel)
set_option maxRecDepth 20000 in
theorem gX11_belt_X11_isDrum : GoodIn wsX11_belt (wsV RX11 135 RX11 yX11_isDrum wsX11_isDrum) := goodIn_app (goodIn_of _ (by decide +kernel)) ggX11_belt_X11_isDrum
set_option maxRecDepth 20000 in
theorem ggX11_belt_X11_within : GoodIn wsX11_belt wsX11_within := goodIn_r _ [10] (by decide +kernel) (by decide +kernel)
set_option maxRecDepth 20000 in
theorem gX11_belt_X11_within : GoodIn wsX11_belt (va_wsS RX11 71 yX11_within wsX11_within) := goodIn_app (goodIn_of _ (by decide +kernel)) ggX11_belt_X11_within
set_option maxRecDepth 20000 in
theorem ggX11_belt_X6_drives : GoodIn wsX11_belt wsX6_drives := goodIn_r _ [25, 26, 27, 28, 114, 115, 116, 117, 118, 119, 120, 121, 122, 123, 124, 125, 126, 127, 128, 129, 130, 131, 132, 133, 134, 135, 136, 137, 138, 139, 140, 141, 142, 143, 144, 145, 146, 147, 148, 149, 150, 151, 152, 153, 154, 155, 156, 157, 158, 159, 160, 161, 162, 163, 164, 165, 166, 167, 168, 169, 170, 171, 172, 173, 174, 175, 176, 177, 178, 179, 180, 181, 182, 183, 184, 185, 186, 187, 188, 189, 190, 191, 192, 193, 194, 195, 196, 197, 198, 199, 200, 201, 202, 203, 204, 205, 206, 207, 208, 209] (by decide +kernel) (by decide +kernel)
set_option maxRecDepth 20000 in
theorem gX11_belt_X6_drives : GoodIn wsX11_belt (wsV RX11 141 RX6 yX6_drives wsX6_drives) := goodIn_app (goodIn_of _ (by decide +kernel)) ggX11_belt_X6_drives
set_option maxRecDepth 20000 in
theorem ggX11_belt_X11_newBelt : GoodIn wsX11_belt wsX11_newBelt := goodIn_r _ [31, 32, 33, 34, 35, 36, 37, 38, 39, 40, 41, 42, 43, 44, 45, 46, 47, 48, 49, 50, 51, 52, 53, 54, 55, 56, 57, 58, 59, 60, 61, 62, 63, 64, 65, 66, 67, 68, 69, 70, 71, 72, 73, 74, 75, 76, 77, 78, 79, 80, 158, 159, 160, 161, 162, 163, 164, 165, 166, 167, 168, 169, 170, 171, 172, 173, 174, 175, 176, 177, 178, 179, 180, 181, 182, 183, 145, 146, 147, 148, 149, 150, 151, 152, 153, 154, 155, 156, 157, 184, 185, 186, 187, 188, 189, 190, 191, 192, 193, 194, 195, 196, 197, 198, 199, 200, 201, 202, 203, 204, 205, 206, 207, 208, 209, 132, 133, 134, 135, 136, 137, 138, 139, 140, 141, 142, 143, 144] (by decide +kernel) (by decide +kernel)
set_option maxRecDepth 20000 in
theorem gX11_belt_X11_newBelt : GoodIn wsX11_belt (va_wsS RX11 148 yX11_newBelt wsX11_newBelt) := goodIn_app (goodIn_of _ (by decide +kernel)) ggX11_belt_X11_newBelt
set_option maxRecDepth 20000 in
theorem ggX11_belt_X6_putDrum : GoodIn wsX11_belt wsX6_putDrum := goodIn_r _ [84, 85, 86, 87, 88, 89, 132, 133, 134, 135, 136, 137, 138, 139, 140, 141, 142, 143, 144, 145, 146, 147, 148, 149, 150, 151, 152, 153, 154, 155, 156, 157, 158, 159, 160, 161, 162, 163, 164, 165, 166, 167, 168, 169, 170, 171, 172, 173, 174, 175, 176, 177, 178, 179, 180, 181, 182, 183, 184, 185, 186, 187, 188, 189, 190, 191, 192, 193, 194, 195, 196, 197, 198, 199, 200, 201, 202, 203, 204, 205, 206, 207, 208, 209, 114, 115, 116, 117, 118, 119, 120, 121, 122, 123, 124, 125, 126, 127, 128, 129, 130, 131] (by decide +kernel) (by decide +kernel)
set_option maxRecDepth 20000 in
theorem gX11_belt_X6_putDrum : GoodIn wsX11_belt (wsV RX11 152 RX6 yX6_putDrum wsX6_putDrum) := goodIn_app (goodIn_of _ (by decide +kernel)) ggX11_belt_X6_putDrum
set_option maxRecDepth 20000 in
theorem ggX11_belt_X6_addBelt : GoodIn wsX11_belt wsX6_addBelt := goodIn_r _ [93, 27, 94, 26, 95, 96, 97, 98, 24, 99, 28, 100, 114, 115, 116, 117, 118, 119, 120, 121, 122, 123, 124, 125, 126, 127, 128, 129, 130, 131, 132, 133, 134, 135, 136, 137, 138, 139, 140, 141, 142, 143, 144, 145, 146, 147, 148, 149, 150, 151, 152, 153, 154, 155, 156, 157, 158, 159, 160, 161, 162, 163, 164, 165, 166, 167, 168, 169, 170, 171, 172, 173, 174, 175, 176, 177, 178, 179, 180, 181, 182, 183, 184, 185, 186, 187, 188, 189, 190, 191, 192, 193, 194, 195, 196, 197, 198, 199, 200, 201, 202, 203, 204, 205, 206, 207, 208, 209] (by decide +kernel) (by decide +kernel)
set_option maxRecDepth 20000 in
theorem gX11_belt_X6_addBelt : GoodIn wsX11_belt (wsV RX11 156 RX6 yX6_addBelt wsX6_addBelt) := goodIn_app (goodIn_of _ (by decide +kernel)) ggX11_belt_X6_addBelt
theorem dX11_belt_0 : decode cX11_belt 0 = .ok (.iload_n 2, 1) := by decide +kernel
theorem dX11_belt_1 : decode cX11_belt 1 = .ok (.bipush 10, 2) := by decide +kernel
theorem dX11_belt_3 : decode cX11_belt 3 = .ok (.idiv, 1) := by decide +kernel
theorem dX11_belt_4 : decode cX11_belt 4 = .ok (.istore 5, 2) := by decide +kernel
theorem dX11_belt_6 : decode cX11_belt 6 = .ok (.iload_n 2, 1) := by decide +kernel
theorem dX11_belt_7 : decode cX11_belt 7 = .ok (.bipush 10, 2) := by decide +kernel
theorem dX11_belt_9 : decode cX11_belt 9 = .ok (.irem, 1) := by decide +kernel
theorem dX11_belt_10 : decode cX11_belt 10 = .ok (.istore 6, 2) := by decide +kernel
theorem dX11_belt_12 : decode cX11_belt 12 = .ok (.iload_n 3, 1) := by decide +kernel
theorem dX11_belt_13 : decode cX11_belt 13 = .ok (.bipush 100, 2) := by decide +kernel
theorem dX11_belt_15 : decode cX11_belt 15 = .ok (.idiv, 1) := by decide +kernel
theorem dX11_belt_16 : decode cX11_belt 16 = .ok (.istore 7, 2) := by decide +kernel
theorem dX11_belt_18 : decode cX11_belt 18 = .ok (.iload_n 3, 1) := by decide +kernel
theorem dX11_belt_19 : decode cX11_belt 19 = .ok (.bipush 100, 2) := by decide +kernel
theorem dX11_belt_21 : decode cX11_belt 21 = .ok (.irem, 1) := by decide +kernel
theorem dX11_belt_22 : decode cX11_belt 22 = .ok (.istore 8, 2) := by decide +kernel
theorem dX11_belt_24 : decode cX11_belt 24 = .ok (.iload_n 1, 1) := by decide +kernel
theorem dX11_belt_25 : decode cX11_belt 25 = .ok (.invokestatic 132, 3) := by decide +kernel
theorem dX11_belt_28 : decode cX11_belt 28 = .ok (.ifCond .eq 33, 3) := by decide +kernel
theorem dX11_belt_31 : decode cX11_belt 31 = .ok (.aload_n 0, 1) := by decide +kernel
theorem dX11_belt_32 : decode cX11_belt 32 = .ok (.iload 5, 2) := by decide +kernel
theorem dX11_belt_34 : decode cX11_belt 34 = .ok (.invokevirtual 88, 3) := by decide +kernel
theorem dX11_belt_37 : decode cX11_belt 37 = .ok (.ifCond .eq 24, 3) := by decide +kernel
theorem dX11_belt_40 : decode cX11_belt 40 = .ok (.aload_n 0, 1) := by decide +kernel
theorem dX11_belt_41 : decode cX11_belt 41 = .ok (.iload 6, 2) := by decide +kernel
theorem dX11_belt_43 : decode cX11_belt 43 = .ok (.invokevirtual 88, 3) := by decide +kernel
theorem dX11_belt_46 : decode cX11_belt 46 = .ok (.ifCond .eq 15, 3) := by decide +kernel
theorem dX11_belt_49 : decode cX11_belt 49 = .ok (.iload 6, 2) := by decide +kernel
theorem dX11_belt_51 : decode cX11_belt 51 = .ok (.ifCond .eq 10, 3) := by decide +kernel
theorem dX11_belt_54 : decode cX11_belt 54 = .ok (.iload 6, 2) := by decide +kernel
theorem dX11_belt_56 : decode cX11_belt 56 = .ok (.iload 5, 2) := by decide +kernel
theorem dX11_belt_58 : decode cX11_belt 58 = .ok (.if_icmp .ne 6, 3) := by decide +kernel
theorem dX11_belt_61 : decode cX11_belt 61 = .ok (.bipush (-2), 2) := by decide +kernel
theorem dX11_belt_63 : decode cX11_belt 63 = .ok (.ireturn, 1) := by decide +kernel
theorem dX11_belt_64 : decode cX11_belt 64 = .ok (.aload_n 0, 1) := by decide +kernel
theorem dX11_belt_65 : decode cX11_belt 65 = .ok (.iload 7, 2) := by decide +kernel
theorem dX11_belt_67 : decode cX11_belt 67 = .ok (.invokevirtual 135, 3) := by decide +kernel
theorem dX11_belt_70 : decode cX11_belt 70 = .ok (.ifCond .eq 31, 3) := by decide +kernel
theorem dX11_belt_73 : decode cX11_belt 73 = .ok (.aload_n 0, 1) := by decide +kernel
theorem dX11_belt_74 : decode cX11_belt 74 = .ok (.iload 8, 2) := by decide +kernel
theorem dX11_belt_76 : decode cX11_belt 76 = .ok (.invokevirtual 135, 3) := by decide +kernel
theorem dX11_belt_79 : decode cX11_belt 79 = .ok (.ifCond .eq 22, 3) := by decide +kernel
theorem dX11_belt_82 : decode cX11_belt 82 = .ok (.iload 7, 2) := by decide +kernel
theorem dX11_belt_84 : decode cX11_belt 84 = .ok (.iload 8, 2) := by decide +kernel
theorem dX11_belt_86 : decode cX11_belt 86 = .ok (.if_icmp .eq 15, 3) := by decide +kernel
theorem dX11_belt_89 : decode cX11_belt 89 = .ok (.iload 4, 2) := by decide +kernel
theorem dX11_belt_91 : decode cX11_belt 91 = .ok (.iconst 1, 1) := by decide +kernel
theorem dX11_belt_92 : decode cX11_belt 92 = .ok (.sipush 999, 3) := by decide +kernel
theorem dX11_belt_95 : decode cX11_belt 95 = .ok (.invokestatic 71, 3) := by decide +kernel
theorem dX11_belt_98 : decode cX11_belt 98 = .ok (.ifCond .ne 6, 3) := by decide +kernel
theorem dX11_belt_101 : decode cX11_belt 101 = .ok (.bipush (-2), 2) := by decide +kernel
theorem dX11_belt_103 : decode cX11_belt 103 = .ok (.ireturn, 1) := by decide +kernel
theorem dX11_belt_104 : decode cX11_belt 104 = .ok (.aload_n 0, 1) := by decide +kernel
theorem dX11_belt_105 : decode cX11_belt 105 = .ok (.getfield 10, 3) := by decide +kernel
theorem dX11_belt_108 : decode cX11_belt 108 = .ok (.getfield 138, 3) := by decide +kernel
theorem dX11_belt_111 : decode cX11_belt 111 = .ok (.iload 6, 2) := by decide +kernel
theorem dX11_belt_113 : decode cX11_belt 113 = .ok (.iaload, 1) := by decide +kernel
theorem dX11_belt_114 : decode cX11_belt 114 = .ok (.iconst (-1), 1) := by decide +kernel
theorem dX11_belt_115 : decode cX11_belt 115 = .ok (.if_icmp .ne 17, 3) := by decide +kernel
theorem dX11_belt_118 : decode cX11_belt 118 = .ok (.aload_n 0, 1) := by decide +kernel
theorem dX11_belt_119 : decode cX11_belt 119 = .ok (.getfield 10, 3) := by decide +kernel
theorem dX11_belt_122 : decode cX11_belt 122 = .ok (.iload 6, 2) := by decide +kernel
theorem dX11_belt_124 : decode cX11_belt 124 = .ok (.iload 5, 2) := by decide +kernel
theorem dX11_belt_126 : decode cX11_belt 126 = .ok (.invokevirtual 141, 3) := by decide +kernel
theorem dX11_belt_129 : decode cX11_belt 129 = .ok (.ifCond .eq 6, 3) := by decide +kernel
theorem dX11_belt_132 : decode cX11_belt 132 = .ok (.bipush (-3), 2) := by decide +kernel
theorem dX11_belt_134 : decode cX11_belt 134 = .ok (.ireturn, 1) := by decide +kernel
theorem dX11_belt_135 : decode cX11_belt 135 = .ok (.aload_n 0, 1) := by decide +kernel
theorem dX11_belt_136 : decode cX11_belt 136 = .ok (.getfield 10, 3) := by decide +kernel
theorem dX11_belt_139 : decode cX11_belt 139 = .ok (.getfield 145, 3) := by decide +kernel
theorem dX11_belt_142 : decode cX11_belt 142 = .ok (.bipush 7, 2) := by decide +kernel
theorem dX11_belt_144 : decode cX11_belt 144 = .ok (.if_icmp .ne 6, 3) := by decide +kernel
theorem dX11_belt_147 : decode cX11_belt 147 = .ok (.bipush (-4), 2) := by decide +kernel
theorem dX11_belt_149 : decode cX11_belt 149 = .ok (.ireturn, 1) := by decide +kernel
theorem dX11_belt_150 : decode cX11_belt 150 = .ok (.iload_n 1, 1) := by decide +kernel
theorem dX11_belt_151 : decode cX11_belt 151 = .ok (.iload 5, 2) := by decide +kernel
theorem dX11_belt_153 : decode cX11_belt 153 = .ok (.iload 6, 2) := by decide +kernel
theorem dX11_belt_155 : decode cX11_belt 155 = .ok (.iload 4, 2) := by decide +kernel
theorem dX11_belt_157 : decode cX11_belt 157 = .ok (.invokestatic 148, 3) := by decide +kernel
theorem dX11_belt_160 : decode cX11_belt 160 = .ok (.astore 9, 2) := by decide +kernel
theorem dX11_belt_162 : decode cX11_belt 162 = .ok (.aload_n 0, 1) := by decide +kernel
theorem dX11_belt_163 : decode cX11_belt 163 = .ok (.getfield 10, 3) := by decide +kernel
theorem dX11_belt_166 : decode cX11_belt 166 = .ok (.aload 9, 2) := by decide +kernel
theorem dX11_belt_168 : decode cX11_belt 168 = .ok (.iconst 0, 1) := by decide +kernel
theorem dX11_belt_169 : decode cX11_belt 169 = .ok (.iload 7, 2) := by decide +kernel
theorem dX11_belt_171 : decode cX11_belt 171 = .ok (.invokevirtual 152, 3) := by decide +kernel
theorem dX11_belt_174 : decode cX11_belt 174 = .ok (.aload_n 0, 1) := by decide +kernel
theorem dX11_belt_175 : decode cX11_belt 175 = .ok (.getfield 10, 3) := by decide +kernel
theorem dX11_belt_178 : decode cX11_belt 178 = .ok (.aload 9, 2) := by decide +kernel
theorem dX11_belt_180 : decode cX11_belt 180 = .ok (.iconst 1, 1) := by decide +kernel
theorem dX11_belt_181 : decode cX11_belt 181 = .ok (.iload 8, 2) := by decide +kernel
theorem dX11_belt_183 : decode cX11_belt 183 = .ok (.invokevirtual 152, 3) := by decide +kernel
theorem dX11_belt_186 : decode cX11_belt 186 = .ok (.aload_n 0, 1) := by decide +kernel
theorem dX11_belt_187 : decode cX11_belt 187 = .ok (.getfield 10, 3) := by decide +kernel
theorem dX11_belt_190 : decode cX11_belt 190 = .ok (.aload 9, 2) := by decide +kernel
theorem dX11_belt_192 : decode cX11_belt 192 = .ok (.invokevirtual 156, 3) := by decide +kernel
theorem dX11_belt_195 : decode cX11_belt 195 = .ok (.ireturn, 1) := by decide +kernel
set_option maxRecDepth 20000 in
theorem ggX11_throwsOn_X11_isBelt : GoodIn wsX11_throwsOn wsX11_isBelt := goodIn_r _ [8, 1, 9, 10, 11, 7, 12, 16, 17, 18, 19, 20, 21, 22, 23, 24, 25, 26, 27, 28, 29, 30, 31, 32, 33, 34, 35, 36, 37, 38, 39, 40, 41, 42, 43, 44, 45, 46] (by decide +kernel) (by decide +kernel)
set_option maxRecDepth 20000 in
theorem gX11_throwsOn_X11_isBelt : GoodIn wsX11_throwsOn (wsV RX11 160 RX11 yX11_isBelt wsX11_isBelt) := goodIn_app (goodIn_of _ (by decide +kernel)) ggX11_throwsOn_X11_isBelt
set_option maxRecDepth 20000 in
theorem ggX11_throwsOn_X11_within : GoodIn wsX11_throwsOn wsX11_within := goodIn_r _ [12] (by decide +kernel) (by decide +kernel)
set_option maxRecDepth 20000 in
theorem gX11_throwsOn_X11_within : GoodIn wsX11_throwsOn (va_wsS RX11 71 yX11_within wsX11_within) := goodIn_app (goodIn_of _ (by decide +kernel)) ggX11_throwsOn_X11_within
set_option maxRecDepth 20000 in
theorem ggX11_throwsOn_X11_asBit : GoodIn wsX11_throwsOn wsX11_asBit := goodIn_r _ [15] (by decide +kernel) (by decide +kernel)
set_option maxRecDepth 20000 in
theorem gX11_throwsOn_X11_asBit : GoodIn wsX11_throwsOn (va_wsS RX11 121 yX11_asBit wsX11_asBit) := goodIn_app (goodIn_of _ (by decide +kernel)) ggX11_throwsOn_X11_asBit
theorem dX11_throwsOn_0 : decode cX11_throwsOn 0 = .ok (.aload_n 0, 1) := by decide +kernel
theorem dX11_throwsOn_1 : decode cX11_throwsOn 1 = .ok (.iload_n 1, 1) := by decide +kernel
theorem dX11_throwsOn_2 : decode cX11_throwsOn 2 = .ok (.invokevirtual 160, 3) := by decide +kernel
theorem dX11_throwsOn_5 : decode cX11_throwsOn 5 = .ok (.ifCond .eq 12, 3) := by decide +kernel
theorem dX11_throwsOn_8 : decode cX11_throwsOn 8 = .ok (.iload_n 2, 1) := by decide +kernel
theorem dX11_throwsOn_9 : decode cX11_throwsOn 9 = .ok (.iconst 0, 1) := by decide +kernel
theorem dX11_throwsOn_10 : decode cX11_throwsOn 10 = .ok (.iconst 1, 1) := by decide +kernel
theorem dX11_throwsOn_11 : decode cX11_throwsOn 11 = .ok (.invokestatic 71, 3) := by decide +kernel
theorem dX11_throwsOn_14 : decode cX11_throwsOn 14 = .ok (.ifCond .ne 6, 3) := by decide +kernel
theorem dX11_throwsOn_17 : decode cX11_throwsOn 17 = .ok (.bipush (-2), 2) := by decide +kernel
theorem dX11_throwsOn_19 : decode cX11_throwsOn 19 = .ok (.ireturn, 1) := by decide +kernel
theorem dX11_throwsOn_20 : decode cX11_throwsOn 20 = .ok (.aload_n 0, 1) := by decide +kernel
theorem dX11_throwsOn_21 : decode cX11_throwsOn 21 = .ok (.getfield 10, 3) := by decide +kernel
theorem dX11_throwsOn_24 : decode cX11_throwsOn 24 = .ok (.getfield 163, 3) := by decide +kernel
theorem dX11_throwsOn_27 : decode cX11_throwsOn 27 = .ok (.iload_n 1, 1) := by decide +kernel
theorem dX11_throwsOn_28 : decode cX11_throwsOn 28 = .ok (.aaload, 1) := by decide +kernel
theorem dX11_throwsOn_29 : decode cX11_throwsOn 29 = .ok (.getfield 167, 3) := by decide +kernel
theorem dX11_throwsOn_32 : decode cX11_throwsOn 32 = .ok (.invokestatic 121, 3) := by decide +kernel
theorem dX11_throwsOn_35 : decode cX11_throwsOn 35 = .ok (.istore_n 3, 1) := by decide +kernel
theorem dX11_throwsOn_36 : decode cX11_throwsOn 36 = .ok (.aload_n 0, 1) := by decide +kernel
theorem dX11_throwsOn_37 : decode cX11_throwsOn 37 = .ok (.getfield 10, 3) := by decide +kernel
theorem dX11_throwsOn_40 : decode cX11_throwsOn 40 = .ok (.getfield 163, 3) := by decide +kernel
theorem dX11_throwsOn_43 : decode cX11_throwsOn 43 = .ok (.iload_n 1, 1) := by decide +kernel
theorem dX11_throwsOn_44 : decode cX11_throwsOn 44 = .ok (.aaload, 1) := by decide +kernel
theorem dX11_throwsOn_45 : decode cX11_throwsOn 45 = .ok (.iload_n 2, 1) := by decide +kernel
theorem dX11_throwsOn_46 : decode cX11_throwsOn 46 = .ok (.iconst 1, 1) := by decide +kernel
theorem dX11_throwsOn_47 : decode cX11_throwsOn 47 = .ok (.if_icmp .ne 7, 3) := by decide +kernel
theorem dX11_throwsOn_50 : decode cX11_throwsOn 50 = .ok (.iconst 1, 1) := by decide +kernel
theorem dX11_throwsOn_51 : decode cX11_throwsOn 51 = .ok (.goto 4, 3) := by decide +kernel
theorem dX11_throwsOn_54 : decode cX11_throwsOn 54 = .ok (.iconst 0, 1) := by decide +kernel
theorem dX11_throwsOn_55 : decode cX11_throwsOn 55 = .ok (.putfield 167, 3) := by decide +kernel
theorem dX11_throwsOn_58 : decode cX11_throwsOn 58 = .ok (.iload_n 3, 1) := by decide +kernel
theorem dX11_throwsOn_59 : decode cX11_throwsOn 59 = .ok (.ireturn, 1) := by decide +kernel
set_option maxRecDepth 20000 in
theorem ggX11_change_X11_isBelt : GoodIn wsX11_change wsX11_isBelt := goodIn_r _ [9, 1, 10, 11, 12, 8, 13, 29, 30, 31, 32, 33, 34, 35, 36, 37, 38, 39, 40, 41, 42, 43, 44, 45, 46, 47, 48, 49, 50, 51, 52, 53, 54, 55, 56, 57, 58, 59] (by decide +kernel) (by decide +kernel)
set_option maxRecDepth 20000 in
theorem gX11_change_X11_isBelt : GoodIn wsX11_change (wsV RX11 160 RX11 yX11_isBelt wsX11_isBelt) := goodIn_app (goodIn_of _ (by decide +kernel)) ggX11_change_X11_isBelt
set_option maxRecDepth 20000 in
theorem ggX11_change_X11_within : GoodIn wsX11_change wsX11_within := goodIn_r _ [13] (by decide +kernel) (by decide +kernel)
set_option maxRecDepth 20000 in
theorem gX11_change_X11_within : GoodIn wsX11_change (va_wsS RX11 71 yX11_within wsX11_within) := goodIn_app (goodIn_of _ (by decide +kernel)) ggX11_change_X11_within
set_option maxRecDepth 20000 in
theorem ggX11_change_X11_isDrum : GoodIn wsX11_change wsX11_isDrum := goodIn_r _ [17, 1, 18, 11, 12, 8, 13, 29, 30, 31, 32, 33, 34, 35, 36, 37, 38, 39, 40, 41, 42, 43, 44, 45, 46, 47, 48, 49, 50, 51, 52, 53, 54, 55, 56, 57, 58, 59] (by decide +kernel) (by decide +kernel)
set_option maxRecDepth 20000 in
theorem gX11_change_X11_isDrum : GoodIn wsX11_change (wsV RX11 135 RX11 yX11_isDrum wsX11_isDrum) := goodIn_app (goodIn_of _ (by decide +kernel)) ggX11_change_X11_isDrum
set_option maxRecDepth 20000 in
theorem ggX11_change_X6_putDrum : GoodIn wsX11_change wsX6_putDrum := goodIn_r _ [23, 24, 25, 26, 27, 28, 60, 61, 62, 63, 64, 65, 66, 67, 68, 69, 70, 71, 72, 73, 74, 75, 76, 77, 78, 79, 80, 81, 82, 83, 84, 85, 86, 87, 88, 89, 90, 91, 92, 93, 94, 95, 96, 97, 98, 99, 100, 101, 102, 103, 104, 105, 106, 107, 108, 109, 110, 111, 112, 113, 114, 115, 116, 117, 118, 119, 120, 121, 122, 123, 124, 125, 126, 127, 128, 129, 130, 131, 132, 133, 134, 135, 136, 137, 42, 43, 44, 45, 46, 47, 48, 49, 50, 51, 52, 53, 54, 55, 56, 57, 58, 59] (by decide +kernel) (by decide +kernel)
set_option maxRecDepth 20000 in
theorem gX11_change_X6_putDrum : GoodIn wsX11_change (wsV RX11 152 RX6 yX6_putDrum wsX6_putDrum) := goodIn_app (goodIn_of _ (by decide +kernel)) ggX11_change_X6_putDrum
theorem dX11_change_0 : decode cX11_change 0 = .ok (.aload_n 0, 1) := by decide +kernel
theorem dX11_change_1 : decode cX11_change 1 = .ok (.iload_n 1, 1) := by decide +kernel
theorem dX11_change_2 : decode cX11_change 2 = .ok (.invokevirtual 160, 3) := by decide +kernel
theorem dX11_change_5 : decode cX11_change 5 = .ok (.ifCond .eq 20, 3) := by decide +kernel
theorem dX11_change_8 : decode cX11_change 8 = .ok (.iload_n 2, 1) := by decide +kernel
theorem dX11_change_9 : decode cX11_change 9 = .ok (.iconst 0, 1) := by decide +kernel
theorem dX11_change_10 : decode cX11_change 10 = .ok (.iconst 1, 1) := by decide +kernel
theorem dX11_change_11 : decode cX11_change 11 = .ok (.invokestatic 71, 3) := by decide +kernel
theorem dX11_change_14 : decode cX11_change 14 = .ok (.ifCond .eq 11, 3) := by decide +kernel
theorem dX11_change_17 : decode cX11_change 17 = .ok (.aload_n 0, 1) := by decide +kernel
theorem dX11_change_18 : decode cX11_change 18 = .ok (.iload_n 3, 1) := by decide +kernel
theorem dX11_change_19 : decode cX11_change 19 = .ok (.invokevirtual 135, 3) := by decide +kernel
theorem dX11_change_22 : decode cX11_change 22 = .ok (.ifCond .ne 6, 3) := by decide +kernel
