theorem dX11_change_25 : decode cX11_change 25 = .ok (.bipush (-2), 2) := by decide +kernel
theorem dX11_change_27 : decode cX11_change 27 = .ok (.ireturn, 1) := by decide +kernel
theorem dX11_change_28 : decode cX11_change 28 = .ok (.aload_n 0, 1) := by decide +kernel
theorem dX11_change_29 : decode cX11_change 29 = .ok (.getfield 10, 3) := by decide +kernel
theorem dX11_change_32 : decode cX11_change 32 = .ok (.getfield 163, 3) := by decide +kernel
theorem dX11_change_35 : decode cX11_change 35 = .ok (.iload_n 1, 1) := by decide +kernel
theorem dX11_change_36 : decode cX11_change 36 = .ok (.aaload, 1) := by decide +kernel
theorem dX11_change_37 : decode cX11_change 37 = .ok (.astore 4, 2) := by decide +kernel
theorem dX11_change_39 : decode cX11_change 39 = .ok (.iload_n 2, 1) := by decide +kernel
theorem dX11_change_40 : decode cX11_change 40 = .ok (.ifCond .ne 11, 3) := by decide +kernel
theorem dX11_change_43 : decode cX11_change 43 = .ok (.aload 4, 2) := by decide +kernel
theorem dX11_change_45 : decode cX11_change 45 = .ok (.getfield 170, 3) := by decide +kernel
theorem dX11_change_48 : decode cX11_change 48 = .ok (.goto 8, 3) := by decide +kernel
theorem dX11_change_51 : decode cX11_change 51 = .ok (.aload 4, 2) := by decide +kernel
theorem dX11_change_53 : decode cX11_change 53 = .ok (.getfield 173, 3) := by decide +kernel
theorem dX11_change_56 : decode cX11_change 56 = .ok (.istore 5, 2) := by decide +kernel
theorem dX11_change_58 : decode cX11_change 58 = .ok (.iload_n 2, 1) := by decide +kernel
theorem dX11_change_59 : decode cX11_change 59 = .ok (.ifCond .ne 11, 3) := by decide +kernel
theorem dX11_change_62 : decode cX11_change 62 = .ok (.aload 4, 2) := by decide +kernel
theorem dX11_change_64 : decode cX11_change 64 = .ok (.getfield 173, 3) := by decide +kernel
theorem dX11_change_67 : decode cX11_change 67 = .ok (.goto 8, 3) := by decide +kernel
theorem dX11_change_70 : decode cX11_change 70 = .ok (.aload 4, 2) := by decide +kernel
theorem dX11_change_72 : decode cX11_change 72 = .ok (.getfield 170, 3) := by decide +kernel
theorem dX11_change_75 : decode cX11_change 75 = .ok (.istore 6, 2) := by decide +kernel
theorem dX11_change_77 : decode cX11_change 77 = .ok (.iload_n 3, 1) := by decide +kernel
theorem dX11_change_78 : decode cX11_change 78 = .ok (.iload 6, 2) := by decide +kernel
theorem dX11_change_80 : decode cX11_change 80 = .ok (.if_icmp .ne 6, 3) := by decide +kernel
theorem dX11_change_83 : decode cX11_change 83 = .ok (.bipush (-2), 2) := by decide +kernel
theorem dX11_change_85 : decode cX11_change 85 = .ok (.ireturn, 1) := by decide +kernel
theorem dX11_change_86 : decode cX11_change 86 = .ok (.aload_n 0, 1) := by decide +kernel
theorem dX11_change_87 : decode cX11_change 87 = .ok (.getfield 10, 3) := by decide +kernel
theorem dX11_change_90 : decode cX11_change 90 = .ok (.aload 4, 2) := by decide +kernel
theorem dX11_change_92 : decode cX11_change 92 = .ok (.iload_n 2, 1) := by decide +kernel
theorem dX11_change_93 : decode cX11_change 93 = .ok (.iload_n 3, 1) := by decide +kernel
theorem dX11_change_94 : decode cX11_change 94 = .ok (.invokevirtual 152, 3) := by decide +kernel
theorem dX11_change_97 : decode cX11_change 97 = .ok (.iload 5, 2) := by decide +kernel
theorem dX11_change_99 : decode cX11_change 99 = .ok (.ireturn, 1) := by decide +kernel
set_option maxRecDepth 20000 in
theorem ggX11_told_X11_isBelt : GoodIn wsX11_told wsX11_isBelt := goodIn_r _ [13, 1, 14, 15, 16, 12, 17, 261, 262, 263, 264, 265, 266, 267, 268, 269, 270, 271, 272, 273, 274, 275, 276, 277, 278, 279, 280, 281, 282, 283, 284, 285, 286, 287, 288, 289, 290, 291] (by decide +kernel) (by decide +kernel)
set_option maxRecDepth 20000 in
theorem gX11_told_X11_isBelt : GoodIn wsX11_told (wsV RX11 160 RX11 yX11_isBelt wsX11_isBelt) := goodIn_app (goodIn_of _ (by decide +kernel)) ggX11_told_X11_isBelt
set_option maxRecDepth 20000 in
theorem ggX11_told_X6_spin : GoodIn wsX11_told wsX6_spin := goodIn_r _ [22, 23, 24, 25, 26, 27, 28, 29, 30, 31, 32, 33, 34, 35, 36, 37, 38, 39, 40, 41, 42, 43, 44, 45, 46, 47, 48, 49, 50, 51, 52, 53, 54, 55, 56, 57, 58, 59, 60, 61, 62, 63, 64, 65, 66, 67, 68, 69, 70, 71, 72, 73, 74, 75, 76, 77, 78, 79, 80, 81, 82, 83, 84, 85, 274, 275, 276, 277, 278, 279, 280, 281, 282, 283, 284, 285, 286, 287, 288, 289, 290, 291, 292, 293, 294, 295, 296, 297, 298, 299, 300, 301, 302, 303, 304, 305, 306, 307, 308, 309, 310, 311, 312, 313, 314, 315, 316, 317, 318, 319, 320, 321, 322, 323, 324, 325, 326, 327, 328, 329, 330, 331, 332, 333, 334, 335, 336, 337, 338, 339, 340, 341, 342, 343, 344, 345, 346, 347, 348, 349, 350, 351, 352, 353, 354, 355, 356, 357, 358, 359, 360, 361, 362, 363, 364, 365, 366, 367, 368, 369] (by decide +kernel) (by decide +kernel)
set_option maxRecDepth 20000 in
theorem gX11_told_X6_spin : GoodIn wsX11_told (wsV RX11 176 RX6 yX6_spin wsX6_spin) := goodIn_app (goodIn_of _ (by decide +kernel)) ggX11_told_X6_spin
set_option maxRecDepth 20000 in
theorem ggX11_told_X11_asBit : GoodIn wsX11_told wsX11_asBit := goodIn_r _ [88] (by decide +kernel) (by decide +kernel)
set_option maxRecDepth 20000 in
theorem gX11_told_X11_asBit : GoodIn wsX11_told (va_wsS RX11 121 yX11_asBit wsX11_asBit) := goodIn_app (goodIn_of _ (by decide +kernel)) ggX11_told_X11_asBit
set_option maxRecDepth 20000 in
theorem ggX11_told_X0_way : GoodIn wsX11_told wsX0_way := goodIn_r _ [68] (by decide +kernel) (by decide +kernel)
set_option maxRecDepth 20000 in
theorem gX11_told_X0_way : GoodIn wsX11_told (wsV RX11 188 RX0 yX0_way wsX0_way) := goodIn_app (goodIn_of _ (by decide +kernel)) ggX11_told_X0_way
set_option maxRecDepth 20000 in
theorem gX11_told_X0_way_u188X1 : GoodIn wsX11_told (va_wsU RX11 188 RX1 "FortyBelts$Belt" ⟨"FortyBelts$Belt", "way", "()I"⟩ yX0_way wsX0_way) := goodIn_app (goodIn_of _ (by decide +kernel)) ggX11_told_X0_way
set_option maxRecDepth 20000 in
theorem ggX11_told_X2_way : GoodIn wsX11_told wsX2_way := goodIn_r _ [76] (by decide +kernel) (by decide +kernel)
set_option maxRecDepth 20000 in
theorem gX11_told_X2_way_u188X2 : GoodIn wsX11_told (va_wsO RX11 188 RX2 "FortyBelts$Belt" ⟨"FortyBelts$Belt", "way", "()I"⟩ yX2_way wsX2_way) := goodIn_app (goodIn_of _ (by decide +kernel)) ggX11_told_X2_way
set_option maxRecDepth 20000 in
theorem gX11_told_X0_way_u188X3 : GoodIn wsX11_told (va_wsU RX11 188 RX3 "FortyBelts$Belt" ⟨"FortyBelts$Belt", "way", "()I"⟩ yX0_way wsX0_way) := goodIn_app (goodIn_of _ (by decide +kernel)) ggX11_told_X0_way
set_option maxRecDepth 20000 in
theorem gX11_told_X0_way_u188X4 : GoodIn wsX11_told (va_wsU RX11 188 RX4 "FortyBelts$Belt" ⟨"FortyBelts$Belt", "way", "()I"⟩ yX0_way wsX0_way) := goodIn_app (goodIn_of _ (by decide +kernel)) ggX11_told_X0_way
set_option maxRecDepth 20000 in
theorem ggX11_told_X10_way : GoodIn wsX11_told wsX10_way := goodIn_r _ [82, 83, 84, 85, 74, 75, 76] (by decide +kernel) (by decide +kernel)
set_option maxRecDepth 20000 in
theorem gX11_told_X10_way_u188X10 : GoodIn wsX11_told (va_wsO RX11 188 RX10 "FortyBelts$Belt" ⟨"FortyBelts$Belt", "way", "()I"⟩ yX10_way wsX10_way) := goodIn_app (goodIn_of _ (by decide +kernel)) ggX11_told_X10_way
set_option maxRecDepth 20000 in
theorem ggX11_told_X0_wrap : GoodIn wsX11_told wsX0_wrap := goodIn_r _ [94, 57, 39, 95, 96, 97, 98, 99, 100, 101, 292, 293, 294, 295, 296, 297, 298, 299, 300, 301, 302, 303, 304, 305, 306, 307, 308, 309, 310, 311, 312, 313, 314, 315, 316, 317, 318, 319, 320, 321, 322, 323, 324, 325, 326, 327, 328, 329, 330, 331, 332, 333, 334, 335, 336, 337, 338, 339, 340, 341, 342, 343, 344, 345, 346, 347, 348, 349, 350, 351, 352, 353, 354, 355, 356, 357, 358, 359, 360, 361, 362, 363, 364, 365, 366, 367, 368, 369] (by decide +kernel) (by decide +kernel)
set_option maxRecDepth 20000 in
theorem gX11_told_X0_wrap : GoodIn wsX11_told (wsV RX11 191 RX0 yX0_wrap wsX0_wrap) := goodIn_app (goodIn_of _ (by decide +kernel)) ggX11_told_X0_wrap
set_option maxRecDepth 20000 in
theorem gX11_told_X0_wrap_u191X1 : GoodIn wsX11_told (va_wsU RX11 191 RX1 "FortyBelts$Belt" ⟨"FortyBelts$Belt", "wrap", "()I"⟩ yX0_wrap wsX0_wrap) := goodIn_app (goodIn_of _ (by decide +kernel)) ggX11_told_X0_wrap
set_option maxRecDepth 20000 in
theorem ggX11_told_X2_wrap : GoodIn wsX11_told wsX2_wrap := goodIn_r _ [108, 109, 103, 110, 92, 37, 94, 57, 39, 95, 96, 97, 98, 99, 100, 101, 292, 293, 294, 295, 296, 297, 298, 299, 300, 301, 302, 303, 304, 305, 306, 307, 308, 309, 310, 311, 312, 313, 314, 315, 316, 317, 318, 319, 320, 321, 322, 323, 324, 325, 326, 327, 328, 329, 330, 331, 332, 333, 334, 335, 336, 337, 338, 339, 340, 341, 342, 343, 344, 345, 346, 347, 348, 349, 350, 351, 352, 353, 354, 355, 356, 357, 358, 359, 360, 361, 362, 363, 364, 365, 366, 367, 368, 369] (by decide +kernel) (by decide +kernel)
set_option maxRecDepth 20000 in
theorem gX11_told_X2_wrap_u191X2 : GoodIn wsX11_told (va_wsO RX11 191 RX2 "FortyBelts$Belt" ⟨"FortyBelts$Belt", "wrap", "()I"⟩ yX2_wrap wsX2_wrap) := goodIn_app (goodIn_of _ (by decide +kernel)) ggX11_told_X2_wrap
set_option maxRecDepth 20000 in
theorem ggX11_told_X3_wrap : GoodIn wsX11_told wsX3_wrap := goodIn_r _ [114, 115, 103, 116, 92, 37, 94, 57, 39, 95, 96, 97, 98, 99, 100, 101, 292, 293, 294, 295, 296, 297, 298, 299, 300, 301, 302, 303, 304, 305, 306, 307, 308, 309, 310, 311, 312, 313, 314, 315, 316, 317, 318, 319, 320, 321, 322, 323, 324, 325, 326, 327, 328, 329, 330, 331, 332, 333, 334, 335, 336, 337, 338, 339, 340, 341, 342, 343, 344, 345, 346, 347, 348, 349, 350, 351, 352, 353, 354, 355, 356, 357, 358, 359, 360, 361, 362, 363, 364, 365, 366, 367, 368, 369] (by decide +kernel) (by decide +kernel)
set_option maxRecDepth 20000 in
theorem gX11_told_X3_wrap_u191X3 : GoodIn wsX11_told (va_wsO RX11 191 RX3 "FortyBelts$Belt" ⟨"FortyBelts$Belt", "wrap", "()I"⟩ yX3_wrap wsX3_wrap) := goodIn_app (goodIn_of _ (by decide +kernel)) ggX11_told_X3_wrap
set_option maxRecDepth 20000 in
theorem ggX11_told_X4_wrap : GoodIn wsX11_told wsX4_wrap := goodIn_r _ [120, 121, 122, 123, 112, 113, 114, 115, 103, 116, 92, 37, 94, 57, 39, 95, 96, 97, 98, 99, 100, 101, 292, 293, 294, 295, 296, 297, 298, 299, 300, 301, 302, 303, 304, 305, 306, 307, 308, 309, 310, 311, 312, 313, 314, 315, 316, 317, 318, 319, 320, 321, 322, 323, 324, 325, 326, 327, 328, 329, 330, 331, 332, 333, 334, 335, 336, 337, 338, 339, 340, 341, 342, 343, 344, 345, 346, 347, 348, 349, 350, 351, 352, 353, 354, 355, 356, 357, 358, 359, 360, 361, 362, 363, 364, 365, 366, 367, 368, 369] (by decide +kernel) (by decide +kernel)
set_option maxRecDepth 20000 in
theorem gX11_told_X4_wrap_u191X4 : GoodIn wsX11_told (va_wsO RX11 191 RX4 "FortyBelts$Belt" ⟨"FortyBelts$Belt", "wrap", "()I"⟩ yX4_wrap wsX4_wrap) := goodIn_app (goodIn_of _ (by decide +kernel)) ggX11_told_X4_wrap
set_option maxRecDepth 20000 in
theorem ggX11_told_X10_wrap : GoodIn wsX11_told wsX10_wrap := goodIn_r _ [126, 127, 128, 85, 107, 75, 108, 109, 103, 110, 92, 37, 94, 57, 39, 95, 96, 97, 98, 99, 100, 101, 292, 293, 294, 295, 296, 297, 298, 299, 300, 301, 302, 303, 304, 305, 306, 307, 308, 309, 310, 311, 312, 313, 314, 315, 316, 317, 318, 319, 320, 321, 322, 323, 324, 325, 326, 327, 328, 329, 330, 331, 332, 333, 334, 335, 336, 337, 338, 339, 340, 341, 342, 343, 344, 345, 346, 347, 348, 349, 350, 351, 352, 353, 354, 355, 356, 357, 358, 359, 360, 361, 362, 363, 364, 365, 366, 367, 368, 369] (by decide +kernel) (by decide +kernel)
set_option maxRecDepth 20000 in
theorem gX11_told_X10_wrap_u191X10 : GoodIn wsX11_told (va_wsO RX11 191 RX10 "FortyBelts$Belt" ⟨"FortyBelts$Belt", "wrap", "()I"⟩ yX10_wrap wsX10_wrap) := goodIn_app (goodIn_of _ (by decide +kernel)) ggX11_told_X10_wrap
set_option maxRecDepth 20000 in
theorem ggX11_told_X6_apart : GoodIn wsX11_told wsX6_apart := goodIn_r _ [132, 133, 33, 32, 134, 96, 97, 98, 274, 275, 276, 277, 278, 279, 280, 281, 282, 283, 284, 285, 286, 287, 288, 289, 290, 291, 292, 293, 294, 295, 296, 297, 298, 299, 300, 301, 302, 303, 304, 305, 306, 307, 308, 309, 310, 311, 312, 313, 314, 315, 316, 317, 318, 319, 320, 321, 322, 323, 324, 325, 326, 327, 328, 329, 330, 331, 332, 333, 334, 335, 336, 337, 338, 339, 340, 341, 342, 343, 344, 345, 346, 347, 348, 349, 350, 351, 352, 353, 354, 355, 356, 357, 358, 359, 360, 361, 362, 363, 364, 365, 366, 367, 368, 369] (by decide +kernel) (by decide +kernel)
set_option maxRecDepth 20000 in
theorem gX11_told_X6_apart : GoodIn wsX11_told (wsV RX11 194 RX6 yX6_apart wsX6_apart) := goodIn_app (goodIn_of _ (by decide +kernel)) ggX11_told_X6_apart
set_option maxRecDepth 20000 in
theorem ggX11_told_X0_length : GoodIn wsX11_told wsX0_length := goodIn_r _ [138, 139, 140, 141, 37, 142, 39, 57, 143, 144, 145, 146, 147, 148, 149, 292, 293, 294, 295, 296, 297, 298, 299, 300, 301, 302, 303, 304, 305, 306, 307, 308, 309, 310, 311, 312, 313, 314, 315, 316, 317, 318, 319, 320, 321, 322, 323, 324, 325, 326, 327, 328, 329, 330, 331, 332, 333, 334, 335, 336, 337, 338, 339, 340, 341, 342, 343, 344, 345, 346, 347, 348, 349, 350, 351, 352, 353, 354, 355, 356, 357, 358, 359, 360, 361, 362, 363, 364, 365, 366, 367, 368, 369] (by decide +kernel) (by decide +kernel)
set_option maxRecDepth 20000 in
theorem gX11_told_X0_length : GoodIn wsX11_told (wsV RX11 197 RX0 yX0_length wsX0_length) := goodIn_app (goodIn_of _ (by decide +kernel)) ggX11_told_X0_length
set_option maxRecDepth 20000 in
theorem gX11_told_X0_length_u197X1 : GoodIn wsX11_told (va_wsU RX11 197 RX1 "FortyBelts$Belt" ⟨"FortyBelts$Belt", "length", "(I)I"⟩ yX0_length wsX0_length) := goodIn_app (goodIn_of _ (by decide +kernel)) ggX11_told_X0_length
set_option maxRecDepth 20000 in
theorem ggX11_told_X2_length : GoodIn wsX11_told wsX2_length := goodIn_r _ [156, 157, 158, 159, 160, 161, 162, 163, 140, 37, 142, 39, 57, 164, 292, 293, 294, 295, 296, 297, 298, 299, 300, 301, 302, 303, 304, 305, 306, 307, 308, 309, 310, 311, 312, 313, 314, 315, 316, 317, 318, 319, 320, 321, 322, 323, 324, 325, 326, 327, 328, 329, 330, 331, 332, 333, 334, 335, 336, 337, 338, 339, 340, 341, 342, 343, 344, 345, 346, 347, 348, 349, 350, 351, 352, 353, 354, 355, 356, 357, 358, 359, 360, 361, 362, 363, 364, 365, 366, 367, 368, 369] (by decide +kernel) (by decide +kernel)
set_option maxRecDepth 20000 in
theorem gX11_told_X2_length_u197X2 : GoodIn wsX11_told (va_wsO RX11 197 RX2 "FortyBelts$Belt" ⟨"FortyBelts$Belt", "length", "(I)I"⟩ yX2_length wsX2_length) := goodIn_app (goodIn_of _ (by decide +kernel)) ggX11_told_X2_length
set_option maxRecDepth 20000 in
theorem ggX11_told_X3_length : GoodIn wsX11_told wsX3_length := goodIn_r _ [167, 168, 169, 170, 140, 37, 142, 39, 57, 171, 292, 293, 294, 295, 296, 297, 298, 299, 300, 301, 302, 303, 304, 305, 306, 307, 308, 309, 310, 311, 312, 313, 314, 315, 316, 317, 318, 319, 320, 321, 322, 323, 324, 325, 326, 327, 328, 329, 330, 331, 332, 333, 334, 335, 336, 337, 338, 339, 340, 341, 342, 343, 344, 345, 346, 347, 348, 349, 350, 351, 352, 353, 354, 355, 356, 357, 358, 359, 360, 361, 362, 363, 364, 365, 366, 367, 368, 369] (by decide +kernel) (by decide +kernel)
set_option maxRecDepth 20000 in
theorem gX11_told_X3_length_u197X3 : GoodIn wsX11_told (va_wsO RX11 197 RX3 "FortyBelts$Belt" ⟨"FortyBelts$Belt", "length", "(I)I"⟩ yX3_length wsX3_length) := goodIn_app (goodIn_of _ (by decide +kernel)) ggX11_told_X3_length
set_option maxRecDepth 20000 in
theorem ggX11_told_X4_length : GoodIn wsX11_told wsX4_length := goodIn_r _ [174, 175, 176, 177, 140, 37, 142, 39, 57, 292, 293, 294, 295, 296, 297, 298, 299, 300, 301, 302, 303, 304, 305, 306, 307, 308, 309, 310, 311, 312, 313, 314, 315, 316, 317, 318, 319, 320, 321, 322, 323, 324, 325, 326, 327, 328, 329, 330, 331, 332, 333, 334, 335, 336, 337, 338, 339, 340, 341, 342, 343, 344, 345, 346, 347, 348, 349, 350, 351, 352, 353, 354, 355, 356, 357, 358, 359, 360, 361, 362, 363, 364, 365, 366, 367, 368, 369] (by decide +kernel) (by decide +kernel)
set_option maxRecDepth 20000 in
theorem gX11_told_X4_length_u197X4 : GoodIn wsX11_told (va_wsO RX11 197 RX4 "FortyBelts$Belt" ⟨"FortyBelts$Belt", "length", "(I)I"⟩ yX4_length wsX4_length) := goodIn_app (goodIn_of _ (by decide +kernel)) ggX11_told_X4_length
set_option maxRecDepth 20000 in
theorem gX11_told_X2_length_u197X10 : GoodIn wsX11_told (va_wsO RX11 197 RX10 "FortyBelts$Belt" ⟨"FortyBelts$Belt", "length", "(I)I"⟩ yX2_length wsX2_length) := goodIn_app (goodIn_of _ (by decide +kernel)) ggX11_told_X2_length
set_option maxRecDepth 20000 in
theorem ggX11_told_X6_pull : GoodIn wsX11_told wsX6_pull := goodIn_r _ [182, 31, 32, 183, 184, 185, 21, 186, 28, 29, 30, 33, 187, 188, 189, 190, 191, 192, 193, 194, 195, 196, 197, 198, 199, 200, 201, 202, 203, 204, 205, 24, 25, 206, 207, 97, 208, 292, 293, 294, 295, 296, 297, 298, 299, 300, 301, 302, 303, 304, 305, 306, 307, 308, 309, 310, 311, 312, 313, 314, 315, 316, 317, 318, 319, 320, 321, 322, 323, 324, 325, 326, 327, 328, 329, 330, 331, 332, 333, 334, 335, 336, 337, 338, 339, 340, 341, 342, 343, 344, 345, 346, 347, 348, 349, 350, 351, 352, 353, 354, 355, 356, 357, 358, 359, 360, 361, 362, 363, 364, 365, 366, 367, 368, 369, 274, 275, 276, 277, 278, 279, 280, 281, 282, 283, 284, 285, 286, 287, 288, 289, 290, 291, 370, 371, 372, 373, 374, 375, 376, 377, 378] (by decide +kernel) (by decide +kernel)
set_option maxRecDepth 20000 in
theorem gX11_told_X6_pull : GoodIn wsX11_told (wsV RX11 199 RX6 yX6_pull wsX6_pull) := goodIn_app (goodIn_of _ (by decide +kernel)) ggX11_told_X6_pull
set_option maxRecDepth 20000 in
theorem ggX11_told_X6_slips : GoodIn wsX11_told wsX6_slips := goodIn_r _ [212, 213, 214, 180, 181, 21, 182, 31, 32, 183, 184, 185, 186, 28, 29, 30, 33, 187, 188, 189, 190, 191, 192, 193, 194, 195, 196, 197, 198, 199, 200, 201, 202, 203, 204, 205, 24, 25, 206, 207, 97, 208, 215, 92, 93, 37, 94, 57, 39, 95, 96, 98, 99, 100, 101, 216, 103, 104, 105, 106, 107, 75, 108, 109, 110, 111, 112, 113, 114, 115, 116, 117, 118, 119, 120, 121, 122, 123, 124, 125, 81, 126, 127, 128, 85, 292, 293, 294, 295, 296, 297, 298, 299, 300, 301, 302, 303, 304, 305, 306, 307, 308, 309, 310, 311, 312, 313, 314, 315, 316, 317, 318, 319, 320, 321, 322, 323, 324, 325, 326, 327, 328, 329, 330, 331, 332, 333, 334, 335, 336, 337, 338, 339, 340, 341, 342, 343, 344, 345, 346, 347, 348, 349, 350, 351, 352, 353, 354, 355, 356, 357, 358, 359, 360, 361, 362, 363, 364, 365, 366, 367, 368, 369, 274, 275, 276, 277, 278, 279, 280, 281, 282, 283, 284, 285, 286, 287, 288, 289, 290, 291, 370, 371, 372, 373, 374, 375, 376, 377, 378] (by decide +kernel) (by decide +kernel)
set_option maxRecDepth 20000 in
theorem gX11_told_X6_slips : GoodIn wsX11_told (wsV RX11 202 RX6 yX6_slips wsX6_slips) := goodIn_app (goodIn_of _ (by decide +kernel)) ggX11_told_X6_slips
set_option maxRecDepth 20000 in
theorem ggX11_told_X11_wear : GoodIn wsX11_told wsX11_wear := goodIn_r _ [220, 221, 3, 1, 4, 222, 223, 224, 225, 226, 227, 97, 228, 229, 100, 101, 230, 202, 203, 21, 204, 205, 24, 25, 206, 207, 208, 91, 92, 93, 37, 94, 57, 39, 95, 96, 98, 99, 102, 103, 104, 105, 106, 107, 75, 108, 109, 110, 111, 112, 113, 114, 115, 116, 117, 118, 119, 120, 121, 122, 123, 124, 125, 81, 126, 127, 128, 85, 179, 180, 181, 182, 31, 32, 183, 184, 185, 186, 28, 29, 30, 33, 187, 188, 189, 190, 191, 192, 193, 194, 195, 196, 197, 198, 199, 200, 201, 231, 232, 233, 234, 235, 236, 237, 238, 239, 240, 241, 242, 243, 244, 245, 246, 247, 248, 249, 250, 251, 252, 253, 254, 255, 256, 257, 258, 259, 260, 261, 262, 263, 264, 265, 266, 267, 268, 269, 270, 271, 272, 273, 292, 293, 294, 295, 296, 297, 298, 299, 300, 301, 302, 303, 304, 305, 306, 307, 308, 309, 310, 311, 312, 313, 314, 315, 316, 317, 318, 319, 320, 321, 322, 323, 324, 325, 326, 327, 328, 329, 330, 331, 332, 333, 334, 335, 336, 337, 338, 339, 340, 341, 342, 343, 344, 345, 346, 347, 348, 349, 350, 351, 352, 353, 354, 355, 356, 357, 358, 359, 360, 361, 362, 363, 364, 365, 366, 367, 368, 369, 274, 275, 276, 277, 278, 279, 280, 281, 282, 283, 284, 285, 286, 287, 288, 289, 290, 291, 370, 371, 372, 373, 374, 375, 376, 377, 378, 379, 380, 381, 382, 383] (by decide +kernel) (by decide +kernel)
set_option maxRecDepth 20000 in
theorem gX11_told_X11_wear : GoodIn wsX11_told (wsV RX11 206 RX11 yX11_wear wsX11_wear) := goodIn_app (goodIn_of _ (by decide +kernel)) ggX11_told_X11_wear
theorem dX11_told_0 : decode cX11_told 0 = .ok (.aload_n 0, 1) := by decide +kernel
theorem dX11_told_1 : decode cX11_told 1 = .ok (.iload_n 1, 1) := by decide +kernel
theorem dX11_told_2 : decode cX11_told 2 = .ok (.invokevirtual 160, 3) := by decide +kernel
theorem dX11_told_5 : decode cX11_told 5 = .ok (.ifCond .ne 6, 3) := by decide +kernel
theorem dX11_told_8 : decode cX11_told 8 = .ok (.bipush (-5), 2) := by decide +kernel
theorem dX11_told_10 : decode cX11_told 10 = .ok (.ireturn, 1) := by decide +kernel
theorem dX11_told_11 : decode cX11_told 11 = .ok (.aload_n 0, 1) := by decide +kernel
theorem dX11_told_12 : decode cX11_told 12 = .ok (.getfield 10, 3) := by decide +kernel
theorem dX11_told_15 : decode cX11_told 15 = .ok (.invokevirtual 176, 3) := by decide +kernel
theorem dX11_told_18 : decode cX11_told 18 = .ok (.aload_n 0, 1) := by decide +kernel
theorem dX11_told_19 : decode cX11_told 19 = .ok (.getfield 10, 3) := by decide +kernel
theorem dX11_told_22 : decode cX11_told 22 = .ok (.getfield 163, 3) := by decide +kernel
theorem dX11_told_25 : decode cX11_told 25 = .ok (.iload_n 1, 1) := by decide +kernel
theorem dX11_told_26 : decode cX11_told 26 = .ok (.aaload, 1) := by decide +kernel
theorem dX11_told_27 : decode cX11_told 27 = .ok (.astore_n 3, 1) := by decide +kernel
theorem dX11_told_28 : decode cX11_told 28 = .ok (.iload_n 2, 1) := by decide +kernel
theorem dX11_told_29 : decode cX11_told 29 = .ok (.tableswitch 146 0 11 #[63, 68, 73, 78, 83, 88, 96, 101, 106, 119, 128, 140], 63) := by decide +kernel
theorem dX11_told_92 : decode cX11_told 92 = .ok (.aload_n 3, 1) := by decide +kernel
theorem dX11_told_93 : decode cX11_told 93 = .ok (.getfield 179, 3) := by decide +kernel
theorem dX11_told_96 : decode cX11_told 96 = .ok (.ireturn, 1) := by decide +kernel
theorem dX11_told_97 : decode cX11_told 97 = .ok (.aload_n 3, 1) := by decide +kernel
theorem dX11_told_98 : decode cX11_told 98 = .ok (.getfield 182, 3) := by decide +kernel
theorem dX11_told_101 : decode cX11_told 101 = .ok (.ireturn, 1) := by decide +kernel
theorem dX11_told_102 : decode cX11_told 102 = .ok (.aload_n 3, 1) := by decide +kernel
theorem dX11_told_103 : decode cX11_told 103 = .ok (.getfield 185, 3) := by decide +kernel
theorem dX11_told_106 : decode cX11_told 106 = .ok (.ireturn, 1) := by decide +kernel
theorem dX11_told_107 : decode cX11_told 107 = .ok (.aload_n 3, 1) := by decide +kernel
theorem dX11_told_108 : decode cX11_told 108 = .ok (.getfield 170, 3) := by decide +kernel
theorem dX11_told_111 : decode cX11_told 111 = .ok (.ireturn, 1) := by decide +kernel
theorem dX11_told_112 : decode cX11_told 112 = .ok (.aload_n 3, 1) := by decide +kernel
theorem dX11_told_113 : decode cX11_told 113 = .ok (.getfield 173, 3) := by decide +kernel
theorem dX11_told_116 : decode cX11_told 116 = .ok (.ireturn, 1) := by decide +kernel
theorem dX11_told_117 : decode cX11_told 117 = .ok (.aload_n 3, 1) := by decide +kernel
theorem dX11_told_118 : decode cX11_told 118 = .ok (.getfield 167, 3) := by decide +kernel
theorem dX11_told_121 : decode cX11_told 121 = .ok (.invokestatic 121, 3) := by decide +kernel
theorem dX11_told_124 : decode cX11_told 124 = .ok (.ireturn, 1) := by decide +kernel
theorem dX11_told_125 : decode cX11_told 125 = .ok (.aload_n 3, 1) := by decide +kernel
theorem dX11_told_126 : decode cX11_told 126 = .ok (.invokevirtual 188, 3) := by decide +kernel
theorem dX11_told_129 : decode cX11_told 129 = .ok (.ireturn, 1) := by decide +kernel
theorem dX11_told_130 : decode cX11_told 130 = .ok (.aload_n 3, 1) := by decide +kernel
theorem dX11_told_131 : decode cX11_told 131 = .ok (.invokevirtual 191, 3) := by decide +kernel
theorem dX11_told_134 : decode cX11_told 134 = .ok (.ireturn, 1) := by decide +kernel
theorem dX11_told_135 : decode cX11_told 135 = .ok (.aload_n 3, 1) := by decide +kernel
theorem dX11_told_136 : decode cX11_told 136 = .ok (.aload_n 0, 1) := by decide +kernel
theorem dX11_told_137 : decode cX11_told 137 = .ok (.getfield 10, 3) := by decide +kernel
theorem dX11_told_140 : decode cX11_told 140 = .ok (.aload_n 3, 1) := by decide +kernel
theorem dX11_told_141 : decode cX11_told 141 = .ok (.invokevirtual 194, 3) := by decide +kernel
theorem dX11_told_144 : decode cX11_told 144 = .ok (.invokevirtual 197, 3) := by decide +kernel
theorem dX11_told_147 : decode cX11_told 147 = .ok (.ireturn, 1) := by decide +kernel
theorem dX11_told_148 : decode cX11_told 148 = .ok (.aload_n 0, 1) := by decide +kernel
theorem dX11_told_149 : decode cX11_told 149 = .ok (.getfield 10, 3) := by decide +kernel
theorem dX11_told_152 : decode cX11_told 152 = .ok (.aload_n 3, 1) := by decide +kernel
theorem dX11_told_153 : decode cX11_told 153 = .ok (.invokevirtual 199, 3) := by decide +kernel
theorem dX11_told_156 : decode cX11_told 156 = .ok (.ireturn, 1) := by decide +kernel
theorem dX11_told_157 : decode cX11_told 157 = .ok (.aload_n 0, 1) := by decide +kernel
theorem dX11_told_158 : decode cX11_told 158 = .ok (.getfield 10, 3) := by decide +kernel
theorem dX11_told_161 : decode cX11_told 161 = .ok (.aload_n 3, 1) := by decide +kernel
theorem dX11_told_162 : decode cX11_told 162 = .ok (.invokevirtual 202, 3) := by decide +kernel
theorem dX11_told_165 : decode cX11_told 165 = .ok (.invokestatic 121, 3) := by decide +kernel
theorem dX11_told_168 : decode cX11_told 168 = .ok (.ireturn, 1) := by decide +kernel
theorem dX11_told_169 : decode cX11_told 169 = .ok (.aload_n 0, 1) := by decide +kernel
theorem dX11_told_170 : decode cX11_told 170 = .ok (.aload_n 3, 1) := by decide +kernel
theorem dX11_told_171 : decode cX11_told 171 = .ok (.invokevirtual 206, 3) := by decide +kernel
theorem dX11_told_174 : decode cX11_told 174 = .ok (.ireturn, 1) := by decide +kernel
theorem dX11_told_175 : decode cX11_told 175 = .ok (.bipush (-5), 2) := by decide +kernel
theorem dX11_told_177 : decode cX11_told 177 = .ok (.ireturn, 1) := by decide +kernel
set_option maxRecDepth 20000 in
theorem ggX11_turns_X11_isShaft : GoodIn wsX11_turns wsX11_isShaft := goodIn_r _ [10, 2, 11, 12, 13, 9, 14, 131, 132, 133, 134, 135, 136, 137, 138, 139, 140, 141, 142, 143, 144, 145, 146, 147, 148, 149, 150, 151, 152, 153, 154, 155, 156, 157, 158, 159, 160, 161] (by decide +kernel) (by decide +kernel)
set_option maxRecDepth 20000 in
theorem gX11_turns_X11_isShaft : GoodIn wsX11_turns (wsV RX11 88 RX11 yX11_isShaft wsX11_isShaft) := goodIn_app (goodIn_of _ (by decide +kernel)) ggX11_turns_X11_isShaft
set_option maxRecDepth 20000 in
theorem ggX11_turns_X6_spin : GoodIn wsX11_turns wsX6_spin := goodIn_r _ [19, 20, 21, 22, 23, 24, 25, 26, 27, 28, 29, 30, 31, 32, 33, 34, 35, 36, 37, 38, 39, 40, 41, 42, 43, 44, 45, 46, 47, 48, 49, 50, 51, 52, 53, 54, 55, 56, 57, 58, 59, 60, 61, 62, 63, 64, 65, 66, 67, 68, 69, 70, 71, 72, 73, 74, 75, 76, 77, 78, 79, 80, 81, 82, 144, 145, 146, 147, 148, 149, 150, 151, 152, 153, 154, 155, 156, 157, 158, 159, 160, 161, 162, 163, 164, 165, 166, 167, 168, 169, 170, 171, 172, 173, 174, 175, 176, 177, 178, 179, 180, 181, 182, 183, 184, 185, 186, 187, 188, 189, 190, 191, 192, 193, 194, 195, 196, 197, 198, 199, 200, 201, 202, 203, 204, 205, 206, 207, 208, 209, 210, 211, 212, 213, 214, 215, 216, 217, 218, 219, 220, 221, 222, 223, 224, 225, 226, 227, 228, 229, 230, 231, 232, 233, 234, 235, 236, 237, 238, 239] (by decide +kernel) (by decide +kernel)
set_option maxRecDepth 20000 in
theorem gX11_turns_X6_spin : GoodIn wsX11_turns (wsV RX11 176 RX6 yX6_spin wsX6_spin) := goodIn_app (goodIn_of _ (by decide +kernel)) ggX11_turns_X6_spin
set_option maxRecDepth 20000 in
theorem ggX11_turns_X6_commonDivisor : GoodIn wsX11_turns wsX6_commonDivisor := goodIn_r _ [86, 21, 22, 144, 145, 146, 147, 148, 149, 150, 151, 152, 153, 154, 155, 156, 157, 158, 159, 160, 161] (by decide +kernel) (by decide +kernel)
set_option maxRecDepth 20000 in
theorem gX11_turns_X6_commonDivisor : GoodIn wsX11_turns (wsV RX11 211 RX6 yX6_commonDivisor wsX6_commonDivisor) := goodIn_app (goodIn_of _ (by decide +kernel)) ggX11_turns_X6_commonDivisor
set_option maxRecDepth 20000 in
theorem ggX11_turns_X6_pulls : GoodIn wsX11_turns wsX6_pulls := goodIn_r _ [90, 25, 26, 30, 29, 91, 92, 93, 18, 94, 28, 95, 96, 97, 98, 27, 99, 100, 101, 102, 103, 104, 105, 106, 107, 108, 109, 110, 111, 112, 113, 114, 115, 116, 117, 21, 22, 118, 119, 120, 121, 144, 145, 146, 147, 148, 149, 150, 151, 152, 153, 154, 155, 156, 157, 158, 159, 160, 161, 162, 163, 164, 165, 166, 167, 168, 169, 170, 171, 172, 173, 174, 175, 176, 177, 178, 179, 180, 181, 182, 183, 184, 185, 186, 187, 188, 189, 190, 191, 192, 193, 194, 195, 196, 197, 198, 199, 200, 201, 202, 203, 204, 205, 206, 207, 208, 209, 210, 211, 212, 213, 214, 215, 216, 217, 218, 219, 220, 221, 222, 223, 224, 225, 226, 227, 228, 229, 230, 231, 232, 233, 234, 235, 236, 237, 238, 239, 240, 241, 242, 243, 244, 245, 246, 247, 248] (by decide +kernel) (by decide +kernel)
set_option maxRecDepth 20000 in
theorem gX11_turns_X6_pulls : GoodIn wsX11_turns (wsV RX11 225 RX6 yX6_pulls wsX6_pulls) := goodIn_app (goodIn_of _ (by decide +kernel)) ggX11_turns_X6_pulls
set_option maxRecDepth 20000 in
theorem ggX11_turns_X6_isBent : GoodIn wsX11_turns wsX6_isBent := goodIn_r _ [125, 126, 127, 88, 89, 18, 90, 25, 26, 30, 29, 91, 92, 93, 94, 28, 95, 96, 97, 98, 27, 99, 100, 101, 102, 103, 104, 105, 106, 107, 108, 109, 110, 111, 112, 113, 114, 115, 116, 117, 21, 22, 118, 119, 120, 121, 144, 145, 146, 147, 148, 149, 150, 151, 152, 153, 154, 155, 156, 157, 158, 159, 160, 161, 162, 163, 164, 165, 166, 167, 168, 169, 170, 171, 172, 173, 174, 175, 176, 177, 178, 179, 180, 181, 182, 183, 184, 185, 186, 187, 188, 189, 190, 191, 192, 193, 194, 195, 196, 197, 198, 199, 200, 201, 202, 203, 204, 205, 206, 207, 208, 209, 210, 211, 212, 213, 214, 215, 216, 217, 218, 219, 220, 221, 222, 223, 224, 225, 226, 227, 228, 229, 230, 231, 232, 233, 234, 235, 236, 237, 238, 239, 240, 241, 242, 243, 244, 245, 246, 247, 248] (by decide +kernel) (by decide +kernel)
set_option maxRecDepth 20000 in
theorem gX11_turns_X6_isBent : GoodIn wsX11_turns (wsV RX11 228 RX6 yX6_isBent wsX6_isBent) := goodIn_app (goodIn_of _ (by decide +kernel)) ggX11_turns_X6_isBent
set_option maxRecDepth 20000 in
theorem ggX11_turns_X11_asBit : GoodIn wsX11_turns wsX11_asBit := goodIn_r _ [130] (by decide +kernel) (by decide +kernel)
set_option maxRecDepth 20000 in
theorem gX11_turns_X11_asBit : GoodIn wsX11_turns (va_wsS RX11 121 yX11_asBit wsX11_asBit) := goodIn_app (goodIn_of _ (by decide +kernel)) ggX11_turns_X11_asBit
theorem dX11_turns_0 : decode cX11_turns 0 = .ok (.aload_n 0, 1) := by decide +kernel
theorem dX11_turns_1 : decode cX11_turns 1 = .ok (.iload_n 1, 1) := by decide +kernel
theorem dX11_turns_2 : decode cX11_turns 2 = .ok (.invokevirtual 88, 3) := by decide +kernel
theorem dX11_turns_5 : decode cX11_turns 5 = .ok (.ifCond .ne 7, 3) := by decide +kernel
theorem dX11_turns_8 : decode cX11_turns 8 = .ok (.ldc2_w 209, 3) := by decide +kernel
theorem dX11_turns_11 : decode cX11_turns 11 = .ok (.lreturn, 1) := by decide +kernel
theorem dX11_turns_12 : decode cX11_turns 12 = .ok (.aload_n 0, 1) := by decide +kernel
theorem dX11_turns_13 : decode cX11_turns 13 = .ok (.getfield 10, 3) := by decide +kernel
theorem dX11_turns_16 : decode cX11_turns 16 = .ok (.invokevirtual 176, 3) := by decide +kernel
theorem dX11_turns_19 : decode cX11_turns 19 = .ok (.aload_n 0, 1) := by decide +kernel
theorem dX11_turns_20 : decode cX11_turns 20 = .ok (.getfield 10, 3) := by decide +kernel
theorem dX11_turns_23 : decode cX11_turns 23 = .ok (.iload_n 1, 1) := by decide +kernel
theorem dX11_turns_24 : decode cX11_turns 24 = .ok (.invokevirtual 211, 3) := by decide +kernel
theorem dX11_turns_27 : decode cX11_turns 27 = .ok (.lstore_n 3, 1) := by decide +kernel
theorem dX11_turns_28 : decode cX11_turns 28 = .ok (.iload_n 2, 1) := by decide +kernel
theorem dX11_turns_29 : decode cX11_turns 29 = .ok (.tableswitch 93 0 4 #[35, 47, 59, 70, 80], 35) := by decide +kernel
theorem dX11_turns_64 : decode cX11_turns 64 = .ok (.aload_n 0, 1) := by decide +kernel
theorem dX11_turns_65 : decode cX11_turns 65 = .ok (.getfield 10, 3) := by decide +kernel
theorem dX11_turns_68 : decode cX11_turns 68 = .ok (.getfield 215, 3) := by decide +kernel
theorem dX11_turns_71 : decode cX11_turns 71 = .ok (.iload_n 1, 1) := by decide +kernel
theorem dX11_turns_72 : decode cX11_turns 72 = .ok (.laload, 1) := by decide +kernel
theorem dX11_turns_73 : decode cX11_turns 73 = .ok (.lload_n 3, 1) := by decide +kernel
theorem dX11_turns_74 : decode cX11_turns 74 = .ok (.ldiv, 1) := by decide +kernel
theorem dX11_turns_75 : decode cX11_turns 75 = .ok (.lreturn, 1) := by decide +kernel
theorem dX11_turns_76 : decode cX11_turns 76 = .ok (.aload_n 0, 1) := by decide +kernel
theorem dX11_turns_77 : decode cX11_turns 77 = .ok (.getfield 10, 3) := by decide +kernel
theorem dX11_turns_80 : decode cX11_turns 80 = .ok (.getfield 219, 3) := by decide +kernel
theorem dX11_turns_83 : decode cX11_turns 83 = .ok (.iload_n 1, 1) := by decide +kernel
theorem dX11_turns_84 : decode cX11_turns 84 = .ok (.laload, 1) := by decide +kernel
theorem dX11_turns_85 : decode cX11_turns 85 = .ok (.lload_n 3, 1) := by decide +kernel
theorem dX11_turns_86 : decode cX11_turns 86 = .ok (.ldiv, 1) := by decide +kernel
theorem dX11_turns_87 : decode cX11_turns 87 = .ok (.lreturn, 1) := by decide +kernel
theorem dX11_turns_88 : decode cX11_turns 88 = .ok (.aload_n 0, 1) := by decide +kernel
theorem dX11_turns_89 : decode cX11_turns 89 = .ok (.getfield 10, 3) := by decide +kernel
theorem dX11_turns_92 : decode cX11_turns 92 = .ok (.getfield 222, 3) := by decide +kernel
theorem dX11_turns_95 : decode cX11_turns 95 = .ok (.iload_n 1, 1) := by decide +kernel
theorem dX11_turns_96 : decode cX11_turns 96 = .ok (.iaload, 1) := by decide +kernel
theorem dX11_turns_97 : decode cX11_turns 97 = .ok (.i2l, 1) := by decide +kernel
theorem dX11_turns_98 : decode cX11_turns 98 = .ok (.lreturn, 1) := by decide +kernel
theorem dX11_turns_99 : decode cX11_turns 99 = .ok (.aload_n 0, 1) := by decide +kernel
theorem dX11_turns_100 : decode cX11_turns 100 = .ok (.getfield 10, 3) := by decide +kernel
theorem dX11_turns_103 : decode cX11_turns 103 = .ok (.iload_n 1, 1) := by decide +kernel
theorem dX11_turns_104 : decode cX11_turns 104 = .ok (.invokevirtual 225, 3) := by decide +kernel
theorem dX11_turns_107 : decode cX11_turns 107 = .ok (.i2l, 1) := by decide +kernel
theorem dX11_turns_108 : decode cX11_turns 108 = .ok (.lreturn, 1) := by decide +kernel
theorem dX11_turns_109 : decode cX11_turns 109 = .ok (.aload_n 0, 1) := by decide +kernel
theorem dX11_turns_110 : decode cX11_turns 110 = .ok (.getfield 10, 3) := by decide +kernel
theorem dX11_turns_113 : decode cX11_turns 113 = .ok (.iload_n 1, 1) := by decide +kernel
theorem dX11_turns_114 : decode cX11_turns 114 = .ok (.invokevirtual 228, 3) := by decide +kernel
theorem dX11_turns_117 : decode cX11_turns 117 = .ok (.invokestatic 121, 3) := by decide +kernel
theorem dX11_turns_120 : decode cX11_turns 120 = .ok (.i2l, 1) := by decide +kernel
theorem dX11_turns_121 : decode cX11_turns 121 = .ok (.lreturn, 1) := by decide +kernel
theorem dX11_turns_122 : decode cX11_turns 122 = .ok (.ldc2_w 209, 3) := by decide +kernel
theorem dX11_turns_125 : decode cX11_turns 125 = .ok (.lreturn, 1) := by decide +kernel
set_option maxRecDepth 20000 in
theorem ggX11_runs_X6_spin : GoodIn wsX11_runs wsX6_spin := goodIn_r _ [6, 7, 8, 9, 10, 11, 12, 13, 14, 15, 16, 17, 18, 19, 20, 21, 22, 23, 24, 25, 26, 27, 28, 29, 30, 31, 32, 33, 34, 35, 36, 37, 38, 39, 40, 41, 42, 43, 44, 45, 46, 47, 48, 49, 50, 51, 52, 53, 54, 55, 56, 57, 58, 59, 60, 61, 62, 63, 64, 65, 66, 67, 68, 69, 125, 126, 127, 128, 129, 130, 131, 132, 133, 134, 135, 136, 137, 138, 139, 140, 141, 142, 143, 144, 145, 146, 147, 148, 149, 150, 151, 152, 153, 154, 155, 156, 157, 158, 159, 160, 161, 162, 163, 164, 165, 166, 167, 168, 169, 170, 171, 172, 173, 174, 175, 176, 177, 178, 179, 180, 181, 182, 183, 184, 185, 186, 187, 188, 189, 190, 191, 192, 193, 194, 195, 196, 197, 198, 199, 200, 201, 202, 203, 204, 205, 206, 207, 208, 209, 210, 211, 212, 213, 214, 215, 216, 217, 218, 219, 220] (by decide +kernel) (by decide +kernel)
set_option maxRecDepth 20000 in
theorem gX11_runs_X6_spin : GoodIn wsX11_runs (wsV RX11 176 RX6 yX6_spin wsX6_spin) := goodIn_app (goodIn_of _ (by decide +kernel)) ggX11_runs_X6_spin
set_option maxRecDepth 20000 in
theorem ggX11_runs_X6_wellRunning : GoodIn wsX11_runs wsX6_wellRunning := goodIn_r _ [73, 74, 75, 76, 8, 77, 9, 78, 79, 80, 81, 82, 83, 84, 125, 126, 127, 128, 129, 130, 131, 132, 133, 134, 135, 136, 137, 138, 139, 140, 141, 142, 221, 222, 223, 224, 225, 226, 227, 228, 229] (by decide +kernel) (by decide +kernel)
set_option maxRecDepth 20000 in
theorem gX11_runs_X6_wellRunning : GoodIn wsX11_runs (wsV RX11 231 RX6 yX6_wellRunning wsX6_wellRunning) := goodIn_app (goodIn_of _ (by decide +kernel)) ggX11_runs_X6_wellRunning
set_option maxRecDepth 20000 in
theorem ggX11_runs_X6_turning : GoodIn wsX11_runs wsX6_turning := goodIn_r _ [88, 74, 8, 75, 77, 125, 126, 127, 128, 129, 130, 131, 132, 133, 134, 135, 136, 137, 138, 139, 140, 141, 142, 221, 222, 223, 224, 225, 226, 227, 228, 229] (by decide +kernel) (by decide +kernel)
set_option maxRecDepth 20000 in
theorem gX11_runs_X6_turning : GoodIn wsX11_runs (wsV RX11 234 RX6 yX6_turning wsX6_turning) := goodIn_app (goodIn_of _ (by decide +kernel)) ggX11_runs_X6_turning
set_option maxRecDepth 20000 in
theorem ggX11_runs_X6_loadedInAll : GoodIn wsX11_runs wsX6_loadedInAll := goodIn_r _ [92, 93, 94, 95, 5, 96, 74, 75, 97, 77, 98, 99, 100, 101, 102, 76, 103, 104, 105, 106, 107, 8, 9, 108, 109, 110, 111, 125, 126, 127, 128, 129, 130, 131, 132, 133, 134, 135, 136, 137, 138, 139, 140, 141, 142, 221, 222, 223, 224, 225, 226, 227, 228, 229] (by decide +kernel) (by decide +kernel)
set_option maxRecDepth 20000 in
theorem gX11_runs_X6_loadedInAll : GoodIn wsX11_runs (wsV RX11 237 RX6 yX6_loadedInAll wsX6_loadedInAll) := goodIn_app (goodIn_of _ (by decide +kernel)) ggX11_runs_X6_loadedInAll
theorem dX11_runs_0 : decode cX11_runs 0 = .ok (.aload_n 0, 1) := by decide +kernel
theorem dX11_runs_1 : decode cX11_runs 1 = .ok (.getfield 10, 3) := by decide +kernel
theorem dX11_runs_4 : decode cX11_runs 4 = .ok (.invokevirtual 176, 3) := by decide +kernel
theorem dX11_runs_7 : decode cX11_runs 7 = .ok (.iload_n 1, 1) := by decide +kernel
theorem dX11_runs_8 : decode cX11_runs 8 = .ok (.tableswitch 52 0 2 #[28, 36, 44], 28) := by decide +kernel
theorem dX11_runs_36 : decode cX11_runs 36 = .ok (.aload_n 0, 1) := by decide +kernel
theorem dX11_runs_37 : decode cX11_runs 37 = .ok (.getfield 10, 3) := by decide +kernel
theorem dX11_runs_40 : decode cX11_runs 40 = .ok (.invokevirtual 231, 3) := by decide +kernel
theorem dX11_runs_43 : decode cX11_runs 43 = .ok (.ireturn, 1) := by decide +kernel
theorem dX11_runs_44 : decode cX11_runs 44 = .ok (.aload_n 0, 1) := by decide +kernel
theorem dX11_runs_45 : decode cX11_runs 45 = .ok (.getfield 10, 3) := by decide +kernel
theorem dX11_runs_48 : decode cX11_runs 48 = .ok (.invokevirtual 234, 3) := by decide +kernel
theorem dX11_runs_51 : decode cX11_runs 51 = .ok (.ireturn, 1) := by decide +kernel
theorem dX11_runs_52 : decode cX11_runs 52 = .ok (.aload_n 0, 1) := by decide +kernel
theorem dX11_runs_53 : decode cX11_runs 53 = .ok (.getfield 10, 3) := by decide +kernel
theorem dX11_runs_56 : decode cX11_runs 56 = .ok (.invokevirtual 237, 3) := by decide +kernel
theorem dX11_runs_59 : decode cX11_runs 59 = .ok (.ireturn, 1) := by decide +kernel
theorem dX11_runs_60 : decode cX11_runs 60 = .ok (.bipush (-2), 2) := by decide +kernel
theorem dX11_runs_62 : decode cX11_runs 62 = .ok (.ireturn, 1) := by decide +kernel
set_option maxRecDepth 20000 in
theorem ggX11_feed_X11_within : GoodIn wsX11_feed wsX11_within := goodIn_r _ [6] (by decide +kernel) (by decide +kernel)
set_option maxRecDepth 20000 in
theorem gX11_feed_X11_within : GoodIn wsX11_feed (va_wsS RX11 71 yX11_within wsX11_within) := goodIn_app (goodIn_of _ (by decide +kernel)) ggX11_feed_X11_within
set_option maxRecDepth 20000 in
theorem ggX11_feed_X7_take : GoodIn wsX11_feed wsX7_take := goodIn_r _ [11, 12, 13, 27, 28, 29, 30, 31, 32, 33] (by decide +kernel) (by decide +kernel)
set_option maxRecDepth 20000 in
theorem gX11_feed_X7_take : GoodIn wsX11_feed (wsV RX11 42 RX7 yX7_take wsX7_take) := goodIn_app (goodIn_of _ (by decide +kernel)) ggX11_feed_X7_take
theorem dX11_feed_0 : decode cX11_feed 0 = .ok (.iload_n 1, 1) := by decide +kernel
theorem dX11_feed_1 : decode cX11_feed 1 = .ok (.iconst 1, 1) := by decide +kernel
theorem dX11_feed_2 : decode cX11_feed 2 = .ok (.bipush 8, 2) := by decide +kernel
theorem dX11_feed_4 : decode cX11_feed 4 = .ok (.invokestatic 71, 3) := by decide +kernel
theorem dX11_feed_7 : decode cX11_feed 7 = .ok (.ifCond .ne 6, 3) := by decide +kernel
theorem dX11_feed_10 : decode cX11_feed 10 = .ok (.bipush (-2), 2) := by decide +kernel
theorem dX11_feed_12 : decode cX11_feed 12 = .ok (.ireturn, 1) := by decide +kernel
theorem dX11_feed_13 : decode cX11_feed 13 = .ok (.aload_n 0, 1) := by decide +kernel
theorem dX11_feed_14 : decode cX11_feed 14 = .ok (.getfield 19, 3) := by decide +kernel
theorem dX11_feed_17 : decode cX11_feed 17 = .ok (.getfield 240, 3) := by decide +kernel
theorem dX11_feed_20 : decode cX11_feed 20 = .ok (.iload_n 1, 1) := by decide +kernel
theorem dX11_feed_21 : decode cX11_feed 21 = .ok (.iadd, 1) := by decide +kernel
theorem dX11_feed_22 : decode cX11_feed 22 = .ok (.sipush 160, 3) := by decide +kernel
theorem dX11_feed_25 : decode cX11_feed 25 = .ok (.if_icmp .le 6, 3) := by decide +kernel
theorem dX11_feed_28 : decode cX11_feed 28 = .ok (.bipush (-4), 2) := by decide +kernel
theorem dX11_feed_30 : decode cX11_feed 30 = .ok (.ireturn, 1) := by decide +kernel
theorem dX11_feed_31 : decode cX11_feed 31 = .ok (.iconst 0, 1) := by decide +kernel
theorem dX11_feed_32 : decode cX11_feed 32 = .ok (.istore 4, 2) := by decide +kernel
theorem dX11_feed_34 : decode cX11_feed 34 = .ok (.iload 4, 2) := by decide +kernel
theorem dX11_feed_36 : decode cX11_feed 36 = .ok (.iload_n 1, 1) := by decide +kernel
theorem dX11_feed_37 : decode cX11_feed 37 = .ok (.if_icmp .ge 24, 3) := by decide +kernel
theorem dX11_feed_40 : decode cX11_feed 40 = .ok (.aload_n 0, 1) := by decide +kernel
theorem dX11_feed_41 : decode cX11_feed 41 = .ok (.getfield 19, 3) := by decide +kernel
theorem dX11_feed_44 : decode cX11_feed 44 = .ok (.lload_n 2, 1) := by decide +kernel
theorem dX11_feed_45 : decode cX11_feed 45 = .ok (.bipush 8, 2) := by decide +kernel
theorem dX11_feed_47 : decode cX11_feed 47 = .ok (.iload 4, 2) := by decide +kernel
theorem dX11_feed_49 : decode cX11_feed 49 = .ok (.imul, 1) := by decide +kernel
theorem dX11_feed_50 : decode cX11_feed 50 = .ok (.lshr, 1) := by decide +kernel
theorem dX11_feed_51 : decode cX11_feed 51 = .ok (.l2i, 1) := by decide +kernel
theorem dX11_feed_52 : decode cX11_feed 52 = .ok (.invokevirtual 42, 3) := by decide +kernel
theorem dX11_feed_55 : decode cX11_feed 55 = .ok (.iinc 4 1, 3) := by decide +kernel
theorem dX11_feed_58 : decode cX11_feed 58 = .ok (.goto (-24), 3) := by decide +kernel
theorem dX11_feed_61 : decode cX11_feed 61 = .ok (.aload_n 0, 1) := by decide +kernel
theorem dX11_feed_62 : decode cX11_feed 62 = .ok (.getfield 19, 3) := by decide +kernel
theorem dX11_feed_65 : decode cX11_feed 65 = .ok (.getfield 240, 3) := by decide +kernel
theorem dX11_feed_68 : decode cX11_feed 68 = .ok (.ireturn, 1) := by decide +kernel
set_option maxRecDepth 20000 in
theorem ggX11_text_X7_readInto : GoodIn wsX11_text wsX7_readInto := goodIn_r _ [8, 9, 10, 11, 12, 13, 14, 15, 16, 17, 18, 19, 20, 21, 22, 7, 23, 24, 25, 26, 27, 28, 29, 30, 31, 32, 33, 34, 35, 36, 37, 38, 39, 40, 41, 42, 43, 44, 45, 46, 47, 48, 49, 50, 51, 52, 53, 54, 55, 56, 57, 58, 59, 60, 61, 62, 63, 64, 65, 66, 67, 68, 69, 70, 71, 72, 73, 74, 75, 76, 77, 78, 79, 80, 81, 82, 83, 84, 85, 86, 87, 88, 89, 90, 91, 92, 93, 94, 95, 96, 97, 98, 99, 100, 101, 102, 103, 104, 105, 106, 107, 108, 109, 110, 111, 112, 113, 114, 115, 116, 117, 118, 119, 120, 121, 122, 123, 124, 125, 126, 127, 128, 129, 130, 131, 132, 133, 134, 135, 136, 137, 138, 139, 140, 141, 142, 143, 144, 145, 146, 147, 148, 149, 150, 151, 152, 153, 154, 155, 156, 157, 158, 159, 160, 161, 162, 163, 164, 165, 166, 167, 168, 169, 170, 171, 172, 173, 174, 175, 176, 177, 178, 179, 180, 181, 182, 183, 184, 185, 186, 187, 188, 189, 190, 191, 192, 193, 194, 195, 196, 197, 198, 199, 200, 201, 202, 203, 204, 205, 206, 207, 208, 209, 210, 211, 212, 213, 214, 228, 229, 230, 231, 232, 233, 234, 235, 236, 237, 238, 239] (by decide +kernel) (by decide +kernel)
set_option maxRecDepth 20000 in
theorem gX11_text_X7_readInto : GoodIn wsX11_text (wsV RX11 46 RX7 yX7_readInto wsX7_readInto) := goodIn_app (goodIn_of _ (by decide +kernel)) ggX11_text_X7_readInto
theorem dX11_text_0 : decode cX11_text 0 = .ok (.aload_n 0, 1) := by decide +kernel
theorem dX11_text_1 : decode cX11_text 1 = .ok (.getfield 50, 3) := by decide +kernel
theorem dX11_text_4 : decode cX11_text 4 = .ok (.bipush 6, 2) := by decide +kernel
theorem dX11_text_6 : decode cX11_text 6 = .ok (.if_icmp .ne 6, 3) := by decide +kernel
theorem dX11_text_9 : decode cX11_text 9 = .ok (.bipush (-4), 2) := by decide +kernel
theorem dX11_text_11 : decode cX11_text 11 = .ok (.ireturn, 1) := by decide +kernel
theorem dX11_text_12 : decode cX11_text 12 = .ok (.aload_n 0, 1) := by decide +kernel
theorem dX11_text_13 : decode cX11_text 13 = .ok (.getfield 19, 3) := by decide +kernel
theorem dX11_text_16 : decode cX11_text 16 = .ok (.aload_n 0, 1) := by decide +kernel
theorem dX11_text_17 : decode cX11_text 17 = .ok (.getfield 25, 3) := by decide +kernel
theorem dX11_text_20 : decode cX11_text 20 = .ok (.aload_n 0, 1) := by decide +kernel
theorem dX11_text_21 : decode cX11_text 21 = .ok (.getfield 50, 3) := by decide +kernel
theorem dX11_text_24 : decode cX11_text 24 = .ok (.aaload, 1) := by decide +kernel
theorem dX11_text_25 : decode cX11_text 25 = .ok (.invokevirtual 46, 3) := by decide +kernel
theorem dX11_text_28 : decode cX11_text 28 = .ok (.istore_n 1, 1) := by decide +kernel
theorem dX11_text_29 : decode cX11_text 29 = .ok (.iload_n 1, 1) := by decide +kernel
theorem dX11_text_30 : decode cX11_text 30 = .ok (.iconst (-1), 1) := by decide +kernel
theorem dX11_text_31 : decode cX11_text 31 = .ok (.if_icmp .eq 8, 3) := by decide +kernel
theorem dX11_text_34 : decode cX11_text 34 = .ok (.bipush (-100), 2) := by decide +kernel
theorem dX11_text_36 : decode cX11_text 36 = .ok (.iload_n 1, 1) := by decide +kernel
theorem dX11_text_37 : decode cX11_text 37 = .ok (.isub, 1) := by decide +kernel
theorem dX11_text_38 : decode cX11_text 38 = .ok (.ireturn, 1) := by decide +kernel
theorem dX11_text_39 : decode cX11_text 39 = .ok (.aload_n 0, 1) := by decide +kernel
theorem dX11_text_40 : decode cX11_text 40 = .ok (.dup, 1) := by decide +kernel
theorem dX11_text_41 : decode cX11_text 41 = .ok (.getfield 50, 3) := by decide +kernel
theorem dX11_text_44 : decode cX11_text 44 = .ok (.iconst 1, 1) := by decide +kernel
theorem dX11_text_45 : decode cX11_text 45 = .ok (.iadd, 1) := by decide +kernel
theorem dX11_text_46 : decode cX11_text 46 = .ok (.putfield 50, 3) := by decide +kernel
theorem dX11_text_49 : decode cX11_text 49 = .ok (.aload_n 0, 1) := by decide +kernel
theorem dX11_text_50 : decode cX11_text 50 = .ok (.getfield 50, 3) := by decide +kernel
theorem dX11_text_53 : decode cX11_text 53 = .ok (.iconst 1, 1) := by decide +kernel
theorem dX11_text_54 : decode cX11_text 54 = .ok (.isub, 1) := by decide +kernel
theorem dX11_text_55 : decode cX11_text 55 = .ok (.ireturn, 1) := by decide +kernel
set_option maxRecDepth 20000 in
theorem ggX11_force_X11_within : GoodIn wsX11_force wsX11_within := goodIn_r _ [6] (by decide +kernel) (by decide +kernel)
set_option maxRecDepth 20000 in
theorem gX11_force_X11_within : GoodIn wsX11_force (va_wsS RX11 71 yX11_within wsX11_within) := goodIn_app (goodIn_of _ (by decide +kernel)) ggX11_force_X11_within
theorem dX11_force_0 : decode cX11_force 0 = .ok (.iload_n 1, 1) := by decide +kernel
theorem dX11_force_1 : decode cX11_force 1 = .ok (.iconst 0, 1) := by decide +kernel
theorem dX11_force_2 : decode cX11_force 2 = .ok (.aload_n 0, 1) := by decide +kernel
theorem dX11_force_3 : decode cX11_force 3 = .ok (.getfield 50, 3) := by decide +kernel
theorem dX11_force_6 : decode cX11_force 6 = .ok (.iconst 1, 1) := by decide +kernel
theorem dX11_force_7 : decode cX11_force 7 = .ok (.isub, 1) := by decide +kernel
theorem dX11_force_8 : decode cX11_force 8 = .ok (.invokestatic 71, 3) := by decide +kernel
theorem dX11_force_11 : decode cX11_force 11 = .ok (.ifCond .ne 6, 3) := by decide +kernel
theorem dX11_force_14 : decode cX11_force 14 = .ok (.bipush (-2), 2) := by decide +kernel
theorem dX11_force_16 : decode cX11_force 16 = .ok (.ireturn, 1) := by decide +kernel
theorem dX11_force_17 : decode cX11_force 17 = .ok (.aload_n 0, 1) := by decide +kernel
theorem dX11_force_18 : decode cX11_force 18 = .ok (.getfield 243, 3) := by decide +kernel
theorem dX11_force_21 : decode cX11_force 21 = .ok (.istore_n 2, 1) := by decide +kernel
theorem dX11_force_22 : decode cX11_force 22 = .ok (.aload_n 0, 1) := by decide +kernel
theorem dX11_force_23 : decode cX11_force 23 = .ok (.iload_n 1, 1) := by decide +kernel
theorem dX11_force_24 : decode cX11_force 24 = .ok (.putfield 243, 3) := by decide +kernel
theorem dX11_force_27 : decode cX11_force 27 = .ok (.iload_n 2, 1) := by decide +kernel
theorem dX11_force_28 : decode cX11_force 28 = .ok (.ireturn, 1) := by decide +kernel
set_option maxRecDepth 20000 in
theorem ggX11_judge_X6_spin : GoodIn wsX11_judge wsX6_spin := goodIn_r _ [8, 9, 10, 11, 12, 13, 14, 15, 16, 17, 18, 19, 20, 21, 22, 23, 24, 25, 26, 27, 28, 29, 30, 31, 32, 33, 34, 35, 36, 37, 38, 39, 40, 41, 42, 43, 44, 45, 46, 47, 48, 49, 50, 51, 52, 53, 54, 55, 56, 57, 58, 59, 60, 61, 62, 63, 64, 65, 66, 67, 68, 69, 70, 71, 200, 201, 202, 203, 204, 205, 206, 207, 208, 209, 210, 211, 212, 213, 214, 215, 216, 217, 218, 219, 220, 221, 222, 223, 224, 225, 226, 227, 228, 229, 230, 231, 232, 233, 234, 235, 236, 237, 238, 239, 240, 241, 242, 243, 244, 245, 246, 247, 248, 249, 250, 251, 252, 253, 254, 255, 256, 257, 258, 259, 260, 261, 262, 263, 264, 265, 266, 267, 268, 269, 270, 271, 272, 273, 274, 275, 276, 277, 278, 279, 280, 281, 282, 283, 284, 285, 286, 287, 288, 289, 290, 291, 292, 293, 294, 295] (by decide +kernel) (by decide +kernel)
set_option maxRecDepth 20000 in
theorem gX11_judge_X6_spin : GoodIn wsX11_judge (wsV RX11 176 RX6 yX6_spin wsX6_spin) := goodIn_app (goodIn_of _ (by decide +kernel)) ggX11_judge_X6_spin
set_option maxRecDepth 20000 in
theorem ggX11_judge_X6_wellRunning : GoodIn wsX11_judge wsX6_wellRunning := goodIn_r _ [75, 76, 77, 78, 10, 79, 11, 80, 81, 82, 83, 84, 85, 86, 200, 201, 202, 203, 204, 205, 206, 207, 208, 209, 210, 211, 212, 213, 214, 215, 216, 217, 296, 297, 298, 299, 300, 301, 302, 303, 304] (by decide +kernel) (by decide +kernel)
set_option maxRecDepth 20000 in
theorem gX11_judge_X6_wellRunning : GoodIn wsX11_judge (wsV RX11 231 RX6 yX6_wellRunning wsX6_wellRunning) := goodIn_app (goodIn_of _ (by decide +kernel)) ggX11_judge_X6_wellRunning
set_option maxRecDepth 20000 in
theorem ggX11_judge_X11_lowestBit : GoodIn wsX11_judge wsX11_lowestBit := goodIn_r _ [90] (by decide +kernel) (by decide +kernel)
set_option maxRecDepth 20000 in
theorem gX11_judge_X11_lowestBit : GoodIn wsX11_judge (va_wsS RX11 246 yX11_lowestBit wsX11_lowestBit) := goodIn_app (goodIn_of _ (by decide +kernel)) ggX11_judge_X11_lowestBit
set_option maxRecDepth 20000 in
theorem ggX11_judge_X6_firstSlipping : GoodIn wsX11_judge wsX6_firstSlipping := goodIn_r _ [94, 14, 15, 95, 96, 97, 7, 98, 99, 100, 101, 102, 103, 17, 18, 104, 105, 106, 107, 16, 19, 108, 109, 110, 111, 76, 77, 112, 79, 113, 114, 115, 116, 117, 78, 118, 119, 120, 121, 122, 10, 11, 123, 124, 125, 126, 127, 128, 129, 23, 130, 43, 25, 131, 132, 133, 134, 135, 136, 137, 138, 139, 140, 141, 142, 61, 143, 144, 145, 146, 147, 148, 149, 150, 151, 152, 153, 154, 155, 156, 157, 158, 159, 160, 67, 161, 162, 163, 71, 200, 201, 202, 203, 204, 205, 206, 207, 208, 209, 210, 211, 212, 213, 214, 215, 216, 217, 218, 219, 220, 221, 222, 223, 224, 225, 226, 227, 228, 229, 230, 231, 232, 233, 234, 235, 236, 237, 238, 239, 240, 241, 242, 243, 244, 245, 246, 247, 248, 249, 250, 251, 252, 253, 254, 255, 256, 257, 258, 259, 260, 261, 262, 263, 264, 265, 266, 267, 268, 269, 270, 271, 272, 273, 274, 275, 276, 277, 278, 279, 280, 281, 282, 283, 284, 285, 286, 287, 288, 289, 290, 291, 292, 293, 294, 295, 296, 297, 298, 299, 300, 301, 302, 303, 304] (by decide +kernel) (by decide +kernel)
set_option maxRecDepth 20000 in
theorem gX11_judge_X6_firstSlipping : GoodIn wsX11_judge (wsV RX11 249 RX6 yX6_firstSlipping wsX6_firstSlipping) := goodIn_app (goodIn_of _ (by decide +kernel)) ggX11_judge_X6_firstSlipping
set_option maxRecDepth 20000 in
theorem ggX11_judge_X6_firstBent : GoodIn wsX11_judge wsX6_firstBent := goodIn_r _ [167, 9, 168, 169, 170, 7, 171, 172, 173, 174, 175, 176, 14, 15, 19, 18, 100, 101, 102, 103, 17, 104, 105, 106, 107, 16, 108, 109, 110, 111, 76, 77, 112, 79, 113, 114, 115, 116, 117, 78, 118, 119, 120, 121, 122, 10, 11, 123, 124, 125, 126, 200, 201, 202, 203, 204, 205, 206, 207, 208, 209, 210, 211, 212, 213, 214, 215, 216, 217, 218, 219, 220, 221, 222, 223, 224, 225, 226, 227, 228, 229, 230, 231, 232, 233, 234, 235, 236, 237, 238, 239, 240, 241, 242, 243, 244, 245, 246, 247, 248, 249, 250, 251, 252, 253, 254, 255, 256, 257, 258, 259, 260, 261, 262, 263, 264, 265, 266, 267, 268, 269, 270, 271, 272, 273, 274, 275, 276, 277, 278, 279, 280, 281, 282, 283, 284, 285, 286, 287, 288, 289, 290, 291, 292, 293, 294, 295, 296, 297, 298, 299, 300, 301, 302, 303, 304] (by decide +kernel) (by decide +kernel)
set_option maxRecDepth 20000 in
theorem gX11_judge_X6_firstBent : GoodIn wsX11_judge (wsV RX11 252 RX6 yX6_firstBent wsX6_firstBent) := goodIn_app (goodIn_of _ (by decide +kernel)) ggX11_judge_X6_firstBent
set_option maxRecDepth 20000 in
theorem ggX11_judge_X6_firstSharedDrum : GoodIn wsX11_judge wsX6_firstSharedDrum := goodIn_r _ [180, 14, 15, 181, 182, 88, 89, 90, 200, 201, 202, 203, 204, 205, 206, 207, 208, 209, 210, 211, 212, 213, 214, 215, 216, 217, 218, 219, 220, 221, 222, 223, 224, 225, 226, 227, 228, 229, 230, 231, 232, 233, 234, 235, 236, 237, 238, 239, 240, 241, 242, 243, 244, 245, 246, 247, 248, 249, 250, 251, 252, 253, 254, 255, 256, 257, 258, 259, 260, 261, 262, 263, 264, 265, 266, 267, 268, 269, 270, 271, 272, 273, 274, 275, 276, 277, 278, 279, 280, 281, 282, 283, 284, 285, 286, 287, 288, 289, 290, 291, 292, 293, 294, 295] (by decide +kernel) (by decide +kernel)
set_option maxRecDepth 20000 in
theorem gX11_judge_X6_firstSharedDrum : GoodIn wsX11_judge (wsV RX11 255 RX6 yX6_firstSharedDrum wsX6_firstSharedDrum) := goodIn_app (goodIn_of _ (by decide +kernel)) ggX11_judge_X6_firstSharedDrum
set_option maxRecDepth 20000 in
theorem ggX11_judge_X6_loadedInAll : GoodIn wsX11_judge wsX6_loadedInAll := goodIn_r _ [186, 108, 109, 110, 7, 111, 76, 77, 112, 79, 113, 114, 115, 116, 117, 78, 118, 119, 120, 121, 122, 10, 11, 123, 124, 125, 126, 200, 201, 202, 203, 204, 205, 206, 207, 208, 209, 210, 211, 212, 213, 214, 215, 216, 217, 296, 297, 298, 299, 300, 301, 302, 303, 304] (by decide +kernel) (by decide +kernel)
set_option maxRecDepth 20000 in
theorem gX11_judge_X6_loadedInAll : GoodIn wsX11_judge (wsV RX11 237 RX6 yX6_loadedInAll wsX6_loadedInAll) := goodIn_app (goodIn_of _ (by decide +kernel)) ggX11_judge_X6_loadedInAll
theorem dX11_judge_0 : decode cX11_judge 0 = .ok (.aload_n 0, 1) := by decide +kernel
theorem dX11_judge_1 : decode cX11_judge 1 = .ok (.getfield 10, 3) := by decide +kernel
theorem dX11_judge_4 : decode cX11_judge 4 = .ok (.invokevirtual 176, 3) := by decide +kernel
theorem dX11_judge_7 : decode cX11_judge 7 = .ok (.aload_n 0, 1) := by decide +kernel
theorem dX11_judge_8 : decode cX11_judge 8 = .ok (.getfield 10, 3) := by decide +kernel
theorem dX11_judge_11 : decode cX11_judge 11 = .ok (.invokevirtual 231, 3) := by decide +kernel
theorem dX11_judge_14 : decode cX11_judge 14 = .ok (.iconst (-1), 1) := by decide +kernel
theorem dX11_judge_15 : decode cX11_judge 15 = .ok (.ixor, 1) := by decide +kernel
theorem dX11_judge_16 : decode cX11_judge 16 = .ok (.invokestatic 246, 3) := by decide +kernel
theorem dX11_judge_19 : decode cX11_judge 19 = .ok (.istore_n 1, 1) := by decide +kernel
theorem dX11_judge_20 : decode cX11_judge 20 = .ok (.iload_n 1, 1) := by decide +kernel
theorem dX11_judge_21 : decode cX11_judge 21 = .ok (.aload_n 0, 1) := by decide +kernel
theorem dX11_judge_22 : decode cX11_judge 22 = .ok (.getfield 10, 3) := by decide +kernel
theorem dX11_judge_25 : decode cX11_judge 25 = .ok (.getfield 92, 3) := by decide +kernel
theorem dX11_judge_28 : decode cX11_judge 28 = .ok (.if_icmp .ge 9, 3) := by decide +kernel
theorem dX11_judge_31 : decode cX11_judge 31 = .ok (.sipush 1000, 3) := by decide +kernel
theorem dX11_judge_34 : decode cX11_judge 34 = .ok (.iload_n 1, 1) := by decide +kernel
theorem dX11_judge_35 : decode cX11_judge 35 = .ok (.iadd, 1) := by decide +kernel
theorem dX11_judge_36 : decode cX11_judge 36 = .ok (.ireturn, 1) := by decide +kernel
theorem dX11_judge_37 : decode cX11_judge 37 = .ok (.aload_n 0, 1) := by decide +kernel
theorem dX11_judge_38 : decode cX11_judge 38 = .ok (.getfield 10, 3) := by decide +kernel
theorem dX11_judge_41 : decode cX11_judge 41 = .ok (.invokevirtual 249, 3) := by decide +kernel
theorem dX11_judge_44 : decode cX11_judge 44 = .ok (.istore_n 2, 1) := by decide +kernel
theorem dX11_judge_45 : decode cX11_judge 45 = .ok (.iload_n 2, 1) := by decide +kernel
theorem dX11_judge_46 : decode cX11_judge 46 = .ok (.iconst (-1), 1) := by decide +kernel
theorem dX11_judge_47 : decode cX11_judge 47 = .ok (.if_icmp .eq 9, 3) := by decide +kernel
theorem dX11_judge_50 : decode cX11_judge 50 = .ok (.sipush 2000, 3) := by decide +kernel
theorem dX11_judge_53 : decode cX11_judge 53 = .ok (.iload_n 2, 1) := by decide +kernel
theorem dX11_judge_54 : decode cX11_judge 54 = .ok (.iadd, 1) := by decide +kernel
theorem dX11_judge_55 : decode cX11_judge 55 = .ok (.ireturn, 1) := by decide +kernel
theorem dX11_judge_56 : decode cX11_judge 56 = .ok (.aload_n 0, 1) := by decide +kernel
theorem dX11_judge_57 : decode cX11_judge 57 = .ok (.getfield 10, 3) := by decide +kernel
theorem dX11_judge_60 : decode cX11_judge 60 = .ok (.invokevirtual 252, 3) := by decide +kernel
theorem dX11_judge_63 : decode cX11_judge 63 = .ok (.istore_n 3, 1) := by decide +kernel
theorem dX11_judge_64 : decode cX11_judge 64 = .ok (.iload_n 3, 1) := by decide +kernel
theorem dX11_judge_65 : decode cX11_judge 65 = .ok (.iconst (-1), 1) := by decide +kernel
theorem dX11_judge_66 : decode cX11_judge 66 = .ok (.if_icmp .eq 9, 3) := by decide +kernel
theorem dX11_judge_69 : decode cX11_judge 69 = .ok (.sipush 3000, 3) := by decide +kernel
theorem dX11_judge_72 : decode cX11_judge 72 = .ok (.iload_n 3, 1) := by decide +kernel
theorem dX11_judge_73 : decode cX11_judge 73 = .ok (.iadd, 1) := by decide +kernel
theorem dX11_judge_74 : decode cX11_judge 74 = .ok (.ireturn, 1) := by decide +kernel
theorem dX11_judge_75 : decode cX11_judge 75 = .ok (.aload_n 0, 1) := by decide +kernel
theorem dX11_judge_76 : decode cX11_judge 76 = .ok (.getfield 10, 3) := by decide +kernel
theorem dX11_judge_79 : decode cX11_judge 79 = .ok (.invokevirtual 255, 3) := by decide +kernel
theorem dX11_judge_82 : decode cX11_judge 82 = .ok (.istore 4, 2) := by decide +kernel
theorem dX11_judge_84 : decode cX11_judge 84 = .ok (.iload 4, 2) := by decide +kernel
theorem dX11_judge_86 : decode cX11_judge 86 = .ok (.iconst (-1), 1) := by decide +kernel
theorem dX11_judge_87 : decode cX11_judge 87 = .ok (.if_icmp .eq 10, 3) := by decide +kernel
theorem dX11_judge_90 : decode cX11_judge 90 = .ok (.sipush 4000, 3) := by decide +kernel
theorem dX11_judge_93 : decode cX11_judge 93 = .ok (.iload 4, 2) := by decide +kernel
theorem dX11_judge_95 : decode cX11_judge 95 = .ok (.iadd, 1) := by decide +kernel
theorem dX11_judge_96 : decode cX11_judge 96 = .ok (.ireturn, 1) := by decide +kernel
theorem dX11_judge_97 : decode cX11_judge 97 = .ok (.aload_n 0, 1) := by decide +kernel
theorem dX11_judge_98 : decode cX11_judge 98 = .ok (.getfield 10, 3) := by decide +kernel
theorem dX11_judge_101 : decode cX11_judge 101 = .ok (.invokevirtual 237, 3) := by decide +kernel
theorem dX11_judge_104 : decode cX11_judge 104 = .ok (.aload_n 0, 1) := by decide +kernel
theorem dX11_judge_105 : decode cX11_judge 105 = .ok (.getfield 10, 3) := by decide +kernel
theorem dX11_judge_108 : decode cX11_judge 108 = .ok (.getfield 85, 3) := by decide +kernel
theorem dX11_judge_111 : decode cX11_judge 111 = .ok (.if_icmp .le 9, 3) := by decide +kernel
theorem dX11_judge_114 : decode cX11_judge 114 = .ok (.sipush 5000, 3) := by decide +kernel
theorem dX11_judge_117 : decode cX11_judge 117 = .ok (.goto 4, 3) := by decide +kernel
theorem dX11_judge_120 : decode cX11_judge 120 = .ok (.iconst (-1), 1) := by decide +kernel
theorem dX11_judge_121 : decode cX11_judge 121 = .ok (.ireturn, 1) := by decide +kernel
set_option maxRecDepth 20000 in
theorem ggX11_choose_X11_freeBelts : GoodIn wsX11_choose wsX11_freeBelts := goodIn_r _ [8, 9, 10, 11, 12, 13, 14, 144, 145, 146, 147, 148, 149, 150, 151, 152, 153, 154, 155, 156, 157, 158, 159, 160, 161, 162, 163, 164, 165, 166, 167, 168, 169, 170, 171, 172, 173, 174] (by decide +kernel) (by decide +kernel)
set_option maxRecDepth 20000 in
theorem gX11_choose_X11_freeBelts : GoodIn wsX11_choose (wsV RX11 258 RX11 yX11_freeBelts wsX11_freeBelts) := goodIn_app (goodIn_of _ (by decide +kernel)) ggX11_choose_X11_freeBelts
set_option maxRecDepth 20000 in
theorem ggX11_choose_X11_within : GoodIn wsX11_choose wsX11_within := goodIn_r _ [17] (by decide +kernel) (by decide +kernel)
set_option maxRecDepth 20000 in
theorem gX11_choose_X11_within : GoodIn wsX11_choose (va_wsS RX11 71 yX11_within wsX11_within) := goodIn_app (goodIn_of _ (by decide +kernel)) ggX11_choose_X11_within
set_option maxRecDepth 20000 in
theorem ggX11_choose_X11_findChosen : GoodIn wsX11_choose wsX11_findChosen := goodIn_r _ [21, 2, 9, 22, 23, 24, 25, 26, 7, 27, 10, 28, 29, 30, 31, 32, 33, 34, 35, 36, 4, 5, 6, 8, 11, 12, 13, 14, 37, 38, 39, 40, 3, 1, 41, 42, 43, 44, 45, 46, 47, 48, 49, 50, 51, 52, 53, 54, 55, 56, 57, 58, 59, 60, 61, 62, 63, 64, 65, 66, 67, 68, 69, 70, 71, 72, 73, 74, 75, 76, 77, 78, 79, 80, 81, 82, 83, 84, 85, 86, 87, 88, 89, 90, 91, 92, 93, 94, 95, 96, 97, 98, 99, 100, 101, 102, 103, 104, 105, 106, 107, 108, 109, 110, 111, 112, 113, 114, 115, 116, 117, 118, 119, 120, 121, 122, 123, 124, 125, 126, 127, 128, 129, 130, 131, 132, 133, 134, 135, 136, 137, 138, 139, 140, 141, 142, 143, 144, 145, 146, 147, 148, 149, 150, 151, 152, 153, 154, 155, 156, 157, 158, 159, 160, 161, 162, 163, 164, 165, 166, 167, 168, 169, 170, 171, 172, 173, 174, 175, 176, 177, 178, 179, 180, 181, 182, 183, 184, 185, 186, 187, 188, 189, 190, 191, 192, 193, 194, 195, 196, 197, 198, 199, 200, 201, 202, 203, 204, 205, 206, 207, 208, 209, 210, 211, 212, 213, 214, 215, 216, 217, 218, 219, 220, 221, 222, 223, 224, 225, 226, 227, 228, 229, 230, 231, 232, 233, 234, 235, 236, 237, 238, 239, 240, 241, 242, 243, 244, 245, 246, 247, 248, 249, 250, 251, 252, 253, 254, 255, 256, 257, 258, 259, 260, 261] (by decide +kernel) (by decide +kernel)
set_option maxRecDepth 20000 in
theorem gX11_choose_X11_findChosen : GoodIn wsX11_choose (wsV RX11 261 RX11 yX11_findChosen wsX11_findChosen) := goodIn_app (goodIn_of _ (by decide +kernel)) ggX11_choose_X11_findChosen
theorem dX11_choose_0 : decode cX11_choose 0 = .ok (.iload_n 1, 1) := by decide +kernel
theorem dX11_choose_1 : decode cX11_choose 1 = .ok (.bipush 10, 2) := by decide +kernel
theorem dX11_choose_3 : decode cX11_choose 3 = .ok (.bipush 9, 2) := by decide +kernel
theorem dX11_choose_5 : decode cX11_choose 5 = .ok (.aload_n 0, 1) := by decide +kernel
theorem dX11_choose_6 : decode cX11_choose 6 = .ok (.invokevirtual 258, 3) := by decide +kernel
theorem dX11_choose_9 : decode cX11_choose 9 = .ok (.iadd, 1) := by decide +kernel
theorem dX11_choose_10 : decode cX11_choose 10 = .ok (.invokestatic 71, 3) := by decide +kernel
theorem dX11_choose_13 : decode cX11_choose 13 = .ok (.istore_n 2, 1) := by decide +kernel
theorem dX11_choose_14 : decode cX11_choose 14 = .ok (.iload_n 1, 1) := by decide +kernel
theorem dX11_choose_15 : decode cX11_choose 15 = .ok (.ifCond .eq 15, 3) := by decide +kernel
theorem dX11_choose_18 : decode cX11_choose 18 = .ok (.iload_n 1, 1) := by decide +kernel
theorem dX11_choose_19 : decode cX11_choose 19 = .ok (.iconst 1, 1) := by decide +kernel
theorem dX11_choose_20 : decode cX11_choose 20 = .ok (.if_icmp .eq 10, 3) := by decide +kernel
theorem dX11_choose_23 : decode cX11_choose 23 = .ok (.iload_n 2, 1) := by decide +kernel
theorem dX11_choose_24 : decode cX11_choose 24 = .ok (.ifCond .ne 6, 3) := by decide +kernel
theorem dX11_choose_27 : decode cX11_choose 27 = .ok (.bipush (-2), 2) := by decide +kernel
theorem dX11_choose_29 : decode cX11_choose 29 = .ok (.ireturn, 1) := by decide +kernel
theorem dX11_choose_30 : decode cX11_choose 30 = .ok (.aload_n 0, 1) := by decide +kernel
theorem dX11_choose_31 : decode cX11_choose 31 = .ok (.invokevirtual 261, 3) := by decide +kernel
theorem dX11_choose_34 : decode cX11_choose 34 = .ok (.ifCond .ne 5, 3) := by decide +kernel
theorem dX11_choose_37 : decode cX11_choose 37 = .ok (.iconst (-1), 1) := by decide +kernel
theorem dX11_choose_38 : decode cX11_choose 38 = .ok (.ireturn, 1) := by decide +kernel
theorem dX11_choose_39 : decode cX11_choose 39 = .ok (.iload_n 2, 1) := by decide +kernel
theorem dX11_choose_40 : decode cX11_choose 40 = .ok (.ifCond .eq 13, 3) := by decide +kernel
theorem dX11_choose_43 : decode cX11_choose 43 = .ok (.aload_n 0, 1) := by decide +kernel
theorem dX11_choose_44 : decode cX11_choose 44 = .ok (.getfield 68, 3) := by decide +kernel
theorem dX11_choose_47 : decode cX11_choose 47 = .ok (.iload_n 1, 1) := by decide +kernel
theorem dX11_choose_48 : decode cX11_choose 48 = .ok (.bipush 10, 2) := by decide +kernel
theorem dX11_choose_50 : decode cX11_choose 50 = .ok (.isub, 1) := by decide +kernel
theorem dX11_choose_51 : decode cX11_choose 51 = .ok (.iaload, 1) := by decide +kernel
theorem dX11_choose_52 : decode cX11_choose 52 = .ok (.ireturn, 1) := by decide +kernel
theorem dX11_choose_53 : decode cX11_choose 53 = .ok (.iload_n 1, 1) := by decide +kernel
theorem dX11_choose_54 : decode cX11_choose 54 = .ok (.ifCond .ne 10, 3) := by decide +kernel
theorem dX11_choose_57 : decode cX11_choose 57 = .ok (.aload_n 0, 1) := by decide +kernel
theorem dX11_choose_58 : decode cX11_choose 58 = .ok (.getfield 265, 3) := by decide +kernel
theorem dX11_choose_61 : decode cX11_choose 61 = .ok (.goto 7, 3) := by decide +kernel
theorem dX11_choose_64 : decode cX11_choose 64 = .ok (.aload_n 0, 1) := by decide +kernel
theorem dX11_choose_65 : decode cX11_choose 65 = .ok (.getfield 268, 3) := by decide +kernel
theorem dX11_choose_68 : decode cX11_choose 68 = .ok (.ireturn, 1) := by decide +kernel
set_option maxRecDepth 20000 in
theorem ggX11_lay_X11_findChosen : GoodIn wsX11_lay wsX11_findChosen := goodIn_r _ [9, 10, 1, 2, 11, 12, 13, 14, 8, 15, 16, 17, 18, 19, 20, 21, 22, 23, 24, 25, 26, 27, 28, 29, 30, 31, 32, 33, 34, 35, 36, 37, 4, 3, 38, 39, 40, 41, 42, 43, 44, 45, 46, 47, 48, 49, 50, 51, 52, 53, 54, 55, 56, 57, 58, 59, 60, 61, 62, 63, 64, 65, 66, 67, 68, 69, 70, 71, 72, 73, 74, 75, 76, 77, 78, 79, 80, 81, 82, 83, 84, 85, 86, 87, 88, 89, 90, 91, 92, 93, 94, 95, 96, 97, 98, 99, 100, 101, 102, 103, 104, 105, 106, 107, 108, 109, 110, 111, 112, 113, 114, 115, 116, 117, 118, 119, 120, 121, 122, 123, 124, 125, 126, 127, 128, 129, 130, 131, 132, 133, 134, 135, 136, 137, 138, 139, 140, 141, 142, 143, 144, 145, 146, 147, 148, 149, 150, 151, 152, 153, 154, 155, 156, 157, 158, 159, 160, 161, 162, 163, 164, 165, 166, 167, 168, 169, 170, 171, 172, 173, 174, 175, 176, 177, 178, 179, 180, 181, 182, 183, 184, 185, 186, 187, 188, 189, 190, 191, 192, 193, 194, 195, 196, 197, 198, 199, 200, 201, 202, 203, 204, 205, 206, 207, 208, 209, 210, 211, 212, 213, 214, 215, 216, 217, 218, 219, 220, 221, 222, 223, 224, 225, 226, 227, 228, 229, 230, 231, 232, 233, 234, 235, 236, 237, 238, 239, 240, 241, 242, 243, 244, 245, 246, 247, 248, 249, 250, 251, 252, 253, 254, 255, 256, 257, 258] (by decide +kernel) (by decide +kernel)
set_option maxRecDepth 20000 in
theorem gX11_lay_X11_findChosen : GoodIn wsX11_lay (wsV RX11 261 RX11 yX11_findChosen wsX11_findChosen) := goodIn_app (goodIn_of _ (by decide +kernel)) ggX11_lay_X11_findChosen
set_option maxRecDepth 20000 in
theorem ggX11_lay_X11_freeBelts : GoodIn wsX11_lay wsX11_freeBelts := goodIn_r _ [29, 1, 16, 30, 31, 32, 33, 141, 142, 143, 144, 145, 146, 147, 148, 149, 150, 151, 152, 153, 154, 155, 156, 157, 158, 159, 160, 161, 162, 163, 164, 165, 166, 167, 168, 169, 170, 171] (by decide +kernel) (by decide +kernel)
set_option maxRecDepth 20000 in
theorem gX11_lay_X11_freeBelts : GoodIn wsX11_lay (wsV RX11 258 RX11 yX11_freeBelts wsX11_freeBelts) := goodIn_app (goodIn_of _ (by decide +kernel)) ggX11_lay_X11_freeBelts
set_option maxRecDepth 20000 in
theorem ggX11_lay_X6_putDrum : GoodIn wsX11_lay wsX6_putDrum := goodIn_r _ [135, 136, 137, 138, 139, 140, 172, 173, 174, 175, 176, 177, 178, 179, 180, 181, 182, 183, 184, 185, 186, 187, 188, 189, 190, 191, 192, 193, 194, 195, 196, 197, 198, 199, 200, 201, 202, 203, 204, 205, 206, 207, 208, 209, 210, 211, 212, 213, 214, 215, 216, 217, 218, 219, 220, 221, 222, 223, 224, 225, 226, 227, 228, 229, 230, 231, 232, 233, 234, 235, 236, 237, 238, 239, 240, 241, 242, 243, 244, 245, 246, 247, 248, 249, 154, 155, 156, 157, 158, 159, 160, 161, 162, 163, 164, 165, 166, 167, 168, 169, 170, 171] (by decide +kernel) (by decide +kernel)
set_option maxRecDepth 20000 in
theorem gX11_lay_X6_putDrum : GoodIn wsX11_lay (wsV RX11 152 RX6 yX6_putDrum wsX6_putDrum) := goodIn_app (goodIn_of _ (by decide +kernel)) ggX11_lay_X6_putDrum
theorem dX11_lay_0 : decode cX11_lay 0 = .ok (.aload_n 0, 1) := by decide +kernel
theorem dX11_lay_1 : decode cX11_lay 1 = .ok (.invokevirtual 261, 3) := by decide +kernel
theorem dX11_lay_4 : decode cX11_lay 4 = .ok (.ifCond .ne 5, 3) := by decide +kernel
theorem dX11_lay_7 : decode cX11_lay 7 = .ok (.iconst (-1), 1) := by decide +kernel
theorem dX11_lay_8 : decode cX11_lay 8 = .ok (.ireturn, 1) := by decide +kernel
theorem dX11_lay_9 : decode cX11_lay 9 = .ok (.iconst 0, 1) := by decide +kernel
theorem dX11_lay_10 : decode cX11_lay 10 = .ok (.istore_n 1, 1) := by decide +kernel
theorem dX11_lay_11 : decode cX11_lay 11 = .ok (.iload_n 1, 1) := by decide +kernel
theorem dX11_lay_12 : decode cX11_lay 12 = .ok (.aload_n 0, 1) := by decide +kernel
theorem dX11_lay_13 : decode cX11_lay 13 = .ok (.invokevirtual 258, 3) := by decide +kernel
theorem dX11_lay_16 : decode cX11_lay 16 = .ok (.if_icmp .ge 32, 3) := by decide +kernel
theorem dX11_lay_19 : decode cX11_lay 19 = .ok (.aload_n 0, 1) := by decide +kernel
theorem dX11_lay_20 : decode cX11_lay 20 = .ok (.getfield 10, 3) := by decide +kernel
theorem dX11_lay_23 : decode cX11_lay 23 = .ok (.aload_n 0, 1) := by decide +kernel
theorem dX11_lay_24 : decode cX11_lay 24 = .ok (.getfield 10, 3) := by decide +kernel
theorem dX11_lay_27 : decode cX11_lay 27 = .ok (.getfield 163, 3) := by decide +kernel
theorem dX11_lay_30 : decode cX11_lay 30 = .ok (.iload_n 1, 1) := by decide +kernel
theorem dX11_lay_31 : decode cX11_lay 31 = .ok (.aaload, 1) := by decide +kernel
theorem dX11_lay_32 : decode cX11_lay 32 = .ok (.iconst 1, 1) := by decide +kernel
theorem dX11_lay_33 : decode cX11_lay 33 = .ok (.aload_n 0, 1) := by decide +kernel
theorem dX11_lay_34 : decode cX11_lay 34 = .ok (.getfield 68, 3) := by decide +kernel
theorem dX11_lay_37 : decode cX11_lay 37 = .ok (.iload_n 1, 1) := by decide +kernel
theorem dX11_lay_38 : decode cX11_lay 38 = .ok (.iaload, 1) := by decide +kernel
theorem dX11_lay_39 : decode cX11_lay 39 = .ok (.invokevirtual 152, 3) := by decide +kernel
theorem dX11_lay_42 : decode cX11_lay 42 = .ok (.iinc 1 1, 3) := by decide +kernel
theorem dX11_lay_45 : decode cX11_lay 45 = .ok (.goto (-34), 3) := by decide +kernel
theorem dX11_lay_48 : decode cX11_lay 48 = .ok (.aload_n 0, 1) := by decide +kernel
theorem dX11_lay_49 : decode cX11_lay 49 = .ok (.getfield 268, 3) := by decide +kernel
theorem dX11_lay_52 : decode cX11_lay 52 = .ok (.ireturn, 1) := by decide +kernel
set_option maxRecDepth 20000 in
theorem ggX11_cut_X11_isBelt : GoodIn wsX11_cut wsX11_isBelt := goodIn_r _ [8, 1, 9, 10, 11, 7, 12, 145, 146, 147, 148, 149, 150, 151, 152, 153, 154, 155, 156, 157, 158, 159, 160, 161, 162, 163, 164, 165, 166, 167, 168, 169, 170, 171, 172, 173, 174, 175] (by decide +kernel) (by decide +kernel)
set_option maxRecDepth 20000 in
theorem gX11_cut_X11_isBelt : GoodIn wsX11_cut (wsV RX11 160 RX11 yX11_isBelt wsX11_isBelt) := goodIn_app (goodIn_of _ (by decide +kernel)) ggX11_cut_X11_isBelt
set_option maxRecDepth 20000 in
theorem ggX11_cut_X11_within : GoodIn wsX11_cut wsX11_within := goodIn_r _ [12] (by decide +kernel) (by decide +kernel)
set_option maxRecDepth 20000 in
theorem gX11_cut_X11_within : GoodIn wsX11_cut (va_wsS RX11 71 yX11_within wsX11_within) := goodIn_app (goodIn_of _ (by decide +kernel)) ggX11_cut_X11_within
set_option maxRecDepth 20000 in
theorem ggX11_cut_X6_spin : GoodIn wsX11_cut wsX6_spin := goodIn_r _ [17, 18, 19, 20, 21, 22, 23, 24, 25, 26, 27, 28, 29, 30, 31, 32, 33, 34, 35, 36, 37, 38, 39, 40, 41, 42, 43, 44, 45, 46, 47, 48, 49, 50, 51, 52, 53, 54, 55, 56, 57, 58, 59, 60, 61, 62, 63, 64, 65, 66, 67, 68, 69, 70, 71, 72, 73, 74, 75, 76, 77, 78, 79, 80, 158, 159, 160, 161, 162, 163, 164, 165, 166, 167, 168, 169, 170, 171, 172, 173, 174, 175, 176, 177, 178, 179, 180, 181, 182, 183, 184, 185, 186, 187, 188, 189, 190, 191, 192, 193, 194, 195, 196, 197, 198, 199, 200, 201, 202, 203, 204, 205, 206, 207, 208, 209, 210, 211, 212, 213, 214, 215, 216, 217, 218, 219, 220, 221, 222, 223, 224, 225, 226, 227, 228, 229, 230, 231, 232, 233, 234, 235, 236, 237, 238, 239, 240, 241, 242, 243, 244, 245, 246, 247, 248, 249, 250, 251, 252, 253] (by decide +kernel) (by decide +kernel)
set_option maxRecDepth 20000 in
theorem gX11_cut_X6_spin : GoodIn wsX11_cut (wsV RX11 176 RX6 yX6_spin wsX6_spin) := goodIn_app (goodIn_of _ (by decide +kernel)) ggX11_cut_X6_spin
set_option maxRecDepth 20000 in
theorem ggX11_cut_X6_wellRunning : GoodIn wsX11_cut wsX6_wellRunning := goodIn_r _ [84, 85, 86, 87, 19, 88, 20, 89, 90, 91, 92, 93, 94, 95, 158, 159, 160, 161, 162, 163, 164, 165, 166, 167, 168, 169, 170, 171, 172, 173, 174, 175, 254, 255, 256, 257, 258, 259, 260, 261, 262] (by decide +kernel) (by decide +kernel)
set_option maxRecDepth 20000 in
theorem gX11_cut_X6_wellRunning : GoodIn wsX11_cut (wsV RX11 231 RX6 yX6_wellRunning wsX6_wellRunning) := goodIn_app (goodIn_of _ (by decide +kernel)) ggX11_cut_X6_wellRunning
set_option maxRecDepth 20000 in
theorem ggX11_cut_J6_bitCount_0f7a4 : GoodIn wsX11_cut wsJ6_bitCount_0f7a4 := goodIn_r _ [99, 100, 101, 102] (by decide +kernel) (by decide +kernel)
set_option maxRecDepth 20000 in
theorem gX11_cut_J6_bitCount_0f7a4 : GoodIn wsX11_cut (va_wsS RX11 274 yJ6_bitCount_0f7a4 wsJ6_bitCount_0f7a4) := goodIn_app (goodIn_of _ (by decide +kernel)) ggX11_cut_J6_bitCount_0f7a4
set_option maxRecDepth 20000 in
theorem ggX11_cut_X11_cost : GoodIn wsX11_cut wsX11_cost := goodIn_r _ [106, 107, 108, 109, 110, 111, 112, 113, 114, 115, 116, 117, 118, 119, 120, 121, 122, 123, 124, 125, 126, 127, 128, 129, 130, 131, 132, 133, 134, 135, 136, 137, 138, 139, 140, 141, 142, 143, 144, 145, 146, 147, 148, 149, 150, 151, 152, 153, 154, 155, 156, 157, 263, 264, 265, 266, 267] (by decide +kernel) (by decide +kernel)
set_option maxRecDepth 20000 in
theorem gX11_cut_X11_cost : GoodIn wsX11_cut (wsV RX11 279 RX11 yX11_cost wsX11_cost) := goodIn_app (goodIn_of _ (by decide +kernel)) ggX11_cut_X11_cost
theorem dX11_cut_0 : decode cX11_cut 0 = .ok (.aload_n 0, 1) := by decide +kernel
theorem dX11_cut_1 : decode cX11_cut 1 = .ok (.iload_n 1, 1) := by decide +kernel
theorem dX11_cut_2 : decode cX11_cut 2 = .ok (.invokevirtual 160, 3) := by decide +kernel
theorem dX11_cut_5 : decode cX11_cut 5 = .ok (.ifCond .eq 12, 3) := by decide +kernel
theorem dX11_cut_8 : decode cX11_cut 8 = .ok (.iload_n 2, 1) := by decide +kernel
theorem dX11_cut_9 : decode cX11_cut 9 = .ok (.iconst 0, 1) := by decide +kernel
theorem dX11_cut_10 : decode cX11_cut 10 = .ok (.iconst 2, 1) := by decide +kernel
theorem dX11_cut_11 : decode cX11_cut 11 = .ok (.invokestatic 71, 3) := by decide +kernel
theorem dX11_cut_14 : decode cX11_cut 14 = .ok (.ifCond .ne 6, 3) := by decide +kernel
theorem dX11_cut_17 : decode cX11_cut 17 = .ok (.bipush (-2), 2) := by decide +kernel
theorem dX11_cut_19 : decode cX11_cut 19 = .ok (.ireturn, 1) := by decide +kernel
theorem dX11_cut_20 : decode cX11_cut 20 = .ok (.aload_n 0, 1) := by decide +kernel
theorem dX11_cut_21 : decode cX11_cut 21 = .ok (.getfield 10, 3) := by decide +kernel
theorem dX11_cut_24 : decode cX11_cut 24 = .ok (.getfield 163, 3) := by decide +kernel
theorem dX11_cut_27 : decode cX11_cut 27 = .ok (.iload_n 1, 1) := by decide +kernel
theorem dX11_cut_28 : decode cX11_cut 28 = .ok (.aaload, 1) := by decide +kernel
theorem dX11_cut_29 : decode cX11_cut 29 = .ok (.astore_n 3, 1) := by decide +kernel
theorem dX11_cut_30 : decode cX11_cut 30 = .ok (.aload_n 3, 1) := by decide +kernel
theorem dX11_cut_31 : decode cX11_cut 31 = .ok (.getfield 271, 3) := by decide +kernel
theorem dX11_cut_34 : decode cX11_cut 34 = .ok (.istore 4, 2) := by decide +kernel
theorem dX11_cut_36 : decode cX11_cut 36 = .ok (.iconst 0, 1) := by decide +kernel
theorem dX11_cut_37 : decode cX11_cut 37 = .ok (.istore 5, 2) := by decide +kernel
theorem dX11_cut_39 : decode cX11_cut 39 = .ok (.iconst (-1), 1) := by decide +kernel
theorem dX11_cut_40 : decode cX11_cut 40 = .ok (.istore 6, 2) := by decide +kernel
theorem dX11_cut_42 : decode cX11_cut 42 = .ok (.iconst 0, 1) := by decide +kernel
theorem dX11_cut_43 : decode cX11_cut 43 = .ok (.istore 7, 2) := by decide +kernel
theorem dX11_cut_45 : decode cX11_cut 45 = .ok (.iconst 1, 1) := by decide +kernel
theorem dX11_cut_46 : decode cX11_cut 46 = .ok (.istore 8, 2) := by decide +kernel
theorem dX11_cut_48 : decode cX11_cut 48 = .ok (.iload 8, 2) := by decide +kernel
theorem dX11_cut_50 : decode cX11_cut 50 = .ok (.bipush 99, 2) := by decide +kernel
theorem dX11_cut_52 : decode cX11_cut 52 = .ok (.if_icmp .gt 75, 3) := by decide +kernel
theorem dX11_cut_55 : decode cX11_cut 55 = .ok (.aload_n 3, 1) := by decide +kernel
theorem dX11_cut_56 : decode cX11_cut 56 = .ok (.iload 8, 2) := by decide +kernel
theorem dX11_cut_58 : decode cX11_cut 58 = .ok (.putfield 271, 3) := by decide +kernel
theorem dX11_cut_61 : decode cX11_cut 61 = .ok (.aload_n 0, 1) := by decide +kernel
theorem dX11_cut_62 : decode cX11_cut 62 = .ok (.getfield 10, 3) := by decide +kernel
theorem dX11_cut_65 : decode cX11_cut 65 = .ok (.invokevirtual 176, 3) := by decide +kernel
theorem dX11_cut_68 : decode cX11_cut 68 = .ok (.aload_n 0, 1) := by decide +kernel
theorem dX11_cut_69 : decode cX11_cut 69 = .ok (.getfield 10, 3) := by decide +kernel
theorem dX11_cut_72 : decode cX11_cut 72 = .ok (.invokevirtual 231, 3) := by decide +kernel
theorem dX11_cut_75 : decode cX11_cut 75 = .ok (.invokestatic 274, 3) := by decide +kernel
theorem dX11_cut_78 : decode cX11_cut 78 = .ok (.istore 9, 2) := by decide +kernel
theorem dX11_cut_80 : decode cX11_cut 80 = .ok (.aload_n 0, 1) := by decide +kernel
theorem dX11_cut_81 : decode cX11_cut 81 = .ok (.iload 8, 2) := by decide +kernel
theorem dX11_cut_83 : decode cX11_cut 83 = .ok (.invokevirtual 279, 3) := by decide +kernel
theorem dX11_cut_86 : decode cX11_cut 86 = .ok (.istore 10, 2) := by decide +kernel
theorem dX11_cut_88 : decode cX11_cut 88 = .ok (.iload 9, 2) := by decide +kernel
theorem dX11_cut_90 : decode cX11_cut 90 = .ok (.iload 6, 2) := by decide +kernel
theorem dX11_cut_92 : decode cX11_cut 92 = .ok (.if_icmp .gt 17, 3) := by decide +kernel
theorem dX11_cut_95 : decode cX11_cut 95 = .ok (.iload 9, 2) := by decide +kernel
theorem dX11_cut_97 : decode cX11_cut 97 = .ok (.iload 6, 2) := by decide +kernel
theorem dX11_cut_99 : decode cX11_cut 99 = .ok (.if_icmp .ne 22, 3) := by decide +kernel
theorem dX11_cut_102 : decode cX11_cut 102 = .ok (.iload 10, 2) := by decide +kernel
theorem dX11_cut_104 : decode cX11_cut 104 = .ok (.iload 7, 2) := by decide +kernel
theorem dX11_cut_106 : decode cX11_cut 106 = .ok (.if_icmp .ge 15, 3) := by decide +kernel
theorem dX11_cut_109 : decode cX11_cut 109 = .ok (.iload 8, 2) := by decide +kernel
theorem dX11_cut_111 : decode cX11_cut 111 = .ok (.istore 5, 2) := by decide +kernel
theorem dX11_cut_113 : decode cX11_cut 113 = .ok (.iload 9, 2) := by decide +kernel
theorem dX11_cut_115 : decode cX11_cut 115 = .ok (.istore 6, 2) := by decide +kernel
theorem dX11_cut_117 : decode cX11_cut 117 = .ok (.iload 10, 2) := by decide +kernel
theorem dX11_cut_119 : decode cX11_cut 119 = .ok (.istore 7, 2) := by decide +kernel
theorem dX11_cut_121 : decode cX11_cut 121 = .ok (.iinc 8 1, 3) := by decide +kernel
theorem dX11_cut_124 : decode cX11_cut 124 = .ok (.goto (-76), 3) := by decide +kernel
theorem dX11_cut_127 : decode cX11_cut 127 = .ok (.aload_n 3, 1) := by decide +kernel
theorem dX11_cut_128 : decode cX11_cut 128 = .ok (.iload 4, 2) := by decide +kernel
theorem dX11_cut_130 : decode cX11_cut 130 = .ok (.putfield 271, 3) := by decide +kernel
theorem dX11_cut_133 : decode cX11_cut 133 = .ok (.iload_n 2, 1) := by decide +kernel
theorem dX11_cut_134 : decode cX11_cut 134 = .ok (.ifCond .ne 6, 3) := by decide +kernel
theorem dX11_cut_137 : decode cX11_cut 137 = .ok (.iload 5, 2) := by decide +kernel
theorem dX11_cut_139 : decode cX11_cut 139 = .ok (.ireturn, 1) := by decide +kernel
theorem dX11_cut_140 : decode cX11_cut 140 = .ok (.iload_n 2, 1) := by decide +kernel
theorem dX11_cut_141 : decode cX11_cut 141 = .ok (.iconst 1, 1) := by decide +kernel
theorem dX11_cut_142 : decode cX11_cut 142 = .ok (.if_icmp .ne 8, 3) := by decide +kernel
theorem dX11_cut_145 : decode cX11_cut 145 = .ok (.iload 6, 2) := by decide +kernel
theorem dX11_cut_147 : decode cX11_cut 147 = .ok (.goto 5, 3) := by decide +kernel
theorem dX11_cut_150 : decode cX11_cut 150 = .ok (.iload 7, 2) := by decide +kernel
theorem dX11_cut_152 : decode cX11_cut 152 = .ok (.ireturn, 1) := by decide +kernel
set_option maxRecDepth 20000 in
theorem ggX11_off_X11_isBelt : GoodIn wsX11_off wsX11_isBelt := goodIn_r _ [7, 1, 8, 9, 10, 6, 11, 92, 93, 94, 95, 96, 97, 98, 99, 100, 101, 102, 103, 104, 105, 106, 107, 108, 109, 110, 111, 112, 113, 114, 115, 116, 117, 118, 119, 120, 121, 122] (by decide +kernel) (by decide +kernel)
set_option maxRecDepth 20000 in
theorem gX11_off_X11_isBelt : GoodIn wsX11_off (wsV RX11 160 RX11 yX11_isBelt wsX11_isBelt) := goodIn_app (goodIn_of _ (by decide +kernel)) ggX11_off_X11_isBelt
set_option maxRecDepth 20000 in
theorem ggX11_off_X11_stoppedBy : GoodIn wsX11_off wsX11_stoppedBy := goodIn_r _ [15, 1, 16, 17, 18, 19, 20, 21, 22, 23, 24, 25, 26, 27, 28, 29, 30, 31, 32, 33, 34, 35, 36, 37, 38, 39, 40, 41, 42, 43, 44, 45, 46, 47, 48, 49, 50, 51, 52, 53, 54, 55, 56, 57, 58, 59, 60, 61, 62, 63, 64, 65, 66, 67, 68, 69, 70, 71, 72, 73, 74, 75, 76, 77, 78, 79, 80, 81, 82, 83, 84, 85, 86, 87, 88, 89, 90, 91, 92, 93, 94, 95, 96, 97, 98, 99, 100, 101, 102, 103, 104, 123, 124, 125, 126, 127, 128, 129, 130, 131, 132, 133, 134, 135, 136, 137, 138, 139, 140, 141, 142, 143, 144, 145, 146, 147, 148, 149, 150, 151, 152, 153, 154, 155, 156, 157, 158, 159, 160, 161, 162, 163, 164, 165, 166, 167, 168, 169, 170, 171, 172, 173, 174, 175, 176, 177, 178, 179, 180, 181, 182, 183, 184, 185, 186, 187, 188, 189, 190, 191, 192, 193, 194, 195, 196, 197, 198, 199, 200, 105, 106, 107, 108, 109, 110, 111, 112, 113, 114, 115, 116, 117, 118, 119, 120, 121, 122, 201, 202, 203, 204, 205, 206, 207, 208, 209] (by decide +kernel) (by decide +kernel)
set_option maxRecDepth 20000 in
theorem gX11_off_X11_stoppedBy : GoodIn wsX11_off (wsV RX11 282 RX11 yX11_stoppedBy wsX11_stoppedBy) := goodIn_app (goodIn_of _ (by decide +kernel)) ggX11_off_X11_stoppedBy
theorem dX11_off_0 : decode cX11_off 0 = .ok (.aload_n 0, 1) := by decide +kernel
theorem dX11_off_1 : decode cX11_off 1 = .ok (.iload_n 1, 1) := by decide +kernel
theorem dX11_off_2 : decode cX11_off 2 = .ok (.invokevirtual 160, 3) := by decide +kernel
theorem dX11_off_5 : decode cX11_off 5 = .ok (.ifCond .eq 19, 3) := by decide +kernel
theorem dX11_off_8 : decode cX11_off 8 = .ok (.aload_n 0, 1) := by decide +kernel
theorem dX11_off_9 : decode cX11_off 9 = .ok (.aload_n 0, 1) := by decide +kernel
theorem dX11_off_10 : decode cX11_off 10 = .ok (.getfield 10, 3) := by decide +kernel
theorem dX11_off_13 : decode cX11_off 13 = .ok (.getfield 163, 3) := by decide +kernel
theorem dX11_off_16 : decode cX11_off 16 = .ok (.iload_n 1, 1) := by decide +kernel
theorem dX11_off_17 : decode cX11_off 17 = .ok (.aaload, 1) := by decide +kernel
theorem dX11_off_18 : decode cX11_off 18 = .ok (.invokevirtual 282, 3) := by decide +kernel
theorem dX11_off_21 : decode cX11_off 21 = .ok (.goto 5, 3) := by decide +kernel
theorem dX11_off_24 : decode cX11_off 24 = .ok (.bipush (-2), 2) := by decide +kernel
theorem dX11_off_26 : decode cX11_off 26 = .ok (.ireturn, 1) := by decide +kernel
set_option maxRecDepth 20000 in
theorem ggX11_hangs_X11_stoppedBy : GoodIn wsX11_hangs wsX11_stoppedBy := goodIn_r _ [8, 1, 9, 10, 11, 12, 13, 14, 15, 16, 17, 18, 19, 20, 21, 22, 23, 24, 25, 26, 27, 28, 29, 30, 31, 32, 33, 34, 35, 36, 37, 38, 39, 40, 41, 42, 43, 44, 45, 46, 47, 48, 49, 50, 51, 52, 53, 54, 55, 56, 57, 58, 59, 60, 61, 62, 63, 64, 65, 66, 67, 68, 69, 70, 71, 72, 73, 74, 75, 76, 77, 78, 79, 80, 81, 82, 83, 84, 101, 102, 103, 104, 105, 106, 107, 108, 109, 110, 111, 112, 113, 132, 133, 134, 135, 136, 137, 138, 139, 140, 141, 142, 143, 144, 145, 146, 147, 148, 149, 150, 151, 152, 153, 154, 155, 156, 157, 158, 159, 160, 161, 162, 163, 164, 165, 166, 167, 168, 169, 170, 171, 172, 173, 174, 175, 176, 177, 178, 179, 180, 181, 182, 183, 184, 185, 186, 187, 188, 189, 190, 191, 192, 193, 194, 195, 196, 197, 198, 199, 200, 201, 202, 203, 204, 205, 206, 207, 208, 209, 114, 115, 116, 117, 118, 119, 120, 121, 122, 123, 124, 125, 126, 127, 128, 129, 130, 131, 210, 211, 212, 213, 214, 215, 216, 217, 218] (by decide +kernel) (by decide +kernel)
set_option maxRecDepth 20000 in
theorem gX11_hangs_X11_stoppedBy : GoodIn wsX11_hangs (wsV RX11 282 RX11 yX11_stoppedBy wsX11_stoppedBy) := goodIn_app (goodIn_of _ (by decide +kernel)) ggX11_hangs_X11_stoppedBy
set_option maxRecDepth 20000 in
theorem ggX11_hangs_X6_switchedOn : GoodIn wsX11_hangs wsX6_switchedOn := goodIn_r _ [88, 89, 90, 91, 13, 92, 82, 83, 93, 84, 114, 115, 116, 117, 118, 119, 120, 121, 122, 123, 124, 125, 126, 127, 128, 129, 130, 131, 210, 211, 212, 213, 214, 215, 216, 217, 218] (by decide +kernel) (by decide +kernel)
set_option maxRecDepth 20000 in
theorem gX11_hangs_X6_switchedOn : GoodIn wsX11_hangs (wsV RX11 285 RX6 yX6_switchedOn wsX6_switchedOn) := goodIn_app (goodIn_of _ (by decide +kernel)) ggX11_hangs_X6_switchedOn
set_option maxRecDepth 20000 in
theorem ggX11_hangs_J6_bitCount_0f7a4 : GoodIn wsX11_hangs wsJ6_bitCount_0f7a4 := goodIn_r _ [97, 98, 99, 100] (by decide +kernel) (by decide +kernel)
set_option maxRecDepth 20000 in
theorem gX11_hangs_J6_bitCount_0f7a4 : GoodIn wsX11_hangs (va_wsS RX11 274 yJ6_bitCount_0f7a4 wsJ6_bitCount_0f7a4) := goodIn_app (goodIn_of _ (by decide +kernel)) ggX11_hangs_J6_bitCount_0f7a4
theorem dX11_hangs_0 : decode cX11_hangs 0 = .ok (.iconst (-1), 1) := by decide +kernel
theorem dX11_hangs_1 : decode cX11_hangs 1 = .ok (.istore_n 1, 1) := by decide +kernel
theorem dX11_hangs_2 : decode cX11_hangs 2 = .ok (.iconst 0, 1) := by decide +kernel
theorem dX11_hangs_3 : decode cX11_hangs 3 = .ok (.istore_n 2, 1) := by decide +kernel
theorem dX11_hangs_4 : decode cX11_hangs 4 = .ok (.iconst 0, 1) := by decide +kernel
theorem dX11_hangs_5 : decode cX11_hangs 5 = .ok (.istore_n 3, 1) := by decide +kernel
theorem dX11_hangs_6 : decode cX11_hangs 6 = .ok (.iload_n 3, 1) := by decide +kernel
theorem dX11_hangs_7 : decode cX11_hangs 7 = .ok (.aload_n 0, 1) := by decide +kernel
theorem dX11_hangs_8 : decode cX11_hangs 8 = .ok (.getfield 10, 3) := by decide +kernel
theorem dX11_hangs_11 : decode cX11_hangs 11 = .ok (.getfield 145, 3) := by decide +kernel
theorem dX11_hangs_14 : decode cX11_hangs 14 = .ok (.if_icmp .ge 46, 3) := by decide +kernel
theorem dX11_hangs_17 : decode cX11_hangs 17 = .ok (.aload_n 0, 1) := by decide +kernel
theorem dX11_hangs_18 : decode cX11_hangs 18 = .ok (.aload_n 0, 1) := by decide +kernel
theorem dX11_hangs_19 : decode cX11_hangs 19 = .ok (.getfield 10, 3) := by decide +kernel
theorem dX11_hangs_22 : decode cX11_hangs 22 = .ok (.getfield 163, 3) := by decide +kernel
theorem dX11_hangs_25 : decode cX11_hangs 25 = .ok (.iload_n 3, 1) := by decide +kernel
theorem dX11_hangs_26 : decode cX11_hangs 26 = .ok (.aaload, 1) := by decide +kernel
theorem dX11_hangs_27 : decode cX11_hangs 27 = .ok (.invokevirtual 282, 3) := by decide +kernel
theorem dX11_hangs_30 : decode cX11_hangs 30 = .ok (.aload_n 0, 1) := by decide +kernel
theorem dX11_hangs_31 : decode cX11_hangs 31 = .ok (.getfield 10, 3) := by decide +kernel
theorem dX11_hangs_34 : decode cX11_hangs 34 = .ok (.invokevirtual 285, 3) := by decide +kernel
theorem dX11_hangs_37 : decode cX11_hangs 37 = .ok (.iand, 1) := by decide +kernel
theorem dX11_hangs_38 : decode cX11_hangs 38 = .ok (.invokestatic 274, 3) := by decide +kernel
theorem dX11_hangs_41 : decode cX11_hangs 41 = .ok (.istore 4, 2) := by decide +kernel
theorem dX11_hangs_43 : decode cX11_hangs 43 = .ok (.iload 4, 2) := by decide +kernel
theorem dX11_hangs_45 : decode cX11_hangs 45 = .ok (.iload_n 2, 1) := by decide +kernel
theorem dX11_hangs_46 : decode cX11_hangs 46 = .ok (.if_icmp .le 8, 3) := by decide +kernel
theorem dX11_hangs_49 : decode cX11_hangs 49 = .ok (.iload_n 3, 1) := by decide +kernel
theorem dX11_hangs_50 : decode cX11_hangs 50 = .ok (.istore_n 1, 1) := by decide +kernel
theorem dX11_hangs_51 : decode cX11_hangs 51 = .ok (.iload 4, 2) := by decide +kernel
theorem dX11_hangs_53 : decode cX11_hangs 53 = .ok (.istore_n 2, 1) := by decide +kernel
theorem dX11_hangs_54 : decode cX11_hangs 54 = .ok (.iinc 3 1, 3) := by decide +kernel
theorem dX11_hangs_57 : decode cX11_hangs 57 = .ok (.goto (-51), 3) := by decide +kernel
theorem dX11_hangs_60 : decode cX11_hangs 60 = .ok (.iload_n 1, 1) := by decide +kernel
theorem dX11_hangs_61 : decode cX11_hangs 61 = .ok (.ireturn, 1) := by decide +kernel
set_option maxRecDepth 20000 in
theorem ggX11_bite_X11_isMachine : GoodIn wsX11_bite wsX11_isMachine := goodIn_r _ [8, 1, 9, 10, 11, 7, 12, 155, 156, 157, 158, 159, 160, 161, 162, 163, 164, 165, 166, 167, 168, 169, 170, 171, 172, 173, 174, 175, 176, 177, 178, 179, 180, 181, 182, 183, 184, 185] (by decide +kernel) (by decide +kernel)
set_option maxRecDepth 20000 in
theorem gX11_bite_X11_isMachine : GoodIn wsX11_bite (wsV RX11 110 RX11 yX11_isMachine wsX11_isMachine) := goodIn_app (goodIn_of _ (by decide +kernel)) ggX11_bite_X11_isMachine
set_option maxRecDepth 20000 in
theorem ggX11_bite_X11_within : GoodIn wsX11_bite wsX11_within := goodIn_r _ [12] (by decide +kernel) (by decide +kernel)
set_option maxRecDepth 20000 in
theorem gX11_bite_X11_within : GoodIn wsX11_bite (va_wsS RX11 71 yX11_within wsX11_within) := goodIn_app (goodIn_of _ (by decide +kernel)) ggX11_bite_X11_within
set_option maxRecDepth 20000 in
theorem ggX11_bite_X6_spin : GoodIn wsX11_bite wsX6_spin := goodIn_r _ [17, 18, 19, 20, 21, 22, 23, 24, 25, 26, 27, 28, 29, 30, 31, 32, 33, 34, 35, 36, 37, 38, 39, 40, 41, 42, 43, 44, 45, 46, 47, 48, 49, 50, 51, 52, 53, 54, 55, 56, 57, 58, 59, 60, 61, 62, 63, 64, 65, 66, 67, 68, 69, 70, 71, 72, 73, 74, 75, 76, 77, 78, 79, 80, 168, 169, 170, 171, 172, 173, 174, 175, 176, 177, 178, 179, 180, 181, 182, 183, 184, 185, 195, 196, 197, 198, 199, 200, 201, 202, 203, 204, 205, 206, 207, 208, 209, 210, 211, 212, 213, 214, 215, 216, 217, 218, 219, 220, 221, 222, 223, 224, 225, 226, 227, 228, 229, 230, 231, 232, 233, 234, 235, 236, 237, 238, 239, 240, 241, 242, 243, 244, 245, 246, 247, 248, 249, 250, 251, 252, 253, 254, 255, 256, 257, 258, 259, 260, 261, 262, 263, 264, 265, 266, 267, 268, 269, 270, 271, 272] (by decide +kernel) (by decide +kernel)
set_option maxRecDepth 20000 in
theorem gX11_bite_X6_spin : GoodIn wsX11_bite (wsV RX11 176 RX6 yX6_spin wsX6_spin) := goodIn_app (goodIn_of _ (by decide +kernel)) ggX11_bite_X6_spin
set_option maxRecDepth 20000 in
theorem ggX11_bite_X6_loadedInAll : GoodIn wsX11_bite wsX6_loadedInAll := goodIn_r _ [84, 85, 86, 87, 16, 88, 89, 90, 91, 92, 93, 94, 95, 96, 97, 98, 99, 100, 101, 102, 103, 19, 20, 104, 105, 106, 107, 168, 169, 170, 171, 172, 173, 174, 175, 176, 177, 178, 179, 180, 181, 182, 183, 184, 185, 186, 187, 188, 189, 190, 191, 192, 193, 194] (by decide +kernel) (by decide +kernel)
set_option maxRecDepth 20000 in
theorem gX11_bite_X6_loadedInAll : GoodIn wsX11_bite (wsV RX11 237 RX6 yX6_loadedInAll wsX6_loadedInAll) := goodIn_app (goodIn_of _ (by decide +kernel)) ggX11_bite_X6_loadedInAll
set_option maxRecDepth 20000 in
theorem ggX11_bite_X11_minding : GoodIn wsX11_bite wsX11_minding := goodIn_r _ [111, 1, 112, 9, 2, 113, 114, 115, 116, 16, 117, 94, 95, 96, 97, 89, 90, 98, 92, 118, 119, 120, 121, 19, 122, 100, 101, 102, 103, 20, 104, 105, 106, 107, 123, 124, 125, 7, 126, 127, 3, 128, 129, 130, 131, 132, 133, 134, 135, 136, 137, 138, 139, 140, 141, 142, 143, 144, 145, 146, 147, 148, 149, 150, 151, 152, 153, 154, 155, 156, 157, 158, 159, 160, 161, 162, 163, 164, 165, 166, 167, 168, 169, 170, 171, 172, 173, 174, 175, 176, 177, 178, 179, 180, 181, 182, 183, 184, 185, 186, 187, 188, 189, 190, 191, 192, 193, 194, 273, 274, 275, 276, 277] (by decide +kernel) (by decide +kernel)
set_option maxRecDepth 20000 in
theorem gX11_bite_X11_minding : GoodIn wsX11_bite (wsV RX11 288 RX11 yX11_minding wsX11_minding) := goodIn_app (goodIn_of _ (by decide +kernel)) ggX11_bite_X11_minding
theorem dX11_bite_0 : decode cX11_bite 0 = .ok (.aload_n 0, 1) := by decide +kernel
theorem dX11_bite_1 : decode cX11_bite 1 = .ok (.iload_n 1, 1) := by decide +kernel
theorem dX11_bite_2 : decode cX11_bite 2 = .ok (.invokevirtual 110, 3) := by decide +kernel
theorem dX11_bite_5 : decode cX11_bite 5 = .ok (.ifCond .eq 14, 3) := by decide +kernel
theorem dX11_bite_8 : decode cX11_bite 8 = .ok (.iload_n 2, 1) := by decide +kernel
theorem dX11_bite_9 : decode cX11_bite 9 = .ok (.iconst 0, 1) := by decide +kernel
theorem dX11_bite_10 : decode cX11_bite 10 = .ok (.sipush 9999, 3) := by decide +kernel
theorem dX11_bite_13 : decode cX11_bite 13 = .ok (.invokestatic 71, 3) := by decide +kernel
theorem dX11_bite_16 : decode cX11_bite 16 = .ok (.ifCond .ne 6, 3) := by decide +kernel
theorem dX11_bite_19 : decode cX11_bite 19 = .ok (.bipush (-2), 2) := by decide +kernel
theorem dX11_bite_21 : decode cX11_bite 21 = .ok (.ireturn, 1) := by decide +kernel
theorem dX11_bite_22 : decode cX11_bite 22 = .ok (.aload_n 0, 1) := by decide +kernel
theorem dX11_bite_23 : decode cX11_bite 23 = .ok (.getfield 10, 3) := by decide +kernel
theorem dX11_bite_26 : decode cX11_bite 26 = .ok (.invokevirtual 176, 3) := by decide +kernel
theorem dX11_bite_29 : decode cX11_bite 29 = .ok (.aload_n 0, 1) := by decide +kernel
theorem dX11_bite_30 : decode cX11_bite 30 = .ok (.getfield 10, 3) := by decide +kernel
theorem dX11_bite_33 : decode cX11_bite 33 = .ok (.getfield 113, 3) := by decide +kernel
theorem dX11_bite_36 : decode cX11_bite 36 = .ok (.iload_n 1, 1) := by decide +kernel
theorem dX11_bite_37 : decode cX11_bite 37 = .ok (.aaload, 1) := by decide +kernel
theorem dX11_bite_38 : decode cX11_bite 38 = .ok (.astore_n 3, 1) := by decide +kernel
theorem dX11_bite_39 : decode cX11_bite 39 = .ok (.aload_n 3, 1) := by decide +kernel
theorem dX11_bite_40 : decode cX11_bite 40 = .ok (.dup, 1) := by decide +kernel
theorem dX11_bite_41 : decode cX11_bite 41 = .ok (.getfield 100, 3) := by decide +kernel
theorem dX11_bite_44 : decode cX11_bite 44 = .ok (.iload_n 2, 1) := by decide +kernel
theorem dX11_bite_45 : decode cX11_bite 45 = .ok (.iadd, 1) := by decide +kernel
theorem dX11_bite_46 : decode cX11_bite 46 = .ok (.putfield 100, 3) := by decide +kernel
theorem dX11_bite_49 : decode cX11_bite 49 = .ok (.aload_n 0, 1) := by decide +kernel
theorem dX11_bite_50 : decode cX11_bite 50 = .ok (.getfield 10, 3) := by decide +kernel
theorem dX11_bite_53 : decode cX11_bite 53 = .ok (.invokevirtual 237, 3) := by decide +kernel
theorem dX11_bite_56 : decode cX11_bite 56 = .ok (.istore 4, 2) := by decide +kernel
theorem dX11_bite_58 : decode cX11_bite 58 = .ok (.aload_n 3, 1) := by decide +kernel
theorem dX11_bite_59 : decode cX11_bite 59 = .ok (.dup, 1) := by decide +kernel
theorem dX11_bite_60 : decode cX11_bite 60 = .ok (.getfield 100, 3) := by decide +kernel
theorem dX11_bite_63 : decode cX11_bite 63 = .ok (.iload_n 2, 1) := by decide +kernel
theorem dX11_bite_64 : decode cX11_bite 64 = .ok (.isub, 1) := by decide +kernel
theorem dX11_bite_65 : decode cX11_bite 65 = .ok (.putfield 100, 3) := by decide +kernel
theorem dX11_bite_68 : decode cX11_bite 68 = .ok (.aload_n 0, 1) := by decide +kernel
theorem dX11_bite_69 : decode cX11_bite 69 = .ok (.iload 4, 2) := by decide +kernel
theorem dX11_bite_71 : decode cX11_bite 71 = .ok (.invokevirtual 288, 3) := by decide +kernel
theorem dX11_bite_74 : decode cX11_bite 74 = .ok (.iconst 1, 1) := by decide +kernel
theorem dX11_bite_75 : decode cX11_bite 75 = .ok (.iload_n 1, 1) := by decide +kernel
theorem dX11_bite_76 : decode cX11_bite 76 = .ok (.ishl, 1) := by decide +kernel
theorem dX11_bite_77 : decode cX11_bite 77 = .ok (.iconst (-1), 1) := by decide +kernel
theorem dX11_bite_78 : decode cX11_bite 78 = .ok (.ixor, 1) := by decide +kernel
theorem dX11_bite_79 : decode cX11_bite 79 = .ok (.iand, 1) := by decide +kernel
theorem dX11_bite_80 : decode cX11_bite 80 = .ok (.ireturn, 1) := by decide +kernel
set_option maxRecDepth 20000 in
theorem ggX11_years_X11_within : GoodIn wsX11_years wsX11_within := goodIn_r _ [7] (by decide +kernel) (by decide +kernel)
set_option maxRecDepth 20000 in
theorem gX11_years_X11_within : GoodIn wsX11_years (va_wsS RX11 71 yX11_within wsX11_within) := goodIn_app (goodIn_of _ (by decide +kernel)) ggX11_years_X11_within
set_option maxRecDepth 20000 in
theorem ggX11_years_X11_isBelt : GoodIn wsX11_years wsX11_isBelt := goodIn_r _ [11, 2, 12, 4, 5, 6, 7, 203, 204, 205, 206, 207, 208, 209, 210, 211, 212, 213, 214, 215, 216, 217, 218, 219, 220, 221, 222, 223, 224, 225, 226, 227, 228, 229, 230, 231, 232, 233] (by decide +kernel) (by decide +kernel)
set_option maxRecDepth 20000 in
theorem gX11_years_X11_isBelt : GoodIn wsX11_years (wsV RX11 160 RX11 yX11_isBelt wsX11_isBelt) := goodIn_app (goodIn_of _ (by decide +kernel)) ggX11_years_X11_isBelt
set_option maxRecDepth 20000 in
theorem ggX11_years_X6_spin : GoodIn wsX11_years wsX6_spin := goodIn_r _ [17, 18, 19, 20, 21, 22, 23, 24, 25, 26, 27, 28, 29, 30, 31, 32, 33, 34, 35, 36, 37, 38, 39, 40, 41, 42, 43, 44, 45, 46, 47, 48, 49, 50, 51, 52, 53, 54, 55, 56, 57, 58, 59, 60, 61, 62, 63, 64, 65, 66, 67, 68, 69, 70, 71, 72, 73, 74, 75, 76, 77, 78, 79, 80, 216, 217, 218, 219, 220, 221, 222, 223, 224, 225, 226, 227, 228, 229, 230, 231, 232, 233, 234, 235, 236, 237, 238, 239, 240, 241, 242, 243, 244, 245, 246, 247, 248, 249, 250, 251, 252, 253, 254, 255, 256, 257, 258, 259, 260, 261, 262, 263, 264, 265, 266, 267, 268, 269, 270, 271, 272, 273, 274, 275, 276, 277, 278, 279, 280, 281, 282, 283, 284, 285, 286, 287, 288, 289, 290, 291, 292, 293, 294, 295, 296, 297, 298, 299, 300, 301, 302, 303, 304, 305, 306, 307, 308, 309, 310, 311] (by decide +kernel) (by decide +kernel)
set_option maxRecDepth 20000 in
theorem gX11_years_X6_spin : GoodIn wsX11_years (wsV RX11 176 RX6 yX6_spin wsX6_spin) := goodIn_app (goodIn_of _ (by decide +kernel)) ggX11_years_X6_spin
set_option maxRecDepth 20000 in
theorem ggX11_years_X11_days : GoodIn wsX11_years wsX11_days := goodIn_r _ [84, 85, 86, 87, 6, 88, 89, 90, 2, 91, 92, 93, 94, 95, 96, 97, 98, 99, 100, 101, 102, 103, 104, 105, 16, 106, 107, 19, 20, 108, 109, 110, 111, 112, 113, 32, 114, 52, 34, 115, 116, 117, 118, 119, 120, 121, 122, 123, 124, 70, 125, 126, 127, 128, 129, 130, 131, 132, 133, 134, 135, 136, 137, 138, 139, 140, 141, 142, 76, 143, 144, 145, 80, 146, 147, 148, 149, 26, 27, 150, 151, 152, 153, 23, 24, 25, 28, 154, 155, 156, 157, 158, 159, 160, 161, 162, 163, 164, 165, 166, 167, 168, 169, 170, 171, 172, 173, 174, 175, 176, 177, 178, 179, 180, 181, 182, 183, 184, 185, 186, 187, 188, 189, 190, 191, 192, 193, 194, 195, 196, 197, 198, 203, 204, 205, 206, 207, 208, 209, 210, 211, 212, 213, 214, 215, 234, 235, 236, 237, 238, 239, 240, 241, 242, 243, 244, 245, 246, 247, 248, 249, 250, 251, 252, 253, 254, 255, 256, 257, 258, 259, 260, 261, 262, 263, 264, 265, 266, 267, 268, 269, 270, 271, 272, 273, 274, 275, 276, 277, 278, 279, 280, 281, 282, 283, 284, 285, 286, 287, 288, 289, 290, 291, 292, 293, 294, 295, 296, 297, 298, 299, 300, 301, 302, 303, 304, 305, 306, 307, 308, 309, 310, 311, 216, 217, 218, 219, 220, 221, 222, 223, 224, 225, 226, 227, 228, 229, 230, 231, 232, 233, 312, 313, 314, 315, 316, 317, 318, 319, 320, 321, 322, 323, 324, 325] (by decide +kernel) (by decide +kernel)
set_option maxRecDepth 20000 in
theorem gX11_years_X11_days : GoodIn wsX11_years (wsV RX11 292 RX11 yX11_days wsX11_days) := goodIn_app (goodIn_of _ (by decide +kernel)) ggX11_years_X11_days
set_option maxRecDepth 20000 in
theorem ggX11_years_X11_firstWorn : GoodIn wsX11_years wsX11_firstWorn := goodIn_r _ [202, 2, 12, 3, 81, 82, 83, 6, 84, 85, 86, 87, 88, 89, 90, 91, 92, 93, 94, 95, 96, 97, 98, 99, 100, 101, 102, 103, 104, 105, 16, 106, 107, 19, 20, 108, 109, 110, 111, 112, 113, 32, 114, 52, 34, 115, 116, 117, 118, 119, 120, 121, 122, 123, 124, 70, 125, 126, 127, 128, 129, 130, 131, 132, 133, 134, 135, 136, 137, 138, 139, 140, 141, 142, 76, 143, 144, 145, 80, 146, 147, 148, 149, 26, 27, 150, 151, 152, 153, 23, 24, 25, 28, 154, 155, 156, 157, 158, 159, 160, 161, 162, 163, 164, 165, 166, 167, 168, 169, 170, 171, 172, 173, 174, 175, 176, 177, 178, 179, 180, 181, 182, 183, 184, 185, 186, 187, 188, 189, 190, 191, 192, 193, 194, 195, 196, 197, 198, 203, 204, 205, 206, 207, 208, 209, 210, 211, 212, 213, 214, 215, 216, 217, 218, 219, 220, 221, 222, 223, 224, 225, 226, 227, 228, 229, 230, 231, 232, 233, 234, 235, 236, 237, 238, 239, 240, 241, 242, 243, 244, 245, 246, 247, 248, 249, 250, 251, 252, 253, 254, 255, 256, 257, 258, 259, 260, 261, 262, 263, 264, 265, 266, 267, 268, 269, 270, 271, 272, 273, 274, 275, 276, 277, 278, 279, 280, 281, 282, 283, 284, 285, 286, 287, 288, 289, 290, 291, 292, 293, 294, 295, 296, 297, 298, 299, 300, 301, 302, 303, 304, 305, 306, 307, 308, 309, 310, 311, 312, 313, 314, 315, 316, 317, 318, 319, 320, 321, 322, 323, 324, 325] (by decide +kernel) (by decide +kernel)
set_option maxRecDepth 20000 in
theorem gX11_years_X11_firstWorn : GoodIn wsX11_years (wsV RX11 296 RX11 yX11_firstWorn wsX11_firstWorn) := goodIn_app (goodIn_of _ (by decide +kernel)) ggX11_years_X11_firstWorn
theorem dX11_years_0 : decode cX11_years 0 = .ok (.iload_n 2, 1) := by decide +kernel
theorem dX11_years_1 : decode cX11_years 1 = .ok (.iconst 1, 1) := by decide +kernel
theorem dX11_years_2 : decode cX11_years 2 = .ok (.ldc_w 291, 3) := by decide +kernel
theorem dX11_years_5 : decode cX11_years 5 = .ok (.invokestatic 71, 3) := by decide +kernel
theorem dX11_years_8 : decode cX11_years 8 = .ok (.ifCond .eq 24, 3) := by decide +kernel
theorem dX11_years_11 : decode cX11_years 11 = .ok (.iload_n 3, 1) := by decide +kernel
theorem dX11_years_12 : decode cX11_years 12 = .ok (.iconst 0, 1) := by decide +kernel
theorem dX11_years_13 : decode cX11_years 13 = .ok (.iconst 1, 1) := by decide +kernel
theorem dX11_years_14 : decode cX11_years 14 = .ok (.invokestatic 71, 3) := by decide +kernel
theorem dX11_years_17 : decode cX11_years 17 = .ok (.ifCond .eq 15, 3) := by decide +kernel
theorem dX11_years_20 : decode cX11_years 20 = .ok (.iload_n 3, 1) := by decide +kernel
theorem dX11_years_21 : decode cX11_years 21 = .ok (.ifCond .ne 14, 3) := by decide +kernel
theorem dX11_years_24 : decode cX11_years 24 = .ok (.aload_n 0, 1) := by decide +kernel
theorem dX11_years_25 : decode cX11_years 25 = .ok (.iload_n 1, 1) := by decide +kernel
theorem dX11_years_26 : decode cX11_years 26 = .ok (.invokevirtual 160, 3) := by decide +kernel
theorem dX11_years_29 : decode cX11_years 29 = .ok (.ifCond .ne 6, 3) := by decide +kernel
theorem dX11_years_32 : decode cX11_years 32 = .ok (.bipush (-2), 2) := by decide +kernel
theorem dX11_years_34 : decode cX11_years 34 = .ok (.ireturn, 1) := by decide +kernel
theorem dX11_years_35 : decode cX11_years 35 = .ok (.aload_n 0, 1) := by decide +kernel
theorem dX11_years_36 : decode cX11_years 36 = .ok (.getfield 10, 3) := by decide +kernel
theorem dX11_years_39 : decode cX11_years 39 = .ok (.invokevirtual 176, 3) := by decide +kernel
theorem dX11_years_42 : decode cX11_years 42 = .ok (.iload_n 3, 1) := by decide +kernel
theorem dX11_years_43 : decode cX11_years 43 = .ok (.ifCond .ne 20, 3) := by decide +kernel
theorem dX11_years_46 : decode cX11_years 46 = .ok (.aload_n 0, 1) := by decide +kernel
theorem dX11_years_47 : decode cX11_years 47 = .ok (.aload_n 0, 1) := by decide +kernel
theorem dX11_years_48 : decode cX11_years 48 = .ok (.getfield 10, 3) := by decide +kernel
theorem dX11_years_51 : decode cX11_years 51 = .ok (.getfield 163, 3) := by decide +kernel
theorem dX11_years_54 : decode cX11_years 54 = .ok (.iload_n 1, 1) := by decide +kernel
theorem dX11_years_55 : decode cX11_years 55 = .ok (.aaload, 1) := by decide +kernel
theorem dX11_years_56 : decode cX11_years 56 = .ok (.iload_n 2, 1) := by decide +kernel
theorem dX11_years_57 : decode cX11_years 57 = .ok (.invokevirtual 292, 3) := by decide +kernel
theorem dX11_years_60 : decode cX11_years 60 = .ok (.goto 8, 3) := by decide +kernel
theorem dX11_years_63 : decode cX11_years 63 = .ok (.aload_n 0, 1) := by decide +kernel
theorem dX11_years_64 : decode cX11_years 64 = .ok (.iload_n 2, 1) := by decide +kernel
theorem dX11_years_65 : decode cX11_years 65 = .ok (.invokevirtual 296, 3) := by decide +kernel
theorem dX11_years_68 : decode cX11_years 68 = .ok (.ireturn, 1) := by decide +kernel
set_option maxRecDepth 20000 in
theorem ggX11_start_X11_within : GoodIn wsX11_start wsX11_within := goodIn_r _ [6] (by decide +kernel) (by decide +kernel)
set_option maxRecDepth 20000 in
theorem gX11_start_X11_within : GoodIn wsX11_start (va_wsS RX11 71 yX11_within wsX11_within) := goodIn_app (goodIn_of _ (by decide +kernel)) ggX11_start_X11_within
set_option maxRecDepth 20000 in
theorem ggX11_start_X6_spin : GoodIn wsX11_start wsX6_spin := goodIn_r _ [11, 12, 13, 14, 15, 16, 17, 18, 19, 20, 21, 22, 23, 24, 25, 26, 27, 28, 29, 30, 31, 32, 33, 34, 35, 36, 37, 38, 39, 40, 41, 42, 43, 44, 45, 46, 47, 48, 49, 50, 51, 52, 53, 54, 55, 56, 57, 58, 59, 60, 61, 62, 63, 64, 65, 66, 67, 68, 69, 70, 71, 72, 73, 74, 140, 141, 142, 143, 144, 145, 146, 147, 148, 149, 150, 151, 152, 153, 154, 155, 156, 157, 158, 159, 160, 161, 162, 163, 164, 165, 166, 167, 168, 169, 170, 171, 172, 173, 174, 175, 176, 177, 178, 179, 180, 181, 182, 183, 184, 185, 186, 187, 188, 189, 190, 191, 192, 193, 194, 195, 196, 197, 198, 199, 200, 201, 202, 203, 204, 205, 206, 207, 208, 209, 210, 211, 212, 213, 214, 215, 216, 217, 218, 219, 220, 221, 222, 223, 224, 225, 226, 227, 228, 229, 230, 231, 232, 233, 234, 235] (by decide +kernel) (by decide +kernel)
set_option maxRecDepth 20000 in
theorem gX11_start_X6_spin : GoodIn wsX11_start (wsV RX11 176 RX6 yX6_spin wsX6_spin) := goodIn_app (goodIn_of _ (by decide +kernel)) ggX11_start_X6_spin
set_option maxRecDepth 20000 in
theorem ggX11_start_X6_loadedInAll : GoodIn wsX11_start wsX6_loadedInAll := goodIn_r _ [78, 79, 80, 81, 10, 82, 83, 84, 85, 86, 87, 88, 89, 90, 91, 92, 93, 94, 95, 96, 97, 13, 14, 98, 99, 100, 101, 140, 141, 142, 143, 144, 145, 146, 147, 148, 149, 150, 151, 152, 153, 154, 155, 156, 157, 236, 237, 238, 239, 240, 241, 242, 243, 244] (by decide +kernel) (by decide +kernel)
set_option maxRecDepth 20000 in
theorem gX11_start_X6_loadedInAll : GoodIn wsX11_start (wsV RX11 237 RX6 yX6_loadedInAll wsX6_loadedInAll) := goodIn_app (goodIn_of _ (by decide +kernel)) ggX11_start_X6_loadedInAll
set_option maxRecDepth 20000 in
theorem ggX11_start_X11_firstOrder : GoodIn wsX11_start wsX11_firstOrder := goodIn_r _ [105, 1, 106, 107, 108, 109, 110, 10, 111, 17, 18, 20, 112, 113, 114, 5, 115, 116, 117, 118, 127, 128, 129, 130, 131, 132, 133, 134, 135, 136, 137, 138, 139, 140, 141, 142, 143, 144, 145, 146, 147, 148, 149, 150, 151, 152, 153, 154, 155, 156, 157, 158, 159, 160, 161, 162, 163, 164, 165, 166, 167, 168, 169, 170, 171, 172, 173, 174, 175, 176, 177, 178, 179, 180, 181, 182, 183, 184, 185, 186, 187, 188, 189, 190, 191, 192, 193, 194, 195, 196, 197, 198, 199, 200, 201, 202, 203, 204, 205, 206, 207, 208, 209, 210, 211, 212, 213, 214, 215, 216, 217, 218, 219, 220, 221, 222, 223, 224, 225, 226, 227, 228, 229, 230, 231, 232, 233, 234, 235] (by decide +kernel) (by decide +kernel)
set_option maxRecDepth 20000 in
theorem gX11_start_X11_firstOrder : GoodIn wsX11_start (wsV RX11 299 RX11 yX11_firstOrder wsX11_firstOrder) := goodIn_app (goodIn_of _ (by decide +kernel)) ggX11_start_X11_firstOrder
set_option maxRecDepth 20000 in
theorem ggX11_start_X11_mostJerk : GoodIn wsX11_start wsX11_mostJerk := goodIn_r _ [122, 1, 116, 106, 117, 107, 123, 124, 100, 125, 126, 80, 81, 10, 82, 83, 84, 85, 86, 87, 88, 89, 90, 91, 92, 93, 94, 95, 96, 97, 13, 14, 98, 99, 101, 127, 128, 129, 130, 131, 132, 133, 134, 135, 136, 137, 138, 139, 140, 141, 142, 143, 144, 145, 146, 147, 148, 149, 150, 151, 152, 153, 154, 155, 156, 157, 158, 159, 160, 161, 162, 163, 164, 165, 166, 167, 168, 169, 170, 171, 172, 173, 174, 175, 176, 177, 178, 179, 180, 181, 182, 183, 184, 185, 186, 187, 188, 189, 190, 191, 192, 193, 194, 195, 196, 197, 198, 199, 200, 201, 202, 203, 204, 205, 206, 207, 208, 209, 210, 211, 212, 213, 214, 215, 216, 217, 218, 219, 220, 221, 222, 223, 224, 225, 226, 227, 228, 229, 230, 231, 232, 233, 234, 235, 236, 237, 238, 239, 240, 241, 242, 243, 244] (by decide +kernel) (by decide +kernel)
set_option maxRecDepth 20000 in
theorem gX11_start_X11_mostJerk : GoodIn wsX11_start (wsV RX11 302 RX11 yX11_mostJerk wsX11_mostJerk) := goodIn_app (goodIn_of _ (by decide +kernel)) ggX11_start_X11_mostJerk
theorem dX11_start_0 : decode cX11_start 0 = .ok (.iload_n 1, 1) := by decide +kernel
theorem dX11_start_1 : decode cX11_start 1 = .ok (.iconst 0, 1) := by decide +kernel
theorem dX11_start_2 : decode cX11_start 2 = .ok (.iconst 1, 1) := by decide +kernel
theorem dX11_start_3 : decode cX11_start 3 = .ok (.invokestatic 71, 3) := by decide +kernel
theorem dX11_start_6 : decode cX11_start 6 = .ok (.ifCond .ne 6, 3) := by decide +kernel
theorem dX11_start_9 : decode cX11_start 9 = .ok (.bipush (-2), 2) := by decide +kernel
theorem dX11_start_11 : decode cX11_start 11 = .ok (.ireturn, 1) := by decide +kernel
theorem dX11_start_12 : decode cX11_start 12 = .ok (.aload_n 0, 1) := by decide +kernel
theorem dX11_start_13 : decode cX11_start 13 = .ok (.getfield 10, 3) := by decide +kernel
theorem dX11_start_16 : decode cX11_start 16 = .ok (.invokevirtual 176, 3) := by decide +kernel
theorem dX11_start_19 : decode cX11_start 19 = .ok (.aload_n 0, 1) := by decide +kernel
theorem dX11_start_20 : decode cX11_start 20 = .ok (.getfield 10, 3) := by decide +kernel
theorem dX11_start_23 : decode cX11_start 23 = .ok (.invokevirtual 237, 3) := by decide +kernel
theorem dX11_start_26 : decode cX11_start 26 = .ok (.aload_n 0, 1) := by decide +kernel
theorem dX11_start_27 : decode cX11_start 27 = .ok (.getfield 10, 3) := by decide +kernel
theorem dX11_start_30 : decode cX11_start 30 = .ok (.getfield 85, 3) := by decide +kernel
theorem dX11_start_33 : decode cX11_start 33 = .ok (.if_icmp .le 5, 3) := by decide +kernel
theorem dX11_start_36 : decode cX11_start 36 = .ok (.iconst (-1), 1) := by decide +kernel
theorem dX11_start_37 : decode cX11_start 37 = .ok (.ireturn, 1) := by decide +kernel
theorem dX11_start_38 : decode cX11_start 38 = .ok (.aload_n 0, 1) := by decide +kernel
theorem dX11_start_39 : decode cX11_start 39 = .ok (.invokevirtual 299, 3) := by decide +kernel
theorem dX11_start_42 : decode cX11_start 42 = .ok (.istore_n 2, 1) := by decide +kernel
theorem dX11_start_43 : decode cX11_start 43 = .ok (.iload_n 1, 1) := by decide +kernel
theorem dX11_start_44 : decode cX11_start 44 = .ok (.ifCond .eq 8, 3) := by decide +kernel
theorem dX11_start_47 : decode cX11_start 47 = .ok (.iload_n 2, 1) := by decide +kernel
theorem dX11_start_48 : decode cX11_start 48 = .ok (.iconst (-1), 1) := by decide +kernel
theorem dX11_start_49 : decode cX11_start 49 = .ok (.if_icmp .ne 7, 3) := by decide +kernel
theorem dX11_start_52 : decode cX11_start 52 = .ok (.iload_n 2, 1) := by decide +kernel
theorem dX11_start_53 : decode cX11_start 53 = .ok (.goto 7, 3) := by decide +kernel
theorem dX11_start_56 : decode cX11_start 56 = .ok (.aload_n 0, 1) := by decide +kernel
theorem dX11_start_57 : decode cX11_start 57 = .ok (.invokevirtual 302, 3) := by decide +kernel
theorem dX11_start_60 : decode cX11_start 60 = .ok (.ireturn, 1) := by decide +kernel
set_option maxRecDepth 20000 in
theorem ggX11_save_X6_spin : GoodIn wsX11_save wsX6_spin := goodIn_r _ [8, 9, 10, 11, 12, 13, 14, 15, 16, 17, 18, 19, 20, 21, 22, 23, 24, 25, 26, 27, 28, 29, 30, 31, 32, 33, 34, 35, 36, 37, 38, 39, 40, 41, 42, 43, 44, 45, 46, 47, 48, 49, 50, 51, 52, 53, 54, 55, 56, 57, 58, 59, 60, 61, 62, 63, 64, 65, 66, 67, 68, 69, 70, 71, 97, 98, 99, 100, 101, 102, 103, 104, 105, 106, 107, 108, 109, 110, 111, 112, 113, 114, 115, 116, 117, 118, 119, 120, 121, 122, 123, 124, 125, 126, 127, 128, 129, 130, 131, 132, 133, 134, 135, 136, 137, 138, 139, 140, 141, 142, 143, 144, 145, 146, 147, 148, 149, 150, 151, 152, 153, 154, 155, 156, 157, 158, 159, 160, 161, 162, 163, 164, 165, 166, 167, 168, 169, 170, 171, 172, 173, 174, 175, 176, 177, 178, 179, 180, 181, 182, 183, 184, 185, 186, 187, 188, 189, 190, 191, 192] (by decide +kernel) (by decide +kernel)
set_option maxRecDepth 20000 in
theorem gX11_save_X6_spin : GoodIn wsX11_save (wsV RX11 176 RX6 yX6_spin wsX6_spin) := goodIn_app (goodIn_of _ (by decide +kernel)) ggX11_save_X6_spin
set_option maxRecDepth 20000 in
theorem ggX11_save_X6_shaftsFrom : GoodIn wsX11_save wsX6_shaftsFrom := goodIn_r _ [75, 14, 15, 16, 17, 19, 18, 97, 98, 99, 100, 101, 102, 103, 104, 105, 106, 107, 108, 109, 110, 111, 112, 113, 114, 115, 116, 117, 118, 119, 120, 121, 122, 123, 124, 125, 126, 127, 128, 129, 130, 131, 132, 133, 134, 135, 136, 137, 138, 139, 140, 141, 142, 143, 144, 145, 146, 147, 148, 149, 150, 151, 152, 153, 154, 155, 156, 157, 158, 159, 160, 161, 162, 163, 164, 165, 166, 167, 168, 169, 170, 171, 172, 173, 174, 175, 176, 177, 178, 179, 180, 181, 182, 183, 184, 185, 186, 187, 188, 189, 190, 191, 192] (by decide +kernel) (by decide +kernel)
set_option maxRecDepth 20000 in
theorem gX11_save_X6_shaftsFrom : GoodIn wsX11_save (wsV RX11 305 RX6 yX6_shaftsFrom wsX6_shaftsFrom) := goodIn_app (goodIn_of _ (by decide +kernel)) ggX11_save_X6_shaftsFrom
set_option maxRecDepth 20000 in
theorem ggX11_save_X6_machinesOn : GoodIn wsX11_save wsX6_machinesOn := goodIn_r _ [79, 80, 81, 82, 83, 97, 98, 99, 100, 101, 102, 103, 104, 105, 106, 107, 108, 109, 110, 111, 112, 113, 114, 193, 194, 195, 196, 197, 198, 199, 200, 201] (by decide +kernel) (by decide +kernel)
set_option maxRecDepth 20000 in
theorem gX11_save_X6_machinesOn : GoodIn wsX11_save (wsV RX11 308 RX6 yX6_machinesOn wsX6_machinesOn) := goodIn_app (goodIn_of _ (by decide +kernel)) ggX11_save_X6_machinesOn
theorem dX11_save_0 : decode cX11_save 0 = .ok (.aload_n 0, 1) := by decide +kernel
theorem dX11_save_1 : decode cX11_save 1 = .ok (.getfield 10, 3) := by decide +kernel
theorem dX11_save_4 : decode cX11_save 4 = .ok (.invokevirtual 176, 3) := by decide +kernel
theorem dX11_save_7 : decode cX11_save 7 = .ok (.iconst 0, 1) := by decide +kernel
theorem dX11_save_8 : decode cX11_save 8 = .ok (.istore_n 1, 1) := by decide +kernel
theorem dX11_save_9 : decode cX11_save 9 = .ok (.iconst 1, 1) := by decide +kernel
theorem dX11_save_10 : decode cX11_save 10 = .ok (.istore_n 2, 1) := by decide +kernel
theorem dX11_save_11 : decode cX11_save 11 = .ok (.iload_n 2, 1) := by decide +kernel
theorem dX11_save_12 : decode cX11_save 12 = .ok (.aload_n 0, 1) := by decide +kernel
theorem dX11_save_13 : decode cX11_save 13 = .ok (.getfield 10, 3) := by decide +kernel
theorem dX11_save_16 : decode cX11_save 16 = .ok (.getfield 75, 3) := by decide +kernel
theorem dX11_save_19 : decode cX11_save 19 = .ok (.if_icmp .ge 47, 3) := by decide +kernel
theorem dX11_save_22 : decode cX11_save 22 = .ok (.aload_n 0, 1) := by decide +kernel
theorem dX11_save_23 : decode cX11_save 23 = .ok (.getfield 10, 3) := by decide +kernel
theorem dX11_save_26 : decode cX11_save 26 = .ok (.getfield 215, 3) := by decide +kernel
theorem dX11_save_29 : decode cX11_save 29 = .ok (.iload_n 2, 1) := by decide +kernel
theorem dX11_save_30 : decode cX11_save 30 = .ok (.laload, 1) := by decide +kernel
theorem dX11_save_31 : decode cX11_save 31 = .ok (.lconst 0, 1) := by decide +kernel
theorem dX11_save_32 : decode cX11_save 32 = .ok (.lcmp, 1) := by decide +kernel
theorem dX11_save_33 : decode cX11_save 33 = .ok (.ifCond .le 27, 3) := by decide +kernel
theorem dX11_save_36 : decode cX11_save 36 = .ok (.aload_n 0, 1) := by decide +kernel
theorem dX11_save_37 : decode cX11_save 37 = .ok (.getfield 10, 3) := by decide +kernel
theorem dX11_save_40 : decode cX11_save 40 = .ok (.aload_n 0, 1) := by decide +kernel
theorem dX11_save_41 : decode cX11_save 41 = .ok (.getfield 10, 3) := by decide +kernel
theorem dX11_save_44 : decode cX11_save 44 = .ok (.iload_n 2, 1) := by decide +kernel
theorem dX11_save_45 : decode cX11_save 45 = .ok (.invokevirtual 305, 3) := by decide +kernel
theorem dX11_save_48 : decode cX11_save 48 = .ok (.invokevirtual 308, 3) := by decide +kernel
theorem dX11_save_51 : decode cX11_save 51 = .ok (.ifCond .ne 9, 3) := by decide +kernel
theorem dX11_save_54 : decode cX11_save 54 = .ok (.iload_n 1, 1) := by decide +kernel
theorem dX11_save_55 : decode cX11_save 55 = .ok (.iconst 1, 1) := by decide +kernel
theorem dX11_save_56 : decode cX11_save 56 = .ok (.iload_n 2, 1) := by decide +kernel
theorem dX11_save_57 : decode cX11_save 57 = .ok (.ishl, 1) := by decide +kernel
theorem dX11_save_58 : decode cX11_save 58 = .ok (.ior, 1) := by decide +kernel
theorem dX11_save_59 : decode cX11_save 59 = .ok (.istore_n 1, 1) := by decide +kernel
theorem dX11_save_60 : decode cX11_save 60 = .ok (.iinc 2 1, 3) := by decide +kernel
theorem dX11_save_63 : decode cX11_save 63 = .ok (.goto (-52), 3) := by decide +kernel
theorem dX11_save_66 : decode cX11_save 66 = .ok (.iload_n 1, 1) := by decide +kernel
theorem dX11_save_67 : decode cX11_save 67 = .ok (.ireturn, 1) := by decide +kernel
set_option maxRecDepth 20000 in
theorem ggX11_image_X6_keep : GoodIn wsX11_image wsX6_keep := goodIn_r _ [10, 11, 12, 13, 14, 15, 16, 17, 18, 19, 20, 21, 22, 23, 24, 25, 26, 27, 28, 29, 30, 31, 32, 33, 34, 35, 36, 37, 38, 39, 40, 41, 42, 43, 44, 45, 46, 47, 61, 62, 63, 64, 65, 66, 67, 68, 69, 70, 71, 72, 73, 74, 75, 76, 77, 78, 79, 80, 81, 82, 83, 84, 85, 86, 87, 88, 89, 90, 91, 92, 93, 94, 95, 96, 97, 98, 99, 100, 101, 102, 103, 104, 105, 106, 107, 108, 109, 110, 111, 112, 113, 114, 115, 116, 117, 118, 119, 120, 121, 122, 123, 124, 125, 126, 127, 128, 129, 130, 131, 132, 133, 134, 135, 136, 137, 138, 139, 140, 141, 142, 143, 144, 145, 146, 147, 148, 149, 150, 151, 152, 153, 154, 155, 156, 157, 158, 159, 160, 161, 162, 163, 164, 165] (by decide +kernel) (by decide +kernel)
set_option maxRecDepth 20000 in
theorem gX11_image_X6_keep : GoodIn wsX11_image (wsV RX11 311 RX6 yX6_keep wsX6_keep) := goodIn_app (goodIn_of _ (by decide +kernel)) ggX11_image_X6_keep
theorem dX11_image_0 : decode cX11_image 0 = .ok (.aload_n 0, 1) := by decide +kernel
theorem dX11_image_1 : decode cX11_image 1 = .ok (.getfield 10, 3) := by decide +kernel
theorem dX11_image_4 : decode cX11_image 4 = .ok (.invokevirtual 311, 3) := by decide +kernel
theorem dX11_image_7 : decode cX11_image 7 = .ok (.aload_n 0, 1) := by decide +kernel
theorem dX11_image_8 : decode cX11_image 8 = .ok (.aload_n 0, 1) := by decide +kernel
theorem dX11_image_9 : decode cX11_image 9 = .ok (.getfield 243, 3) := by decide +kernel
theorem dX11_image_12 : decode cX11_image 12 = .ok (.putfield 314, 3) := by decide +kernel
theorem dX11_image_15 : decode cX11_image 15 = .ok (.aload_n 0, 1) := by decide +kernel
theorem dX11_image_16 : decode cX11_image 16 = .ok (.iconst 1, 1) := by decide +kernel
theorem dX11_image_17 : decode cX11_image 17 = .ok (.putfield 317, 3) := by decide +kernel
theorem dX11_image_20 : decode cX11_image 20 = .ok (.aload_n 0, 1) := by decide +kernel
theorem dX11_image_21 : decode cX11_image 21 = .ok (.getfield 10, 3) := by decide +kernel
theorem dX11_image_24 : decode cX11_image 24 = .ok (.getfield 145, 3) := by decide +kernel
theorem dX11_image_27 : decode cX11_image 27 = .ok (.ireturn, 1) := by decide +kernel
set_option maxRecDepth 20000 in
theorem ggX11_back_X6_restore : GoodIn wsX11_back wsX6_restore := goodIn_r _ [10, 11, 12, 13, 14, 15, 16, 17, 18, 19, 20, 21, 9, 22, 23, 24, 25, 26, 27, 28, 29, 30, 31, 32, 33, 34, 35, 36, 37, 38, 39, 40, 41, 42, 43, 44, 45, 46, 60, 61, 62, 63, 64, 65, 66, 67, 68, 69, 70, 71, 72, 73, 74, 75, 76, 77, 78, 79, 80, 81, 82, 83, 84, 85, 86, 87, 88, 89, 90, 91, 92, 93, 94, 95, 96, 97, 98, 99, 100, 101, 102, 103, 104, 105, 106, 107, 108, 109, 110, 111, 112, 113, 114, 115, 116, 117, 118, 119, 120, 121, 122, 123, 124, 125, 126, 127, 128, 129, 130, 131, 132, 133, 134, 135, 136, 137, 138, 139, 140, 141, 142, 143, 144, 145, 146, 147, 148, 149, 150, 151, 152, 153, 154, 155, 156, 157, 158, 159, 160, 161, 162, 163, 164] (by decide +kernel) (by decide +kernel)
set_option maxRecDepth 20000 in
theorem gX11_back_X6_restore : GoodIn wsX11_back (wsV RX11 320 RX6 yX6_restore wsX6_restore) := goodIn_app (goodIn_of _ (by decide +kernel)) ggX11_back_X6_restore
theorem dX11_back_0 : decode cX11_back 0 = .ok (.aload_n 0, 1) := by decide +kernel
theorem dX11_back_1 : decode cX11_back 1 = .ok (.getfield 317, 3) := by decide +kernel
theorem dX11_back_4 : decode cX11_back 4 = .ok (.ifCond .ne 6, 3) := by decide +kernel
theorem dX11_back_7 : decode cX11_back 7 = .ok (.bipush (-3), 2) := by decide +kernel
theorem dX11_back_9 : decode cX11_back 9 = .ok (.ireturn, 1) := by decide +kernel
theorem dX11_back_10 : decode cX11_back 10 = .ok (.aload_n 0, 1) := by decide +kernel
theorem dX11_back_11 : decode cX11_back 11 = .ok (.getfield 10, 3) := by decide +kernel
theorem dX11_back_14 : decode cX11_back 14 = .ok (.invokevirtual 320, 3) := by decide +kernel
theorem dX11_back_17 : decode cX11_back 17 = .ok (.aload_n 0, 1) := by decide +kernel
theorem dX11_back_18 : decode cX11_back 18 = .ok (.aload_n 0, 1) := by decide +kernel
theorem dX11_back_19 : decode cX11_back 19 = .ok (.getfield 314, 3) := by decide +kernel
theorem dX11_back_22 : decode cX11_back 22 = .ok (.putfield 243, 3) := by decide +kernel
theorem dX11_back_25 : decode cX11_back 25 = .ok (.aload_n 0, 1) := by decide +kernel
theorem dX11_back_26 : decode cX11_back 26 = .ok (.getfield 10, 3) := by decide +kernel
theorem dX11_back_29 : decode cX11_back 29 = .ok (.getfield 145, 3) := by decide +kernel
theorem dX11_back_32 : decode cX11_back 32 = .ok (.ireturn, 1) := by decide +kernel
theorem dX11_count_0 : decode cX11_count 0 = .ok (.iload_n 1, 1) := by decide +kernel
theorem dX11_count_1 : decode cX11_count 1 = .ok (.tableswitch 93 0 6 #[43, 51, 59, 67, 75, 80, 88], 43) := by decide +kernel
theorem dX11_count_44 : decode cX11_count 44 = .ok (.aload_n 0, 1) := by decide +kernel
theorem dX11_count_45 : decode cX11_count 45 = .ok (.getfield 10, 3) := by decide +kernel
theorem dX11_count_48 : decode cX11_count 48 = .ok (.getfield 75, 3) := by decide +kernel
theorem dX11_count_51 : decode cX11_count 51 = .ok (.ireturn, 1) := by decide +kernel
theorem dX11_count_52 : decode cX11_count 52 = .ok (.aload_n 0, 1) := by decide +kernel
theorem dX11_count_53 : decode cX11_count 53 = .ok (.getfield 10, 3) := by decide +kernel
theorem dX11_count_56 : decode cX11_count 56 = .ok (.getfield 92, 3) := by decide +kernel
theorem dX11_count_59 : decode cX11_count 59 = .ok (.ireturn, 1) := by decide +kernel
theorem dX11_count_60 : decode cX11_count 60 = .ok (.aload_n 0, 1) := by decide +kernel
theorem dX11_count_61 : decode cX11_count 61 = .ok (.getfield 10, 3) := by decide +kernel
theorem dX11_count_64 : decode cX11_count 64 = .ok (.getfield 125, 3) := by decide +kernel
theorem dX11_count_67 : decode cX11_count 67 = .ok (.ireturn, 1) := by decide +kernel
theorem dX11_count_68 : decode cX11_count 68 = .ok (.aload_n 0, 1) := by decide +kernel
theorem dX11_count_69 : decode cX11_count 69 = .ok (.getfield 10, 3) := by decide +kernel
theorem dX11_count_72 : decode cX11_count 72 = .ok (.getfield 145, 3) := by decide +kernel
theorem dX11_count_75 : decode cX11_count 75 = .ok (.ireturn, 1) := by decide +kernel
theorem dX11_count_76 : decode cX11_count 76 = .ok (.aload_n 0, 1) := by decide +kernel
theorem dX11_count_77 : decode cX11_count 77 = .ok (.getfield 50, 3) := by decide +kernel
theorem dX11_count_80 : decode cX11_count 80 = .ok (.ireturn, 1) := by decide +kernel
theorem dX11_count_81 : decode cX11_count 81 = .ok (.aload_n 0, 1) := by decide +kernel
theorem dX11_count_82 : decode cX11_count 82 = .ok (.getfield 19, 3) := by decide +kernel
theorem dX11_count_85 : decode cX11_count 85 = .ok (.getfield 240, 3) := by decide +kernel
theorem dX11_count_88 : decode cX11_count 88 = .ok (.ireturn, 1) := by decide +kernel
theorem dX11_count_89 : decode cX11_count 89 = .ok (.aload_n 0, 1) := by decide +kernel
theorem dX11_count_90 : decode cX11_count 90 = .ok (.getfield 243, 3) := by decide +kernel
theorem dX11_count_93 : decode cX11_count 93 = .ok (.ireturn, 1) := by decide +kernel
theorem dX11_count_94 : decode cX11_count 94 = .ok (.bipush (-2), 2) := by decide +kernel
theorem dX11_count_96 : decode cX11_count 96 = .ok (.ireturn, 1) := by decide +kernel
set_option maxRecDepth 20000 in
theorem ggX11_sheet_X11_isSheet : GoodIn wsX11_sheet wsX11_isSheet := goodIn_r _ [5, 6, 7, 4, 8] (by decide +kernel) (by decide +kernel)
set_option maxRecDepth 20000 in
theorem gX11_sheet_X11_isSheet : GoodIn wsX11_sheet (va_wsS RX11 323 yX11_isSheet wsX11_isSheet) := goodIn_app (goodIn_of _ (by decide +kernel)) ggX11_sheet_X11_isSheet
set_option maxRecDepth 20000 in
theorem ggX11_sheet_X11_isSort : GoodIn wsX11_sheet wsX11_isSort := goodIn_r _ [11, 6, 7, 4, 8] (by decide +kernel) (by decide +kernel)
set_option maxRecDepth 20000 in
theorem gX11_sheet_X11_isSort : GoodIn wsX11_sheet (va_wsS RX11 326 yX11_isSort wsX11_isSort) := goodIn_app (goodIn_of _ (by decide +kernel)) ggX11_sheet_X11_isSort
set_option maxRecDepth 20000 in
theorem ggX11_sheet_X8_become : GoodIn wsX11_sheet wsX8_become := goodIn_r _ [16, 17, 18, 19, 20, 21, 22, 23, 37, 38, 39] (by decide +kernel) (by decide +kernel)
set_option maxRecDepth 20000 in
theorem gX11_sheet_X8_become : GoodIn wsX11_sheet (wsV RX11 329 RX8 yX8_become wsX8_become) := goodIn_app (goodIn_of _ (by decide +kernel)) ggX11_sheet_X8_become
theorem dX11_sheet_0 : decode cX11_sheet 0 = .ok (.iload_n 1, 1) := by decide +kernel
theorem dX11_sheet_1 : decode cX11_sheet 1 = .ok (.invokestatic 323, 3) := by decide +kernel
theorem dX11_sheet_4 : decode cX11_sheet 4 = .ok (.ifCond .eq 15, 3) := by decide +kernel
theorem dX11_sheet_7 : decode cX11_sheet 7 = .ok (.iload_n 2, 1) := by decide +kernel
theorem dX11_sheet_8 : decode cX11_sheet 8 = .ok (.iconst (-1), 1) := by decide +kernel
theorem dX11_sheet_9 : decode cX11_sheet 9 = .ok (.if_icmp .eq 13, 3) := by decide +kernel
theorem dX11_sheet_12 : decode cX11_sheet 12 = .ok (.iload_n 2, 1) := by decide +kernel
theorem dX11_sheet_13 : decode cX11_sheet 13 = .ok (.invokestatic 326, 3) := by decide +kernel
theorem dX11_sheet_16 : decode cX11_sheet 16 = .ok (.ifCond .ne 6, 3) := by decide +kernel
theorem dX11_sheet_19 : decode cX11_sheet 19 = .ok (.bipush (-2), 2) := by decide +kernel
theorem dX11_sheet_21 : decode cX11_sheet 21 = .ok (.ireturn, 1) := by decide +kernel
theorem dX11_sheet_22 : decode cX11_sheet 22 = .ok (.iload_n 2, 1) := by decide +kernel
theorem dX11_sheet_23 : decode cX11_sheet 23 = .ok (.iconst (-1), 1) := by decide +kernel
theorem dX11_sheet_24 : decode cX11_sheet 24 = .ok (.if_icmp .ne 16, 3) := by decide +kernel
theorem dX11_sheet_27 : decode cX11_sheet 27 = .ok (.aload_n 0, 1) := by decide +kernel
theorem dX11_sheet_28 : decode cX11_sheet 28 = .ok (.getfield 60, 3) := by decide +kernel
theorem dX11_sheet_31 : decode cX11_sheet 31 = .ok (.iload_n 1, 1) := by decide +kernel
theorem dX11_sheet_32 : decode cX11_sheet 32 = .ok (.aaload, 1) := by decide +kernel
theorem dX11_sheet_33 : decode cX11_sheet 33 = .ok (.iconst (-1), 1) := by decide +kernel
theorem dX11_sheet_34 : decode cX11_sheet 34 = .ok (.iconst 0, 1) := by decide +kernel
theorem dX11_sheet_35 : decode cX11_sheet 35 = .ok (.invokevirtual 329, 3) := by decide +kernel
theorem dX11_sheet_38 : decode cX11_sheet 38 = .ok (.iconst 1, 1) := by decide +kernel
theorem dX11_sheet_39 : decode cX11_sheet 39 = .ok (.ireturn, 1) := by decide +kernel
theorem dX11_sheet_40 : decode cX11_sheet 40 = .ok (.iload_n 3, 1) := by decide +kernel
theorem dX11_sheet_41 : decode cX11_sheet 41 = .ok (.bipush 40, 2) := by decide +kernel
theorem dX11_sheet_43 : decode cX11_sheet 43 = .ok (.if_icmp .le 6, 3) := by decide +kernel
theorem dX11_sheet_46 : decode cX11_sheet 46 = .ok (.bipush (-2), 2) := by decide +kernel
theorem dX11_sheet_48 : decode cX11_sheet 48 = .ok (.ireturn, 1) := by decide +kernel
theorem dX11_sheet_49 : decode cX11_sheet 49 = .ok (.iload_n 3, 1) := by decide +kernel
theorem dX11_sheet_50 : decode cX11_sheet 50 = .ok (.ifCond .ge 6, 3) := by decide +kernel
theorem dX11_sheet_53 : decode cX11_sheet 53 = .ok (.bipush (-14), 2) := by decide +kernel
theorem dX11_sheet_55 : decode cX11_sheet 55 = .ok (.ireturn, 1) := by decide +kernel
theorem dX11_sheet_56 : decode cX11_sheet 56 = .ok (.aload_n 0, 1) := by decide +kernel
theorem dX11_sheet_57 : decode cX11_sheet 57 = .ok (.getfield 60, 3) := by decide +kernel
theorem dX11_sheet_60 : decode cX11_sheet 60 = .ok (.iload_n 1, 1) := by decide +kernel
theorem dX11_sheet_61 : decode cX11_sheet 61 = .ok (.aaload, 1) := by decide +kernel
theorem dX11_sheet_62 : decode cX11_sheet 62 = .ok (.iload_n 2, 1) := by decide +kernel
theorem dX11_sheet_63 : decode cX11_sheet 63 = .ok (.iload_n 3, 1) := by decide +kernel
theorem dX11_sheet_64 : decode cX11_sheet 64 = .ok (.invokevirtual 329, 3) := by decide +kernel
theorem dX11_sheet_67 : decode cX11_sheet 67 = .ok (.iconst 1, 1) := by decide +kernel
theorem dX11_sheet_68 : decode cX11_sheet 68 = .ok (.ireturn, 1) := by decide +kernel
set_option maxRecDepth 20000 in
theorem ggX11_cell_X11_isSheet : GoodIn wsX11_cell wsX11_isSheet := goodIn_r _ [7, 8, 9, 6, 10] (by decide +kernel) (by decide +kernel)
set_option maxRecDepth 20000 in
theorem gX11_cell_X11_isSheet : GoodIn wsX11_cell (va_wsS RX11 323 yX11_isSheet wsX11_isSheet) := goodIn_app (goodIn_of _ (by decide +kernel)) ggX11_cell_X11_isSheet
set_option maxRecDepth 20000 in
theorem ggX11_cell_X11_within : GoodIn wsX11_cell wsX11_within := goodIn_r _ [10] (by decide +kernel) (by decide +kernel)
set_option maxRecDepth 20000 in
theorem gX11_cell_X11_within : GoodIn wsX11_cell (va_wsS RX11 71 yX11_within wsX11_within) := goodIn_app (goodIn_of _ (by decide +kernel)) ggX11_cell_X11_within
set_option maxRecDepth 20000 in
theorem ggX11_cell_X8_put : GoodIn wsX11_cell wsX8_put := goodIn_r _ [15, 16, 17, 31, 32, 33] (by decide +kernel) (by decide +kernel)
set_option maxRecDepth 20000 in
theorem gX11_cell_X8_put : GoodIn wsX11_cell (wsV RX11 339 RX8 yX8_put wsX8_put) := goodIn_app (goodIn_of _ (by decide +kernel)) ggX11_cell_X8_put
theorem dX11_cell_0 : decode cX11_cell 0 = .ok (.iload_n 1, 1) := by decide +kernel
theorem dX11_cell_1 : decode cX11_cell 1 = .ok (.invokestatic 323, 3) := by decide +kernel
theorem dX11_cell_4 : decode cX11_cell 4 = .ok (.ifCond .ne 6, 3) := by decide +kernel
theorem dX11_cell_7 : decode cX11_cell 7 = .ok (.bipush (-2), 2) := by decide +kernel
theorem dX11_cell_9 : decode cX11_cell 9 = .ok (.ireturn, 1) := by decide +kernel
theorem dX11_cell_10 : decode cX11_cell 10 = .ok (.aload_n 0, 1) := by decide +kernel
theorem dX11_cell_11 : decode cX11_cell 11 = .ok (.getfield 60, 3) := by decide +kernel
theorem dX11_cell_14 : decode cX11_cell 14 = .ok (.iload_n 1, 1) := by decide +kernel
theorem dX11_cell_15 : decode cX11_cell 15 = .ok (.aaload, 1) := by decide +kernel
theorem dX11_cell_16 : decode cX11_cell 16 = .ok (.astore 4, 2) := by decide +kernel
theorem dX11_cell_18 : decode cX11_cell 18 = .ok (.aload 4, 2) := by decide +kernel
theorem dX11_cell_20 : decode cX11_cell 20 = .ok (.getfield 333, 3) := by decide +kernel
theorem dX11_cell_23 : decode cX11_cell 23 = .ok (.iconst (-1), 1) := by decide +kernel
theorem dX11_cell_24 : decode cX11_cell 24 = .ok (.if_icmp .ne 6, 3) := by decide +kernel
theorem dX11_cell_27 : decode cX11_cell 27 = .ok (.bipush (-11), 2) := by decide +kernel
theorem dX11_cell_29 : decode cX11_cell 29 = .ok (.ireturn, 1) := by decide +kernel
theorem dX11_cell_30 : decode cX11_cell 30 = .ok (.iload_n 2, 1) := by decide +kernel
theorem dX11_cell_31 : decode cX11_cell 31 = .ok (.iconst 0, 1) := by decide +kernel
theorem dX11_cell_32 : decode cX11_cell 32 = .ok (.aload 4, 2) := by decide +kernel
theorem dX11_cell_34 : decode cX11_cell 34 = .ok (.getfield 336, 3) := by decide +kernel
theorem dX11_cell_37 : decode cX11_cell 37 = .ok (.iconst 1, 1) := by decide +kernel
theorem dX11_cell_38 : decode cX11_cell 38 = .ok (.isub, 1) := by decide +kernel
theorem dX11_cell_39 : decode cX11_cell 39 = .ok (.invokestatic 71, 3) := by decide +kernel
theorem dX11_cell_42 : decode cX11_cell 42 = .ok (.ifCond .ne 6, 3) := by decide +kernel
theorem dX11_cell_45 : decode cX11_cell 45 = .ok (.bipush (-12), 2) := by decide +kernel
theorem dX11_cell_47 : decode cX11_cell 47 = .ok (.ireturn, 1) := by decide +kernel
theorem dX11_cell_48 : decode cX11_cell 48 = .ok (.aload 4, 2) := by decide +kernel
theorem dX11_cell_50 : decode cX11_cell 50 = .ok (.iload_n 2, 1) := by decide +kernel
theorem dX11_cell_51 : decode cX11_cell 51 = .ok (.iload_n 3, 1) := by decide +kernel
theorem dX11_cell_52 : decode cX11_cell 52 = .ok (.invokevirtual 339, 3) := by decide +kernel
theorem dX11_cell_55 : decode cX11_cell 55 = .ok (.iconst 1, 1) := by decide +kernel
theorem dX11_cell_56 : decode cX11_cell 56 = .ok (.ireturn, 1) := by decide +kernel
set_option maxRecDepth 20000 in
theorem ggX11_copy_X11_isSheet : GoodIn wsX11_copy wsX11_isSheet := goodIn_r _ [11, 12, 13, 10, 14] (by decide +kernel) (by decide +kernel)
set_option maxRecDepth 20000 in
theorem gX11_copy_X11_isSheet : GoodIn wsX11_copy (va_wsS RX11 323 yX11_isSheet wsX11_isSheet) := goodIn_app (goodIn_of _ (by decide +kernel)) ggX11_copy_X11_isSheet
set_option maxRecDepth 20000 in
theorem ggX11_copy_X8_holds : GoodIn wsX11_copy wsX8_holds := goodIn_r _ [19, 20, 34, 35, 36] (by decide +kernel) (by decide +kernel)
set_option maxRecDepth 20000 in
theorem gX11_copy_X8_holds : GoodIn wsX11_copy (wsV RX11 342 RX8 yX8_holds wsX8_holds) := goodIn_app (goodIn_of _ (by decide +kernel)) ggX11_copy_X8_holds
theorem dX11_copy_0 : decode cX11_copy 0 = .ok (.iload_n 1, 1) := by decide +kernel
theorem dX11_copy_1 : decode cX11_copy 1 = .ok (.invokestatic 323, 3) := by decide +kernel
theorem dX11_copy_4 : decode cX11_copy 4 = .ok (.ifCond .eq 10, 3) := by decide +kernel
theorem dX11_copy_7 : decode cX11_copy 7 = .ok (.iload_n 3, 1) := by decide +kernel
theorem dX11_copy_8 : decode cX11_copy 8 = .ok (.invokestatic 323, 3) := by decide +kernel
theorem dX11_copy_11 : decode cX11_copy 11 = .ok (.ifCond .ne 6, 3) := by decide +kernel
theorem dX11_copy_14 : decode cX11_copy 14 = .ok (.bipush (-2), 2) := by decide +kernel
theorem dX11_copy_16 : decode cX11_copy 16 = .ok (.ireturn, 1) := by decide +kernel
theorem dX11_copy_17 : decode cX11_copy 17 = .ok (.aload_n 0, 1) := by decide +kernel
theorem dX11_copy_18 : decode cX11_copy 18 = .ok (.getfield 60, 3) := by decide +kernel
theorem dX11_copy_21 : decode cX11_copy 21 = .ok (.iload_n 1, 1) := by decide +kernel
theorem dX11_copy_22 : decode cX11_copy 22 = .ok (.aaload, 1) := by decide +kernel
theorem dX11_copy_23 : decode cX11_copy 23 = .ok (.astore 6, 2) := by decide +kernel
theorem dX11_copy_25 : decode cX11_copy 25 = .ok (.aload_n 0, 1) := by decide +kernel
theorem dX11_copy_26 : decode cX11_copy 26 = .ok (.getfield 60, 3) := by decide +kernel
theorem dX11_copy_29 : decode cX11_copy 29 = .ok (.iload_n 3, 1) := by decide +kernel
theorem dX11_copy_30 : decode cX11_copy 30 = .ok (.aaload, 1) := by decide +kernel
theorem dX11_copy_31 : decode cX11_copy 31 = .ok (.astore 7, 2) := by decide +kernel
theorem dX11_copy_33 : decode cX11_copy 33 = .ok (.aload 6, 2) := by decide +kernel
theorem dX11_copy_35 : decode cX11_copy 35 = .ok (.getfield 333, 3) := by decide +kernel
theorem dX11_copy_38 : decode cX11_copy 38 = .ok (.iconst (-1), 1) := by decide +kernel
theorem dX11_copy_39 : decode cX11_copy 39 = .ok (.if_icmp .eq 12, 3) := by decide +kernel
theorem dX11_copy_42 : decode cX11_copy 42 = .ok (.aload 7, 2) := by decide +kernel
theorem dX11_copy_44 : decode cX11_copy 44 = .ok (.getfield 333, 3) := by decide +kernel
theorem dX11_copy_47 : decode cX11_copy 47 = .ok (.iconst (-1), 1) := by decide +kernel
theorem dX11_copy_48 : decode cX11_copy 48 = .ok (.if_icmp .ne 6, 3) := by decide +kernel
theorem dX11_copy_51 : decode cX11_copy 51 = .ok (.bipush (-11), 2) := by decide +kernel
theorem dX11_copy_53 : decode cX11_copy 53 = .ok (.ireturn, 1) := by decide +kernel
theorem dX11_copy_54 : decode cX11_copy 54 = .ok (.aload 6, 2) := by decide +kernel
theorem dX11_copy_56 : decode cX11_copy 56 = .ok (.getfield 333, 3) := by decide +kernel
theorem dX11_copy_59 : decode cX11_copy 59 = .ok (.aload 7, 2) := by decide +kernel
theorem dX11_copy_61 : decode cX11_copy 61 = .ok (.getfield 333, 3) := by decide +kernel
theorem dX11_copy_64 : decode cX11_copy 64 = .ok (.if_icmp .eq 6, 3) := by decide +kernel
theorem dX11_copy_67 : decode cX11_copy 67 = .ok (.bipush (-13), 2) := by decide +kernel
theorem dX11_copy_69 : decode cX11_copy 69 = .ok (.ireturn, 1) := by decide +kernel
theorem dX11_copy_70 : decode cX11_copy 70 = .ok (.aload 6, 2) := by decide +kernel
theorem dX11_copy_72 : decode cX11_copy 72 = .ok (.iload_n 2, 1) := by decide +kernel
theorem dX11_copy_73 : decode cX11_copy 73 = .ok (.iload 5, 2) := by decide +kernel
theorem dX11_copy_75 : decode cX11_copy 75 = .ok (.invokevirtual 342, 3) := by decide +kernel
theorem dX11_copy_78 : decode cX11_copy 78 = .ok (.ifCond .eq 15, 3) := by decide +kernel
theorem dX11_copy_81 : decode cX11_copy 81 = .ok (.aload 7, 2) := by decide +kernel
theorem dX11_copy_83 : decode cX11_copy 83 = .ok (.iload 4, 2) := by decide +kernel
theorem dX11_copy_85 : decode cX11_copy 85 = .ok (.iload 5, 2) := by decide +kernel
theorem dX11_copy_87 : decode cX11_copy 87 = .ok (.invokevirtual 342, 3) := by decide +kernel
theorem dX11_copy_90 : decode cX11_copy 90 = .ok (.ifCond .ne 6, 3) := by decide +kernel
theorem dX11_copy_93 : decode cX11_copy 93 = .ok (.bipush (-12), 2) := by decide +kernel
theorem dX11_copy_95 : decode cX11_copy 95 = .ok (.ireturn, 1) := by decide +kernel
theorem dX11_copy_96 : decode cX11_copy 96 = .ok (.aload 6, 2) := by decide +kernel
theorem dX11_copy_98 : decode cX11_copy 98 = .ok (.getfield 345, 3) := by decide +kernel
theorem dX11_copy_101 : decode cX11_copy 101 = .ok (.iload_n 2, 1) := by decide +kernel
theorem dX11_copy_102 : decode cX11_copy 102 = .ok (.aload 7, 2) := by decide +kernel
theorem dX11_copy_104 : decode cX11_copy 104 = .ok (.getfield 345, 3) := by decide +kernel
theorem dX11_copy_107 : decode cX11_copy 107 = .ok (.iload 4, 2) := by decide +kernel
theorem dX11_copy_109 : decode cX11_copy 109 = .ok (.iload 5, 2) := by decide +kernel
theorem dX11_copy_111 : decode cX11_copy 111 = .ok (.invokestatic 348, 3) := by decide +kernel
theorem dX11_copy_114 : decode cX11_copy 114 = .ok (.iload 5, 2) := by decide +kernel
theorem dX11_copy_116 : decode cX11_copy 116 = .ok (.ireturn, 1) := by decide +kernel
set_option maxRecDepth 20000 in
theorem ggX11_drums_X11_isSheet : GoodIn wsX11_drums wsX11_isSheet := goodIn_r _ [8, 9, 10, 7, 11] (by decide +kernel) (by decide +kernel)
set_option maxRecDepth 20000 in
theorem gX11_drums_X11_isSheet : GoodIn wsX11_drums (va_wsS RX11 323 yX11_isSheet wsX11_isSheet) := goodIn_app (goodIn_of _ (by decide +kernel)) ggX11_drums_X11_isSheet
set_option maxRecDepth 20000 in
theorem ggX11_drums_X11_isSort : GoodIn wsX11_drums wsX11_isSort := goodIn_r _ [14, 9, 10, 7, 11] (by decide +kernel) (by decide +kernel)
set_option maxRecDepth 20000 in
theorem gX11_drums_X11_isSort : GoodIn wsX11_drums (va_wsS RX11 326 yX11_isSort wsX11_isSort) := goodIn_app (goodIn_of _ (by decide +kernel)) ggX11_drums_X11_isSort
set_option maxRecDepth 20000 in
theorem ggX11_drums_X11_within : GoodIn wsX11_drums wsX11_within := goodIn_r _ [11] (by decide +kernel) (by decide +kernel)
set_option maxRecDepth 20000 in
theorem gX11_drums_X11_within : GoodIn wsX11_drums (va_wsS RX11 71 yX11_within wsX11_within) := goodIn_app (goodIn_of _ (by decide +kernel)) ggX11_drums_X11_within
set_option maxRecDepth 20000 in
theorem ggX11_drums_X11_drum : GoodIn wsX11_drums wsX11_drum := goodIn_r _ [18, 19, 20, 9, 10, 7, 11, 21, 22, 23, 24, 25, 26, 27, 28, 29, 30, 31, 32, 33, 34, 35, 36, 37, 38, 39, 40, 44, 45, 46, 47, 48, 49, 50, 51, 52, 53, 54, 55, 56, 57, 58, 59, 60, 61] (by decide +kernel) (by decide +kernel)
set_option maxRecDepth 20000 in
theorem gX11_drums_X11_drum : GoodIn wsX11_drums (wsV RX11 354 RX11 yX11_drum wsX11_drum) := goodIn_app (goodIn_of _ (by decide +kernel)) ggX11_drums_X11_drum
theorem dX11_drums_0 : decode cX11_drums 0 = .ok (.iload_n 1, 1) := by decide +kernel
theorem dX11_drums_1 : decode cX11_drums 1 = .ok (.invokestatic 323, 3) := by decide +kernel
theorem dX11_drums_4 : decode cX11_drums 4 = .ok (.ifCond .eq 21, 3) := by decide +kernel
theorem dX11_drums_7 : decode cX11_drums 7 = .ok (.iload_n 2, 1) := by decide +kernel
theorem dX11_drums_8 : decode cX11_drums 8 = .ok (.invokestatic 326, 3) := by decide +kernel
theorem dX11_drums_11 : decode cX11_drums 11 = .ok (.ifCond .eq 14, 3) := by decide +kernel
theorem dX11_drums_14 : decode cX11_drums 14 = .ok (.iload 4, 2) := by decide +kernel
theorem dX11_drums_16 : decode cX11_drums 16 = .ok (.iconst 0, 1) := by decide +kernel
theorem dX11_drums_17 : decode cX11_drums 17 = .ok (.bipush 12, 2) := by decide +kernel
theorem dX11_drums_19 : decode cX11_drums 19 = .ok (.invokestatic 71, 3) := by decide +kernel
theorem dX11_drums_22 : decode cX11_drums 22 = .ok (.ifCond .ne 6, 3) := by decide +kernel
theorem dX11_drums_25 : decode cX11_drums 25 = .ok (.bipush (-2), 2) := by decide +kernel
theorem dX11_drums_27 : decode cX11_drums 27 = .ok (.ireturn, 1) := by decide +kernel
theorem dX11_drums_28 : decode cX11_drums 28 = .ok (.aload_n 0, 1) := by decide +kernel
theorem dX11_drums_29 : decode cX11_drums 29 = .ok (.getfield 60, 3) := by decide +kernel
theorem dX11_drums_32 : decode cX11_drums 32 = .ok (.iload_n 1, 1) := by decide +kernel
theorem dX11_drums_33 : decode cX11_drums 33 = .ok (.aaload, 1) := by decide +kernel
theorem dX11_drums_34 : decode cX11_drums 34 = .ok (.astore 5, 2) := by decide +kernel
theorem dX11_drums_36 : decode cX11_drums 36 = .ok (.aload 5, 2) := by decide +kernel
theorem dX11_drums_38 : decode cX11_drums 38 = .ok (.getfield 333, 3) := by decide +kernel
theorem dX11_drums_41 : decode cX11_drums 41 = .ok (.iconst (-1), 1) := by decide +kernel
theorem dX11_drums_42 : decode cX11_drums 42 = .ok (.if_icmp .ne 6, 3) := by decide +kernel
theorem dX11_drums_45 : decode cX11_drums 45 = .ok (.bipush (-11), 2) := by decide +kernel
theorem dX11_drums_47 : decode cX11_drums 47 = .ok (.ireturn, 1) := by decide +kernel
theorem dX11_drums_48 : decode cX11_drums 48 = .ok (.aload 5, 2) := by decide +kernel
theorem dX11_drums_50 : decode cX11_drums 50 = .ok (.getfield 333, 3) := by decide +kernel
theorem dX11_drums_53 : decode cX11_drums 53 = .ok (.iload_n 2, 1) := by decide +kernel
theorem dX11_drums_54 : decode cX11_drums 54 = .ok (.if_icmp .eq 6, 3) := by decide +kernel
theorem dX11_drums_57 : decode cX11_drums 57 = .ok (.bipush (-13), 2) := by decide +kernel
theorem dX11_drums_59 : decode cX11_drums 59 = .ok (.ireturn, 1) := by decide +kernel
theorem dX11_drums_60 : decode cX11_drums 60 = .ok (.iconst 0, 1) := by decide +kernel
theorem dX11_drums_61 : decode cX11_drums 61 = .ok (.istore 6, 2) := by decide +kernel
theorem dX11_drums_63 : decode cX11_drums 63 = .ok (.iconst 0, 1) := by decide +kernel
theorem dX11_drums_64 : decode cX11_drums 64 = .ok (.istore 7, 2) := by decide +kernel
theorem dX11_drums_66 : decode cX11_drums 66 = .ok (.iload 7, 2) := by decide +kernel
theorem dX11_drums_68 : decode cX11_drums 68 = .ok (.iload 4, 2) := by decide +kernel
theorem dX11_drums_70 : decode cX11_drums 70 = .ok (.if_icmp .ge 50, 3) := by decide +kernel
theorem dX11_drums_73 : decode cX11_drums 73 = .ok (.iload_n 3, 1) := by decide +kernel
theorem dX11_drums_74 : decode cX11_drums 74 = .ok (.iconst 0, 1) := by decide +kernel
theorem dX11_drums_75 : decode cX11_drums 75 = .ok (.aload 5, 2) := by decide +kernel
theorem dX11_drums_77 : decode cX11_drums 77 = .ok (.getfield 336, 3) := by decide +kernel
theorem dX11_drums_80 : decode cX11_drums 80 = .ok (.iconst 1, 1) := by decide +kernel
theorem dX11_drums_81 : decode cX11_drums 81 = .ok (.isub, 1) := by decide +kernel
theorem dX11_drums_82 : decode cX11_drums 82 = .ok (.iload 7, 2) := by decide +kernel
theorem dX11_drums_84 : decode cX11_drums 84 = .ok (.isub, 1) := by decide +kernel
theorem dX11_drums_85 : decode cX11_drums 85 = .ok (.invokestatic 71, 3) := by decide +kernel
theorem dX11_drums_88 : decode cX11_drums 88 = .ok (.ifCond .ne 6, 3) := by decide +kernel
theorem dX11_drums_91 : decode cX11_drums 91 = .ok (.bipush (-12), 2) := by decide +kernel
theorem dX11_drums_93 : decode cX11_drums 93 = .ok (.ireturn, 1) := by decide +kernel
theorem dX11_drums_94 : decode cX11_drums 94 = .ok (.aload_n 0, 1) := by decide +kernel
theorem dX11_drums_95 : decode cX11_drums 95 = .ok (.aload 5, 2) := by decide +kernel
theorem dX11_drums_97 : decode cX11_drums 97 = .ok (.getfield 345, 3) := by decide +kernel
theorem dX11_drums_100 : decode cX11_drums 100 = .ok (.iload_n 3, 1) := by decide +kernel
theorem dX11_drums_101 : decode cX11_drums 101 = .ok (.iload 7, 2) := by decide +kernel
theorem dX11_drums_103 : decode cX11_drums 103 = .ok (.iadd, 1) := by decide +kernel
theorem dX11_drums_104 : decode cX11_drums 104 = .ok (.iaload, 1) := by decide +kernel
theorem dX11_drums_105 : decode cX11_drums 105 = .ok (.invokevirtual 354, 3) := by decide +kernel
theorem dX11_drums_108 : decode cX11_drums 108 = .ok (.ifCond .lt 6, 3) := by decide +kernel
theorem dX11_drums_111 : decode cX11_drums 111 = .ok (.iinc 6 1, 3) := by decide +kernel
theorem dX11_drums_114 : decode cX11_drums 114 = .ok (.iinc 7 1, 3) := by decide +kernel
theorem dX11_drums_117 : decode cX11_drums 117 = .ok (.goto (-51), 3) := by decide +kernel
theorem dX11_drums_120 : decode cX11_drums 120 = .ok (.iload 6, 2) := by decide +kernel
theorem dX11_drums_122 : decode cX11_drums 122 = .ok (.ireturn, 1) := by decide +kernel
set_option maxRecDepth 20000 in
theorem ggX11_taken_X11_isKind : GoodIn wsX11_taken wsX11_isKind := goodIn_r _ [7, 8, 9, 6, 10] (by decide +kernel) (by decide +kernel)
set_option maxRecDepth 20000 in
theorem gX11_taken_X11_isKind : GoodIn wsX11_taken (va_wsS RX11 132 yX11_isKind wsX11_isKind) := goodIn_app (goodIn_of _ (by decide +kernel)) ggX11_taken_X11_isKind
set_option maxRecDepth 20000 in
theorem ggX11_taken_X11_isBelt : GoodIn wsX11_taken wsX11_isBelt := goodIn_r _ [14, 1, 15, 8, 9, 6, 10, 24, 25, 26, 27, 28, 29, 30, 31, 32, 33, 34, 35, 36, 37, 38, 39, 40, 41, 42, 43, 44, 45, 46, 47, 48, 49, 50, 51, 52, 53, 54] (by decide +kernel) (by decide +kernel)
set_option maxRecDepth 20000 in
theorem gX11_taken_X11_isBelt : GoodIn wsX11_taken (wsV RX11 160 RX11 yX11_isBelt wsX11_isBelt) := goodIn_app (goodIn_of _ (by decide +kernel)) ggX11_taken_X11_isBelt
set_option maxRecDepth 20000 in
theorem ggX11_taken_X11_isOfKind : GoodIn wsX11_taken wsX11_isOfKind := goodIn_r _ [18, 19, 20, 21, 22, 23] (by decide +kernel) (by decide +kernel)
set_option maxRecDepth 20000 in
theorem gX11_taken_X11_isOfKind : GoodIn wsX11_taken (va_wsS RX11 357 yX11_isOfKind wsX11_isOfKind) := goodIn_app (goodIn_of _ (by decide +kernel)) ggX11_taken_X11_isOfKind
theorem dX11_taken_0 : decode cX11_taken 0 = .ok (.iload_n 2, 1) := by decide +kernel
theorem dX11_taken_1 : decode cX11_taken 1 = .ok (.invokestatic 132, 3) := by decide +kernel
theorem dX11_taken_4 : decode cX11_taken 4 = .ok (.ifCond .ne 6, 3) := by decide +kernel
theorem dX11_taken_7 : decode cX11_taken 7 = .ok (.bipush (-2), 2) := by decide +kernel
theorem dX11_taken_9 : decode cX11_taken 9 = .ok (.ireturn, 1) := by decide +kernel
theorem dX11_taken_10 : decode cX11_taken 10 = .ok (.aload_n 0, 1) := by decide +kernel
theorem dX11_taken_11 : decode cX11_taken 11 = .ok (.iload_n 1, 1) := by decide +kernel
theorem dX11_taken_12 : decode cX11_taken 12 = .ok (.invokevirtual 160, 3) := by decide +kernel
theorem dX11_taken_15 : decode cX11_taken 15 = .ok (.ifCond .ne 6, 3) := by decide +kernel
theorem dX11_taken_18 : decode cX11_taken 18 = .ok (.bipush (-11), 2) := by decide +kernel
theorem dX11_taken_20 : decode cX11_taken 20 = .ok (.ireturn, 1) := by decide +kernel
theorem dX11_taken_21 : decode cX11_taken 21 = .ok (.aload_n 0, 1) := by decide +kernel
theorem dX11_taken_22 : decode cX11_taken 22 = .ok (.getfield 10, 3) := by decide +kernel
theorem dX11_taken_25 : decode cX11_taken 25 = .ok (.getfield 163, 3) := by decide +kernel
theorem dX11_taken_28 : decode cX11_taken 28 = .ok (.iload_n 1, 1) := by decide +kernel
theorem dX11_taken_29 : decode cX11_taken 29 = .ok (.aaload, 1) := by decide +kernel
theorem dX11_taken_30 : decode cX11_taken 30 = .ok (.astore_n 3, 1) := by decide +kernel
theorem dX11_taken_31 : decode cX11_taken 31 = .ok (.aload_n 3, 1) := by decide +kernel
theorem dX11_taken_32 : decode cX11_taken 32 = .ok (.iload_n 2, 1) := by decide +kernel
theorem dX11_taken_33 : decode cX11_taken 33 = .ok (.invokestatic 357, 3) := by decide +kernel
theorem dX11_taken_36 : decode cX11_taken 36 = .ok (.ifCond .eq 10, 3) := by decide +kernel
theorem dX11_taken_39 : decode cX11_taken 39 = .ok (.aload_n 3, 1) := by decide +kernel
theorem dX11_taken_40 : decode cX11_taken 40 = .ok (.getfield 361, 3) := by decide +kernel
theorem dX11_taken_43 : decode cX11_taken 43 = .ok (.goto 5, 3) := by decide +kernel
theorem dX11_taken_46 : decode cX11_taken 46 = .ok (.bipush (-13), 2) := by decide +kernel
theorem dX11_taken_48 : decode cX11_taken 48 = .ok (.ireturn, 1) := by decide +kernel
theorem dX11_within_0 : decode cX11_within 0 = .ok (.iload_n 1, 1) := by decide +kernel
theorem dX11_within_1 : decode cX11_within 1 = .ok (.iload_n 0, 1) := by decide +kernel
theorem dX11_within_2 : decode cX11_within 2 = .ok (.if_icmp .gt 12, 3) := by decide +kernel
theorem dX11_within_5 : decode cX11_within 5 = .ok (.iload_n 0, 1) := by decide +kernel
theorem dX11_within_6 : decode cX11_within 6 = .ok (.iload_n 2, 1) := by decide +kernel
theorem dX11_within_7 : decode cX11_within 7 = .ok (.if_icmp .gt 7, 3) := by decide +kernel
theorem dX11_within_10 : decode cX11_within 10 = .ok (.iconst 1, 1) := by decide +kernel
theorem dX11_within_11 : decode cX11_within 11 = .ok (.goto 4, 3) := by decide +kernel
theorem dX11_within_14 : decode cX11_within 14 = .ok (.iconst 0, 1) := by decide +kernel
theorem dX11_within_15 : decode cX11_within 15 = .ok (.ireturn, 1) := by decide +kernel
theorem dX11_asBit_0 : decode cX11_asBit 0 = .ok (.iload_n 0, 1) := by decide +kernel
theorem dX11_asBit_1 : decode cX11_asBit 1 = .ok (.ifCond .eq 7, 3) := by decide +kernel
theorem dX11_asBit_4 : decode cX11_asBit 4 = .ok (.iconst 1, 1) := by decide +kernel
theorem dX11_asBit_5 : decode cX11_asBit 5 = .ok (.goto 4, 3) := by decide +kernel
theorem dX11_asBit_8 : decode cX11_asBit 8 = .ok (.iconst 0, 1) := by decide +kernel
theorem dX11_asBit_9 : decode cX11_asBit 9 = .ok (.ireturn, 1) := by decide +kernel
theorem dX11_lowestBit_0 : decode cX11_lowestBit 0 = .ok (.iconst 0, 1) := by decide +kernel
theorem dX11_lowestBit_1 : decode cX11_lowestBit 1 = .ok (.istore_n 1, 1) := by decide +kernel
theorem dX11_lowestBit_2 : decode cX11_lowestBit 2 = .ok (.iload_n 1, 1) := by decide +kernel
theorem dX11_lowestBit_3 : decode cX11_lowestBit 3 = .ok (.bipush 32, 2) := by decide +kernel
theorem dX11_lowestBit_5 : decode cX11_lowestBit 5 = .ok (.if_icmp .ge 20, 3) := by decide +kernel
theorem dX11_lowestBit_8 : decode cX11_lowestBit 8 = .ok (.iload_n 0, 1) := by decide +kernel
theorem dX11_lowestBit_9 : decode cX11_lowestBit 9 = .ok (.iload_n 1, 1) := by decide +kernel
theorem dX11_lowestBit_10 : decode cX11_lowestBit 10 = .ok (.ishr, 1) := by decide +kernel
theorem dX11_lowestBit_11 : decode cX11_lowestBit 11 = .ok (.iconst 1, 1) := by decide +kernel
theorem dX11_lowestBit_12 : decode cX11_lowestBit 12 = .ok (.iand, 1) := by decide +kernel
theorem dX11_lowestBit_13 : decode cX11_lowestBit 13 = .ok (.iconst 1, 1) := by decide +kernel
theorem dX11_lowestBit_14 : decode cX11_lowestBit 14 = .ok (.if_icmp .ne 5, 3) := by decide +kernel
theorem dX11_lowestBit_17 : decode cX11_lowestBit 17 = .ok (.iload_n 1, 1) := by decide +kernel
theorem dX11_lowestBit_18 : decode cX11_lowestBit 18 = .ok (.ireturn, 1) := by decide +kernel
theorem dX11_lowestBit_19 : decode cX11_lowestBit 19 = .ok (.iinc 1 1, 3) := by decide +kernel
theorem dX11_lowestBit_22 : decode cX11_lowestBit 22 = .ok (.goto (-20), 3) := by decide +kernel
theorem dX11_lowestBit_25 : decode cX11_lowestBit 25 = .ok (.iconst (-1), 1) := by decide +kernel
theorem dX11_lowestBit_26 : decode cX11_lowestBit 26 = .ok (.ireturn, 1) := by decide +kernel
set_option maxRecDepth 20000 in
theorem ggX11_isShaft_X11_within : GoodIn wsX11_isShaft wsX11_within := goodIn_r _ [6] (by decide +kernel) (by decide +kernel)
set_option maxRecDepth 20000 in
theorem gX11_isShaft_X11_within : GoodIn wsX11_isShaft (va_wsS RX11 71 yX11_within wsX11_within) := goodIn_app (goodIn_of _ (by decide +kernel)) ggX11_isShaft_X11_within
theorem dX11_isShaft_0 : decode cX11_isShaft 0 = .ok (.iload_n 1, 1) := by decide +kernel
theorem dX11_isShaft_1 : decode cX11_isShaft 1 = .ok (.iconst 0, 1) := by decide +kernel
theorem dX11_isShaft_2 : decode cX11_isShaft 2 = .ok (.aload_n 0, 1) := by decide +kernel
theorem dX11_isShaft_3 : decode cX11_isShaft 3 = .ok (.getfield 10, 3) := by decide +kernel
theorem dX11_isShaft_6 : decode cX11_isShaft 6 = .ok (.getfield 75, 3) := by decide +kernel
theorem dX11_isShaft_9 : decode cX11_isShaft 9 = .ok (.iconst 1, 1) := by decide +kernel
theorem dX11_isShaft_10 : decode cX11_isShaft 10 = .ok (.isub, 1) := by decide +kernel
theorem dX11_isShaft_11 : decode cX11_isShaft 11 = .ok (.invokestatic 71, 3) := by decide +kernel
theorem dX11_isShaft_14 : decode cX11_isShaft 14 = .ok (.ireturn, 1) := by decide +kernel
set_option maxRecDepth 20000 in
theorem ggX11_isMachine_X11_within : GoodIn wsX11_isMachine wsX11_within := goodIn_r _ [6] (by decide +kernel) (by decide +kernel)
set_option maxRecDepth 20000 in
theorem gX11_isMachine_X11_within : GoodIn wsX11_isMachine (va_wsS RX11 71 yX11_within wsX11_within) := goodIn_app (goodIn_of _ (by decide +kernel)) ggX11_isMachine_X11_within
theorem dX11_isMachine_0 : decode cX11_isMachine 0 = .ok (.iload_n 1, 1) := by decide +kernel
theorem dX11_isMachine_1 : decode cX11_isMachine 1 = .ok (.iconst 0, 1) := by decide +kernel
theorem dX11_isMachine_2 : decode cX11_isMachine 2 = .ok (.aload_n 0, 1) := by decide +kernel
theorem dX11_isMachine_3 : decode cX11_isMachine 3 = .ok (.getfield 10, 3) := by decide +kernel
theorem dX11_isMachine_6 : decode cX11_isMachine 6 = .ok (.getfield 92, 3) := by decide +kernel
theorem dX11_isMachine_9 : decode cX11_isMachine 9 = .ok (.iconst 1, 1) := by decide +kernel
theorem dX11_isMachine_10 : decode cX11_isMachine 10 = .ok (.isub, 1) := by decide +kernel
theorem dX11_isMachine_11 : decode cX11_isMachine 11 = .ok (.invokestatic 71, 3) := by decide +kernel
theorem dX11_isMachine_14 : decode cX11_isMachine 14 = .ok (.ireturn, 1) := by decide +kernel
set_option maxRecDepth 20000 in
theorem ggX11_isDrum_X11_within : GoodIn wsX11_isDrum wsX11_within := goodIn_r _ [6] (by decide +kernel) (by decide +kernel)
set_option maxRecDepth 20000 in
theorem gX11_isDrum_X11_within : GoodIn wsX11_isDrum (va_wsS RX11 71 yX11_within wsX11_within) := goodIn_app (goodIn_of _ (by decide +kernel)) ggX11_isDrum_X11_within
theorem dX11_isDrum_0 : decode cX11_isDrum 0 = .ok (.iload_n 1, 1) := by decide +kernel
theorem dX11_isDrum_1 : decode cX11_isDrum 1 = .ok (.iconst 0, 1) := by decide +kernel
theorem dX11_isDrum_2 : decode cX11_isDrum 2 = .ok (.aload_n 0, 1) := by decide +kernel
theorem dX11_isDrum_3 : decode cX11_isDrum 3 = .ok (.getfield 10, 3) := by decide +kernel
theorem dX11_isDrum_6 : decode cX11_isDrum 6 = .ok (.getfield 125, 3) := by decide +kernel
theorem dX11_isDrum_9 : decode cX11_isDrum 9 = .ok (.iconst 1, 1) := by decide +kernel
theorem dX11_isDrum_10 : decode cX11_isDrum 10 = .ok (.isub, 1) := by decide +kernel
theorem dX11_isDrum_11 : decode cX11_isDrum 11 = .ok (.invokestatic 71, 3) := by decide +kernel
theorem dX11_isDrum_14 : decode cX11_isDrum 14 = .ok (.ireturn, 1) := by decide +kernel
set_option maxRecDepth 20000 in
theorem ggX11_isBelt_X11_within : GoodIn wsX11_isBelt wsX11_within := goodIn_r _ [6] (by decide +kernel) (by decide +kernel)
set_option maxRecDepth 20000 in
theorem gX11_isBelt_X11_within : GoodIn wsX11_isBelt (va_wsS RX11 71 yX11_within wsX11_within) := goodIn_app (goodIn_of _ (by decide +kernel)) ggX11_isBelt_X11_within
theorem dX11_isBelt_0 : decode cX11_isBelt 0 = .ok (.iload_n 1, 1) := by decide +kernel
theorem dX11_isBelt_1 : decode cX11_isBelt 1 = .ok (.iconst 0, 1) := by decide +kernel
theorem dX11_isBelt_2 : decode cX11_isBelt 2 = .ok (.aload_n 0, 1) := by decide +kernel
theorem dX11_isBelt_3 : decode cX11_isBelt 3 = .ok (.getfield 10, 3) := by decide +kernel
theorem dX11_isBelt_6 : decode cX11_isBelt 6 = .ok (.getfield 145, 3) := by decide +kernel
theorem dX11_isBelt_9 : decode cX11_isBelt 9 = .ok (.iconst 1, 1) := by decide +kernel
theorem dX11_isBelt_10 : decode cX11_isBelt 10 = .ok (.isub, 1) := by decide +kernel
theorem dX11_isBelt_11 : decode cX11_isBelt 11 = .ok (.invokestatic 71, 3) := by decide +kernel
theorem dX11_isBelt_14 : decode cX11_isBelt 14 = .ok (.ireturn, 1) := by decide +kernel
set_option maxRecDepth 20000 in
theorem ggX11_isKind_X11_within : GoodIn wsX11_isKind wsX11_within := goodIn_r _ [4] (by decide +kernel) (by decide +kernel)
set_option maxRecDepth 20000 in
theorem gX11_isKind_X11_within : GoodIn wsX11_isKind (va_wsS RX11 71 yX11_within wsX11_within) := goodIn_app (goodIn_of _ (by decide +kernel)) ggX11_isKind_X11_within
theorem dX11_isKind_0 : decode cX11_isKind 0 = .ok (.iload_n 0, 1) := by decide +kernel
theorem dX11_isKind_1 : decode cX11_isKind 1 = .ok (.iconst 0, 1) := by decide +kernel
theorem dX11_isKind_2 : decode cX11_isKind 2 = .ok (.iconst 5, 1) := by decide +kernel
theorem dX11_isKind_3 : decode cX11_isKind 3 = .ok (.invokestatic 71, 3) := by decide +kernel
theorem dX11_isKind_6 : decode cX11_isKind 6 = .ok (.ireturn, 1) := by decide +kernel
set_option maxRecDepth 20000 in
theorem ggX11_isSheet_X11_within : GoodIn wsX11_isSheet wsX11_within := goodIn_r _ [4] (by decide +kernel) (by decide +kernel)
set_option maxRecDepth 20000 in
theorem gX11_isSheet_X11_within : GoodIn wsX11_isSheet (va_wsS RX11 71 yX11_within wsX11_within) := goodIn_app (goodIn_of _ (by decide +kernel)) ggX11_isSheet_X11_within
theorem dX11_isSheet_0 : decode cX11_isSheet 0 = .ok (.iload_n 0, 1) := by decide +kernel
theorem dX11_isSheet_1 : decode cX11_isSheet 1 = .ok (.iconst 0, 1) := by decide +kernel
theorem dX11_isSheet_2 : decode cX11_isSheet 2 = .ok (.iconst 3, 1) := by decide +kernel
theorem dX11_isSheet_3 : decode cX11_isSheet 3 = .ok (.invokestatic 71, 3) := by decide +kernel
theorem dX11_isSheet_6 : decode cX11_isSheet 6 = .ok (.ireturn, 1) := by decide +kernel
set_option maxRecDepth 20000 in
theorem ggX11_isSort_X11_within : GoodIn wsX11_isSort wsX11_within := goodIn_r _ [4] (by decide +kernel) (by decide +kernel)
set_option maxRecDepth 20000 in
theorem gX11_isSort_X11_within : GoodIn wsX11_isSort (va_wsS RX11 71 yX11_within wsX11_within) := goodIn_app (goodIn_of _ (by decide +kernel)) ggX11_isSort_X11_within
theorem dX11_isSort_0 : decode cX11_isSort 0 = .ok (.iload_n 0, 1) := by decide +kernel
theorem dX11_isSort_1 : decode cX11_isSort 1 = .ok (.iconst 0, 1) := by decide +kernel
theorem dX11_isSort_2 : decode cX11_isSort 2 = .ok (.iconst 2, 1) := by decide +kernel
theorem dX11_isSort_3 : decode cX11_isSort 3 = .ok (.invokestatic 71, 3) := by decide +kernel
theorem dX11_isSort_6 : decode cX11_isSort 6 = .ok (.ireturn, 1) := by decide +kernel
set_option maxRecDepth 20000 in
theorem ggX11_newBelt_X2_init : GoodIn wsX11_newBelt wsX2_init := goodIn_r _ [21, 22, 23, 18, 24, 25, 26, 27, 28, 29, 30, 31, 32, 115, 116, 117, 118, 119, 120, 121, 122, 123, 124, 125, 126, 127, 76, 77, 78, 79, 80, 81, 82, 83, 84, 85, 86, 87, 88, 50, 51, 52, 53, 54, 55, 56, 57, 58, 59, 60, 61, 62, 63, 64, 65, 66, 67, 68, 69, 70, 71, 72, 73, 74, 75, 89, 90, 91, 92, 93, 94, 95, 96, 97, 98, 99, 100, 101, 102, 103, 104, 105, 106, 107, 108, 109, 110, 111, 112, 113, 114] (by decide +kernel) (by decide +kernel)
set_option maxRecDepth 20000 in
theorem gX11_newBelt_X2_init : GoodIn wsX11_newBelt (wsX2_init) := ggX11_newBelt_X2_init
set_option maxRecDepth 20000 in
theorem ggX11_newBelt_X3_init : GoodIn wsX11_newBelt wsX3_init := goodIn_r _ [35, 36, 23, 18, 24, 25, 26, 27, 28, 29, 30, 31, 32, 115, 116, 117, 118, 119, 120, 121, 122, 123, 124, 125, 126, 127, 76, 77, 78, 79, 80, 81, 82, 83, 84, 85, 86, 87, 88, 50, 51, 52, 53, 54, 55, 56, 57, 58, 59, 60, 61, 62, 63, 64, 65, 66, 67, 68, 69, 70, 71, 72, 73, 74, 75, 89, 90, 91, 92, 93, 94, 95, 96, 97, 98, 99, 100, 101, 102, 103, 104, 105, 106, 107, 108, 109, 110, 111, 112, 113, 114] (by decide +kernel) (by decide +kernel)
set_option maxRecDepth 20000 in
theorem gX11_newBelt_X3_init : GoodIn wsX11_newBelt (wsX3_init) := ggX11_newBelt_X3_init
set_option maxRecDepth 20000 in
theorem ggX11_newBelt_X1_init : GoodIn wsX11_newBelt wsX1_init := goodIn_r _ [39, 40, 23, 18, 24, 25, 26, 27, 28, 29, 30, 31, 32, 115, 116, 117, 118, 119, 120, 121, 122, 123, 124, 125, 126, 127, 76, 77, 78, 79, 80, 81, 82, 83, 84, 85, 86, 87, 88, 50, 51, 52, 53, 54, 55, 56, 57, 58, 59, 60, 61, 62, 63, 64, 65, 66, 67, 68, 69, 70, 71, 72, 73, 74, 75, 89, 90, 91, 92, 93, 94, 95, 96, 97, 98, 99, 100, 101, 102, 103, 104, 105, 106, 107, 108, 109, 110, 111, 112, 113, 114] (by decide +kernel) (by decide +kernel)
set_option maxRecDepth 20000 in
theorem gX11_newBelt_X1_init : GoodIn wsX11_newBelt (wsX1_init) := ggX11_newBelt_X1_init
set_option maxRecDepth 20000 in
theorem ggX11_newBelt_X4_init : GoodIn wsX11_newBelt wsX4_init := goodIn_r _ [43, 44, 34, 6, 35, 36, 23, 18, 24, 25, 26, 27, 28, 29, 30, 31, 32, 115, 116, 117, 118, 119, 120, 121, 122, 123, 124, 125, 126, 127, 76, 77, 78, 79, 80, 81, 82, 83, 84, 85, 86, 87, 88, 50, 51, 52, 53, 54, 55, 56, 57, 58, 59, 60, 61, 62, 63, 64, 65, 66, 67, 68, 69, 70, 71, 72, 73, 74, 75, 89, 90, 91, 92, 93, 94, 95, 96, 97, 98, 99, 100, 101, 102, 103, 104, 105, 106, 107, 108, 109, 110, 111, 112, 113, 114] (by decide +kernel) (by decide +kernel)
set_option maxRecDepth 20000 in
theorem gX11_newBelt_X4_init : GoodIn wsX11_newBelt (wsX4_init) := ggX11_newBelt_X4_init
set_option maxRecDepth 20000 in
theorem ggX11_newBelt_X10_init : GoodIn wsX11_newBelt wsX10_init := goodIn_r _ [47, 48, 20, 3, 21, 22, 23, 18, 24, 25, 26, 27, 28, 29, 30, 31, 32, 115, 116, 117, 118, 119, 120, 121, 122, 123, 124, 125, 126, 127, 76, 77, 78, 79, 80, 81, 82, 83, 84, 85, 86, 87, 88, 50, 51, 52, 53, 54, 55, 56, 57, 58, 59, 60, 61, 62, 63, 64, 65, 66, 67, 68, 69, 70, 71, 72, 73, 74, 75, 89, 90, 91, 92, 93, 94, 95, 96, 97, 98, 99, 100, 101, 102, 103, 104, 105, 106, 107, 108, 109, 110, 111, 112, 113, 114] (by decide +kernel) (by decide +kernel)
set_option maxRecDepth 20000 in
theorem gX11_newBelt_X10_init : GoodIn wsX11_newBelt (wsX10_init) := ggX11_newBelt_X10_init
set_option maxRecDepth 20000 in
theorem ggX11_newBelt_X0_init : GoodIn wsX11_newBelt wsX0_init := goodIn_r _ [24, 25, 26, 27, 28, 29, 30, 31, 32, 115, 116, 117, 118, 119, 120, 121, 122, 123, 124, 125, 126, 127, 76, 77, 78, 79, 80, 81, 82, 83, 84, 85, 86, 87, 88, 50, 51, 52, 53, 54, 55, 56, 57, 58, 59, 60, 61, 62, 63, 64, 65, 66, 67, 68, 69, 70, 71, 72, 73, 74, 75, 89, 90, 91, 92, 93, 94, 95, 96, 97, 98, 99, 100, 101, 102, 103, 104, 105, 106, 107, 108, 109, 110, 111, 112, 113, 114] (by decide +kernel) (by decide +kernel)
set_option maxRecDepth 20000 in
theorem gX11_newBelt_X0_init : GoodIn wsX11_newBelt (wsX0_init) := ggX11_newBelt_X0_init
theorem dX11_newBelt_0 : decode cX11_newBelt 0 = .ok (.iload_n 0, 1) := by decide +kernel
theorem dX11_newBelt_1 : decode cX11_newBelt 1 = .ok (.tableswitch 95 1 5 #[35, 47, 59, 71, 83], 35) := by decide +kernel
theorem dX11_newBelt_36 : decode cX11_newBelt 36 = .ok (.new 364, 3) := by decide +kernel
theorem dX11_newBelt_39 : decode cX11_newBelt 39 = .ok (.dup, 1) := by decide +kernel
theorem dX11_newBelt_40 : decode cX11_newBelt 40 = .ok (.iload_n 0, 1) := by decide +kernel
theorem dX11_newBelt_41 : decode cX11_newBelt 41 = .ok (.iload_n 1, 1) := by decide +kernel
theorem dX11_newBelt_42 : decode cX11_newBelt 42 = .ok (.iload_n 2, 1) := by decide +kernel
theorem dX11_newBelt_43 : decode cX11_newBelt 43 = .ok (.iload_n 3, 1) := by decide +kernel
theorem dX11_newBelt_44 : decode cX11_newBelt 44 = .ok (.invokespecial 366, 3) := by decide +kernel
theorem dX11_newBelt_47 : decode cX11_newBelt 47 = .ok (.areturn, 1) := by decide +kernel
theorem dX11_newBelt_48 : decode cX11_newBelt 48 = .ok (.new 369, 3) := by decide +kernel
theorem dX11_newBelt_51 : decode cX11_newBelt 51 = .ok (.dup, 1) := by decide +kernel
theorem dX11_newBelt_52 : decode cX11_newBelt 52 = .ok (.iload_n 0, 1) := by decide +kernel
theorem dX11_newBelt_53 : decode cX11_newBelt 53 = .ok (.iload_n 1, 1) := by decide +kernel
theorem dX11_newBelt_54 : decode cX11_newBelt 54 = .ok (.iload_n 2, 1) := by decide +kernel
theorem dX11_newBelt_55 : decode cX11_newBelt 55 = .ok (.iload_n 3, 1) := by decide +kernel
theorem dX11_newBelt_56 : decode cX11_newBelt 56 = .ok (.invokespecial 371, 3) := by decide +kernel
theorem dX11_newBelt_59 : decode cX11_newBelt 59 = .ok (.areturn, 1) := by decide +kernel
theorem dX11_newBelt_60 : decode cX11_newBelt 60 = .ok (.new 372, 3) := by decide +kernel
theorem dX11_newBelt_63 : decode cX11_newBelt 63 = .ok (.dup, 1) := by decide +kernel
theorem dX11_newBelt_64 : decode cX11_newBelt 64 = .ok (.iload_n 0, 1) := by decide +kernel
theorem dX11_newBelt_65 : decode cX11_newBelt 65 = .ok (.iload_n 1, 1) := by decide +kernel
theorem dX11_newBelt_66 : decode cX11_newBelt 66 = .ok (.iload_n 2, 1) := by decide +kernel
theorem dX11_newBelt_67 : decode cX11_newBelt 67 = .ok (.iload_n 3, 1) := by decide +kernel
theorem dX11_newBelt_68 : decode cX11_newBelt 68 = .ok (.invokespecial 374, 3) := by decide +kernel
theorem dX11_newBelt_71 : decode cX11_newBelt 71 = .ok (.areturn, 1) := by decide +kernel
theorem dX11_newBelt_72 : decode cX11_newBelt 72 = .ok (.new 375, 3) := by decide +kernel
theorem dX11_newBelt_75 : decode cX11_newBelt 75 = .ok (.dup, 1) := by decide +kernel
theorem dX11_newBelt_76 : decode cX11_newBelt 76 = .ok (.iload_n 0, 1) := by decide +kernel
theorem dX11_newBelt_77 : decode cX11_newBelt 77 = .ok (.iload_n 1, 1) := by decide +kernel
theorem dX11_newBelt_78 : decode cX11_newBelt 78 = .ok (.iload_n 2, 1) := by decide +kernel
theorem dX11_newBelt_79 : decode cX11_newBelt 79 = .ok (.iload_n 3, 1) := by decide +kernel
theorem dX11_newBelt_80 : decode cX11_newBelt 80 = .ok (.invokespecial 377, 3) := by decide +kernel
theorem dX11_newBelt_83 : decode cX11_newBelt 83 = .ok (.areturn, 1) := by decide +kernel
theorem dX11_newBelt_84 : decode cX11_newBelt 84 = .ok (.new 378, 3) := by decide +kernel
theorem dX11_newBelt_87 : decode cX11_newBelt 87 = .ok (.dup, 1) := by decide +kernel
theorem dX11_newBelt_88 : decode cX11_newBelt 88 = .ok (.iload_n 0, 1) := by decide +kernel
theorem dX11_newBelt_89 : decode cX11_newBelt 89 = .ok (.iload_n 1, 1) := by decide +kernel
theorem dX11_newBelt_90 : decode cX11_newBelt 90 = .ok (.iload_n 2, 1) := by decide +kernel
theorem dX11_newBelt_91 : decode cX11_newBelt 91 = .ok (.iload_n 3, 1) := by decide +kernel
theorem dX11_newBelt_92 : decode cX11_newBelt 92 = .ok (.invokespecial 380, 3) := by decide +kernel
theorem dX11_newBelt_95 : decode cX11_newBelt 95 = .ok (.areturn, 1) := by decide +kernel
theorem dX11_newBelt_96 : decode cX11_newBelt 96 = .ok (.new 168, 3) := by decide +kernel
theorem dX11_newBelt_99 : decode cX11_newBelt 99 = .ok (.dup, 1) := by decide +kernel
theorem dX11_newBelt_100 : decode cX11_newBelt 100 = .ok (.iload_n 0, 1) := by decide +kernel
theorem dX11_newBelt_101 : decode cX11_newBelt 101 = .ok (.iload_n 1, 1) := by decide +kernel
theorem dX11_newBelt_102 : decode cX11_newBelt 102 = .ok (.iload_n 2, 1) := by decide +kernel
theorem dX11_newBelt_103 : decode cX11_newBelt 103 = .ok (.iload_n 3, 1) := by decide +kernel
theorem dX11_newBelt_104 : decode cX11_newBelt 104 = .ok (.invokespecial 381, 3) := by decide +kernel
theorem dX11_newBelt_107 : decode cX11_newBelt 107 = .ok (.areturn, 1) := by decide +kernel
theorem dX11_isOfKind_0 : decode cX11_isOfKind 0 = .ok (.iload_n 1, 1) := by decide +kernel
theorem dX11_isOfKind_1 : decode cX11_isOfKind 1 = .ok (.tableswitch 60 1 5 #[35, 40, 45, 50, 55], 35) := by decide +kernel
theorem dX11_isOfKind_36 : decode cX11_isOfKind 36 = .ok (.aload_n 0, 1) := by decide +kernel
theorem dX11_isOfKind_37 : decode cX11_isOfKind 37 = .ok (.instanceof 364, 3) := by decide +kernel
theorem dX11_isOfKind_40 : decode cX11_isOfKind 40 = .ok (.ireturn, 1) := by decide +kernel
theorem dX11_isOfKind_41 : decode cX11_isOfKind 41 = .ok (.aload_n 0, 1) := by decide +kernel
theorem dX11_isOfKind_42 : decode cX11_isOfKind 42 = .ok (.instanceof 369, 3) := by decide +kernel
theorem dX11_isOfKind_45 : decode cX11_isOfKind 45 = .ok (.ireturn, 1) := by decide +kernel
theorem dX11_isOfKind_46 : decode cX11_isOfKind 46 = .ok (.aload_n 0, 1) := by decide +kernel
theorem dX11_isOfKind_47 : decode cX11_isOfKind 47 = .ok (.instanceof 372, 3) := by decide +kernel
theorem dX11_isOfKind_50 : decode cX11_isOfKind 50 = .ok (.ireturn, 1) := by decide +kernel
theorem dX11_isOfKind_51 : decode cX11_isOfKind 51 = .ok (.aload_n 0, 1) := by decide +kernel
theorem dX11_isOfKind_52 : decode cX11_isOfKind 52 = .ok (.instanceof 375, 3) := by decide +kernel
theorem dX11_isOfKind_55 : decode cX11_isOfKind 55 = .ok (.ireturn, 1) := by decide +kernel
theorem dX11_isOfKind_56 : decode cX11_isOfKind 56 = .ok (.aload_n 0, 1) := by decide +kernel
theorem dX11_isOfKind_57 : decode cX11_isOfKind 57 = .ok (.instanceof 378, 3) := by decide +kernel
theorem dX11_isOfKind_60 : decode cX11_isOfKind 60 = .ok (.ireturn, 1) := by decide +kernel
theorem dX11_isOfKind_61 : decode cX11_isOfKind 61 = .ok (.iconst 1, 1) := by decide +kernel
theorem dX11_isOfKind_62 : decode cX11_isOfKind 62 = .ok (.ireturn, 1) := by decide +kernel
set_option maxRecDepth 20000 in
theorem ggX11_wear_X6_cutTurns : GoodIn wsX11_wear wsX6_cutTurns := goodIn_r _ [20, 21, 22, 23, 24, 25, 11, 26, 218, 219, 220, 221, 222, 223, 224, 225, 226, 227, 228, 229, 230, 231, 232, 233, 234, 235] (by decide +kernel) (by decide +kernel)
set_option maxRecDepth 20000 in
theorem gX11_wear_X6_cutTurns : GoodIn wsX11_wear (wsV RX11 382 RX6 yX6_cutTurns wsX6_cutTurns) := goodIn_app (goodIn_of _ (by decide +kernel)) ggX11_wear_X6_cutTurns
set_option maxRecDepth 20000 in
theorem ggX11_wear_X0_wrap : GoodIn wsX11_wear wsX0_wrap := goodIn_r _ [31, 32, 33, 34, 35, 11, 36, 37, 14, 15, 140, 141, 142, 143, 144, 145, 146, 147, 148, 149, 150, 151, 152, 153, 154, 155, 156, 157, 158, 159, 160, 161, 162, 163, 164, 165, 166, 167, 168, 169, 170, 171, 172, 173, 174, 175, 176, 177, 178, 179, 180, 181, 182, 183, 184, 185, 186, 187, 188, 189, 190, 191, 192, 193, 194, 195, 196, 197, 198, 199, 200, 201, 202, 203, 204, 205, 206, 207, 208, 209, 210, 211, 212, 213, 214, 215, 216, 217] (by decide +kernel) (by decide +kernel)
set_option maxRecDepth 20000 in
theorem gX11_wear_X0_wrap : GoodIn wsX11_wear (wsV RX11 191 RX0 yX0_wrap wsX0_wrap) := goodIn_app (goodIn_of _ (by decide +kernel)) ggX11_wear_X0_wrap
set_option maxRecDepth 20000 in
theorem gX11_wear_X0_wrap_u191X1 : GoodIn wsX11_wear (va_wsU RX11 191 RX1 "FortyBelts$Belt" ⟨"FortyBelts$Belt", "wrap", "()I"⟩ yX0_wrap wsX0_wrap) := goodIn_app (goodIn_of _ (by decide +kernel)) ggX11_wear_X0_wrap
set_option maxRecDepth 20000 in
theorem ggX11_wear_X2_wrap : GoodIn wsX11_wear wsX2_wrap := goodIn_r _ [45, 46, 39, 47, 28, 30, 31, 32, 33, 34, 35, 11, 36, 37, 14, 15, 140, 141, 142, 143, 144, 145, 146, 147, 148, 149, 150, 151, 152, 153, 154, 155, 156, 157, 158, 159, 160, 161, 162, 163, 164, 165, 166, 167, 168, 169, 170, 171, 172, 173, 174, 175, 176, 177, 178, 179, 180, 181, 182, 183, 184, 185, 186, 187, 188, 189, 190, 191, 192, 193, 194, 195, 196, 197, 198, 199, 200, 201, 202, 203, 204, 205, 206, 207, 208, 209, 210, 211, 212, 213, 214, 215, 216, 217] (by decide +kernel) (by decide +kernel)
set_option maxRecDepth 20000 in
theorem gX11_wear_X2_wrap_u191X2 : GoodIn wsX11_wear (va_wsO RX11 191 RX2 "FortyBelts$Belt" ⟨"FortyBelts$Belt", "wrap", "()I"⟩ yX2_wrap wsX2_wrap) := goodIn_app (goodIn_of _ (by decide +kernel)) ggX11_wear_X2_wrap
set_option maxRecDepth 20000 in
theorem ggX11_wear_X3_wrap : GoodIn wsX11_wear wsX3_wrap := goodIn_r _ [51, 52, 39, 53, 28, 30, 31, 32, 33, 34, 35, 11, 36, 37, 14, 15, 140, 141, 142, 143, 144, 145, 146, 147, 148, 149, 150, 151, 152, 153, 154, 155, 156, 157, 158, 159, 160, 161, 162, 163, 164, 165, 166, 167, 168, 169, 170, 171, 172, 173, 174, 175, 176, 177, 178, 179, 180, 181, 182, 183, 184, 185, 186, 187, 188, 189, 190, 191, 192, 193, 194, 195, 196, 197, 198, 199, 200, 201, 202, 203, 204, 205, 206, 207, 208, 209, 210, 211, 212, 213, 214, 215, 216, 217] (by decide +kernel) (by decide +kernel)
set_option maxRecDepth 20000 in
theorem gX11_wear_X3_wrap_u191X3 : GoodIn wsX11_wear (va_wsO RX11 191 RX3 "FortyBelts$Belt" ⟨"FortyBelts$Belt", "wrap", "()I"⟩ yX3_wrap wsX3_wrap) := goodIn_app (goodIn_of _ (by decide +kernel)) ggX11_wear_X3_wrap
set_option maxRecDepth 20000 in
theorem ggX11_wear_X4_wrap : GoodIn wsX11_wear wsX4_wrap := goodIn_r _ [57, 58, 59, 60, 49, 50, 51, 52, 39, 53, 28, 30, 31, 32, 33, 34, 35, 11, 36, 37, 14, 15, 140, 141, 142, 143, 144, 145, 146, 147, 148, 149, 150, 151, 152, 153, 154, 155, 156, 157, 158, 159, 160, 161, 162, 163, 164, 165, 166, 167, 168, 169, 170, 171, 172, 173, 174, 175, 176, 177, 178, 179, 180, 181, 182, 183, 184, 185, 186, 187, 188, 189, 190, 191, 192, 193, 194, 195, 196, 197, 198, 199, 200, 201, 202, 203, 204, 205, 206, 207, 208, 209, 210, 211, 212, 213, 214, 215, 216, 217] (by decide +kernel) (by decide +kernel)
set_option maxRecDepth 20000 in
theorem gX11_wear_X4_wrap_u191X4 : GoodIn wsX11_wear (va_wsO RX11 191 RX4 "FortyBelts$Belt" ⟨"FortyBelts$Belt", "wrap", "()I"⟩ yX4_wrap wsX4_wrap) := goodIn_app (goodIn_of _ (by decide +kernel)) ggX11_wear_X4_wrap
set_option maxRecDepth 20000 in
theorem ggX11_wear_X10_wrap : GoodIn wsX11_wear wsX10_wrap := goodIn_r _ [64, 65, 66, 67, 43, 44, 45, 46, 39, 47, 28, 30, 31, 32, 33, 34, 35, 11, 36, 37, 14, 15, 140, 141, 142, 143, 144, 145, 146, 147, 148, 149, 150, 151, 152, 153, 154, 155, 156, 157, 158, 159, 160, 161, 162, 163, 164, 165, 166, 167, 168, 169, 170, 171, 172, 173, 174, 175, 176, 177, 178, 179, 180, 181, 182, 183, 184, 185, 186, 187, 188, 189, 190, 191, 192, 193, 194, 195, 196, 197, 198, 199, 200, 201, 202, 203, 204, 205, 206, 207, 208, 209, 210, 211, 212, 213, 214, 215, 216, 217] (by decide +kernel) (by decide +kernel)
set_option maxRecDepth 20000 in
theorem gX11_wear_X10_wrap_u191X10 : GoodIn wsX11_wear (va_wsO RX11 191 RX10 "FortyBelts$Belt" ⟨"FortyBelts$Belt", "wrap", "()I"⟩ yX10_wrap wsX10_wrap) := goodIn_app (goodIn_of _ (by decide +kernel)) ggX11_wear_X10_wrap
set_option maxRecDepth 20000 in
theorem ggX11_wear_X6_pull : GoodIn wsX11_wear wsX6_pull := goodIn_r _ [71, 72, 73, 74, 75, 76, 19, 77, 78, 79, 80, 81, 82, 83, 84, 85, 86, 87, 88, 89, 90, 91, 92, 93, 94, 95, 96, 17, 18, 20, 21, 22, 23, 24, 25, 11, 26, 140, 141, 142, 143, 144, 145, 146, 147, 148, 149, 150, 151, 152, 153, 154, 155, 156, 157, 158, 159, 160, 161, 162, 163, 164, 165, 166, 167, 168, 169, 170, 171, 172, 173, 174, 175, 176, 177, 178, 179, 180, 181, 182, 183, 184, 185, 186, 187, 188, 189, 190, 191, 192, 193, 194, 195, 196, 197, 198, 199, 200, 201, 202, 203, 204, 205, 206, 207, 208, 209, 210, 211, 212, 213, 214, 215, 216, 217, 218, 219, 220, 221, 222, 223, 224, 225, 226, 227, 228, 229, 230, 231, 232, 233, 234, 235, 236, 237, 238, 239, 240, 241, 242, 243, 244] (by decide +kernel) (by decide +kernel)
set_option maxRecDepth 20000 in
theorem gX11_wear_X6_pull : GoodIn wsX11_wear (wsV RX11 199 RX6 yX6_pull wsX6_pull) := goodIn_app (goodIn_of _ (by decide +kernel)) ggX11_wear_X6_pull
set_option maxRecDepth 20000 in
theorem ggX11_wear_X6_mostHours : GoodIn wsX11_wear wsX6_mostHours := goodIn_r _ [100, 72, 73, 86, 87, 101, 102, 14, 11, 15, 74, 75, 76, 19, 77, 78, 79, 80, 81, 91, 92, 93, 94, 95, 89, 140, 141, 142, 143, 144, 145, 146, 147, 148, 149, 150, 151, 152, 153, 154, 155, 156, 157, 158, 159, 160, 161, 162, 163, 164, 165, 166, 167, 168, 169, 170, 171, 172, 173, 174, 175, 176, 177, 178, 179, 180, 181, 182, 183, 184, 185, 186, 187, 188, 189, 190, 191, 192, 193, 194, 195, 196, 197, 198, 199, 200, 201, 202, 203, 204, 205, 206, 207, 208, 209, 210, 211, 212, 213, 214, 215, 216, 217, 218, 219, 220, 221, 222, 223, 224, 225, 226, 227, 228, 229, 230, 231, 232, 233, 234, 235, 236, 237, 238, 239, 240, 241, 242, 243, 244] (by decide +kernel) (by decide +kernel)
set_option maxRecDepth 20000 in
theorem gX11_wear_X6_mostHours : GoodIn wsX11_wear (wsV RX11 388 RX6 yX6_mostHours wsX6_mostHours) := goodIn_app (goodIn_of _ (by decide +kernel)) ggX11_wear_X6_mostHours
set_option maxRecDepth 20000 in
theorem ggX11_wear_X9_says : GoodIn wsX11_wear wsX9_says := goodIn_r _ [107, 108, 109, 110, 111, 112, 113, 106, 114, 115, 116, 117, 118, 119, 120, 121, 122, 123, 124, 125, 126, 245, 246, 247, 248, 249] (by decide +kernel) (by decide +kernel)
set_option maxRecDepth 20000 in
theorem gX11_wear_X9_says : GoodIn wsX11_wear (wsV RX11 391 RX9 yX9_says wsX9_says) := goodIn_app (goodIn_of _ (by decide +kernel)) ggX11_wear_X9_says
theorem dX11_wear_0 : decode cX11_wear 0 = .ok (.aload_n 0, 1) := by decide +kernel
theorem dX11_wear_1 : decode cX11_wear 1 = .ok (.getfield 54, 3) := by decide +kernel
theorem dX11_wear_4 : decode cX11_wear 4 = .ok (.iconst 0, 1) := by decide +kernel
theorem dX11_wear_5 : decode cX11_wear 5 = .ok (.aload_n 1, 1) := by decide +kernel
theorem dX11_wear_6 : decode cX11_wear 6 = .ok (.getfield 179, 3) := by decide +kernel
theorem dX11_wear_9 : decode cX11_wear 9 = .ok (.iastore, 1) := by decide +kernel
theorem dX11_wear_10 : decode cX11_wear 10 = .ok (.aload_n 0, 1) := by decide +kernel
theorem dX11_wear_11 : decode cX11_wear 11 = .ok (.getfield 54, 3) := by decide +kernel
theorem dX11_wear_14 : decode cX11_wear 14 = .ok (.iconst 1, 1) := by decide +kernel
theorem dX11_wear_15 : decode cX11_wear 15 = .ok (.aload_n 0, 1) := by decide +kernel
theorem dX11_wear_16 : decode cX11_wear 16 = .ok (.getfield 10, 3) := by decide +kernel
theorem dX11_wear_19 : decode cX11_wear 19 = .ok (.aload_n 1, 1) := by decide +kernel
theorem dX11_wear_20 : decode cX11_wear 20 = .ok (.getfield 182, 3) := by decide +kernel
theorem dX11_wear_23 : decode cX11_wear 23 = .ok (.invokevirtual 382, 3) := by decide +kernel
theorem dX11_wear_26 : decode cX11_wear 26 = .ok (.iastore, 1) := by decide +kernel
theorem dX11_wear_27 : decode cX11_wear 27 = .ok (.aload_n 0, 1) := by decide +kernel
theorem dX11_wear_28 : decode cX11_wear 28 = .ok (.getfield 54, 3) := by decide +kernel
theorem dX11_wear_31 : decode cX11_wear 31 = .ok (.iconst 2, 1) := by decide +kernel
theorem dX11_wear_32 : decode cX11_wear 32 = .ok (.aload_n 1, 1) := by decide +kernel
theorem dX11_wear_33 : decode cX11_wear 33 = .ok (.invokevirtual 191, 3) := by decide +kernel
theorem dX11_wear_36 : decode cX11_wear 36 = .ok (.iastore, 1) := by decide +kernel
theorem dX11_wear_37 : decode cX11_wear 37 = .ok (.aload_n 0, 1) := by decide +kernel
theorem dX11_wear_38 : decode cX11_wear 38 = .ok (.getfield 54, 3) := by decide +kernel
theorem dX11_wear_41 : decode cX11_wear 41 = .ok (.iconst 3, 1) := by decide +kernel
theorem dX11_wear_42 : decode cX11_wear 42 = .ok (.aload_n 0, 1) := by decide +kernel
theorem dX11_wear_43 : decode cX11_wear 43 = .ok (.getfield 10, 3) := by decide +kernel
theorem dX11_wear_46 : decode cX11_wear 46 = .ok (.aload_n 1, 1) := by decide +kernel
theorem dX11_wear_47 : decode cX11_wear 47 = .ok (.invokevirtual 199, 3) := by decide +kernel
theorem dX11_wear_50 : decode cX11_wear 50 = .ok (.iastore, 1) := by decide +kernel
theorem dX11_wear_51 : decode cX11_wear 51 = .ok (.aload_n 0, 1) := by decide +kernel
theorem dX11_wear_52 : decode cX11_wear 52 = .ok (.getfield 54, 3) := by decide +kernel
theorem dX11_wear_55 : decode cX11_wear 55 = .ok (.iconst 4, 1) := by decide +kernel
theorem dX11_wear_56 : decode cX11_wear 56 = .ok (.aload_n 1, 1) := by decide +kernel
theorem dX11_wear_57 : decode cX11_wear 57 = .ok (.getfield 385, 3) := by decide +kernel
theorem dX11_wear_60 : decode cX11_wear 60 = .ok (.aload_n 1, 1) := by decide +kernel
theorem dX11_wear_61 : decode cX11_wear 61 = .ok (.getfield 271, 3) := by decide +kernel
theorem dX11_wear_64 : decode cX11_wear 64 = .ok (.iadd, 1) := by decide +kernel
theorem dX11_wear_65 : decode cX11_wear 65 = .ok (.iastore, 1) := by decide +kernel
theorem dX11_wear_66 : decode cX11_wear 66 = .ok (.aload_n 0, 1) := by decide +kernel
theorem dX11_wear_67 : decode cX11_wear 67 = .ok (.getfield 54, 3) := by decide +kernel
theorem dX11_wear_70 : decode cX11_wear 70 = .ok (.iconst 5, 1) := by decide +kernel
theorem dX11_wear_71 : decode cX11_wear 71 = .ok (.aload_n 0, 1) := by decide +kernel
theorem dX11_wear_72 : decode cX11_wear 72 = .ok (.getfield 10, 3) := by decide +kernel
theorem dX11_wear_75 : decode cX11_wear 75 = .ok (.aload_n 1, 1) := by decide +kernel
theorem dX11_wear_76 : decode cX11_wear 76 = .ok (.invokevirtual 388, 3) := by decide +kernel
theorem dX11_wear_79 : decode cX11_wear 79 = .ok (.iastore, 1) := by decide +kernel
theorem dX11_wear_80 : decode cX11_wear 80 = .ok (.iconst 0, 1) := by decide +kernel
theorem dX11_wear_81 : decode cX11_wear 81 = .ok (.sipush 9999, 3) := by decide +kernel
theorem dX11_wear_84 : decode cX11_wear 84 = .ok (.aload_n 0, 1) := by decide +kernel
theorem dX11_wear_85 : decode cX11_wear 85 = .ok (.getfield 25, 3) := by decide +kernel
theorem dX11_wear_88 : decode cX11_wear 88 = .ok (.aload_n 0, 1) := by decide +kernel
theorem dX11_wear_89 : decode cX11_wear 89 = .ok (.getfield 243, 3) := by decide +kernel
theorem dX11_wear_92 : decode cX11_wear 92 = .ok (.aaload, 1) := by decide +kernel
theorem dX11_wear_93 : decode cX11_wear 93 = .ok (.iconst 0, 1) := by decide +kernel
theorem dX11_wear_94 : decode cX11_wear 94 = .ok (.aload_n 0, 1) := by decide +kernel
theorem dX11_wear_95 : decode cX11_wear 95 = .ok (.getfield 54, 3) := by decide +kernel
theorem dX11_wear_98 : decode cX11_wear 98 = .ok (.invokevirtual 391, 3) := by decide +kernel
theorem dX11_wear_101 : decode cX11_wear 101 = .ok (.invokestatic 395, 3) := by decide +kernel
theorem dX11_wear_104 : decode cX11_wear 104 = .ok (.invokestatic 400, 3) := by decide +kernel
theorem dX11_wear_107 : decode cX11_wear 107 = .ok (.ireturn, 1) := by decide +kernel
set_option maxRecDepth 20000 in
theorem ggX11_minds_X6_cutTurns : GoodIn wsX11_minds wsX6_cutTurns := goodIn_r _ [12, 13, 14, 15, 16, 17, 18, 19, 66, 67, 68, 69, 70, 71, 72, 73, 74, 75, 76, 77, 78, 79, 80, 81, 82, 83] (by decide +kernel) (by decide +kernel)
set_option maxRecDepth 20000 in
theorem gX11_minds_X6_cutTurns : GoodIn wsX11_minds (wsV RX11 382 RX6 yX6_cutTurns wsX6_cutTurns) := goodIn_app (goodIn_of _ (by decide +kernel)) ggX11_minds_X6_cutTurns
set_option maxRecDepth 20000 in
theorem ggX11_minds_X9_says : GoodIn wsX11_minds wsX9_says := goodIn_r _ [24, 25, 26, 27, 28, 29, 30, 23, 31, 32, 33, 34, 35, 36, 37, 38, 39, 40, 41, 42, 43, 84, 85, 86, 87, 88] (by decide +kernel) (by decide +kernel)
set_option maxRecDepth 20000 in
theorem gX11_minds_X9_says : GoodIn wsX11_minds (wsV RX11 391 RX9 yX9_says wsX9_says) := goodIn_app (goodIn_of _ (by decide +kernel)) ggX11_minds_X9_says
theorem dX11_minds_0 : decode cX11_minds 0 = .ok (.aload_n 0, 1) := by decide +kernel
theorem dX11_minds_1 : decode cX11_minds 1 = .ok (.getfield 54, 3) := by decide +kernel
theorem dX11_minds_4 : decode cX11_minds 4 = .ok (.iconst 0, 1) := by decide +kernel
theorem dX11_minds_5 : decode cX11_minds 5 = .ok (.iconst 0, 1) := by decide +kernel
theorem dX11_minds_6 : decode cX11_minds 6 = .ok (.iastore, 1) := by decide +kernel
theorem dX11_minds_7 : decode cX11_minds 7 = .ok (.aload_n 0, 1) := by decide +kernel
theorem dX11_minds_8 : decode cX11_minds 8 = .ok (.getfield 54, 3) := by decide +kernel
theorem dX11_minds_11 : decode cX11_minds 11 = .ok (.iconst 1, 1) := by decide +kernel
theorem dX11_minds_12 : decode cX11_minds 12 = .ok (.aload_n 0, 1) := by decide +kernel
theorem dX11_minds_13 : decode cX11_minds 13 = .ok (.getfield 10, 3) := by decide +kernel
theorem dX11_minds_16 : decode cX11_minds 16 = .ok (.aload_n 1, 1) := by decide +kernel
theorem dX11_minds_17 : decode cX11_minds 17 = .ok (.getfield 403, 3) := by decide +kernel
theorem dX11_minds_20 : decode cX11_minds 20 = .ok (.invokevirtual 382, 3) := by decide +kernel
theorem dX11_minds_23 : decode cX11_minds 23 = .ok (.iastore, 1) := by decide +kernel
theorem dX11_minds_24 : decode cX11_minds 24 = .ok (.aload_n 0, 1) := by decide +kernel
theorem dX11_minds_25 : decode cX11_minds 25 = .ok (.getfield 54, 3) := by decide +kernel
theorem dX11_minds_28 : decode cX11_minds 28 = .ok (.iconst 2, 1) := by decide +kernel
theorem dX11_minds_29 : decode cX11_minds 29 = .ok (.iload_n 2, 1) := by decide +kernel
theorem dX11_minds_30 : decode cX11_minds 30 = .ok (.iastore, 1) := by decide +kernel
theorem dX11_minds_31 : decode cX11_minds 31 = .ok (.aload_n 0, 1) := by decide +kernel
theorem dX11_minds_32 : decode cX11_minds 32 = .ok (.getfield 54, 3) := by decide +kernel
theorem dX11_minds_35 : decode cX11_minds 35 = .ok (.iconst 3, 1) := by decide +kernel
theorem dX11_minds_36 : decode cX11_minds 36 = .ok (.aload_n 1, 1) := by decide +kernel
theorem dX11_minds_37 : decode cX11_minds 37 = .ok (.getfield 100, 3) := by decide +kernel
theorem dX11_minds_40 : decode cX11_minds 40 = .ok (.iastore, 1) := by decide +kernel
theorem dX11_minds_41 : decode cX11_minds 41 = .ok (.aload_n 0, 1) := by decide +kernel
theorem dX11_minds_42 : decode cX11_minds 42 = .ok (.getfield 54, 3) := by decide +kernel
theorem dX11_minds_45 : decode cX11_minds 45 = .ok (.iconst 4, 1) := by decide +kernel
theorem dX11_minds_46 : decode cX11_minds 46 = .ok (.iconst 0, 1) := by decide +kernel
theorem dX11_minds_47 : decode cX11_minds 47 = .ok (.iastore, 1) := by decide +kernel
theorem dX11_minds_48 : decode cX11_minds 48 = .ok (.aload_n 0, 1) := by decide +kernel
theorem dX11_minds_49 : decode cX11_minds 49 = .ok (.getfield 54, 3) := by decide +kernel
theorem dX11_minds_52 : decode cX11_minds 52 = .ok (.iconst 5, 1) := by decide +kernel
theorem dX11_minds_53 : decode cX11_minds 53 = .ok (.aload_n 1, 1) := by decide +kernel
theorem dX11_minds_54 : decode cX11_minds 54 = .ok (.getfield 103, 3) := by decide +kernel
theorem dX11_minds_57 : decode cX11_minds 57 = .ok (.iastore, 1) := by decide +kernel
theorem dX11_minds_58 : decode cX11_minds 58 = .ok (.aload_n 0, 1) := by decide +kernel
theorem dX11_minds_59 : decode cX11_minds 59 = .ok (.getfield 25, 3) := by decide +kernel
theorem dX11_minds_62 : decode cX11_minds 62 = .ok (.aload_n 0, 1) := by decide +kernel
theorem dX11_minds_63 : decode cX11_minds 63 = .ok (.getfield 243, 3) := by decide +kernel
theorem dX11_minds_66 : decode cX11_minds 66 = .ok (.aaload, 1) := by decide +kernel
theorem dX11_minds_67 : decode cX11_minds 67 = .ok (.iconst 1, 1) := by decide +kernel
theorem dX11_minds_68 : decode cX11_minds 68 = .ok (.aload_n 0, 1) := by decide +kernel
theorem dX11_minds_69 : decode cX11_minds 69 = .ok (.getfield 54, 3) := by decide +kernel
theorem dX11_minds_72 : decode cX11_minds 72 = .ok (.invokevirtual 391, 3) := by decide +kernel
theorem dX11_minds_75 : decode cX11_minds 75 = .ok (.ifCond .eq 7, 3) := by decide +kernel
theorem dX11_minds_78 : decode cX11_minds 78 = .ok (.iconst 1, 1) := by decide +kernel
theorem dX11_minds_79 : decode cX11_minds 79 = .ok (.goto 4, 3) := by decide +kernel
theorem dX11_minds_82 : decode cX11_minds 82 = .ok (.iconst 0, 1) := by decide +kernel
theorem dX11_minds_83 : decode cX11_minds 83 = .ok (.ireturn, 1) := by decide +kernel
set_option maxRecDepth 20000 in
theorem ggX11_cost_J7_fill_53178 : GoodIn wsX11_cost wsJ7_fill_53178 := goodIn_r _ [14] (by decide +kernel) (by decide +kernel)
set_option maxRecDepth 20000 in
theorem gX11_cost_J7_fill_53178 : GoodIn wsX11_cost (va_wsS RX11 406 yJ7_fill_53178 wsJ7_fill_53178) := goodIn_app (goodIn_of _ (by decide +kernel)) ggX11_cost_J7_fill_53178
set_option maxRecDepth 20000 in
theorem ggX11_cost_X9_says : GoodIn wsX11_cost wsX9_says := goodIn_r _ [19, 20, 21, 22, 23, 24, 25, 18, 26, 27, 28, 29, 30, 31, 32, 33, 34, 35, 36, 37, 38, 52, 53, 54, 55, 56] (by decide +kernel) (by decide +kernel)
set_option maxRecDepth 20000 in
theorem gX11_cost_X9_says : GoodIn wsX11_cost (wsV RX11 391 RX9 yX9_says wsX9_says) := goodIn_app (goodIn_of _ (by decide +kernel)) ggX11_cost_X9_says
theorem dX11_cost_0 : decode cX11_cost 0 = .ok (.aload_n 0, 1) := by decide +kernel
theorem dX11_cost_1 : decode cX11_cost 1 = .ok (.getfield 54, 3) := by decide +kernel
theorem dX11_cost_4 : decode cX11_cost 4 = .ok (.iconst 0, 1) := by decide +kernel
theorem dX11_cost_5 : decode cX11_cost 5 = .ok (.invokestatic 406, 3) := by decide +kernel
theorem dX11_cost_8 : decode cX11_cost 8 = .ok (.aload_n 0, 1) := by decide +kernel
theorem dX11_cost_9 : decode cX11_cost 9 = .ok (.getfield 54, 3) := by decide +kernel
theorem dX11_cost_12 : decode cX11_cost 12 = .ok (.iconst 4, 1) := by decide +kernel
theorem dX11_cost_13 : decode cX11_cost 13 = .ok (.iload_n 1, 1) := by decide +kernel
theorem dX11_cost_14 : decode cX11_cost 14 = .ok (.iastore, 1) := by decide +kernel
theorem dX11_cost_15 : decode cX11_cost 15 = .ok (.iconst 1, 1) := by decide +kernel
theorem dX11_cost_16 : decode cX11_cost 16 = .ok (.sipush 999, 3) := by decide +kernel
theorem dX11_cost_19 : decode cX11_cost 19 = .ok (.aload_n 0, 1) := by decide +kernel
theorem dX11_cost_20 : decode cX11_cost 20 = .ok (.getfield 25, 3) := by decide +kernel
theorem dX11_cost_23 : decode cX11_cost 23 = .ok (.aload_n 0, 1) := by decide +kernel
theorem dX11_cost_24 : decode cX11_cost 24 = .ok (.getfield 243, 3) := by decide +kernel
theorem dX11_cost_27 : decode cX11_cost 27 = .ok (.aaload, 1) := by decide +kernel
theorem dX11_cost_28 : decode cX11_cost 28 = .ok (.iconst 2, 1) := by decide +kernel
theorem dX11_cost_29 : decode cX11_cost 29 = .ok (.aload_n 0, 1) := by decide +kernel
