theorem dX12_lays_143 : decode cX12_lays 143 = .ok (.iconst 0, 1) := by decide +kernel
theorem dX12_lays_144 : decode cX12_lays 144 = .ok (.iadd, 1) := by decide +kernel
theorem dX12_lays_145 : decode cX12_lays 145 = .ok (.i2l, 1) := by decide +kernel
theorem dX12_lays_146 : decode cX12_lays 146 = .ok (.lmul, 1) := by decide +kernel
theorem dX12_lays_147 : decode cX12_lays 147 = .ok (.lstore_n 3, 1) := by decide +kernel
theorem dX12_lays_148 : decode cX12_lays 148 = .ok (.aload_n 0, 1) := by decide +kernel
theorem dX12_lays_149 : decode cX12_lays 149 = .ok (.getfield 78, 3) := by decide +kernel
theorem dX12_lays_152 : decode cX12_lays 152 = .ok (.aload_n 0, 1) := by decide +kernel
theorem dX12_lays_153 : decode cX12_lays 153 = .ok (.getfield 53, 3) := by decide +kernel
theorem dX12_lays_156 : decode cX12_lays 156 = .ok (.iload_n 2, 1) := by decide +kernel
theorem dX12_lays_157 : decode cX12_lays 157 = .ok (.iaload, 1) := by decide +kernel
theorem dX12_lays_158 : decode cX12_lays 158 = .ok (.laload, 1) := by decide +kernel
theorem dX12_lays_159 : decode cX12_lays 159 = .ok (.aload_n 0, 1) := by decide +kernel
theorem dX12_lays_160 : decode cX12_lays 160 = .ok (.iload_n 2, 1) := by decide +kernel
theorem dX12_lays_161 : decode cX12_lays 161 = .ok (.invokevirtual 203, 3) := by decide +kernel
theorem dX12_lays_164 : decode cX12_lays 164 = .ok (.i2l, 1) := by decide +kernel
theorem dX12_lays_165 : decode cX12_lays 165 = .ok (.lmul, 1) := by decide +kernel
theorem dX12_lays_166 : decode cX12_lays 166 = .ok (.lstore 5, 2) := by decide +kernel
theorem dX12_lays_168 : decode cX12_lays 168 = .ok (.lload_n 3, 1) := by decide +kernel
theorem dX12_lays_169 : decode cX12_lays 169 = .ok (.lload 5, 2) := by decide +kernel
theorem dX12_lays_171 : decode cX12_lays 171 = .ok (.invokestatic 210, 3) := by decide +kernel
theorem dX12_lays_174 : decode cX12_lays 174 = .ok (.lstore 7, 2) := by decide +kernel
theorem dX12_lays_176 : decode cX12_lays 176 = .ok (.aload_n 0, 1) := by decide +kernel
theorem dX12_lays_177 : decode cX12_lays 177 = .ok (.getfield 74, 3) := by decide +kernel
theorem dX12_lays_180 : decode cX12_lays 180 = .ok (.aload_n 0, 1) := by decide +kernel
theorem dX12_lays_181 : decode cX12_lays 181 = .ok (.getfield 56, 3) := by decide +kernel
theorem dX12_lays_184 : decode cX12_lays 184 = .ok (.iload_n 2, 1) := by decide +kernel
theorem dX12_lays_185 : decode cX12_lays 185 = .ok (.iaload, 1) := by decide +kernel
theorem dX12_lays_186 : decode cX12_lays 186 = .ok (.lload_n 3, 1) := by decide +kernel
theorem dX12_lays_187 : decode cX12_lays 187 = .ok (.lload 7, 2) := by decide +kernel
theorem dX12_lays_189 : decode cX12_lays 189 = .ok (.ldiv, 1) := by decide +kernel
theorem dX12_lays_190 : decode cX12_lays 190 = .ok (.lastore, 1) := by decide +kernel
theorem dX12_lays_191 : decode cX12_lays 191 = .ok (.aload_n 0, 1) := by decide +kernel
theorem dX12_lays_192 : decode cX12_lays 192 = .ok (.getfield 78, 3) := by decide +kernel
theorem dX12_lays_195 : decode cX12_lays 195 = .ok (.aload_n 0, 1) := by decide +kernel
theorem dX12_lays_196 : decode cX12_lays 196 = .ok (.getfield 56, 3) := by decide +kernel
theorem dX12_lays_199 : decode cX12_lays 199 = .ok (.iload_n 2, 1) := by decide +kernel
theorem dX12_lays_200 : decode cX12_lays 200 = .ok (.iaload, 1) := by decide +kernel
theorem dX12_lays_201 : decode cX12_lays 201 = .ok (.lload 5, 2) := by decide +kernel
theorem dX12_lays_203 : decode cX12_lays 203 = .ok (.lload 7, 2) := by decide +kernel
theorem dX12_lays_205 : decode cX12_lays 205 = .ok (.ldiv, 1) := by decide +kernel
theorem dX12_lays_206 : decode cX12_lays 206 = .ok (.lastore, 1) := by decide +kernel
theorem dX12_lays_207 : decode cX12_lays 207 = .ok (.aload_n 0, 1) := by decide +kernel
theorem dX12_lays_208 : decode cX12_lays 208 = .ok (.getfield 81, 3) := by decide +kernel
theorem dX12_lays_211 : decode cX12_lays 211 = .ok (.aload_n 0, 1) := by decide +kernel
theorem dX12_lays_212 : decode cX12_lays 212 = .ok (.getfield 56, 3) := by decide +kernel
theorem dX12_lays_215 : decode cX12_lays 215 = .ok (.iload_n 2, 1) := by decide +kernel
theorem dX12_lays_216 : decode cX12_lays 216 = .ok (.iaload, 1) := by decide +kernel
theorem dX12_lays_217 : decode cX12_lays 217 = .ok (.aload_n 0, 1) := by decide +kernel
theorem dX12_lays_218 : decode cX12_lays 218 = .ok (.getfield 81, 3) := by decide +kernel
theorem dX12_lays_221 : decode cX12_lays 221 = .ok (.aload_n 0, 1) := by decide +kernel
theorem dX12_lays_222 : decode cX12_lays 222 = .ok (.getfield 53, 3) := by decide +kernel
theorem dX12_lays_225 : decode cX12_lays 225 = .ok (.iload_n 2, 1) := by decide +kernel
theorem dX12_lays_226 : decode cX12_lays 226 = .ok (.iaload, 1) := by decide +kernel
theorem dX12_lays_227 : decode cX12_lays 227 = .ok (.iaload, 1) := by decide +kernel
theorem dX12_lays_228 : decode cX12_lays 228 = .ok (.aload_n 0, 1) := by decide +kernel
theorem dX12_lays_229 : decode cX12_lays 229 = .ok (.getfield 50, 3) := by decide +kernel
theorem dX12_lays_232 : decode cX12_lays 232 = .ok (.iload_n 2, 1) := by decide +kernel
theorem dX12_lays_233 : decode cX12_lays 233 = .ok (.iaload, 1) := by decide +kernel
theorem dX12_lays_234 : decode cX12_lays 234 = .ok (.iconst 1, 1) := by decide +kernel
theorem dX12_lays_235 : decode cX12_lays 235 = .ok (.if_icmp .ne 7, 3) := by decide +kernel
theorem dX12_lays_238 : decode cX12_lays 238 = .ok (.iconst (-1), 1) := by decide +kernel
theorem dX12_lays_239 : decode cX12_lays 239 = .ok (.goto 4, 3) := by decide +kernel
theorem dX12_lays_242 : decode cX12_lays 242 = .ok (.iconst 1, 1) := by decide +kernel
theorem dX12_lays_243 : decode cX12_lays 243 = .ok (.imul, 1) := by decide +kernel
theorem dX12_lays_244 : decode cX12_lays 244 = .ok (.iastore, 1) := by decide +kernel
theorem dX12_lays_245 : decode cX12_lays 245 = .ok (.iconst 1, 1) := by decide +kernel
theorem dX12_lays_246 : decode cX12_lays 246 = .ok (.istore_n 1, 1) := by decide +kernel
theorem dX12_lays_247 : decode cX12_lays 247 = .ok (.iinc 2 1, 3) := by decide +kernel
theorem dX12_lays_250 : decode cX12_lays 250 = .ok (.goto (-185), 3) := by decide +kernel
theorem dX12_lays_253 : decode cX12_lays 253 = .ok (.goto (-196), 3) := by decide +kernel
theorem dX12_lays_256 : decode cX12_lays 256 = .ok (.return_, 1) := by decide +kernel
theorem dX12_cutTurns_0 : decode cX12_cutTurns 0 = .ok (.aload_n 0, 1) := by decide +kernel
theorem dX12_cutTurns_1 : decode cX12_cutTurns 1 = .ok (.getfield 74, 3) := by decide +kernel
theorem dX12_cutTurns_4 : decode cX12_cutTurns 4 = .ok (.iload_n 1, 1) := by decide +kernel
theorem dX12_cutTurns_5 : decode cX12_cutTurns 5 = .ok (.laload, 1) := by decide +kernel
theorem dX12_cutTurns_6 : decode cX12_cutTurns 6 = .ok (.aload_n 0, 1) := by decide +kernel
theorem dX12_cutTurns_7 : decode cX12_cutTurns 7 = .ok (.getfield 78, 3) := by decide +kernel
theorem dX12_cutTurns_10 : decode cX12_cutTurns 10 = .ok (.iload_n 1, 1) := by decide +kernel
theorem dX12_cutTurns_11 : decode cX12_cutTurns 11 = .ok (.laload, 1) := by decide +kernel
theorem dX12_cutTurns_12 : decode cX12_cutTurns 12 = .ok (.ldiv, 1) := by decide +kernel
theorem dX12_cutTurns_13 : decode cX12_cutTurns 13 = .ok (.ldc2_w 214, 3) := by decide +kernel
theorem dX12_cutTurns_16 : decode cX12_cutTurns 16 = .ok (.lcmp, 1) := by decide +kernel
theorem dX12_cutTurns_17 : decode cX12_cutTurns 17 = .ok (.ifCond .le 9, 3) := by decide +kernel
theorem dX12_cutTurns_20 : decode cX12_cutTurns 20 = .ok (.ldc2_w 214, 3) := by decide +kernel
theorem dX12_cutTurns_23 : decode cX12_cutTurns 23 = .ok (.goto 16, 3) := by decide +kernel
theorem dX12_cutTurns_26 : decode cX12_cutTurns 26 = .ok (.aload_n 0, 1) := by decide +kernel
theorem dX12_cutTurns_27 : decode cX12_cutTurns 27 = .ok (.getfield 74, 3) := by decide +kernel
theorem dX12_cutTurns_30 : decode cX12_cutTurns 30 = .ok (.iload_n 1, 1) := by decide +kernel
theorem dX12_cutTurns_31 : decode cX12_cutTurns 31 = .ok (.laload, 1) := by decide +kernel
theorem dX12_cutTurns_32 : decode cX12_cutTurns 32 = .ok (.aload_n 0, 1) := by decide +kernel
theorem dX12_cutTurns_33 : decode cX12_cutTurns 33 = .ok (.getfield 78, 3) := by decide +kernel
theorem dX12_cutTurns_36 : decode cX12_cutTurns 36 = .ok (.iload_n 1, 1) := by decide +kernel
theorem dX12_cutTurns_37 : decode cX12_cutTurns 37 = .ok (.laload, 1) := by decide +kernel
theorem dX12_cutTurns_38 : decode cX12_cutTurns 38 = .ok (.ldiv, 1) := by decide +kernel
theorem dX12_cutTurns_39 : decode cX12_cutTurns 39 = .ok (.l2i, 1) := by decide +kernel
theorem dX12_cutTurns_40 : decode cX12_cutTurns 40 = .ok (.ireturn, 1) := by decide +kernel
theorem dX12_runsWell_0 : decode cX12_runsWell 0 = .ok (.aload_n 0, 1) := by decide +kernel
theorem dX12_runsWell_1 : decode cX12_runsWell 1 = .ok (.getfield 29, 3) := by decide +kernel
theorem dX12_runsWell_4 : decode cX12_runsWell 4 = .ok (.iload_n 1, 1) := by decide +kernel
theorem dX12_runsWell_5 : decode cX12_runsWell 5 = .ok (.iaload, 1) := by decide +kernel
theorem dX12_runsWell_6 : decode cX12_runsWell 6 = .ok (.istore_n 2, 1) := by decide +kernel
theorem dX12_runsWell_7 : decode cX12_runsWell 7 = .ok (.aload_n 0, 1) := by decide +kernel
theorem dX12_runsWell_8 : decode cX12_runsWell 8 = .ok (.getfield 44, 3) := by decide +kernel
theorem dX12_runsWell_11 : decode cX12_runsWell 11 = .ok (.iload_n 1, 1) := by decide +kernel
theorem dX12_runsWell_12 : decode cX12_runsWell 12 = .ok (.iaload, 1) := by decide +kernel
theorem dX12_runsWell_13 : decode cX12_runsWell 13 = .ok (.ifCond .eq 51, 3) := by decide +kernel
theorem dX12_runsWell_16 : decode cX12_runsWell 16 = .ok (.aload_n 0, 1) := by decide +kernel
theorem dX12_runsWell_17 : decode cX12_runsWell 17 = .ok (.getfield 74, 3) := by decide +kernel
theorem dX12_runsWell_20 : decode cX12_runsWell 20 = .ok (.iload_n 2, 1) := by decide +kernel
theorem dX12_runsWell_21 : decode cX12_runsWell 21 = .ok (.laload, 1) := by decide +kernel
theorem dX12_runsWell_22 : decode cX12_runsWell 22 = .ok (.aload_n 0, 1) := by decide +kernel
theorem dX12_runsWell_23 : decode cX12_runsWell 23 = .ok (.getfield 35, 3) := by decide +kernel
theorem dX12_runsWell_26 : decode cX12_runsWell 26 = .ok (.iload_n 1, 1) := by decide +kernel
theorem dX12_runsWell_27 : decode cX12_runsWell 27 = .ok (.iaload, 1) := by decide +kernel
theorem dX12_runsWell_28 : decode cX12_runsWell 28 = .ok (.i2l, 1) := by decide +kernel
theorem dX12_runsWell_29 : decode cX12_runsWell 29 = .ok (.aload_n 0, 1) := by decide +kernel
theorem dX12_runsWell_30 : decode cX12_runsWell 30 = .ok (.getfield 78, 3) := by decide +kernel
theorem dX12_runsWell_33 : decode cX12_runsWell 33 = .ok (.iload_n 2, 1) := by decide +kernel
theorem dX12_runsWell_34 : decode cX12_runsWell 34 = .ok (.laload, 1) := by decide +kernel
theorem dX12_runsWell_35 : decode cX12_runsWell 35 = .ok (.lmul, 1) := by decide +kernel
theorem dX12_runsWell_36 : decode cX12_runsWell 36 = .ok (.lcmp, 1) := by decide +kernel
theorem dX12_runsWell_37 : decode cX12_runsWell 37 = .ok (.ifCond .lt 31, 3) := by decide +kernel
theorem dX12_runsWell_40 : decode cX12_runsWell 40 = .ok (.aload_n 0, 1) := by decide +kernel
theorem dX12_runsWell_41 : decode cX12_runsWell 41 = .ok (.getfield 74, 3) := by decide +kernel
theorem dX12_runsWell_44 : decode cX12_runsWell 44 = .ok (.iload_n 2, 1) := by decide +kernel
theorem dX12_runsWell_45 : decode cX12_runsWell 45 = .ok (.laload, 1) := by decide +kernel
theorem dX12_runsWell_46 : decode cX12_runsWell 46 = .ok (.aload_n 0, 1) := by decide +kernel
theorem dX12_runsWell_47 : decode cX12_runsWell 47 = .ok (.getfield 38, 3) := by decide +kernel
theorem dX12_runsWell_50 : decode cX12_runsWell 50 = .ok (.iload_n 1, 1) := by decide +kernel
theorem dX12_runsWell_51 : decode cX12_runsWell 51 = .ok (.iaload, 1) := by decide +kernel
theorem dX12_runsWell_52 : decode cX12_runsWell 52 = .ok (.i2l, 1) := by decide +kernel
theorem dX12_runsWell_53 : decode cX12_runsWell 53 = .ok (.aload_n 0, 1) := by decide +kernel
theorem dX12_runsWell_54 : decode cX12_runsWell 54 = .ok (.getfield 78, 3) := by decide +kernel
theorem dX12_runsWell_57 : decode cX12_runsWell 57 = .ok (.iload_n 2, 1) := by decide +kernel
theorem dX12_runsWell_58 : decode cX12_runsWell 58 = .ok (.laload, 1) := by decide +kernel
theorem dX12_runsWell_59 : decode cX12_runsWell 59 = .ok (.lmul, 1) := by decide +kernel
theorem dX12_runsWell_60 : decode cX12_runsWell 60 = .ok (.lcmp, 1) := by decide +kernel
theorem dX12_runsWell_61 : decode cX12_runsWell 61 = .ok (.ifCond .gt 7, 3) := by decide +kernel
theorem dX12_runsWell_64 : decode cX12_runsWell 64 = .ok (.iconst 1, 1) := by decide +kernel
theorem dX12_runsWell_65 : decode cX12_runsWell 65 = .ok (.goto 4, 3) := by decide +kernel
theorem dX12_runsWell_68 : decode cX12_runsWell 68 = .ok (.iconst 0, 1) := by decide +kernel
theorem dX12_runsWell_69 : decode cX12_runsWell 69 = .ok (.ireturn, 1) := by decide +kernel
theorem sb_wsX12_loaded_wsX120 : ∀ w ∈ wsX120, w ∈ wsX12_loaded := fun _ h => (List.mem_cons_of_mem _ (List.mem_append_right _ h))
set_option maxRecDepth 20000 in
theorem ggX12_loaded_X12_cutTurns : GoodIn wsX12_loaded wsX12_cutTurns := goodIn_sub (x_mc (List.mem_cons_of_mem _ (List.mem_append_left _ (List.mem_of_getElem? (i := 10) rfl))) (x_ina (x_mc (List.mem_cons_of_mem _ (List.mem_append_left _ (List.mem_of_getElem? (i := 11) rfl))) (x_mc (List.mem_cons_of_mem _ (List.mem_append_left _ (List.mem_of_getElem? (i := 12) rfl))) (x_mc (List.mem_cons_of_mem _ (List.mem_append_left _ (List.mem_of_getElem? (i := 13) rfl))) x_mn))) (fun _ h => sb_wsX12_loaded_wsX120 _ h))) (by decide +kernel)
set_option maxRecDepth 20000 in
theorem gX12_loaded_X12_cutTurns : GoodIn wsX12_loaded (wsV RX12 219 RX12 yX12_cutTurns wsX12_cutTurns) := goodIn_app (goodIn_of _ (by decide +kernel)) ggX12_loaded_X12_cutTurns
theorem dX12_loaded_0 : decode cX12_loaded 0 = .ok (.aload_n 0, 1) := by decide +kernel
theorem dX12_loaded_1 : decode cX12_loaded 1 = .ok (.getfield 44, 3) := by decide +kernel
theorem dX12_loaded_4 : decode cX12_loaded 4 = .ok (.iload_n 1, 1) := by decide +kernel
theorem dX12_loaded_5 : decode cX12_loaded 5 = .ok (.iaload, 1) := by decide +kernel
theorem dX12_loaded_6 : decode cX12_loaded 6 = .ok (.ifCond .ne 7, 3) := by decide +kernel
theorem dX12_loaded_9 : decode cX12_loaded 9 = .ok (.iconst 0, 1) := by decide +kernel
theorem dX12_loaded_10 : decode cX12_loaded 10 = .ok (.goto 44, 3) := by decide +kernel
theorem dX12_loaded_13 : decode cX12_loaded 13 = .ok (.aload_n 0, 1) := by decide +kernel
theorem dX12_loaded_14 : decode cX12_loaded 14 = .ok (.getfield 32, 3) := by decide +kernel
theorem dX12_loaded_17 : decode cX12_loaded 17 = .ok (.iload_n 1, 1) := by decide +kernel
theorem dX12_loaded_18 : decode cX12_loaded 18 = .ok (.iaload, 1) := by decide +kernel
theorem dX12_loaded_19 : decode cX12_loaded 19 = .ok (.iload_n 1, 1) := by decide +kernel
theorem dX12_loaded_20 : decode cX12_loaded 20 = .ok (.aload_n 0, 1) := by decide +kernel
theorem dX12_loaded_21 : decode cX12_loaded 21 = .ok (.getfield 84, 3) := by decide +kernel
theorem dX12_loaded_24 : decode cX12_loaded 24 = .ok (.if_icmp .ne 10, 3) := by decide +kernel
theorem dX12_loaded_27 : decode cX12_loaded 27 = .ok (.aload_n 0, 1) := by decide +kernel
theorem dX12_loaded_28 : decode cX12_loaded 28 = .ok (.getfield 216, 3) := by decide +kernel
theorem dX12_loaded_31 : decode cX12_loaded 31 = .ok (.goto 4, 3) := by decide +kernel
theorem dX12_loaded_34 : decode cX12_loaded 34 = .ok (.iconst 0, 1) := by decide +kernel
theorem dX12_loaded_35 : decode cX12_loaded 35 = .ok (.iadd, 1) := by decide +kernel
theorem dX12_loaded_36 : decode cX12_loaded 36 = .ok (.i2l, 1) := by decide +kernel
theorem dX12_loaded_37 : decode cX12_loaded 37 = .ok (.aload_n 0, 1) := by decide +kernel
theorem dX12_loaded_38 : decode cX12_loaded 38 = .ok (.aload_n 0, 1) := by decide +kernel
theorem dX12_loaded_39 : decode cX12_loaded 39 = .ok (.getfield 29, 3) := by decide +kernel
theorem dX12_loaded_42 : decode cX12_loaded 42 = .ok (.iload_n 1, 1) := by decide +kernel
theorem dX12_loaded_43 : decode cX12_loaded 43 = .ok (.iaload, 1) := by decide +kernel
theorem dX12_loaded_44 : decode cX12_loaded 44 = .ok (.invokevirtual 219, 3) := by decide +kernel
theorem dX12_loaded_47 : decode cX12_loaded 47 = .ok (.i2l, 1) := by decide +kernel
theorem dX12_loaded_48 : decode cX12_loaded 48 = .ok (.lmul, 1) := by decide +kernel
theorem dX12_loaded_49 : decode cX12_loaded 49 = .ok (.ldc2_w 222, 3) := by decide +kernel
theorem dX12_loaded_52 : decode cX12_loaded 52 = .ok (.ldiv, 1) := by decide +kernel
theorem dX12_loaded_53 : decode cX12_loaded 53 = .ok (.l2i, 1) := by decide +kernel
theorem dX12_loaded_54 : decode cX12_loaded 54 = .ok (.ireturn, 1) := by decide +kernel
theorem sb_wsX12_allLoaded_wsX120 : ∀ w ∈ wsX120, w ∈ wsX12_allLoaded := fun _ h => (List.mem_cons_of_mem _ (List.mem_append_right _ h))
set_option maxRecDepth 20000 in
theorem ggX12_allLoaded_X12_loaded : GoodIn wsX12_allLoaded wsX12_loaded := goodIn_sub (x_mc (List.mem_cons_of_mem _ (List.mem_append_left _ (List.mem_of_getElem? (i := 5) rfl))) (x_ina (x_mc (List.mem_cons_of_mem _ (List.mem_append_left _ (List.mem_of_getElem? (i := 6) rfl))) (x_mc (List.mem_cons_of_mem _ (List.mem_append_left _ (List.mem_of_getElem? (i := 7) rfl))) (x_mc (List.mem_cons_of_mem _ (List.mem_append_left _ (List.mem_of_getElem? (i := 8) rfl))) (x_mc (List.mem_cons_of_mem _ (List.mem_append_left _ (List.mem_of_getElem? (i := 9) rfl))) (x_mc (List.mem_cons_of_mem _ (List.mem_append_left _ (List.mem_of_getElem? (i := 10) rfl))) (x_mc (List.mem_cons_of_mem _ (List.mem_append_left _ (List.mem_of_getElem? (i := 11) rfl))) (x_mc (List.mem_cons_of_mem _ (List.mem_append_left _ (List.mem_of_getElem? (i := 12) rfl))) (x_mc (List.mem_cons_of_mem _ (List.mem_append_left _ (List.mem_of_getElem? (i := 13) rfl))) (x_mc (List.mem_cons_of_mem _ (List.mem_append_left _ (List.mem_of_getElem? (i := 14) rfl))) (x_mc (List.mem_cons_of_mem _ (List.mem_append_left _ (List.mem_of_getElem? (i := 4) rfl))) (x_mc (List.mem_cons_of_mem _ (List.mem_append_left _ (List.mem_of_getElem? (i := 15) rfl))) (x_mc (List.mem_cons_of_mem _ (List.mem_append_left _ (List.mem_of_getElem? (i := 16) rfl))) (x_mc (List.mem_cons_of_mem _ (List.mem_append_left _ (List.mem_of_getElem? (i := 17) rfl))) (x_mc (List.mem_cons_of_mem _ (List.mem_append_left _ (List.mem_of_getElem? (i := 18) rfl))) x_mn)))))))))))))) (fun _ h => sb_wsX12_allLoaded_wsX120 _ h))) (by decide +kernel)
set_option maxRecDepth 20000 in
theorem gX12_allLoaded_X12_loaded : GoodIn wsX12_allLoaded (wsV RX12 224 RX12 yX12_loaded wsX12_loaded) := goodIn_app (goodIn_of _ (by decide +kernel)) ggX12_allLoaded_X12_loaded
theorem dX12_allLoaded_0 : decode cX12_allLoaded 0 = .ok (.iconst 0, 1) := by decide +kernel
theorem dX12_allLoaded_1 : decode cX12_allLoaded 1 = .ok (.istore_n 1, 1) := by decide +kernel
theorem dX12_allLoaded_2 : decode cX12_allLoaded 2 = .ok (.iconst 0, 1) := by decide +kernel
theorem dX12_allLoaded_3 : decode cX12_allLoaded 3 = .ok (.istore_n 2, 1) := by decide +kernel
theorem dX12_allLoaded_4 : decode cX12_allLoaded 4 = .ok (.iload_n 2, 1) := by decide +kernel
theorem dX12_allLoaded_5 : decode cX12_allLoaded 5 = .ok (.aload_n 0, 1) := by decide +kernel
theorem dX12_allLoaded_6 : decode cX12_allLoaded 6 = .ok (.getfield 160, 3) := by decide +kernel
theorem dX12_allLoaded_9 : decode cX12_allLoaded 9 = .ok (.if_icmp .ge 17, 3) := by decide +kernel
theorem dX12_allLoaded_12 : decode cX12_allLoaded 12 = .ok (.iload_n 1, 1) := by decide +kernel
theorem dX12_allLoaded_13 : decode cX12_allLoaded 13 = .ok (.aload_n 0, 1) := by decide +kernel
theorem dX12_allLoaded_14 : decode cX12_allLoaded 14 = .ok (.iload_n 2, 1) := by decide +kernel
theorem dX12_allLoaded_15 : decode cX12_allLoaded 15 = .ok (.invokevirtual 224, 3) := by decide +kernel
theorem dX12_allLoaded_18 : decode cX12_allLoaded 18 = .ok (.iadd, 1) := by decide +kernel
theorem dX12_allLoaded_19 : decode cX12_allLoaded 19 = .ok (.istore_n 1, 1) := by decide +kernel
theorem dX12_allLoaded_20 : decode cX12_allLoaded 20 = .ok (.iinc 2 1, 3) := by decide +kernel
theorem dX12_allLoaded_23 : decode cX12_allLoaded 23 = .ok (.goto (-19), 3) := by decide +kernel
theorem dX12_allLoaded_26 : decode cX12_allLoaded 26 = .ok (.iload_n 1, 1) := by decide +kernel
theorem dX12_allLoaded_27 : decode cX12_allLoaded 27 = .ok (.ireturn, 1) := by decide +kernel
theorem dX12_from_0 : decode cX12_from 0 = .ok (.iconst 1, 1) := by decide +kernel
theorem dX12_from_1 : decode cX12_from 1 = .ok (.iload_n 1, 1) := by decide +kernel
theorem dX12_from_2 : decode cX12_from 2 = .ok (.ishl, 1) := by decide +kernel
theorem dX12_from_3 : decode cX12_from 3 = .ok (.istore_n 2, 1) := by decide +kernel
theorem dX12_from_4 : decode cX12_from 4 = .ok (.iconst 0, 1) := by decide +kernel
theorem dX12_from_5 : decode cX12_from 5 = .ok (.istore_n 3, 1) := by decide +kernel
theorem dX12_from_6 : decode cX12_from 6 = .ok (.iload_n 2, 1) := by decide +kernel
theorem dX12_from_7 : decode cX12_from 7 = .ok (.iload_n 3, 1) := by decide +kernel
theorem dX12_from_8 : decode cX12_from 8 = .ok (.if_icmp .eq 68, 3) := by decide +kernel
theorem dX12_from_11 : decode cX12_from 11 = .ok (.iload_n 2, 1) := by decide +kernel
theorem dX12_from_12 : decode cX12_from 12 = .ok (.istore_n 3, 1) := by decide +kernel
theorem dX12_from_13 : decode cX12_from 13 = .ok (.iconst 0, 1) := by decide +kernel
theorem dX12_from_14 : decode cX12_from 14 = .ok (.istore 4, 2) := by decide +kernel
theorem dX12_from_16 : decode cX12_from 16 = .ok (.iload 4, 2) := by decide +kernel
theorem dX12_from_18 : decode cX12_from 18 = .ok (.aload_n 0, 1) := by decide +kernel
theorem dX12_from_19 : decode cX12_from 19 = .ok (.getfield 166, 3) := by decide +kernel
theorem dX12_from_22 : decode cX12_from 22 = .ok (.if_icmp .ge 51, 3) := by decide +kernel
theorem dX12_from_25 : decode cX12_from 25 = .ok (.iload_n 2, 1) := by decide +kernel
theorem dX12_from_26 : decode cX12_from 26 = .ok (.aload_n 0, 1) := by decide +kernel
theorem dX12_from_27 : decode cX12_from 27 = .ok (.getfield 68, 3) := by decide +kernel
theorem dX12_from_30 : decode cX12_from 30 = .ok (.iload 4, 2) := by decide +kernel
theorem dX12_from_32 : decode cX12_from 32 = .ok (.iaload, 1) := by decide +kernel
theorem dX12_from_33 : decode cX12_from 33 = .ok (.iconst 1, 1) := by decide +kernel
theorem dX12_from_34 : decode cX12_from 34 = .ok (.if_icmp .ne 30, 3) := by decide +kernel
theorem dX12_from_37 : decode cX12_from 37 = .ok (.iload_n 2, 1) := by decide +kernel
theorem dX12_from_38 : decode cX12_from 38 = .ok (.aload_n 0, 1) := by decide +kernel
theorem dX12_from_39 : decode cX12_from 39 = .ok (.getfield 53, 3) := by decide +kernel
theorem dX12_from_42 : decode cX12_from 42 = .ok (.iload 4, 2) := by decide +kernel
theorem dX12_from_44 : decode cX12_from 44 = .ok (.iaload, 1) := by decide +kernel
theorem dX12_from_45 : decode cX12_from 45 = .ok (.ishr, 1) := by decide +kernel
theorem dX12_from_46 : decode cX12_from 46 = .ok (.iconst 1, 1) := by decide +kernel
theorem dX12_from_47 : decode cX12_from 47 = .ok (.iand, 1) := by decide +kernel
theorem dX12_from_48 : decode cX12_from 48 = .ok (.iconst 1, 1) := by decide +kernel
theorem dX12_from_49 : decode cX12_from 49 = .ok (.if_icmp .ne 15, 3) := by decide +kernel
theorem dX12_from_52 : decode cX12_from 52 = .ok (.iconst 1, 1) := by decide +kernel
theorem dX12_from_53 : decode cX12_from 53 = .ok (.aload_n 0, 1) := by decide +kernel
theorem dX12_from_54 : decode cX12_from 54 = .ok (.getfield 56, 3) := by decide +kernel
theorem dX12_from_57 : decode cX12_from 57 = .ok (.iload 4, 2) := by decide +kernel
theorem dX12_from_59 : decode cX12_from 59 = .ok (.iaload, 1) := by decide +kernel
theorem dX12_from_60 : decode cX12_from 60 = .ok (.ishl, 1) := by decide +kernel
theorem dX12_from_61 : decode cX12_from 61 = .ok (.goto 4, 3) := by decide +kernel
theorem dX12_from_64 : decode cX12_from 64 = .ok (.iconst 0, 1) := by decide +kernel
theorem dX12_from_65 : decode cX12_from 65 = .ok (.ior, 1) := by decide +kernel
theorem dX12_from_66 : decode cX12_from 66 = .ok (.istore_n 2, 1) := by decide +kernel
theorem dX12_from_67 : decode cX12_from 67 = .ok (.iinc 4 1, 3) := by decide +kernel
theorem dX12_from_70 : decode cX12_from 70 = .ok (.goto (-54), 3) := by decide +kernel
theorem dX12_from_73 : decode cX12_from 73 = .ok (.goto (-67), 3) := by decide +kernel
theorem dX12_from_76 : decode cX12_from 76 = .ok (.iload_n 2, 1) := by decide +kernel
theorem dX12_from_77 : decode cX12_from 77 = .ok (.ireturn, 1) := by decide +kernel
theorem sb_wsX12_pullOf_wsX12_pullOf_r1 : ∀ w ∈ wsX12_pullOf_r1, w ∈ wsX12_pullOf := fun _ h => (List.mem_cons_of_mem _ (List.mem_append_left _ (List.mem_append_left _ h)))
theorem sb_wsX12_pullOf_wsX12_pullOf_r2 : ∀ w ∈ wsX12_pullOf_r2, w ∈ wsX12_pullOf := fun _ h => (List.mem_cons_of_mem _ (List.mem_append_left _ (List.mem_append_right _ h)))
theorem sb_wsX12_pullOf_wsX120 : ∀ w ∈ wsX120, w ∈ wsX12_pullOf := fun _ h => (List.mem_cons_of_mem _ (List.mem_append_right _ h))
set_option maxRecDepth 20000 in
theorem ggX12_pullOf_X12_from : GoodIn wsX12_pullOf wsX12_from := goodIn_sub (x_mc (sb_wsX12_pullOf_wsX12_pullOf_r1 _ (List.mem_of_getElem? (i := 8) rfl)) (x_ina (x_mc (sb_wsX12_pullOf_wsX12_pullOf_r1 _ (List.mem_of_getElem? (i := 9) rfl)) (x_mc (sb_wsX12_pullOf_wsX12_pullOf_r1 _ (List.mem_of_getElem? (i := 0) rfl)) (x_mc (sb_wsX12_pullOf_wsX12_pullOf_r1 _ (List.mem_of_getElem? (i := 10) rfl)) (x_mc (sb_wsX12_pullOf_wsX12_pullOf_r1 _ (List.mem_of_getElem? (i := 1) rfl)) x_mn)))) (fun _ h => sb_wsX12_pullOf_wsX120 _ h))) (by decide +kernel)
set_option maxRecDepth 20000 in
theorem gX12_pullOf_X12_from : GoodIn wsX12_pullOf (wsV RX12 227 RX12 yX12_from wsX12_from) := goodIn_app (goodIn_of _ (by decide +kernel)) ggX12_pullOf_X12_from
set_option maxRecDepth 20000 in
theorem ggX12_pullOf_X12_loaded : GoodIn wsX12_pullOf wsX12_loaded := goodIn_sub (x_mc (sb_wsX12_pullOf_wsX12_pullOf_r1 _ (List.mem_of_getElem? (i := 14) rfl)) (x_ina (x_mc (sb_wsX12_pullOf_wsX12_pullOf_r1 _ (List.mem_of_getElem? (i := 15) rfl)) (x_mc (sb_wsX12_pullOf_wsX12_pullOf_r1 _ (List.mem_of_getElem? (i := 16) rfl)) (x_mc (sb_wsX12_pullOf_wsX12_pullOf_r1 _ (List.mem_of_getElem? (i := 17) rfl)) (x_mc (sb_wsX12_pullOf_wsX12_pullOf_r1 _ (List.mem_of_getElem? (i := 18) rfl)) (x_mc (sb_wsX12_pullOf_wsX12_pullOf_r1 _ (List.mem_of_getElem? (i := 3) rfl)) (x_mc (sb_wsX12_pullOf_wsX12_pullOf_r1 _ (List.mem_of_getElem? (i := 19) rfl)) (x_mc (sb_wsX12_pullOf_wsX12_pullOf_r1 _ (List.mem_of_getElem? (i := 20) rfl)) (x_mc (sb_wsX12_pullOf_wsX12_pullOf_r1 _ (List.mem_of_getElem? (i := 21) rfl)) (x_mc (sb_wsX12_pullOf_wsX12_pullOf_r1 _ (List.mem_of_getElem? (i := 22) rfl)) (x_mc (sb_wsX12_pullOf_wsX12_pullOf_r1 _ (List.mem_of_getElem? (i := 7) rfl)) (x_mc (sb_wsX12_pullOf_wsX12_pullOf_r1 _ (List.mem_of_getElem? (i := 23) rfl)) (x_mc (sb_wsX12_pullOf_wsX12_pullOf_r2 _ (List.mem_of_getElem? (i := 0) rfl)) (x_mc (sb_wsX12_pullOf_wsX12_pullOf_r2 _ (List.mem_of_getElem? (i := 1) rfl)) (x_mc (sb_wsX12_pullOf_wsX12_pullOf_r2 _ (List.mem_of_getElem? (i := 2) rfl)) x_mn)))))))))))))) (fun _ h => sb_wsX12_pullOf_wsX120 _ h))) (by decide +kernel)
set_option maxRecDepth 20000 in
theorem gX12_pullOf_X12_loaded : GoodIn wsX12_pullOf (wsV RX12 224 RX12 yX12_loaded wsX12_loaded) := goodIn_app (goodIn_of _ (by decide +kernel)) ggX12_pullOf_X12_loaded
theorem dX12_pullOf_0 : decode cX12_pullOf 0 = .ok (.aload_n 0, 1) := by decide +kernel
theorem dX12_pullOf_1 : decode cX12_pullOf 1 = .ok (.getfield 68, 3) := by decide +kernel
theorem dX12_pullOf_4 : decode cX12_pullOf 4 = .ok (.iload_n 1, 1) := by decide +kernel
theorem dX12_pullOf_5 : decode cX12_pullOf 5 = .ok (.iaload, 1) := by decide +kernel
theorem dX12_pullOf_6 : decode cX12_pullOf 6 = .ok (.ifCond .ne 5, 3) := by decide +kernel
theorem dX12_pullOf_9 : decode cX12_pullOf 9 = .ok (.iconst 0, 1) := by decide +kernel
theorem dX12_pullOf_10 : decode cX12_pullOf 10 = .ok (.ireturn, 1) := by decide +kernel
theorem dX12_pullOf_11 : decode cX12_pullOf 11 = .ok (.aload_n 0, 1) := by decide +kernel
theorem dX12_pullOf_12 : decode cX12_pullOf 12 = .ok (.aload_n 0, 1) := by decide +kernel
theorem dX12_pullOf_13 : decode cX12_pullOf 13 = .ok (.getfield 56, 3) := by decide +kernel
theorem dX12_pullOf_16 : decode cX12_pullOf 16 = .ok (.iload_n 1, 1) := by decide +kernel
theorem dX12_pullOf_17 : decode cX12_pullOf 17 = .ok (.iaload, 1) := by decide +kernel
theorem dX12_pullOf_18 : decode cX12_pullOf 18 = .ok (.invokevirtual 227, 3) := by decide +kernel
theorem dX12_pullOf_21 : decode cX12_pullOf 21 = .ok (.istore_n 2, 1) := by decide +kernel
theorem dX12_pullOf_22 : decode cX12_pullOf 22 = .ok (.iconst 0, 1) := by decide +kernel
theorem dX12_pullOf_23 : decode cX12_pullOf 23 = .ok (.istore_n 3, 1) := by decide +kernel
theorem dX12_pullOf_24 : decode cX12_pullOf 24 = .ok (.iconst 0, 1) := by decide +kernel
theorem dX12_pullOf_25 : decode cX12_pullOf 25 = .ok (.istore 4, 2) := by decide +kernel
theorem dX12_pullOf_27 : decode cX12_pullOf 27 = .ok (.iload 4, 2) := by decide +kernel
theorem dX12_pullOf_29 : decode cX12_pullOf 29 = .ok (.aload_n 0, 1) := by decide +kernel
theorem dX12_pullOf_30 : decode cX12_pullOf 30 = .ok (.getfield 160, 3) := by decide +kernel
theorem dX12_pullOf_33 : decode cX12_pullOf 33 = .ok (.if_icmp .ge 37, 3) := by decide +kernel
theorem dX12_pullOf_36 : decode cX12_pullOf 36 = .ok (.iload_n 3, 1) := by decide +kernel
theorem dX12_pullOf_37 : decode cX12_pullOf 37 = .ok (.iload_n 2, 1) := by decide +kernel
theorem dX12_pullOf_38 : decode cX12_pullOf 38 = .ok (.aload_n 0, 1) := by decide +kernel
theorem dX12_pullOf_39 : decode cX12_pullOf 39 = .ok (.getfield 29, 3) := by decide +kernel
theorem dX12_pullOf_42 : decode cX12_pullOf 42 = .ok (.iload 4, 2) := by decide +kernel
theorem dX12_pullOf_44 : decode cX12_pullOf 44 = .ok (.iaload, 1) := by decide +kernel
theorem dX12_pullOf_45 : decode cX12_pullOf 45 = .ok (.ishr, 1) := by decide +kernel
theorem dX12_pullOf_46 : decode cX12_pullOf 46 = .ok (.iconst 1, 1) := by decide +kernel
theorem dX12_pullOf_47 : decode cX12_pullOf 47 = .ok (.iand, 1) := by decide +kernel
theorem dX12_pullOf_48 : decode cX12_pullOf 48 = .ok (.iconst 1, 1) := by decide +kernel
theorem dX12_pullOf_49 : decode cX12_pullOf 49 = .ok (.if_icmp .ne 12, 3) := by decide +kernel
theorem dX12_pullOf_52 : decode cX12_pullOf 52 = .ok (.aload_n 0, 1) := by decide +kernel
theorem dX12_pullOf_53 : decode cX12_pullOf 53 = .ok (.iload 4, 2) := by decide +kernel
theorem dX12_pullOf_55 : decode cX12_pullOf 55 = .ok (.invokevirtual 224, 3) := by decide +kernel
theorem dX12_pullOf_58 : decode cX12_pullOf 58 = .ok (.goto 4, 3) := by decide +kernel
theorem dX12_pullOf_61 : decode cX12_pullOf 61 = .ok (.iconst 0, 1) := by decide +kernel
theorem dX12_pullOf_62 : decode cX12_pullOf 62 = .ok (.iadd, 1) := by decide +kernel
theorem dX12_pullOf_63 : decode cX12_pullOf 63 = .ok (.istore_n 3, 1) := by decide +kernel
theorem dX12_pullOf_64 : decode cX12_pullOf 64 = .ok (.iinc 4 1, 3) := by decide +kernel
theorem dX12_pullOf_67 : decode cX12_pullOf 67 = .ok (.goto (-40), 3) := by decide +kernel
theorem dX12_pullOf_70 : decode cX12_pullOf 70 = .ok (.iload_n 3, 1) := by decide +kernel
theorem dX12_pullOf_71 : decode cX12_pullOf 71 = .ok (.ireturn, 1) := by decide +kernel
theorem sb_wsX12_slips_wsX12_slips_r1 : ∀ w ∈ wsX12_slips_r1, w ∈ wsX12_slips := fun _ h => (List.mem_cons_of_mem _ (List.mem_append_left _ (List.mem_append_left _ h)))
theorem sb_wsX12_slips_wsX12_slips_r2 : ∀ w ∈ wsX12_slips_r2, w ∈ wsX12_slips := fun _ h => (List.mem_cons_of_mem _ (List.mem_append_left _ (List.mem_append_right _ (List.mem_append_left _ h))))
theorem sb_wsX12_slips_wsX12_slips_r3 : ∀ w ∈ wsX12_slips_r3, w ∈ wsX12_slips := fun _ h => (List.mem_cons_of_mem _ (List.mem_append_left _ (List.mem_append_right _ (List.mem_append_right _ h))))
theorem sb_wsX12_slips_wsX120 : ∀ w ∈ wsX120, w ∈ wsX12_slips := fun _ h => (List.mem_cons_of_mem _ (List.mem_append_right _ h))
set_option maxRecDepth 20000 in
theorem ggX12_slips_X12_pullOf : GoodIn wsX12_slips wsX12_pullOf := goodIn_sub (x_mc (sb_wsX12_slips_wsX12_slips_r1 _ (List.mem_of_getElem? (i := 5) rfl)) (x_ina (x_ina (x_mc (sb_wsX12_slips_wsX12_slips_r1 _ (List.mem_of_getElem? (i := 6) rfl)) (x_mc (sb_wsX12_slips_wsX12_slips_r1 _ (List.mem_of_getElem? (i := 7) rfl)) (x_mc (sb_wsX12_slips_wsX12_slips_r1 _ (List.mem_of_getElem? (i := 8) rfl)) (x_mc (sb_wsX12_slips_wsX12_slips_r1 _ (List.mem_of_getElem? (i := 9) rfl)) (x_mc (sb_wsX12_slips_wsX12_slips_r1 _ (List.mem_of_getElem? (i := 10) rfl)) (x_mc (sb_wsX12_slips_wsX12_slips_r1 _ (List.mem_of_getElem? (i := 11) rfl)) (x_mc (sb_wsX12_slips_wsX12_slips_r1 _ (List.mem_of_getElem? (i := 12) rfl)) (x_mc (sb_wsX12_slips_wsX12_slips_r1 _ (List.mem_of_getElem? (i := 4) rfl)) (x_mc (sb_wsX12_slips_wsX12_slips_r1 _ (List.mem_of_getElem? (i := 13) rfl)) (x_mc (sb_wsX12_slips_wsX12_slips_r1 _ (List.mem_of_getElem? (i := 14) rfl)) (x_mc (sb_wsX12_slips_wsX12_slips_r1 _ (List.mem_of_getElem? (i := 15) rfl)) (x_mc (sb_wsX12_slips_wsX12_slips_r1 _ (List.mem_of_getElem? (i := 16) rfl)) (x_mc (sb_wsX12_slips_wsX12_slips_r1 _ (List.mem_of_getElem? (i := 17) rfl)) (x_mc (sb_wsX12_slips_wsX12_slips_r1 _ (List.mem_of_getElem? (i := 18) rfl)) (x_mc (sb_wsX12_slips_wsX12_slips_r1 _ (List.mem_of_getElem? (i := 19) rfl)) (x_mc (sb_wsX12_slips_wsX12_slips_r1 _ (List.mem_of_getElem? (i := 20) rfl)) (x_mc (sb_wsX12_slips_wsX12_slips_r1 _ (List.mem_of_getElem? (i := 21) rfl)) (x_mc (sb_wsX12_slips_wsX12_slips_r1 _ (List.mem_of_getElem? (i := 22) rfl)) (x_mc (sb_wsX12_slips_wsX12_slips_r1 _ (List.mem_of_getElem? (i := 23) rfl)) (x_mc (sb_wsX12_slips_wsX12_slips_r2 _ (List.mem_of_getElem? (i := 0) rfl)) (x_mc (sb_wsX12_slips_wsX12_slips_r2 _ (List.mem_of_getElem? (i := 1) rfl)) (x_mc (sb_wsX12_slips_wsX12_slips_r2 _ (List.mem_of_getElem? (i := 2) rfl)) (x_mc (sb_wsX12_slips_wsX12_slips_r2 _ (List.mem_of_getElem? (i := 3) rfl)) (x_mc (sb_wsX12_slips_wsX12_slips_r2 _ (List.mem_of_getElem? (i := 4) rfl)) x_mn)))))))))))))))))))))))) (x_mc (sb_wsX12_slips_wsX12_slips_r2 _ (List.mem_of_getElem? (i := 5) rfl)) (x_mc (sb_wsX12_slips_wsX12_slips_r2 _ (List.mem_of_getElem? (i := 6) rfl)) (x_mc (sb_wsX12_slips_wsX12_slips_r2 _ (List.mem_of_getElem? (i := 7) rfl)) x_mn)))) (fun _ h => sb_wsX12_slips_wsX120 _ h))) (by decide +kernel)
set_option maxRecDepth 20000 in
theorem gX12_slips_X12_pullOf : GoodIn wsX12_slips (wsV RX12 230 RX12 yX12_pullOf wsX12_pullOf) := goodIn_app (goodIn_of _ (by decide +kernel)) ggX12_slips_X12_pullOf
set_option maxRecDepth 20000 in
theorem ggX12_slips_X12_wrapOf : GoodIn wsX12_slips wsX12_wrapOf := goodIn_sub (x_mc (sb_wsX12_slips_wsX12_slips_r2 _ (List.mem_of_getElem? (i := 11) rfl)) (x_ina (x_mc (sb_wsX12_slips_wsX12_slips_r2 _ (List.mem_of_getElem? (i := 12) rfl)) (x_mc (sb_wsX12_slips_wsX12_slips_r2 _ (List.mem_of_getElem? (i := 13) rfl)) (x_mc (sb_wsX12_slips_wsX12_slips_r2 _ (List.mem_of_getElem? (i := 14) rfl)) (x_mc (sb_wsX12_slips_wsX12_slips_r2 _ (List.mem_of_getElem? (i := 15) rfl)) (x_mc (sb_wsX12_slips_wsX12_slips_r1 _ (List.mem_of_getElem? (i := 4) rfl)) (x_mc (sb_wsX12_slips_wsX12_slips_r2 _ (List.mem_of_getElem? (i := 16) rfl)) (x_mc (sb_wsX12_slips_wsX12_slips_r2 _ (List.mem_of_getElem? (i := 17) rfl)) (x_mc (sb_wsX12_slips_wsX12_slips_r2 _ (List.mem_of_getElem? (i := 18) rfl)) (x_mc (sb_wsX12_slips_wsX12_slips_r2 _ (List.mem_of_getElem? (i := 19) rfl)) (x_mc (sb_wsX12_slips_wsX12_slips_r2 _ (List.mem_of_getElem? (i := 20) rfl)) (x_mc (sb_wsX12_slips_wsX12_slips_r2 _ (List.mem_of_getElem? (i := 21) rfl)) (x_mc (sb_wsX12_slips_wsX12_slips_r2 _ (List.mem_of_getElem? (i := 22) rfl)) (x_mc (sb_wsX12_slips_wsX12_slips_r2 _ (List.mem_of_getElem? (i := 23) rfl)) (x_mc (sb_wsX12_slips_wsX12_slips_r3 _ (List.mem_of_getElem? (i := 0) rfl)) (x_mc (sb_wsX12_slips_wsX12_slips_r3 _ (List.mem_of_getElem? (i := 1) rfl)) x_mn))))))))))))))) (fun _ h => sb_wsX12_slips_wsX120 _ h))) (by decide +kernel)
set_option maxRecDepth 20000 in
theorem gX12_slips_X12_wrapOf : GoodIn wsX12_slips (wsV RX12 233 RX12 yX12_wrapOf wsX12_wrapOf) := goodIn_app (goodIn_of _ (by decide +kernel)) ggX12_slips_X12_wrapOf
theorem dX12_slips_0 : decode cX12_slips 0 = .ok (.aload_n 0, 1) := by decide +kernel
theorem dX12_slips_1 : decode cX12_slips 1 = .ok (.iload_n 1, 1) := by decide +kernel
theorem dX12_slips_2 : decode cX12_slips 2 = .ok (.invokevirtual 230, 3) := by decide +kernel
theorem dX12_slips_5 : decode cX12_slips 5 = .ok (.aload_n 0, 1) := by decide +kernel
theorem dX12_slips_6 : decode cX12_slips 6 = .ok (.getfield 65, 3) := by decide +kernel
theorem dX12_slips_9 : decode cX12_slips 9 = .ok (.iload_n 1, 1) := by decide +kernel
theorem dX12_slips_10 : decode cX12_slips 10 = .ok (.iaload, 1) := by decide +kernel
theorem dX12_slips_11 : decode cX12_slips 11 = .ok (.aload_n 0, 1) := by decide +kernel
theorem dX12_slips_12 : decode cX12_slips 12 = .ok (.iload_n 1, 1) := by decide +kernel
theorem dX12_slips_13 : decode cX12_slips 13 = .ok (.invokevirtual 233, 3) := by decide +kernel
theorem dX12_slips_16 : decode cX12_slips 16 = .ok (.imul, 1) := by decide +kernel
theorem dX12_slips_17 : decode cX12_slips 17 = .ok (.bipush 50, 2) := by decide +kernel
theorem dX12_slips_19 : decode cX12_slips 19 = .ok (.idiv, 1) := by decide +kernel
theorem dX12_slips_20 : decode cX12_slips 20 = .ok (.if_icmp .le 7, 3) := by decide +kernel
theorem dX12_slips_23 : decode cX12_slips 23 = .ok (.iconst 1, 1) := by decide +kernel
theorem dX12_slips_24 : decode cX12_slips 24 = .ok (.goto 4, 3) := by decide +kernel
theorem dX12_slips_27 : decode cX12_slips 27 = .ok (.iconst 0, 1) := by decide +kernel
theorem dX12_slips_28 : decode cX12_slips 28 = .ok (.ireturn, 1) := by decide +kernel
theorem sb_wsX12_pullsAt_wsX12_pullsAt_r1 : ∀ w ∈ wsX12_pullsAt_r1, w ∈ wsX12_pullsAt := fun _ h => (List.mem_cons_of_mem _ (List.mem_append_left _ (List.mem_append_left _ h)))
theorem sb_wsX12_pullsAt_wsX12_pullsAt_r2 : ∀ w ∈ wsX12_pullsAt_r2, w ∈ wsX12_pullsAt := fun _ h => (List.mem_cons_of_mem _ (List.mem_append_left _ (List.mem_append_right _ h)))
theorem sb_wsX12_pullsAt_wsX120 : ∀ w ∈ wsX120, w ∈ wsX12_pullsAt := fun _ h => (List.mem_cons_of_mem _ (List.mem_append_right _ h))
set_option maxRecDepth 20000 in
theorem ggX12_pullsAt_X12_pullOf : GoodIn wsX12_pullsAt wsX12_pullOf := goodIn_sub (x_mc (sb_wsX12_pullsAt_wsX12_pullsAt_r1 _ (List.mem_of_getElem? (i := 7) rfl)) (x_ina (x_ina (x_mc (sb_wsX12_pullsAt_wsX12_pullsAt_r1 _ (List.mem_of_getElem? (i := 8) rfl)) (x_mc (sb_wsX12_pullsAt_wsX12_pullsAt_r1 _ (List.mem_of_getElem? (i := 2) rfl)) (x_mc (sb_wsX12_pullsAt_wsX12_pullsAt_r1 _ (List.mem_of_getElem? (i := 9) rfl)) (x_mc (sb_wsX12_pullsAt_wsX12_pullsAt_r1 _ (List.mem_of_getElem? (i := 10) rfl)) (x_mc (sb_wsX12_pullsAt_wsX12_pullsAt_r1 _ (List.mem_of_getElem? (i := 11) rfl)) (x_mc (sb_wsX12_pullsAt_wsX12_pullsAt_r1 _ (List.mem_of_getElem? (i := 12) rfl)) (x_mc (sb_wsX12_pullsAt_wsX12_pullsAt_r1 _ (List.mem_of_getElem? (i := 13) rfl)) (x_mc (sb_wsX12_pullsAt_wsX12_pullsAt_r1 _ (List.mem_of_getElem? (i := 6) rfl)) (x_mc (sb_wsX12_pullsAt_wsX12_pullsAt_r1 _ (List.mem_of_getElem? (i := 14) rfl)) (x_mc (sb_wsX12_pullsAt_wsX12_pullsAt_r1 _ (List.mem_of_getElem? (i := 0) rfl)) (x_mc (sb_wsX12_pullsAt_wsX12_pullsAt_r1 _ (List.mem_of_getElem? (i := 1) rfl)) (x_mc (sb_wsX12_pullsAt_wsX12_pullsAt_r1 _ (List.mem_of_getElem? (i := 15) rfl)) (x_mc (sb_wsX12_pullsAt_wsX12_pullsAt_r1 _ (List.mem_of_getElem? (i := 16) rfl)) (x_mc (sb_wsX12_pullsAt_wsX12_pullsAt_r1 _ (List.mem_of_getElem? (i := 17) rfl)) (x_mc (sb_wsX12_pullsAt_wsX12_pullsAt_r1 _ (List.mem_of_getElem? (i := 18) rfl)) (x_mc (sb_wsX12_pullsAt_wsX12_pullsAt_r1 _ (List.mem_of_getElem? (i := 19) rfl)) (x_mc (sb_wsX12_pullsAt_wsX12_pullsAt_r1 _ (List.mem_of_getElem? (i := 20) rfl)) (x_mc (sb_wsX12_pullsAt_wsX12_pullsAt_r1 _ (List.mem_of_getElem? (i := 21) rfl)) (x_mc (sb_wsX12_pullsAt_wsX12_pullsAt_r1 _ (List.mem_of_getElem? (i := 22) rfl)) (x_mc (sb_wsX12_pullsAt_wsX12_pullsAt_r1 _ (List.mem_of_getElem? (i := 23) rfl)) (x_mc (sb_wsX12_pullsAt_wsX12_pullsAt_r2 _ (List.mem_of_getElem? (i := 0) rfl)) (x_mc (sb_wsX12_pullsAt_wsX12_pullsAt_r2 _ (List.mem_of_getElem? (i := 1) rfl)) (x_mc (sb_wsX12_pullsAt_wsX12_pullsAt_r2 _ (List.mem_of_getElem? (i := 2) rfl)) (x_mc (sb_wsX12_pullsAt_wsX12_pullsAt_r2 _ (List.mem_of_getElem? (i := 3) rfl)) x_mn)))))))))))))))))))))))) (x_mc (sb_wsX12_pullsAt_wsX12_pullsAt_r2 _ (List.mem_of_getElem? (i := 4) rfl)) (x_mc (sb_wsX12_pullsAt_wsX12_pullsAt_r2 _ (List.mem_of_getElem? (i := 5) rfl)) (x_mc (sb_wsX12_pullsAt_wsX12_pullsAt_r2 _ (List.mem_of_getElem? (i := 6) rfl)) x_mn)))) (fun _ h => sb_wsX12_pullsAt_wsX120 _ h))) (by decide +kernel)
set_option maxRecDepth 20000 in
theorem gX12_pullsAt_X12_pullOf : GoodIn wsX12_pullsAt (wsV RX12 230 RX12 yX12_pullOf wsX12_pullOf) := goodIn_app (goodIn_of _ (by decide +kernel)) ggX12_pullsAt_X12_pullOf
theorem dX12_pullsAt_0 : decode cX12_pullsAt 0 = .ok (.iconst 0, 1) := by decide +kernel
theorem dX12_pullsAt_1 : decode cX12_pullsAt 1 = .ok (.istore_n 2, 1) := by decide +kernel
theorem dX12_pullsAt_2 : decode cX12_pullsAt 2 = .ok (.iconst 0, 1) := by decide +kernel
theorem dX12_pullsAt_3 : decode cX12_pullsAt 3 = .ok (.istore_n 3, 1) := by decide +kernel
theorem dX12_pullsAt_4 : decode cX12_pullsAt 4 = .ok (.iload_n 3, 1) := by decide +kernel
theorem dX12_pullsAt_5 : decode cX12_pullsAt 5 = .ok (.aload_n 0, 1) := by decide +kernel
theorem dX12_pullsAt_6 : decode cX12_pullsAt 6 = .ok (.getfield 166, 3) := by decide +kernel
theorem dX12_pullsAt_9 : decode cX12_pullsAt 9 = .ok (.if_icmp .ge 41, 3) := by decide +kernel
theorem dX12_pullsAt_12 : decode cX12_pullsAt 12 = .ok (.iload_n 2, 1) := by decide +kernel
theorem dX12_pullsAt_13 : decode cX12_pullsAt 13 = .ok (.aload_n 0, 1) := by decide +kernel
theorem dX12_pullsAt_14 : decode cX12_pullsAt 14 = .ok (.getfield 53, 3) := by decide +kernel
theorem dX12_pullsAt_17 : decode cX12_pullsAt 17 = .ok (.iload_n 3, 1) := by decide +kernel
theorem dX12_pullsAt_18 : decode cX12_pullsAt 18 = .ok (.iaload, 1) := by decide +kernel
theorem dX12_pullsAt_19 : decode cX12_pullsAt 19 = .ok (.iload_n 1, 1) := by decide +kernel
theorem dX12_pullsAt_20 : decode cX12_pullsAt 20 = .ok (.if_icmp .eq 13, 3) := by decide +kernel
theorem dX12_pullsAt_23 : decode cX12_pullsAt 23 = .ok (.aload_n 0, 1) := by decide +kernel
theorem dX12_pullsAt_24 : decode cX12_pullsAt 24 = .ok (.getfield 56, 3) := by decide +kernel
theorem dX12_pullsAt_27 : decode cX12_pullsAt 27 = .ok (.iload_n 3, 1) := by decide +kernel
theorem dX12_pullsAt_28 : decode cX12_pullsAt 28 = .ok (.iaload, 1) := by decide +kernel
theorem dX12_pullsAt_29 : decode cX12_pullsAt 29 = .ok (.iload_n 1, 1) := by decide +kernel
theorem dX12_pullsAt_30 : decode cX12_pullsAt 30 = .ok (.if_icmp .ne 11, 3) := by decide +kernel
theorem dX12_pullsAt_33 : decode cX12_pullsAt 33 = .ok (.aload_n 0, 1) := by decide +kernel
theorem dX12_pullsAt_34 : decode cX12_pullsAt 34 = .ok (.iload_n 3, 1) := by decide +kernel
theorem dX12_pullsAt_35 : decode cX12_pullsAt 35 = .ok (.invokevirtual 230, 3) := by decide +kernel
theorem dX12_pullsAt_38 : decode cX12_pullsAt 38 = .ok (.goto 4, 3) := by decide +kernel
theorem dX12_pullsAt_41 : decode cX12_pullsAt 41 = .ok (.iconst 0, 1) := by decide +kernel
theorem dX12_pullsAt_42 : decode cX12_pullsAt 42 = .ok (.iadd, 1) := by decide +kernel
theorem dX12_pullsAt_43 : decode cX12_pullsAt 43 = .ok (.istore_n 2, 1) := by decide +kernel
theorem dX12_pullsAt_44 : decode cX12_pullsAt 44 = .ok (.iinc 3 1, 3) := by decide +kernel
theorem dX12_pullsAt_47 : decode cX12_pullsAt 47 = .ok (.goto (-43), 3) := by decide +kernel
theorem dX12_pullsAt_50 : decode cX12_pullsAt 50 = .ok (.iload_n 2, 1) := by decide +kernel
theorem dX12_pullsAt_51 : decode cX12_pullsAt 51 = .ok (.ireturn, 1) := by decide +kernel
theorem sb_wsX12_wearOf_wsX12_wearOf_r1 : ∀ w ∈ wsX12_wearOf_r1, w ∈ wsX12_wearOf := fun _ h => (List.mem_cons_of_mem _ (List.mem_append_left _ (List.mem_append_left _ h)))
theorem sb_wsX12_wearOf_wsX12_wearOf_r2 : ∀ w ∈ wsX12_wearOf_r2, w ∈ wsX12_wearOf := fun _ h => (List.mem_cons_of_mem _ (List.mem_append_left _ (List.mem_append_right _ (List.mem_append_left _ h))))
theorem sb_wsX12_wearOf_wsX12_wearOf_r3 : ∀ w ∈ wsX12_wearOf_r3, w ∈ wsX12_wearOf := fun _ h => (List.mem_cons_of_mem _ (List.mem_append_left _ (List.mem_append_right _ (List.mem_append_right _ (List.mem_append_left _ h)))))
theorem sb_wsX12_wearOf_wsX12_wearOf_r4 : ∀ w ∈ wsX12_wearOf_r4, w ∈ wsX12_wearOf := fun _ h => (List.mem_cons_of_mem _ (List.mem_append_left _ (List.mem_append_right _ (List.mem_append_right _ (List.mem_append_right _ (List.mem_append_left _ h))))))
theorem sb_wsX12_wearOf_wsX12_wearOf_r5 : ∀ w ∈ wsX12_wearOf_r5, w ∈ wsX12_wearOf := fun _ h => (List.mem_cons_of_mem _ (List.mem_append_left _ (List.mem_append_right _ (List.mem_append_right _ (List.mem_append_right _ (List.mem_append_right _ (List.mem_append_left _ h)))))))
theorem sb_wsX12_wearOf_wsX12_wearOf_r6 : ∀ w ∈ wsX12_wearOf_r6, w ∈ wsX12_wearOf := fun _ h => (List.mem_cons_of_mem _ (List.mem_append_left _ (List.mem_append_right _ (List.mem_append_right _ (List.mem_append_right _ (List.mem_append_right _ (List.mem_append_right _ (List.mem_append_left _ h))))))))
theorem sb_wsX12_wearOf_wsX12_wearOf_r7 : ∀ w ∈ wsX12_wearOf_r7, w ∈ wsX12_wearOf := fun _ h => (List.mem_cons_of_mem _ (List.mem_append_left _ (List.mem_append_right _ (List.mem_append_right _ (List.mem_append_right _ (List.mem_append_right _ (List.mem_append_right _ (List.mem_append_right _ h))))))))
theorem sb_wsX12_wearOf_wsX120 : ∀ w ∈ wsX120, w ∈ wsX12_wearOf := fun _ h => (List.mem_cons_of_mem _ (List.mem_append_right _ h))
set_option maxRecDepth 20000 in
theorem ggX12_wearOf_X12_from : GoodIn wsX12_wearOf wsX12_from := goodIn_sub (x_mc (sb_wsX12_wearOf_wsX12_wearOf_r1 _ (List.mem_of_getElem? (i := 13) rfl)) (x_ina (x_mc (sb_wsX12_wearOf_wsX12_wearOf_r1 _ (List.mem_of_getElem? (i := 14) rfl)) (x_mc (sb_wsX12_wearOf_wsX12_wearOf_r1 _ (List.mem_of_getElem? (i := 0) rfl)) (x_mc (sb_wsX12_wearOf_wsX12_wearOf_r1 _ (List.mem_of_getElem? (i := 8) rfl)) (x_mc (sb_wsX12_wearOf_wsX12_wearOf_r1 _ (List.mem_of_getElem? (i := 1) rfl)) x_mn)))) (fun _ h => sb_wsX12_wearOf_wsX120 _ h))) (by decide +kernel)
set_option maxRecDepth 20000 in
theorem gX12_wearOf_X12_from : GoodIn wsX12_wearOf (wsV RX12 227 RX12 yX12_from wsX12_from) := goodIn_app (goodIn_of _ (by decide +kernel)) ggX12_wearOf_X12_from
set_option maxRecDepth 20000 in
theorem ggX12_wearOf_X12_cutTurns : GoodIn wsX12_wearOf wsX12_cutTurns := goodIn_sub (x_mc (sb_wsX12_wearOf_wsX12_wearOf_r1 _ (List.mem_of_getElem? (i := 18) rfl)) (x_ina (x_mc (sb_wsX12_wearOf_wsX12_wearOf_r1 _ (List.mem_of_getElem? (i := 19) rfl)) (x_mc (sb_wsX12_wearOf_wsX12_wearOf_r1 _ (List.mem_of_getElem? (i := 20) rfl)) (x_mc (sb_wsX12_wearOf_wsX12_wearOf_r1 _ (List.mem_of_getElem? (i := 21) rfl)) x_mn))) (fun _ h => sb_wsX12_wearOf_wsX120 _ h))) (by decide +kernel)
set_option maxRecDepth 20000 in
theorem gX12_wearOf_X12_cutTurns : GoodIn wsX12_wearOf (wsV RX12 219 RX12 yX12_cutTurns wsX12_cutTurns) := goodIn_app (goodIn_of _ (by decide +kernel)) ggX12_wearOf_X12_cutTurns
set_option maxRecDepth 20000 in
theorem ggX12_wearOf_X12_wrapOf : GoodIn wsX12_wearOf wsX12_wrapOf := goodIn_sub (x_mc (sb_wsX12_wearOf_wsX12_wearOf_r2 _ (List.mem_of_getElem? (i := 1) rfl)) (x_ina (x_mc (sb_wsX12_wearOf_wsX12_wearOf_r1 _ (List.mem_of_getElem? (i := 7) rfl)) (x_mc (sb_wsX12_wearOf_wsX12_wearOf_r2 _ (List.mem_of_getElem? (i := 2) rfl)) (x_mc (sb_wsX12_wearOf_wsX12_wearOf_r2 _ (List.mem_of_getElem? (i := 3) rfl)) (x_mc (sb_wsX12_wearOf_wsX12_wearOf_r2 _ (List.mem_of_getElem? (i := 4) rfl)) (x_mc (sb_wsX12_wearOf_wsX12_wearOf_r1 _ (List.mem_of_getElem? (i := 12) rfl)) (x_mc (sb_wsX12_wearOf_wsX12_wearOf_r2 _ (List.mem_of_getElem? (i := 5) rfl)) (x_mc (sb_wsX12_wearOf_wsX12_wearOf_r2 _ (List.mem_of_getElem? (i := 6) rfl)) (x_mc (sb_wsX12_wearOf_wsX12_wearOf_r2 _ (List.mem_of_getElem? (i := 7) rfl)) (x_mc (sb_wsX12_wearOf_wsX12_wearOf_r2 _ (List.mem_of_getElem? (i := 8) rfl)) (x_mc (sb_wsX12_wearOf_wsX12_wearOf_r2 _ (List.mem_of_getElem? (i := 9) rfl)) (x_mc (sb_wsX12_wearOf_wsX12_wearOf_r2 _ (List.mem_of_getElem? (i := 10) rfl)) (x_mc (sb_wsX12_wearOf_wsX12_wearOf_r2 _ (List.mem_of_getElem? (i := 11) rfl)) (x_mc (sb_wsX12_wearOf_wsX12_wearOf_r2 _ (List.mem_of_getElem? (i := 12) rfl)) (x_mc (sb_wsX12_wearOf_wsX12_wearOf_r2 _ (List.mem_of_getElem? (i := 13) rfl)) (x_mc (sb_wsX12_wearOf_wsX12_wearOf_r2 _ (List.mem_of_getElem? (i := 14) rfl)) x_mn))))))))))))))) (fun _ h => sb_wsX12_wearOf_wsX120 _ h))) (by decide +kernel)
set_option maxRecDepth 20000 in
theorem gX12_wearOf_X12_wrapOf : GoodIn wsX12_wearOf (wsV RX12 233 RX12 yX12_wrapOf wsX12_wrapOf) := goodIn_app (goodIn_of _ (by decide +kernel)) ggX12_wearOf_X12_wrapOf
set_option maxRecDepth 20000 in
theorem ggX12_wearOf_X12_pullOf : GoodIn wsX12_wearOf wsX12_pullOf := goodIn_sub (x_mc (sb_wsX12_wearOf_wsX12_wearOf_r2 _ (List.mem_of_getElem? (i := 18) rfl)) (x_ina (x_ina (x_mc (sb_wsX12_wearOf_wsX12_wearOf_r1 _ (List.mem_of_getElem? (i := 0) rfl)) (x_mc (sb_wsX12_wearOf_wsX12_wearOf_r1 _ (List.mem_of_getElem? (i := 1) rfl)) (x_mc (sb_wsX12_wearOf_wsX12_wearOf_r1 _ (List.mem_of_getElem? (i := 2) rfl)) (x_mc (sb_wsX12_wearOf_wsX12_wearOf_r1 _ (List.mem_of_getElem? (i := 4) rfl)) (x_mc (sb_wsX12_wearOf_wsX12_wearOf_r1 _ (List.mem_of_getElem? (i := 9) rfl)) (x_mc (sb_wsX12_wearOf_wsX12_wearOf_r1 _ (List.mem_of_getElem? (i := 10) rfl)) (x_mc (sb_wsX12_wearOf_wsX12_wearOf_r1 _ (List.mem_of_getElem? (i := 11) rfl)) (x_mc (sb_wsX12_wearOf_wsX12_wearOf_r1 _ (List.mem_of_getElem? (i := 12) rfl)) (x_mc (sb_wsX12_wearOf_wsX12_wearOf_r1 _ (List.mem_of_getElem? (i := 13) rfl)) (x_mc (sb_wsX12_wearOf_wsX12_wearOf_r1 _ (List.mem_of_getElem? (i := 14) rfl)) (x_mc (sb_wsX12_wearOf_wsX12_wearOf_r1 _ (List.mem_of_getElem? (i := 8) rfl)) (x_mc (sb_wsX12_wearOf_wsX12_wearOf_r2 _ (List.mem_of_getElem? (i := 19) rfl)) (x_mc (sb_wsX12_wearOf_wsX12_wearOf_r2 _ (List.mem_of_getElem? (i := 20) rfl)) (x_mc (sb_wsX12_wearOf_wsX12_wearOf_r2 _ (List.mem_of_getElem? (i := 21) rfl)) (x_mc (sb_wsX12_wearOf_wsX12_wearOf_r2 _ (List.mem_of_getElem? (i := 22) rfl)) (x_mc (sb_wsX12_wearOf_wsX12_wearOf_r1 _ (List.mem_of_getElem? (i := 3) rfl)) (x_mc (sb_wsX12_wearOf_wsX12_wearOf_r2 _ (List.mem_of_getElem? (i := 23) rfl)) (x_mc (sb_wsX12_wearOf_wsX12_wearOf_r3 _ (List.mem_of_getElem? (i := 0) rfl)) (x_mc (sb_wsX12_wearOf_wsX12_wearOf_r3 _ (List.mem_of_getElem? (i := 1) rfl)) (x_mc (sb_wsX12_wearOf_wsX12_wearOf_r3 _ (List.mem_of_getElem? (i := 2) rfl)) (x_mc (sb_wsX12_wearOf_wsX12_wearOf_r1 _ (List.mem_of_getElem? (i := 15) rfl)) (x_mc (sb_wsX12_wearOf_wsX12_wearOf_r1 _ (List.mem_of_getElem? (i := 16) rfl)) (x_mc (sb_wsX12_wearOf_wsX12_wearOf_r1 _ (List.mem_of_getElem? (i := 17) rfl)) (x_mc (sb_wsX12_wearOf_wsX12_wearOf_r1 _ (List.mem_of_getElem? (i := 18) rfl)) x_mn)))))))))))))))))))))))) (x_mc (sb_wsX12_wearOf_wsX12_wearOf_r1 _ (List.mem_of_getElem? (i := 19) rfl)) (x_mc (sb_wsX12_wearOf_wsX12_wearOf_r1 _ (List.mem_of_getElem? (i := 20) rfl)) (x_mc (sb_wsX12_wearOf_wsX12_wearOf_r1 _ (List.mem_of_getElem? (i := 21) rfl)) x_mn)))) (fun _ h => sb_wsX12_wearOf_wsX120 _ h))) (by decide +kernel)
set_option maxRecDepth 20000 in
theorem gX12_wearOf_X12_pullOf : GoodIn wsX12_wearOf (wsV RX12 230 RX12 yX12_pullOf wsX12_pullOf) := goodIn_app (goodIn_of _ (by decide +kernel)) ggX12_wearOf_X12_pullOf
set_option maxRecDepth 20000 in
theorem ggX12_wearOf_X12_sizeA : GoodIn wsX12_wearOf wsX12_sizeA := goodIn_sub (x_mc (sb_wsX12_wearOf_wsX12_wearOf_r2 _ (List.mem_of_getElem? (i := 13) rfl)) (x_ina (x_mc (sb_wsX12_wearOf_wsX12_wearOf_r2 _ (List.mem_of_getElem? (i := 8) rfl)) (x_mc (sb_wsX12_wearOf_wsX12_wearOf_r2 _ (List.mem_of_getElem? (i := 14) rfl)) x_mn)) (fun _ h => sb_wsX12_wearOf_wsX120 _ h))) (by decide +kernel)
set_option maxRecDepth 20000 in
theorem gX12_wearOf_X12_sizeA : GoodIn wsX12_wearOf (wsV RX12 207 RX12 yX12_sizeA wsX12_sizeA) := goodIn_app (goodIn_of _ (by decide +kernel)) ggX12_wearOf_X12_sizeA
set_option maxRecDepth 20000 in
theorem ggX12_wearOf_X12_sizeB : GoodIn wsX12_wearOf wsX12_sizeB := goodIn_sub (x_mc (sb_wsX12_wearOf_wsX12_wearOf_r2 _ (List.mem_of_getElem? (i := 5) rfl)) (x_ina (x_mc (sb_wsX12_wearOf_wsX12_wearOf_r2 _ (List.mem_of_getElem? (i := 6) rfl)) (x_mc (sb_wsX12_wearOf_wsX12_wearOf_r2 _ (List.mem_of_getElem? (i := 7) rfl)) (x_mc (sb_wsX12_wearOf_wsX12_wearOf_r2 _ (List.mem_of_getElem? (i := 8) rfl)) (x_mc (sb_wsX12_wearOf_wsX12_wearOf_r2 _ (List.mem_of_getElem? (i := 9) rfl)) x_mn)))) (fun _ h => sb_wsX12_wearOf_wsX120 _ h))) (by decide +kernel)
set_option maxRecDepth 20000 in
theorem gX12_wearOf_X12_sizeB : GoodIn wsX12_wearOf (wsV RX12 203 RX12 yX12_sizeB wsX12_sizeB) := goodIn_app (goodIn_of _ (by decide +kernel)) ggX12_wearOf_X12_sizeB
set_option maxRecDepth 20000 in
theorem ggX12_wearOf_X12_read : GoodIn wsX12_wearOf wsX12_read := goodIn_sub (x_mc (sb_wsX12_wearOf_wsX12_wearOf_r3 _ (List.mem_of_getElem? (i := 6) rfl)) (x_ina (x_ina (x_mc (sb_wsX12_wearOf_wsX12_wearOf_r3 _ (List.mem_of_getElem? (i := 7) rfl)) (x_mc (sb_wsX12_wearOf_wsX12_wearOf_r3 _ (List.mem_of_getElem? (i := 8) rfl)) (x_mc (sb_wsX12_wearOf_wsX12_wearOf_r3 _ (List.mem_of_getElem? (i := 9) rfl)) (x_mc (sb_wsX12_wearOf_wsX12_wearOf_r3 _ (List.mem_of_getElem? (i := 10) rfl)) (x_mc (sb_wsX12_wearOf_wsX12_wearOf_r3 _ (List.mem_of_getElem? (i := 11) rfl)) (x_mc (sb_wsX12_wearOf_wsX12_wearOf_r3 _ (List.mem_of_getElem? (i := 12) rfl)) (x_mc (sb_wsX12_wearOf_wsX12_wearOf_r3 _ (List.mem_of_getElem? (i := 13) rfl)) (x_mc (sb_wsX12_wearOf_wsX12_wearOf_r3 _ (List.mem_of_getElem? (i := 14) rfl)) (x_mc (sb_wsX12_wearOf_wsX12_wearOf_r3 _ (List.mem_of_getElem? (i := 15) rfl)) (x_mc (sb_wsX12_wearOf_wsX12_wearOf_r3 _ (List.mem_of_getElem? (i := 16) rfl)) (x_mc (sb_wsX12_wearOf_wsX12_wearOf_r3 _ (List.mem_of_getElem? (i := 17) rfl)) (x_mc (sb_wsX12_wearOf_wsX12_wearOf_r3 _ (List.mem_of_getElem? (i := 18) rfl)) (x_mc (sb_wsX12_wearOf_wsX12_wearOf_r3 _ (List.mem_of_getElem? (i := 19) rfl)) (x_mc (sb_wsX12_wearOf_wsX12_wearOf_r3 _ (List.mem_of_getElem? (i := 20) rfl)) (x_mc (sb_wsX12_wearOf_wsX12_wearOf_r3 _ (List.mem_of_getElem? (i := 21) rfl)) (x_mc (sb_wsX12_wearOf_wsX12_wearOf_r3 _ (List.mem_of_getElem? (i := 22) rfl)) (x_mc (sb_wsX12_wearOf_wsX12_wearOf_r3 _ (List.mem_of_getElem? (i := 23) rfl)) (x_mc (sb_wsX12_wearOf_wsX12_wearOf_r4 _ (List.mem_of_getElem? (i := 0) rfl)) (x_mc (sb_wsX12_wearOf_wsX12_wearOf_r4 _ (List.mem_of_getElem? (i := 1) rfl)) (x_mc (sb_wsX12_wearOf_wsX12_wearOf_r1 _ (List.mem_of_getElem? (i := 12) rfl)) (x_mc (sb_wsX12_wearOf_wsX12_wearOf_r4 _ (List.mem_of_getElem? (i := 2) rfl)) (x_mc (sb_wsX12_wearOf_wsX12_wearOf_r4 _ (List.mem_of_getElem? (i := 3) rfl)) (x_mc (sb_wsX12_wearOf_wsX12_wearOf_r4 _ (List.mem_of_getElem? (i := 4) rfl)) (x_mc (sb_wsX12_wearOf_wsX12_wearOf_r4 _ (List.mem_of_getElem? (i := 5) rfl)) x_mn)))))))))))))))))))))))) (x_ina (x_mc (sb_wsX12_wearOf_wsX12_wearOf_r4 _ (List.mem_of_getElem? (i := 6) rfl)) (x_mc (sb_wsX12_wearOf_wsX12_wearOf_r4 _ (List.mem_of_getElem? (i := 7) rfl)) (x_mc (sb_wsX12_wearOf_wsX12_wearOf_r4 _ (List.mem_of_getElem? (i := 8) rfl)) (x_mc (sb_wsX12_wearOf_wsX12_wearOf_r4 _ (List.mem_of_getElem? (i := 9) rfl)) (x_mc (sb_wsX12_wearOf_wsX12_wearOf_r4 _ (List.mem_of_getElem? (i := 10) rfl)) (x_mc (sb_wsX12_wearOf_wsX12_wearOf_r4 _ (List.mem_of_getElem? (i := 11) rfl)) (x_mc (sb_wsX12_wearOf_wsX12_wearOf_r4 _ (List.mem_of_getElem? (i := 12) rfl)) (x_mc (sb_wsX12_wearOf_wsX12_wearOf_r4 _ (List.mem_of_getElem? (i := 13) rfl)) (x_mc (sb_wsX12_wearOf_wsX12_wearOf_r4 _ (List.mem_of_getElem? (i := 14) rfl)) (x_mc (sb_wsX12_wearOf_wsX12_wearOf_r4 _ (List.mem_of_getElem? (i := 15) rfl)) (x_mc (sb_wsX12_wearOf_wsX12_wearOf_r4 _ (List.mem_of_getElem? (i := 16) rfl)) (x_mc (sb_wsX12_wearOf_wsX12_wearOf_r4 _ (List.mem_of_getElem? (i := 17) rfl)) (x_mc (sb_wsX12_wearOf_wsX12_wearOf_r4 _ (List.mem_of_getElem? (i := 18) rfl)) (x_mc (sb_wsX12_wearOf_wsX12_wearOf_r4 _ (List.mem_of_getElem? (i := 19) rfl)) (x_mc (sb_wsX12_wearOf_wsX12_wearOf_r4 _ (List.mem_of_getElem? (i := 20) rfl)) (x_mc (sb_wsX12_wearOf_wsX12_wearOf_r4 _ (List.mem_of_getElem? (i := 21) rfl)) (x_mc (sb_wsX12_wearOf_wsX12_wearOf_r4 _ (List.mem_of_getElem? (i := 22) rfl)) (x_mc (sb_wsX12_wearOf_wsX12_wearOf_r4 _ (List.mem_of_getElem? (i := 23) rfl)) (x_mc (sb_wsX12_wearOf_wsX12_wearOf_r5 _ (List.mem_of_getElem? (i := 0) rfl)) (x_mc (sb_wsX12_wearOf_wsX12_wearOf_r5 _ (List.mem_of_getElem? (i := 1) rfl)) (x_mc (sb_wsX12_wearOf_wsX12_wearOf_r5 _ (List.mem_of_getElem? (i := 2) rfl)) (x_mc (sb_wsX12_wearOf_wsX12_wearOf_r5 _ (List.mem_of_getElem? (i := 3) rfl)) (x_mc (sb_wsX12_wearOf_wsX12_wearOf_r5 _ (List.mem_of_getElem? (i := 4) rfl)) (x_mc (sb_wsX12_wearOf_wsX12_wearOf_r5 _ (List.mem_of_getElem? (i := 5) rfl)) x_mn)))))))))))))))))))))))) (x_ina (x_mc (sb_wsX12_wearOf_wsX12_wearOf_r5 _ (List.mem_of_getElem? (i := 6) rfl)) (x_mc (sb_wsX12_wearOf_wsX12_wearOf_r5 _ (List.mem_of_getElem? (i := 7) rfl)) (x_mc (sb_wsX12_wearOf_wsX12_wearOf_r5 _ (List.mem_of_getElem? (i := 8) rfl)) (x_mc (sb_wsX12_wearOf_wsX12_wearOf_r5 _ (List.mem_of_getElem? (i := 9) rfl)) (x_mc (sb_wsX12_wearOf_wsX12_wearOf_r5 _ (List.mem_of_getElem? (i := 10) rfl)) (x_mc (sb_wsX12_wearOf_wsX12_wearOf_r5 _ (List.mem_of_getElem? (i := 11) rfl)) (x_mc (sb_wsX12_wearOf_wsX12_wearOf_r5 _ (List.mem_of_getElem? (i := 12) rfl)) (x_mc (sb_wsX12_wearOf_wsX12_wearOf_r5 _ (List.mem_of_getElem? (i := 13) rfl)) (x_mc (sb_wsX12_wearOf_wsX12_wearOf_r5 _ (List.mem_of_getElem? (i := 14) rfl)) (x_mc (sb_wsX12_wearOf_wsX12_wearOf_r5 _ (List.mem_of_getElem? (i := 15) rfl)) (x_mc (sb_wsX12_wearOf_wsX12_wearOf_r5 _ (List.mem_of_getElem? (i := 16) rfl)) (x_mc (sb_wsX12_wearOf_wsX12_wearOf_r5 _ (List.mem_of_getElem? (i := 17) rfl)) (x_mc (sb_wsX12_wearOf_wsX12_wearOf_r5 _ (List.mem_of_getElem? (i := 18) rfl)) (x_mc (sb_wsX12_wearOf_wsX12_wearOf_r5 _ (List.mem_of_getElem? (i := 19) rfl)) (x_mc (sb_wsX12_wearOf_wsX12_wearOf_r5 _ (List.mem_of_getElem? (i := 20) rfl)) (x_mc (sb_wsX12_wearOf_wsX12_wearOf_r5 _ (List.mem_of_getElem? (i := 21) rfl)) (x_mc (sb_wsX12_wearOf_wsX12_wearOf_r5 _ (List.mem_of_getElem? (i := 22) rfl)) (x_mc (sb_wsX12_wearOf_wsX12_wearOf_r5 _ (List.mem_of_getElem? (i := 23) rfl)) (x_mc (sb_wsX12_wearOf_wsX12_wearOf_r6 _ (List.mem_of_getElem? (i := 0) rfl)) (x_mc (sb_wsX12_wearOf_wsX12_wearOf_r6 _ (List.mem_of_getElem? (i := 1) rfl)) (x_mc (sb_wsX12_wearOf_wsX12_wearOf_r6 _ (List.mem_of_getElem? (i := 2) rfl)) (x_mc (sb_wsX12_wearOf_wsX12_wearOf_r6 _ (List.mem_of_getElem? (i := 3) rfl)) (x_mc (sb_wsX12_wearOf_wsX12_wearOf_r6 _ (List.mem_of_getElem? (i := 4) rfl)) (x_mc (sb_wsX12_wearOf_wsX12_wearOf_r6 _ (List.mem_of_getElem? (i := 5) rfl)) x_mn)))))))))))))))))))))))) (x_ina (x_mc (sb_wsX12_wearOf_wsX12_wearOf_r6 _ (List.mem_of_getElem? (i := 6) rfl)) (x_mc (sb_wsX12_wearOf_wsX12_wearOf_r6 _ (List.mem_of_getElem? (i := 7) rfl)) (x_mc (sb_wsX12_wearOf_wsX12_wearOf_r6 _ (List.mem_of_getElem? (i := 8) rfl)) (x_mc (sb_wsX12_wearOf_wsX12_wearOf_r6 _ (List.mem_of_getElem? (i := 9) rfl)) (x_mc (sb_wsX12_wearOf_wsX12_wearOf_r6 _ (List.mem_of_getElem? (i := 10) rfl)) (x_mc (sb_wsX12_wearOf_wsX12_wearOf_r6 _ (List.mem_of_getElem? (i := 11) rfl)) (x_mc (sb_wsX12_wearOf_wsX12_wearOf_r6 _ (List.mem_of_getElem? (i := 12) rfl)) (x_mc (sb_wsX12_wearOf_wsX12_wearOf_r6 _ (List.mem_of_getElem? (i := 13) rfl)) (x_mc (sb_wsX12_wearOf_wsX12_wearOf_r6 _ (List.mem_of_getElem? (i := 14) rfl)) (x_mc (sb_wsX12_wearOf_wsX12_wearOf_r6 _ (List.mem_of_getElem? (i := 15) rfl)) (x_mc (sb_wsX12_wearOf_wsX12_wearOf_r6 _ (List.mem_of_getElem? (i := 16) rfl)) (x_mc (sb_wsX12_wearOf_wsX12_wearOf_r6 _ (List.mem_of_getElem? (i := 17) rfl)) (x_mc (sb_wsX12_wearOf_wsX12_wearOf_r6 _ (List.mem_of_getElem? (i := 18) rfl)) (x_mc (sb_wsX12_wearOf_wsX12_wearOf_r6 _ (List.mem_of_getElem? (i := 19) rfl)) (x_mc (sb_wsX12_wearOf_wsX12_wearOf_r6 _ (List.mem_of_getElem? (i := 20) rfl)) (x_mc (sb_wsX12_wearOf_wsX12_wearOf_r6 _ (List.mem_of_getElem? (i := 21) rfl)) (x_mc (sb_wsX12_wearOf_wsX12_wearOf_r6 _ (List.mem_of_getElem? (i := 22) rfl)) (x_mc (sb_wsX12_wearOf_wsX12_wearOf_r6 _ (List.mem_of_getElem? (i := 23) rfl)) (x_mc (sb_wsX12_wearOf_wsX12_wearOf_r7 _ (List.mem_of_getElem? (i := 0) rfl)) (x_mc (sb_wsX12_wearOf_wsX12_wearOf_r7 _ (List.mem_of_getElem? (i := 1) rfl)) (x_mc (sb_wsX12_wearOf_wsX12_wearOf_r7 _ (List.mem_of_getElem? (i := 2) rfl)) (x_mc (sb_wsX12_wearOf_wsX12_wearOf_r7 _ (List.mem_of_getElem? (i := 3) rfl)) (x_mc (sb_wsX12_wearOf_wsX12_wearOf_r7 _ (List.mem_of_getElem? (i := 4) rfl)) (x_mc (sb_wsX12_wearOf_wsX12_wearOf_r7 _ (List.mem_of_getElem? (i := 5) rfl)) x_mn)))))))))))))))))))))))) (x_mc (sb_wsX12_wearOf_wsX12_wearOf_r7 _ (List.mem_of_getElem? (i := 6) rfl)) (x_mc (sb_wsX12_wearOf_wsX12_wearOf_r7 _ (List.mem_of_getElem? (i := 7) rfl)) (x_mc (sb_wsX12_wearOf_wsX12_wearOf_r7 _ (List.mem_of_getElem? (i := 8) rfl)) x_mn))))))) (fun _ h => sb_wsX12_wearOf_wsX120 _ h))) (by decide +kernel)
set_option maxRecDepth 20000 in
theorem gX12_wearOf_X12_read : GoodIn wsX12_wearOf (wsV RX12 239 RX12 yX12_read wsX12_read) := goodIn_app (goodIn_of _ (by decide +kernel)) ggX12_wearOf_X12_read
set_option maxRecDepth 20000 in
theorem ggX12_wearOf_X12_within : GoodIn wsX12_wearOf wsX12_within := goodIn_sub (x_mc (sb_wsX12_wearOf_wsX12_wearOf_r7 _ (List.mem_of_getElem? (i := 11) rfl)) x_mn) (by decide +kernel)
set_option maxRecDepth 20000 in
theorem gX12_wearOf_X12_within : GoodIn wsX12_wearOf (va_wsS RX12 243 yX12_within wsX12_within) := goodIn_app (goodIn_of _ (by decide +kernel)) ggX12_wearOf_X12_within
theorem dX12_wearOf_0 : decode cX12_wearOf 0 = .ok (.iconst 0, 1) := by decide +kernel
theorem dX12_wearOf_1 : decode cX12_wearOf 1 = .ok (.istore_n 2, 1) := by decide +kernel
theorem dX12_wearOf_2 : decode cX12_wearOf 2 = .ok (.aload_n 0, 1) := by decide +kernel
theorem dX12_wearOf_3 : decode cX12_wearOf 3 = .ok (.getfield 68, 3) := by decide +kernel
theorem dX12_wearOf_6 : decode cX12_wearOf 6 = .ok (.iload_n 1, 1) := by decide +kernel
theorem dX12_wearOf_7 : decode cX12_wearOf 7 = .ok (.iaload, 1) := by decide +kernel
theorem dX12_wearOf_8 : decode cX12_wearOf 8 = .ok (.iconst 1, 1) := by decide +kernel
theorem dX12_wearOf_9 : decode cX12_wearOf 9 = .ok (.if_icmp .ne 16, 3) := by decide +kernel
theorem dX12_wearOf_12 : decode cX12_wearOf 12 = .ok (.aload_n 0, 1) := by decide +kernel
theorem dX12_wearOf_13 : decode cX12_wearOf 13 = .ok (.aload_n 0, 1) := by decide +kernel
theorem dX12_wearOf_14 : decode cX12_wearOf 14 = .ok (.getfield 56, 3) := by decide +kernel
theorem dX12_wearOf_17 : decode cX12_wearOf 17 = .ok (.iload_n 1, 1) := by decide +kernel
theorem dX12_wearOf_18 : decode cX12_wearOf 18 = .ok (.iaload, 1) := by decide +kernel
theorem dX12_wearOf_19 : decode cX12_wearOf 19 = .ok (.invokevirtual 227, 3) := by decide +kernel
theorem dX12_wearOf_22 : decode cX12_wearOf 22 = .ok (.goto 4, 3) := by decide +kernel
theorem dX12_wearOf_25 : decode cX12_wearOf 25 = .ok (.iconst 0, 1) := by decide +kernel
theorem dX12_wearOf_26 : decode cX12_wearOf 26 = .ok (.istore_n 3, 1) := by decide +kernel
theorem dX12_wearOf_27 : decode cX12_wearOf 27 = .ok (.iconst 0, 1) := by decide +kernel
theorem dX12_wearOf_28 : decode cX12_wearOf 28 = .ok (.istore 4, 2) := by decide +kernel
theorem dX12_wearOf_30 : decode cX12_wearOf 30 = .ok (.iload 4, 2) := by decide +kernel
theorem dX12_wearOf_32 : decode cX12_wearOf 32 = .ok (.aload_n 0, 1) := by decide +kernel
theorem dX12_wearOf_33 : decode cX12_wearOf 33 = .ok (.getfield 160, 3) := by decide +kernel
theorem dX12_wearOf_36 : decode cX12_wearOf 36 = .ok (.if_icmp .ge 58, 3) := by decide +kernel
theorem dX12_wearOf_39 : decode cX12_wearOf 39 = .ok (.aload_n 0, 1) := by decide +kernel
theorem dX12_wearOf_40 : decode cX12_wearOf 40 = .ok (.getfield 44, 3) := by decide +kernel
theorem dX12_wearOf_43 : decode cX12_wearOf 43 = .ok (.iload 4, 2) := by decide +kernel
theorem dX12_wearOf_45 : decode cX12_wearOf 45 = .ok (.iaload, 1) := by decide +kernel
theorem dX12_wearOf_46 : decode cX12_wearOf 46 = .ok (.iconst 1, 1) := by decide +kernel
theorem dX12_wearOf_47 : decode cX12_wearOf 47 = .ok (.if_icmp .ne 39, 3) := by decide +kernel
theorem dX12_wearOf_50 : decode cX12_wearOf 50 = .ok (.iload_n 3, 1) := by decide +kernel
theorem dX12_wearOf_51 : decode cX12_wearOf 51 = .ok (.aload_n 0, 1) := by decide +kernel
theorem dX12_wearOf_52 : decode cX12_wearOf 52 = .ok (.getfield 29, 3) := by decide +kernel
theorem dX12_wearOf_55 : decode cX12_wearOf 55 = .ok (.iload 4, 2) := by decide +kernel
theorem dX12_wearOf_57 : decode cX12_wearOf 57 = .ok (.iaload, 1) := by decide +kernel
theorem dX12_wearOf_58 : decode cX12_wearOf 58 = .ok (.ishr, 1) := by decide +kernel
theorem dX12_wearOf_59 : decode cX12_wearOf 59 = .ok (.iconst 1, 1) := by decide +kernel
theorem dX12_wearOf_60 : decode cX12_wearOf 60 = .ok (.iand, 1) := by decide +kernel
theorem dX12_wearOf_61 : decode cX12_wearOf 61 = .ok (.iconst 1, 1) := by decide +kernel
theorem dX12_wearOf_62 : decode cX12_wearOf 62 = .ok (.if_icmp .ne 24, 3) := by decide +kernel
theorem dX12_wearOf_65 : decode cX12_wearOf 65 = .ok (.aload_n 0, 1) := by decide +kernel
theorem dX12_wearOf_66 : decode cX12_wearOf 66 = .ok (.getfield 41, 3) := by decide +kernel
theorem dX12_wearOf_69 : decode cX12_wearOf 69 = .ok (.iload 4, 2) := by decide +kernel
theorem dX12_wearOf_71 : decode cX12_wearOf 71 = .ok (.iaload, 1) := by decide +kernel
theorem dX12_wearOf_72 : decode cX12_wearOf 72 = .ok (.iload_n 2, 1) := by decide +kernel
theorem dX12_wearOf_73 : decode cX12_wearOf 73 = .ok (.if_icmp .le 13, 3) := by decide +kernel
theorem dX12_wearOf_76 : decode cX12_wearOf 76 = .ok (.aload_n 0, 1) := by decide +kernel
theorem dX12_wearOf_77 : decode cX12_wearOf 77 = .ok (.getfield 41, 3) := by decide +kernel
theorem dX12_wearOf_80 : decode cX12_wearOf 80 = .ok (.iload 4, 2) := by decide +kernel
theorem dX12_wearOf_82 : decode cX12_wearOf 82 = .ok (.iaload, 1) := by decide +kernel
theorem dX12_wearOf_83 : decode cX12_wearOf 83 = .ok (.goto 4, 3) := by decide +kernel
theorem dX12_wearOf_86 : decode cX12_wearOf 86 = .ok (.iload_n 2, 1) := by decide +kernel
theorem dX12_wearOf_87 : decode cX12_wearOf 87 = .ok (.istore_n 2, 1) := by decide +kernel
theorem dX12_wearOf_88 : decode cX12_wearOf 88 = .ok (.iinc 4 1, 3) := by decide +kernel
theorem dX12_wearOf_91 : decode cX12_wearOf 91 = .ok (.goto (-61), 3) := by decide +kernel
theorem dX12_wearOf_94 : decode cX12_wearOf 94 = .ok (.aload_n 0, 1) := by decide +kernel
theorem dX12_wearOf_95 : decode cX12_wearOf 95 = .ok (.aload_n 0, 1) := by decide +kernel
theorem dX12_wearOf_96 : decode cX12_wearOf 96 = .ok (.getfield 236, 3) := by decide +kernel
theorem dX12_wearOf_99 : decode cX12_wearOf 99 = .ok (.aload_n 0, 1) := by decide +kernel
theorem dX12_wearOf_100 : decode cX12_wearOf 100 = .ok (.getfield 50, 3) := by decide +kernel
theorem dX12_wearOf_103 : decode cX12_wearOf 103 = .ok (.iload_n 1, 1) := by decide +kernel
theorem dX12_wearOf_104 : decode cX12_wearOf 104 = .ok (.iaload, 1) := by decide +kernel
theorem dX12_wearOf_105 : decode cX12_wearOf 105 = .ok (.aload_n 0, 1) := by decide +kernel
theorem dX12_wearOf_106 : decode cX12_wearOf 106 = .ok (.aload_n 0, 1) := by decide +kernel
theorem dX12_wearOf_107 : decode cX12_wearOf 107 = .ok (.getfield 53, 3) := by decide +kernel
theorem dX12_wearOf_110 : decode cX12_wearOf 110 = .ok (.iload_n 1, 1) := by decide +kernel
theorem dX12_wearOf_111 : decode cX12_wearOf 111 = .ok (.iaload, 1) := by decide +kernel
theorem dX12_wearOf_112 : decode cX12_wearOf 112 = .ok (.invokevirtual 219, 3) := by decide +kernel
theorem dX12_wearOf_115 : decode cX12_wearOf 115 = .ok (.aload_n 0, 1) := by decide +kernel
theorem dX12_wearOf_116 : decode cX12_wearOf 116 = .ok (.iload_n 1, 1) := by decide +kernel
theorem dX12_wearOf_117 : decode cX12_wearOf 117 = .ok (.invokevirtual 233, 3) := by decide +kernel
theorem dX12_wearOf_120 : decode cX12_wearOf 120 = .ok (.aload_n 0, 1) := by decide +kernel
theorem dX12_wearOf_121 : decode cX12_wearOf 121 = .ok (.iload_n 1, 1) := by decide +kernel
theorem dX12_wearOf_122 : decode cX12_wearOf 122 = .ok (.invokevirtual 230, 3) := by decide +kernel
theorem dX12_wearOf_125 : decode cX12_wearOf 125 = .ok (.aload_n 0, 1) := by decide +kernel
theorem dX12_wearOf_126 : decode cX12_wearOf 126 = .ok (.iload_n 1, 1) := by decide +kernel
theorem dX12_wearOf_127 : decode cX12_wearOf 127 = .ok (.invokevirtual 207, 3) := by decide +kernel
theorem dX12_wearOf_130 : decode cX12_wearOf 130 = .ok (.aload_n 0, 1) := by decide +kernel
theorem dX12_wearOf_131 : decode cX12_wearOf 131 = .ok (.iload_n 1, 1) := by decide +kernel
theorem dX12_wearOf_132 : decode cX12_wearOf 132 = .ok (.invokevirtual 203, 3) := by decide +kernel
theorem dX12_wearOf_135 : decode cX12_wearOf 135 = .ok (.iadd, 1) := by decide +kernel
theorem dX12_wearOf_136 : decode cX12_wearOf 136 = .ok (.iload_n 2, 1) := by decide +kernel
theorem dX12_wearOf_137 : decode cX12_wearOf 137 = .ok (.iconst 0, 1) := by decide +kernel
theorem dX12_wearOf_138 : decode cX12_wearOf 138 = .ok (.invokevirtual 239, 3) := by decide +kernel
theorem dX12_wearOf_141 : decode cX12_wearOf 141 = .ok (.iconst 0, 1) := by decide +kernel
theorem dX12_wearOf_142 : decode cX12_wearOf 142 = .ok (.sipush 9999, 3) := by decide +kernel
theorem dX12_wearOf_145 : decode cX12_wearOf 145 = .ok (.invokestatic 243, 3) := by decide +kernel
theorem dX12_wearOf_148 : decode cX12_wearOf 148 = .ok (.ireturn, 1) := by decide +kernel
theorem sb_wsX12_told_wsX12_told_r1 : ∀ w ∈ wsX12_told_r1, w ∈ wsX12_told := fun _ h => (List.mem_cons_of_mem _ (List.mem_append_left _ (List.mem_append_left _ h)))
theorem sb_wsX12_told_wsX12_told_r2 : ∀ w ∈ wsX12_told_r2, w ∈ wsX12_told := fun _ h => (List.mem_cons_of_mem _ (List.mem_append_left _ (List.mem_append_right _ (List.mem_append_left _ h))))
theorem sb_wsX12_told_wsX12_told_r3 : ∀ w ∈ wsX12_told_r3, w ∈ wsX12_told := fun _ h => (List.mem_cons_of_mem _ (List.mem_append_left _ (List.mem_append_right _ (List.mem_append_right _ (List.mem_append_left _ h)))))
theorem sb_wsX12_told_wsX12_told_r4 : ∀ w ∈ wsX12_told_r4, w ∈ wsX12_told := fun _ h => (List.mem_cons_of_mem _ (List.mem_append_left _ (List.mem_append_right _ (List.mem_append_right _ (List.mem_append_right _ (List.mem_append_left _ h))))))
theorem sb_wsX12_told_wsX12_told_r5 : ∀ w ∈ wsX12_told_r5, w ∈ wsX12_told := fun _ h => (List.mem_cons_of_mem _ (List.mem_append_left _ (List.mem_append_right _ (List.mem_append_right _ (List.mem_append_right _ (List.mem_append_right _ (List.mem_append_left _ h)))))))
theorem sb_wsX12_told_wsX12_told_r6 : ∀ w ∈ wsX12_told_r6, w ∈ wsX12_told := fun _ h => (List.mem_cons_of_mem _ (List.mem_append_left _ (List.mem_append_right _ (List.mem_append_right _ (List.mem_append_right _ (List.mem_append_right _ (List.mem_append_right _ (List.mem_append_left _ h))))))))
theorem sb_wsX12_told_wsX12_told_r7 : ∀ w ∈ wsX12_told_r7, w ∈ wsX12_told := fun _ h => (List.mem_cons_of_mem _ (List.mem_append_left _ (List.mem_append_right _ (List.mem_append_right _ (List.mem_append_right _ (List.mem_append_right _ (List.mem_append_right _ (List.mem_append_right _ (List.mem_append_left _ h)))))))))
theorem sb_wsX12_told_wsX12_told_r8 : ∀ w ∈ wsX12_told_r8, w ∈ wsX12_told := fun _ h => (List.mem_cons_of_mem _ (List.mem_append_left _ (List.mem_append_right _ (List.mem_append_right _ (List.mem_append_right _ (List.mem_append_right _ (List.mem_append_right _ (List.mem_append_right _ (List.mem_append_right _ h)))))))))
theorem sb_wsX12_told_wsX120 : ∀ w ∈ wsX120, w ∈ wsX12_told := fun _ h => (List.mem_cons_of_mem _ (List.mem_append_right _ h))
set_option maxRecDepth 20000 in
theorem ggX12_told_X12_isBelt : GoodIn wsX12_told wsX12_isBelt := goodIn_sub (x_mc (sb_wsX12_told_wsX12_told_r1 _ (List.mem_of_getElem? (i := 10) rfl)) (x_ina (x_mc (sb_wsX12_told_wsX12_told_r1 _ (List.mem_of_getElem? (i := 11) rfl)) (x_mc (sb_wsX12_told_wsX12_told_r1 _ (List.mem_of_getElem? (i := 12) rfl)) (x_mc (sb_wsX12_told_wsX12_told_r1 _ (List.mem_of_getElem? (i := 13) rfl)) (x_mc (sb_wsX12_told_wsX12_told_r1 _ (List.mem_of_getElem? (i := 9) rfl)) (x_mc (sb_wsX12_told_wsX12_told_r1 _ (List.mem_of_getElem? (i := 14) rfl)) x_mn))))) (fun _ h => sb_wsX12_told_wsX120 _ h))) (by decide +kernel)
set_option maxRecDepth 20000 in
theorem gX12_told_X12_isBelt : GoodIn wsX12_told (wsV RX12 197 RX12 yX12_isBelt wsX12_isBelt) := goodIn_app (goodIn_of _ (by decide +kernel)) ggX12_told_X12_isBelt
set_option maxRecDepth 20000 in
theorem ggX12_told_X12_lays : GoodIn wsX12_told wsX12_lays := goodIn_sub (x_mc (sb_wsX12_told_wsX12_told_r1 _ (List.mem_of_getElem? (i := 18) rfl)) (x_ina (x_ina (x_mc (sb_wsX12_told_wsX12_told_r1 _ (List.mem_of_getElem? (i := 19) rfl)) (x_mc (sb_wsX12_told_wsX12_told_r1 _ (List.mem_of_getElem? (i := 20) rfl)) (x_mc (sb_wsX12_told_wsX12_told_r1 _ (List.mem_of_getElem? (i := 21) rfl)) (x_mc (sb_wsX12_told_wsX12_told_r1 _ (List.mem_of_getElem? (i := 22) rfl)) (x_mc (sb_wsX12_told_wsX12_told_r1 _ (List.mem_of_getElem? (i := 11) rfl)) (x_mc (sb_wsX12_told_wsX12_told_r1 _ (List.mem_of_getElem? (i := 5) rfl)) (x_mc (sb_wsX12_told_wsX12_told_r1 _ (List.mem_of_getElem? (i := 1) rfl)) (x_mc (sb_wsX12_told_wsX12_told_r1 _ (List.mem_of_getElem? (i := 2) rfl)) (x_mc (sb_wsX12_told_wsX12_told_r1 _ (List.mem_of_getElem? (i := 0) rfl)) (x_mc (sb_wsX12_told_wsX12_told_r1 _ (List.mem_of_getElem? (i := 23) rfl)) (x_mc (sb_wsX12_told_wsX12_told_r2 _ (List.mem_of_getElem? (i := 0) rfl)) (x_mc (sb_wsX12_told_wsX12_told_r2 _ (List.mem_of_getElem? (i := 1) rfl)) (x_mc (sb_wsX12_told_wsX12_told_r1 _ (List.mem_of_getElem? (i := 9) rfl)) (x_mc (sb_wsX12_told_wsX12_told_r2 _ (List.mem_of_getElem? (i := 2) rfl)) (x_mc (sb_wsX12_told_wsX12_told_r2 _ (List.mem_of_getElem? (i := 3) rfl)) (x_mc (sb_wsX12_told_wsX12_told_r1 _ (List.mem_of_getElem? (i := 3) rfl)) (x_mc (sb_wsX12_told_wsX12_told_r2 _ (List.mem_of_getElem? (i := 4) rfl)) (x_mc (sb_wsX12_told_wsX12_told_r2 _ (List.mem_of_getElem? (i := 5) rfl)) (x_mc (sb_wsX12_told_wsX12_told_r2 _ (List.mem_of_getElem? (i := 6) rfl)) (x_mc (sb_wsX12_told_wsX12_told_r2 _ (List.mem_of_getElem? (i := 7) rfl)) (x_mc (sb_wsX12_told_wsX12_told_r2 _ (List.mem_of_getElem? (i := 8) rfl)) (x_mc (sb_wsX12_told_wsX12_told_r2 _ (List.mem_of_getElem? (i := 9) rfl)) (x_mc (sb_wsX12_told_wsX12_told_r1 _ (List.mem_of_getElem? (i := 4) rfl)) (x_mc (sb_wsX12_told_wsX12_told_r2 _ (List.mem_of_getElem? (i := 10) rfl)) x_mn)))))))))))))))))))))))) (x_mc (sb_wsX12_told_wsX12_told_r2 _ (List.mem_of_getElem? (i := 11) rfl)) (x_mc (sb_wsX12_told_wsX12_told_r2 _ (List.mem_of_getElem? (i := 12) rfl)) x_mn))) (fun _ h => sb_wsX12_told_wsX120 _ h))) (by decide +kernel)
set_option maxRecDepth 20000 in
theorem gX12_told_X12_lays : GoodIn wsX12_told (wsV RX12 247 RX12 yX12_lays wsX12_lays) := goodIn_app (goodIn_of _ (by decide +kernel)) ggX12_told_X12_lays
set_option maxRecDepth 20000 in
theorem ggX12_told_X12_wrapOf : GoodIn wsX12_told wsX12_wrapOf := goodIn_sub (x_mc (sb_wsX12_told_wsX12_told_r2 _ (List.mem_of_getElem? (i := 16) rfl)) (x_ina (x_mc (sb_wsX12_told_wsX12_told_r1 _ (List.mem_of_getElem? (i := 0) rfl)) (x_mc (sb_wsX12_told_wsX12_told_r2 _ (List.mem_of_getElem? (i := 4) rfl)) (x_mc (sb_wsX12_told_wsX12_told_r2 _ (List.mem_of_getElem? (i := 5) rfl)) (x_mc (sb_wsX12_told_wsX12_told_r2 _ (List.mem_of_getElem? (i := 6) rfl)) (x_mc (sb_wsX12_told_wsX12_told_r1 _ (List.mem_of_getElem? (i := 9) rfl)) (x_mc (sb_wsX12_told_wsX12_told_r2 _ (List.mem_of_getElem? (i := 7) rfl)) (x_mc (sb_wsX12_told_wsX12_told_r2 _ (List.mem_of_getElem? (i := 8) rfl)) (x_mc (sb_wsX12_told_wsX12_told_r2 _ (List.mem_of_getElem? (i := 9) rfl)) (x_mc (sb_wsX12_told_wsX12_told_r2 _ (List.mem_of_getElem? (i := 3) rfl)) (x_mc (sb_wsX12_told_wsX12_told_r1 _ (List.mem_of_getElem? (i := 4) rfl)) (x_mc (sb_wsX12_told_wsX12_told_r1 _ (List.mem_of_getElem? (i := 23) rfl)) (x_mc (sb_wsX12_told_wsX12_told_r2 _ (List.mem_of_getElem? (i := 0) rfl)) (x_mc (sb_wsX12_told_wsX12_told_r2 _ (List.mem_of_getElem? (i := 1) rfl)) (x_mc (sb_wsX12_told_wsX12_told_r2 _ (List.mem_of_getElem? (i := 2) rfl)) (x_mc (sb_wsX12_told_wsX12_told_r1 _ (List.mem_of_getElem? (i := 3) rfl)) x_mn))))))))))))))) (fun _ h => sb_wsX12_told_wsX120 _ h))) (by decide +kernel)
set_option maxRecDepth 20000 in
theorem gX12_told_X12_wrapOf : GoodIn wsX12_told (wsV RX12 233 RX12 yX12_wrapOf wsX12_wrapOf) := goodIn_app (goodIn_of _ (by decide +kernel)) ggX12_told_X12_wrapOf
set_option maxRecDepth 20000 in
theorem ggX12_told_X12_longOf : GoodIn wsX12_told wsX12_longOf := goodIn_sub (x_mc (sb_wsX12_told_wsX12_told_r2 _ (List.mem_of_getElem? (i := 20) rfl)) (x_ina (x_mc (sb_wsX12_told_wsX12_told_r2 _ (List.mem_of_getElem? (i := 21) rfl)) (x_mc (sb_wsX12_told_wsX12_told_r1 _ (List.mem_of_getElem? (i := 1) rfl)) (x_mc (sb_wsX12_told_wsX12_told_r1 _ (List.mem_of_getElem? (i := 2) rfl)) (x_mc (sb_wsX12_told_wsX12_told_r1 _ (List.mem_of_getElem? (i := 0) rfl)) (x_mc (sb_wsX12_told_wsX12_told_r1 _ (List.mem_of_getElem? (i := 23) rfl)) (x_mc (sb_wsX12_told_wsX12_told_r2 _ (List.mem_of_getElem? (i := 0) rfl)) (x_mc (sb_wsX12_told_wsX12_told_r2 _ (List.mem_of_getElem? (i := 1) rfl)) (x_mc (sb_wsX12_told_wsX12_told_r1 _ (List.mem_of_getElem? (i := 9) rfl)) (x_mc (sb_wsX12_told_wsX12_told_r2 _ (List.mem_of_getElem? (i := 2) rfl)) (x_mc (sb_wsX12_told_wsX12_told_r2 _ (List.mem_of_getElem? (i := 3) rfl)) (x_mc (sb_wsX12_told_wsX12_told_r1 _ (List.mem_of_getElem? (i := 3) rfl)) (x_mc (sb_wsX12_told_wsX12_told_r2 _ (List.mem_of_getElem? (i := 4) rfl)) (x_mc (sb_wsX12_told_wsX12_told_r2 _ (List.mem_of_getElem? (i := 5) rfl)) (x_mc (sb_wsX12_told_wsX12_told_r2 _ (List.mem_of_getElem? (i := 6) rfl)) (x_mc (sb_wsX12_told_wsX12_told_r2 _ (List.mem_of_getElem? (i := 7) rfl)) (x_mc (sb_wsX12_told_wsX12_told_r2 _ (List.mem_of_getElem? (i := 8) rfl)) (x_mc (sb_wsX12_told_wsX12_told_r2 _ (List.mem_of_getElem? (i := 9) rfl)) (x_mc (sb_wsX12_told_wsX12_told_r1 _ (List.mem_of_getElem? (i := 4) rfl)) x_mn)))))))))))))))))) (fun _ h => sb_wsX12_told_wsX120 _ h))) (by decide +kernel)
set_option maxRecDepth 20000 in
theorem gX12_told_X12_longOf : GoodIn wsX12_told (wsV RX12 250 RX12 yX12_longOf wsX12_longOf) := goodIn_app (goodIn_of _ (by decide +kernel)) ggX12_told_X12_longOf
set_option maxRecDepth 20000 in
theorem ggX12_told_X12_pullOf : GoodIn wsX12_told wsX12_pullOf := goodIn_sub (x_mc (sb_wsX12_told_wsX12_told_r3 _ (List.mem_of_getElem? (i := 1) rfl)) (x_ina (x_ina (x_mc (sb_wsX12_told_wsX12_told_r1 _ (List.mem_of_getElem? (i := 5) rfl)) (x_mc (sb_wsX12_told_wsX12_told_r1 _ (List.mem_of_getElem? (i := 2) rfl)) (x_mc (sb_wsX12_told_wsX12_told_r3 _ (List.mem_of_getElem? (i := 2) rfl)) (x_mc (sb_wsX12_told_wsX12_told_r3 _ (List.mem_of_getElem? (i := 3) rfl)) (x_mc (sb_wsX12_told_wsX12_told_r3 _ (List.mem_of_getElem? (i := 4) rfl)) (x_mc (sb_wsX12_told_wsX12_told_r3 _ (List.mem_of_getElem? (i := 5) rfl)) (x_mc (sb_wsX12_told_wsX12_told_r3 _ (List.mem_of_getElem? (i := 6) rfl)) (x_mc (sb_wsX12_told_wsX12_told_r1 _ (List.mem_of_getElem? (i := 9) rfl)) (x_mc (sb_wsX12_told_wsX12_told_r3 _ (List.mem_of_getElem? (i := 7) rfl)) (x_mc (sb_wsX12_told_wsX12_told_r1 _ (List.mem_of_getElem? (i := 11) rfl)) (x_mc (sb_wsX12_told_wsX12_told_r1 _ (List.mem_of_getElem? (i := 1) rfl)) (x_mc (sb_wsX12_told_wsX12_told_r3 _ (List.mem_of_getElem? (i := 8) rfl)) (x_mc (sb_wsX12_told_wsX12_told_r3 _ (List.mem_of_getElem? (i := 9) rfl)) (x_mc (sb_wsX12_told_wsX12_told_r3 _ (List.mem_of_getElem? (i := 10) rfl)) (x_mc (sb_wsX12_told_wsX12_told_r3 _ (List.mem_of_getElem? (i := 11) rfl)) (x_mc (sb_wsX12_told_wsX12_told_r3 _ (List.mem_of_getElem? (i := 12) rfl)) (x_mc (sb_wsX12_told_wsX12_told_r3 _ (List.mem_of_getElem? (i := 13) rfl)) (x_mc (sb_wsX12_told_wsX12_told_r3 _ (List.mem_of_getElem? (i := 14) rfl)) (x_mc (sb_wsX12_told_wsX12_told_r3 _ (List.mem_of_getElem? (i := 15) rfl)) (x_mc (sb_wsX12_told_wsX12_told_r3 _ (List.mem_of_getElem? (i := 16) rfl)) (x_mc (sb_wsX12_told_wsX12_told_r3 _ (List.mem_of_getElem? (i := 17) rfl)) (x_mc (sb_wsX12_told_wsX12_told_r3 _ (List.mem_of_getElem? (i := 18) rfl)) (x_mc (sb_wsX12_told_wsX12_told_r3 _ (List.mem_of_getElem? (i := 19) rfl)) (x_mc (sb_wsX12_told_wsX12_told_r3 _ (List.mem_of_getElem? (i := 20) rfl)) x_mn)))))))))))))))))))))))) (x_mc (sb_wsX12_told_wsX12_told_r1 _ (List.mem_of_getElem? (i := 19) rfl)) (x_mc (sb_wsX12_told_wsX12_told_r1 _ (List.mem_of_getElem? (i := 21) rfl)) (x_mc (sb_wsX12_told_wsX12_told_r3 _ (List.mem_of_getElem? (i := 21) rfl)) x_mn)))) (fun _ h => sb_wsX12_told_wsX120 _ h))) (by decide +kernel)
set_option maxRecDepth 20000 in
theorem gX12_told_X12_pullOf : GoodIn wsX12_told (wsV RX12 230 RX12 yX12_pullOf wsX12_pullOf) := goodIn_app (goodIn_of _ (by decide +kernel)) ggX12_told_X12_pullOf
set_option maxRecDepth 20000 in
theorem ggX12_told_X12_slips : GoodIn wsX12_told wsX12_slips := goodIn_sub (x_mc (sb_wsX12_told_wsX12_told_r4 _ (List.mem_of_getElem? (i := 1) rfl)) (x_ina (x_ina (x_mc (sb_wsX12_told_wsX12_told_r4 _ (List.mem_of_getElem? (i := 2) rfl)) (x_mc (sb_wsX12_told_wsX12_told_r2 _ (List.mem_of_getElem? (i := 22) rfl)) (x_mc (sb_wsX12_told_wsX12_told_r2 _ (List.mem_of_getElem? (i := 23) rfl)) (x_mc (sb_wsX12_told_wsX12_told_r3 _ (List.mem_of_getElem? (i := 0) rfl)) (x_mc (sb_wsX12_told_wsX12_told_r1 _ (List.mem_of_getElem? (i := 9) rfl)) (x_mc (sb_wsX12_told_wsX12_told_r3 _ (List.mem_of_getElem? (i := 1) rfl)) (x_mc (sb_wsX12_told_wsX12_told_r1 _ (List.mem_of_getElem? (i := 5) rfl)) (x_mc (sb_wsX12_told_wsX12_told_r1 _ (List.mem_of_getElem? (i := 2) rfl)) (x_mc (sb_wsX12_told_wsX12_told_r3 _ (List.mem_of_getElem? (i := 2) rfl)) (x_mc (sb_wsX12_told_wsX12_told_r3 _ (List.mem_of_getElem? (i := 3) rfl)) (x_mc (sb_wsX12_told_wsX12_told_r3 _ (List.mem_of_getElem? (i := 4) rfl)) (x_mc (sb_wsX12_told_wsX12_told_r3 _ (List.mem_of_getElem? (i := 5) rfl)) (x_mc (sb_wsX12_told_wsX12_told_r3 _ (List.mem_of_getElem? (i := 6) rfl)) (x_mc (sb_wsX12_told_wsX12_told_r3 _ (List.mem_of_getElem? (i := 7) rfl)) (x_mc (sb_wsX12_told_wsX12_told_r1 _ (List.mem_of_getElem? (i := 11) rfl)) (x_mc (sb_wsX12_told_wsX12_told_r1 _ (List.mem_of_getElem? (i := 1) rfl)) (x_mc (sb_wsX12_told_wsX12_told_r3 _ (List.mem_of_getElem? (i := 8) rfl)) (x_mc (sb_wsX12_told_wsX12_told_r3 _ (List.mem_of_getElem? (i := 9) rfl)) (x_mc (sb_wsX12_told_wsX12_told_r3 _ (List.mem_of_getElem? (i := 10) rfl)) (x_mc (sb_wsX12_told_wsX12_told_r3 _ (List.mem_of_getElem? (i := 11) rfl)) (x_mc (sb_wsX12_told_wsX12_told_r3 _ (List.mem_of_getElem? (i := 12) rfl)) (x_mc (sb_wsX12_told_wsX12_told_r3 _ (List.mem_of_getElem? (i := 13) rfl)) (x_mc (sb_wsX12_told_wsX12_told_r3 _ (List.mem_of_getElem? (i := 14) rfl)) (x_mc (sb_wsX12_told_wsX12_told_r3 _ (List.mem_of_getElem? (i := 15) rfl)) x_mn)))))))))))))))))))))))) (x_ina (x_mc (sb_wsX12_told_wsX12_told_r3 _ (List.mem_of_getElem? (i := 16) rfl)) (x_mc (sb_wsX12_told_wsX12_told_r3 _ (List.mem_of_getElem? (i := 17) rfl)) (x_mc (sb_wsX12_told_wsX12_told_r3 _ (List.mem_of_getElem? (i := 18) rfl)) (x_mc (sb_wsX12_told_wsX12_told_r3 _ (List.mem_of_getElem? (i := 19) rfl)) (x_mc (sb_wsX12_told_wsX12_told_r3 _ (List.mem_of_getElem? (i := 20) rfl)) (x_mc (sb_wsX12_told_wsX12_told_r1 _ (List.mem_of_getElem? (i := 19) rfl)) (x_mc (sb_wsX12_told_wsX12_told_r1 _ (List.mem_of_getElem? (i := 21) rfl)) (x_mc (sb_wsX12_told_wsX12_told_r3 _ (List.mem_of_getElem? (i := 21) rfl)) (x_mc (sb_wsX12_told_wsX12_told_r2 _ (List.mem_of_getElem? (i := 13) rfl)) (x_mc (sb_wsX12_told_wsX12_told_r2 _ (List.mem_of_getElem? (i := 14) rfl)) (x_mc (sb_wsX12_told_wsX12_told_r2 _ (List.mem_of_getElem? (i := 15) rfl)) (x_mc (sb_wsX12_told_wsX12_told_r2 _ (List.mem_of_getElem? (i := 16) rfl)) (x_mc (sb_wsX12_told_wsX12_told_r1 _ (List.mem_of_getElem? (i := 0) rfl)) (x_mc (sb_wsX12_told_wsX12_told_r2 _ (List.mem_of_getElem? (i := 4) rfl)) (x_mc (sb_wsX12_told_wsX12_told_r2 _ (List.mem_of_getElem? (i := 5) rfl)) (x_mc (sb_wsX12_told_wsX12_told_r2 _ (List.mem_of_getElem? (i := 6) rfl)) (x_mc (sb_wsX12_told_wsX12_told_r2 _ (List.mem_of_getElem? (i := 7) rfl)) (x_mc (sb_wsX12_told_wsX12_told_r2 _ (List.mem_of_getElem? (i := 8) rfl)) (x_mc (sb_wsX12_told_wsX12_told_r2 _ (List.mem_of_getElem? (i := 9) rfl)) (x_mc (sb_wsX12_told_wsX12_told_r2 _ (List.mem_of_getElem? (i := 3) rfl)) (x_mc (sb_wsX12_told_wsX12_told_r1 _ (List.mem_of_getElem? (i := 4) rfl)) (x_mc (sb_wsX12_told_wsX12_told_r1 _ (List.mem_of_getElem? (i := 23) rfl)) (x_mc (sb_wsX12_told_wsX12_told_r2 _ (List.mem_of_getElem? (i := 0) rfl)) (x_mc (sb_wsX12_told_wsX12_told_r2 _ (List.mem_of_getElem? (i := 1) rfl)) x_mn)))))))))))))))))))))))) (x_mc (sb_wsX12_told_wsX12_told_r2 _ (List.mem_of_getElem? (i := 2) rfl)) (x_mc (sb_wsX12_told_wsX12_told_r1 _ (List.mem_of_getElem? (i := 3) rfl)) x_mn)))) (fun _ h => sb_wsX12_told_wsX120 _ h))) (by decide +kernel)
set_option maxRecDepth 20000 in
theorem gX12_told_X12_slips : GoodIn wsX12_told (wsV RX12 253 RX12 yX12_slips wsX12_slips) := goodIn_app (goodIn_of _ (by decide +kernel)) ggX12_told_X12_slips
set_option maxRecDepth 20000 in
theorem ggX12_told_X12_wearOf : GoodIn wsX12_told wsX12_wearOf := goodIn_sub (x_mc (sb_wsX12_told_wsX12_told_r4 _ (List.mem_of_getElem? (i := 6) rfl)) (x_ina (x_ina (x_mc (sb_wsX12_told_wsX12_told_r1 _ (List.mem_of_getElem? (i := 5) rfl)) (x_mc (sb_wsX12_told_wsX12_told_r1 _ (List.mem_of_getElem? (i := 2) rfl)) (x_mc (sb_wsX12_told_wsX12_told_r3 _ (List.mem_of_getElem? (i := 2) rfl)) (x_mc (sb_wsX12_told_wsX12_told_r3 _ (List.mem_of_getElem? (i := 12) rfl)) (x_mc (sb_wsX12_told_wsX12_told_r3 _ (List.mem_of_getElem? (i := 3) rfl)) (x_mc (sb_wsX12_told_wsX12_told_r4 _ (List.mem_of_getElem? (i := 7) rfl)) (x_mc (sb_wsX12_told_wsX12_told_r4 _ (List.mem_of_getElem? (i := 8) rfl)) (x_mc (sb_wsX12_told_wsX12_told_r1 _ (List.mem_of_getElem? (i := 0) rfl)) (x_mc (sb_wsX12_told_wsX12_told_r1 _ (List.mem_of_getElem? (i := 1) rfl)) (x_mc (sb_wsX12_told_wsX12_told_r3 _ (List.mem_of_getElem? (i := 4) rfl)) (x_mc (sb_wsX12_told_wsX12_told_r3 _ (List.mem_of_getElem? (i := 5) rfl)) (x_mc (sb_wsX12_told_wsX12_told_r3 _ (List.mem_of_getElem? (i := 6) rfl)) (x_mc (sb_wsX12_told_wsX12_told_r1 _ (List.mem_of_getElem? (i := 9) rfl)) (x_mc (sb_wsX12_told_wsX12_told_r3 _ (List.mem_of_getElem? (i := 7) rfl)) (x_mc (sb_wsX12_told_wsX12_told_r1 _ (List.mem_of_getElem? (i := 11) rfl)) (x_mc (sb_wsX12_told_wsX12_told_r3 _ (List.mem_of_getElem? (i := 17) rfl)) (x_mc (sb_wsX12_told_wsX12_told_r3 _ (List.mem_of_getElem? (i := 18) rfl)) (x_mc (sb_wsX12_told_wsX12_told_r3 _ (List.mem_of_getElem? (i := 19) rfl)) (x_mc (sb_wsX12_told_wsX12_told_r3 _ (List.mem_of_getElem? (i := 20) rfl)) (x_mc (sb_wsX12_told_wsX12_told_r1 _ (List.mem_of_getElem? (i := 19) rfl)) (x_mc (sb_wsX12_told_wsX12_told_r1 _ (List.mem_of_getElem? (i := 21) rfl)) (x_mc (sb_wsX12_told_wsX12_told_r3 _ (List.mem_of_getElem? (i := 21) rfl)) (x_mc (sb_wsX12_told_wsX12_told_r2 _ (List.mem_of_getElem? (i := 13) rfl)) (x_mc (sb_wsX12_told_wsX12_told_r2 _ (List.mem_of_getElem? (i := 14) rfl)) x_mn)))))))))))))))))))))))) (x_ina (x_mc (sb_wsX12_told_wsX12_told_r2 _ (List.mem_of_getElem? (i := 15) rfl)) (x_mc (sb_wsX12_told_wsX12_told_r2 _ (List.mem_of_getElem? (i := 16) rfl)) (x_mc (sb_wsX12_told_wsX12_told_r2 _ (List.mem_of_getElem? (i := 4) rfl)) (x_mc (sb_wsX12_told_wsX12_told_r2 _ (List.mem_of_getElem? (i := 5) rfl)) (x_mc (sb_wsX12_told_wsX12_told_r2 _ (List.mem_of_getElem? (i := 6) rfl)) (x_mc (sb_wsX12_told_wsX12_told_r2 _ (List.mem_of_getElem? (i := 7) rfl)) (x_mc (sb_wsX12_told_wsX12_told_r2 _ (List.mem_of_getElem? (i := 8) rfl)) (x_mc (sb_wsX12_told_wsX12_told_r2 _ (List.mem_of_getElem? (i := 9) rfl)) (x_mc (sb_wsX12_told_wsX12_told_r2 _ (List.mem_of_getElem? (i := 3) rfl)) (x_mc (sb_wsX12_told_wsX12_told_r1 _ (List.mem_of_getElem? (i := 4) rfl)) (x_mc (sb_wsX12_told_wsX12_told_r1 _ (List.mem_of_getElem? (i := 23) rfl)) (x_mc (sb_wsX12_told_wsX12_told_r2 _ (List.mem_of_getElem? (i := 0) rfl)) (x_mc (sb_wsX12_told_wsX12_told_r2 _ (List.mem_of_getElem? (i := 1) rfl)) (x_mc (sb_wsX12_told_wsX12_told_r2 _ (List.mem_of_getElem? (i := 2) rfl)) (x_mc (sb_wsX12_told_wsX12_told_r1 _ (List.mem_of_getElem? (i := 3) rfl)) (x_mc (sb_wsX12_told_wsX12_told_r2 _ (List.mem_of_getElem? (i := 22) rfl)) (x_mc (sb_wsX12_told_wsX12_told_r2 _ (List.mem_of_getElem? (i := 23) rfl)) (x_mc (sb_wsX12_told_wsX12_told_r3 _ (List.mem_of_getElem? (i := 0) rfl)) (x_mc (sb_wsX12_told_wsX12_told_r3 _ (List.mem_of_getElem? (i := 1) rfl)) (x_mc (sb_wsX12_told_wsX12_told_r3 _ (List.mem_of_getElem? (i := 8) rfl)) (x_mc (sb_wsX12_told_wsX12_told_r3 _ (List.mem_of_getElem? (i := 9) rfl)) (x_mc (sb_wsX12_told_wsX12_told_r3 _ (List.mem_of_getElem? (i := 10) rfl)) (x_mc (sb_wsX12_told_wsX12_told_r3 _ (List.mem_of_getElem? (i := 11) rfl)) (x_mc (sb_wsX12_told_wsX12_told_r3 _ (List.mem_of_getElem? (i := 13) rfl)) x_mn)))))))))))))))))))))))) (x_ina (x_mc (sb_wsX12_told_wsX12_told_r3 _ (List.mem_of_getElem? (i := 14) rfl)) (x_mc (sb_wsX12_told_wsX12_told_r3 _ (List.mem_of_getElem? (i := 15) rfl)) (x_mc (sb_wsX12_told_wsX12_told_r3 _ (List.mem_of_getElem? (i := 16) rfl)) (x_mc (sb_wsX12_told_wsX12_told_r4 _ (List.mem_of_getElem? (i := 9) rfl)) (x_mc (sb_wsX12_told_wsX12_told_r4 _ (List.mem_of_getElem? (i := 10) rfl)) (x_mc (sb_wsX12_told_wsX12_told_r4 _ (List.mem_of_getElem? (i := 11) rfl)) (x_mc (sb_wsX12_told_wsX12_told_r4 _ (List.mem_of_getElem? (i := 12) rfl)) (x_mc (sb_wsX12_told_wsX12_told_r4 _ (List.mem_of_getElem? (i := 13) rfl)) (x_mc (sb_wsX12_told_wsX12_told_r4 _ (List.mem_of_getElem? (i := 14) rfl)) (x_mc (sb_wsX12_told_wsX12_told_r4 _ (List.mem_of_getElem? (i := 15) rfl)) (x_mc (sb_wsX12_told_wsX12_told_r4 _ (List.mem_of_getElem? (i := 16) rfl)) (x_mc (sb_wsX12_told_wsX12_told_r4 _ (List.mem_of_getElem? (i := 17) rfl)) (x_mc (sb_wsX12_told_wsX12_told_r4 _ (List.mem_of_getElem? (i := 18) rfl)) (x_mc (sb_wsX12_told_wsX12_told_r4 _ (List.mem_of_getElem? (i := 19) rfl)) (x_mc (sb_wsX12_told_wsX12_told_r4 _ (List.mem_of_getElem? (i := 20) rfl)) (x_mc (sb_wsX12_told_wsX12_told_r4 _ (List.mem_of_getElem? (i := 21) rfl)) (x_mc (sb_wsX12_told_wsX12_told_r4 _ (List.mem_of_getElem? (i := 22) rfl)) (x_mc (sb_wsX12_told_wsX12_told_r4 _ (List.mem_of_getElem? (i := 23) rfl)) (x_mc (sb_wsX12_told_wsX12_told_r5 _ (List.mem_of_getElem? (i := 0) rfl)) (x_mc (sb_wsX12_told_wsX12_told_r5 _ (List.mem_of_getElem? (i := 1) rfl)) (x_mc (sb_wsX12_told_wsX12_told_r5 _ (List.mem_of_getElem? (i := 2) rfl)) (x_mc (sb_wsX12_told_wsX12_told_r5 _ (List.mem_of_getElem? (i := 3) rfl)) (x_mc (sb_wsX12_told_wsX12_told_r5 _ (List.mem_of_getElem? (i := 4) rfl)) (x_mc (sb_wsX12_told_wsX12_told_r5 _ (List.mem_of_getElem? (i := 5) rfl)) x_mn)))))))))))))))))))))))) (x_ina (x_mc (sb_wsX12_told_wsX12_told_r5 _ (List.mem_of_getElem? (i := 6) rfl)) (x_mc (sb_wsX12_told_wsX12_told_r5 _ (List.mem_of_getElem? (i := 7) rfl)) (x_mc (sb_wsX12_told_wsX12_told_r5 _ (List.mem_of_getElem? (i := 8) rfl)) (x_mc (sb_wsX12_told_wsX12_told_r5 _ (List.mem_of_getElem? (i := 9) rfl)) (x_mc (sb_wsX12_told_wsX12_told_r5 _ (List.mem_of_getElem? (i := 10) rfl)) (x_mc (sb_wsX12_told_wsX12_told_r5 _ (List.mem_of_getElem? (i := 11) rfl)) (x_mc (sb_wsX12_told_wsX12_told_r5 _ (List.mem_of_getElem? (i := 12) rfl)) (x_mc (sb_wsX12_told_wsX12_told_r5 _ (List.mem_of_getElem? (i := 13) rfl)) (x_mc (sb_wsX12_told_wsX12_told_r5 _ (List.mem_of_getElem? (i := 14) rfl)) (x_mc (sb_wsX12_told_wsX12_told_r5 _ (List.mem_of_getElem? (i := 15) rfl)) (x_mc (sb_wsX12_told_wsX12_told_r5 _ (List.mem_of_getElem? (i := 16) rfl)) (x_mc (sb_wsX12_told_wsX12_told_r5 _ (List.mem_of_getElem? (i := 17) rfl)) (x_mc (sb_wsX12_told_wsX12_told_r5 _ (List.mem_of_getElem? (i := 18) rfl)) (x_mc (sb_wsX12_told_wsX12_told_r5 _ (List.mem_of_getElem? (i := 19) rfl)) (x_mc (sb_wsX12_told_wsX12_told_r5 _ (List.mem_of_getElem? (i := 20) rfl)) (x_mc (sb_wsX12_told_wsX12_told_r5 _ (List.mem_of_getElem? (i := 21) rfl)) (x_mc (sb_wsX12_told_wsX12_told_r5 _ (List.mem_of_getElem? (i := 22) rfl)) (x_mc (sb_wsX12_told_wsX12_told_r5 _ (List.mem_of_getElem? (i := 23) rfl)) (x_mc (sb_wsX12_told_wsX12_told_r1 _ (List.mem_of_getElem? (i := 12) rfl)) (x_mc (sb_wsX12_told_wsX12_told_r1 _ (List.mem_of_getElem? (i := 13) rfl)) (x_mc (sb_wsX12_told_wsX12_told_r1 _ (List.mem_of_getElem? (i := 14) rfl)) (x_mc (sb_wsX12_told_wsX12_told_r6 _ (List.mem_of_getElem? (i := 0) rfl)) (x_mc (sb_wsX12_told_wsX12_told_r6 _ (List.mem_of_getElem? (i := 1) rfl)) (x_mc (sb_wsX12_told_wsX12_told_r6 _ (List.mem_of_getElem? (i := 2) rfl)) x_mn)))))))))))))))))))))))) (x_ina (x_mc (sb_wsX12_told_wsX12_told_r6 _ (List.mem_of_getElem? (i := 3) rfl)) (x_mc (sb_wsX12_told_wsX12_told_r6 _ (List.mem_of_getElem? (i := 4) rfl)) (x_mc (sb_wsX12_told_wsX12_told_r6 _ (List.mem_of_getElem? (i := 5) rfl)) (x_mc (sb_wsX12_told_wsX12_told_r6 _ (List.mem_of_getElem? (i := 6) rfl)) (x_mc (sb_wsX12_told_wsX12_told_r6 _ (List.mem_of_getElem? (i := 7) rfl)) (x_mc (sb_wsX12_told_wsX12_told_r6 _ (List.mem_of_getElem? (i := 8) rfl)) (x_mc (sb_wsX12_told_wsX12_told_r6 _ (List.mem_of_getElem? (i := 9) rfl)) (x_mc (sb_wsX12_told_wsX12_told_r6 _ (List.mem_of_getElem? (i := 10) rfl)) (x_mc (sb_wsX12_told_wsX12_told_r6 _ (List.mem_of_getElem? (i := 11) rfl)) (x_mc (sb_wsX12_told_wsX12_told_r6 _ (List.mem_of_getElem? (i := 12) rfl)) (x_mc (sb_wsX12_told_wsX12_told_r6 _ (List.mem_of_getElem? (i := 13) rfl)) (x_mc (sb_wsX12_told_wsX12_told_r6 _ (List.mem_of_getElem? (i := 14) rfl)) (x_mc (sb_wsX12_told_wsX12_told_r6 _ (List.mem_of_getElem? (i := 15) rfl)) (x_mc (sb_wsX12_told_wsX12_told_r6 _ (List.mem_of_getElem? (i := 16) rfl)) (x_mc (sb_wsX12_told_wsX12_told_r6 _ (List.mem_of_getElem? (i := 17) rfl)) (x_mc (sb_wsX12_told_wsX12_told_r6 _ (List.mem_of_getElem? (i := 18) rfl)) (x_mc (sb_wsX12_told_wsX12_told_r6 _ (List.mem_of_getElem? (i := 19) rfl)) (x_mc (sb_wsX12_told_wsX12_told_r6 _ (List.mem_of_getElem? (i := 20) rfl)) (x_mc (sb_wsX12_told_wsX12_told_r6 _ (List.mem_of_getElem? (i := 21) rfl)) (x_mc (sb_wsX12_told_wsX12_told_r6 _ (List.mem_of_getElem? (i := 22) rfl)) (x_mc (sb_wsX12_told_wsX12_told_r6 _ (List.mem_of_getElem? (i := 23) rfl)) (x_mc (sb_wsX12_told_wsX12_told_r7 _ (List.mem_of_getElem? (i := 0) rfl)) (x_mc (sb_wsX12_told_wsX12_told_r7 _ (List.mem_of_getElem? (i := 1) rfl)) (x_mc (sb_wsX12_told_wsX12_told_r7 _ (List.mem_of_getElem? (i := 2) rfl)) x_mn)))))))))))))))))))))))) (x_ina (x_mc (sb_wsX12_told_wsX12_told_r7 _ (List.mem_of_getElem? (i := 3) rfl)) (x_mc (sb_wsX12_told_wsX12_told_r7 _ (List.mem_of_getElem? (i := 4) rfl)) (x_mc (sb_wsX12_told_wsX12_told_r7 _ (List.mem_of_getElem? (i := 5) rfl)) (x_mc (sb_wsX12_told_wsX12_told_r7 _ (List.mem_of_getElem? (i := 6) rfl)) (x_mc (sb_wsX12_told_wsX12_told_r7 _ (List.mem_of_getElem? (i := 7) rfl)) (x_mc (sb_wsX12_told_wsX12_told_r7 _ (List.mem_of_getElem? (i := 8) rfl)) (x_mc (sb_wsX12_told_wsX12_told_r7 _ (List.mem_of_getElem? (i := 9) rfl)) (x_mc (sb_wsX12_told_wsX12_told_r7 _ (List.mem_of_getElem? (i := 10) rfl)) (x_mc (sb_wsX12_told_wsX12_told_r7 _ (List.mem_of_getElem? (i := 11) rfl)) (x_mc (sb_wsX12_told_wsX12_told_r7 _ (List.mem_of_getElem? (i := 12) rfl)) (x_mc (sb_wsX12_told_wsX12_told_r7 _ (List.mem_of_getElem? (i := 13) rfl)) (x_mc (sb_wsX12_told_wsX12_told_r7 _ (List.mem_of_getElem? (i := 14) rfl)) (x_mc (sb_wsX12_told_wsX12_told_r7 _ (List.mem_of_getElem? (i := 15) rfl)) (x_mc (sb_wsX12_told_wsX12_told_r7 _ (List.mem_of_getElem? (i := 16) rfl)) (x_mc (sb_wsX12_told_wsX12_told_r7 _ (List.mem_of_getElem? (i := 17) rfl)) (x_mc (sb_wsX12_told_wsX12_told_r7 _ (List.mem_of_getElem? (i := 18) rfl)) (x_mc (sb_wsX12_told_wsX12_told_r7 _ (List.mem_of_getElem? (i := 19) rfl)) (x_mc (sb_wsX12_told_wsX12_told_r7 _ (List.mem_of_getElem? (i := 20) rfl)) (x_mc (sb_wsX12_told_wsX12_told_r7 _ (List.mem_of_getElem? (i := 21) rfl)) (x_mc (sb_wsX12_told_wsX12_told_r7 _ (List.mem_of_getElem? (i := 22) rfl)) (x_mc (sb_wsX12_told_wsX12_told_r7 _ (List.mem_of_getElem? (i := 23) rfl)) (x_mc (sb_wsX12_told_wsX12_told_r8 _ (List.mem_of_getElem? (i := 0) rfl)) (x_mc (sb_wsX12_told_wsX12_told_r8 _ (List.mem_of_getElem? (i := 1) rfl)) (x_mc (sb_wsX12_told_wsX12_told_r8 _ (List.mem_of_getElem? (i := 2) rfl)) x_mn)))))))))))))))))))))))) (x_mc (sb_wsX12_told_wsX12_told_r8 _ (List.mem_of_getElem? (i := 3) rfl)) (x_mc (sb_wsX12_told_wsX12_told_r8 _ (List.mem_of_getElem? (i := 4) rfl)) (x_mc (sb_wsX12_told_wsX12_told_r8 _ (List.mem_of_getElem? (i := 5) rfl)) (x_mc (sb_wsX12_told_wsX12_told_r8 _ (List.mem_of_getElem? (i := 6) rfl)) (x_mc (sb_wsX12_told_wsX12_told_r8 _ (List.mem_of_getElem? (i := 7) rfl)) (x_mc (sb_wsX12_told_wsX12_told_r8 _ (List.mem_of_getElem? (i := 8) rfl)) (x_mc (sb_wsX12_told_wsX12_told_r8 _ (List.mem_of_getElem? (i := 9) rfl)) (x_mc (sb_wsX12_told_wsX12_told_r8 _ (List.mem_of_getElem? (i := 10) rfl)) (x_mc (sb_wsX12_told_wsX12_told_r8 _ (List.mem_of_getElem? (i := 11) rfl)) (x_mc (sb_wsX12_told_wsX12_told_r8 _ (List.mem_of_getElem? (i := 12) rfl)) (x_mc (sb_wsX12_told_wsX12_told_r8 _ (List.mem_of_getElem? (i := 13) rfl)) (x_mc (sb_wsX12_told_wsX12_told_r8 _ (List.mem_of_getElem? (i := 14) rfl)) x_mn)))))))))))))))))) (fun _ h => sb_wsX12_told_wsX120 _ h))) (by decide +kernel)
set_option maxRecDepth 20000 in
theorem gX12_told_X12_wearOf : GoodIn wsX12_told (wsV RX12 256 RX12 yX12_wearOf wsX12_wearOf) := goodIn_app (goodIn_of _ (by decide +kernel)) ggX12_told_X12_wearOf
theorem dX12_told_0 : decode cX12_told 0 = .ok (.aload_n 0, 1) := by decide +kernel
theorem dX12_told_1 : decode cX12_told 1 = .ok (.iload_n 1, 1) := by decide +kernel
theorem dX12_told_2 : decode cX12_told 2 = .ok (.invokevirtual 197, 3) := by decide +kernel
theorem dX12_told_5 : decode cX12_told 5 = .ok (.ifCond .ne 6, 3) := by decide +kernel
theorem dX12_told_8 : decode cX12_told 8 = .ok (.bipush (-5), 2) := by decide +kernel
theorem dX12_told_10 : decode cX12_told 10 = .ok (.ireturn, 1) := by decide +kernel
theorem dX12_told_11 : decode cX12_told 11 = .ok (.aload_n 0, 1) := by decide +kernel
theorem dX12_told_12 : decode cX12_told 12 = .ok (.invokevirtual 247, 3) := by decide +kernel
theorem dX12_told_15 : decode cX12_told 15 = .ok (.iload_n 2, 1) := by decide +kernel
theorem dX12_told_16 : decode cX12_told 16 = .ok (.tableswitch 160 0 11 #[64, 71, 78, 85, 92, 99, 106, 122, 128, 134, 140, 154], 64) := by decide +kernel
theorem dX12_told_80 : decode cX12_told 80 = .ok (.aload_n 0, 1) := by decide +kernel
theorem dX12_told_81 : decode cX12_told 81 = .ok (.getfield 50, 3) := by decide +kernel
theorem dX12_told_84 : decode cX12_told 84 = .ok (.iload_n 1, 1) := by decide +kernel
theorem dX12_told_85 : decode cX12_told 85 = .ok (.iaload, 1) := by decide +kernel
theorem dX12_told_86 : decode cX12_told 86 = .ok (.ireturn, 1) := by decide +kernel
theorem dX12_told_87 : decode cX12_told 87 = .ok (.aload_n 0, 1) := by decide +kernel
theorem dX12_told_88 : decode cX12_told 88 = .ok (.getfield 53, 3) := by decide +kernel
theorem dX12_told_91 : decode cX12_told 91 = .ok (.iload_n 1, 1) := by decide +kernel
theorem dX12_told_92 : decode cX12_told 92 = .ok (.iaload, 1) := by decide +kernel
theorem dX12_told_93 : decode cX12_told 93 = .ok (.ireturn, 1) := by decide +kernel
theorem dX12_told_94 : decode cX12_told 94 = .ok (.aload_n 0, 1) := by decide +kernel
theorem dX12_told_95 : decode cX12_told 95 = .ok (.getfield 56, 3) := by decide +kernel
theorem dX12_told_98 : decode cX12_told 98 = .ok (.iload_n 1, 1) := by decide +kernel
theorem dX12_told_99 : decode cX12_told 99 = .ok (.iaload, 1) := by decide +kernel
theorem dX12_told_100 : decode cX12_told 100 = .ok (.ireturn, 1) := by decide +kernel
theorem dX12_told_101 : decode cX12_told 101 = .ok (.aload_n 0, 1) := by decide +kernel
theorem dX12_told_102 : decode cX12_told 102 = .ok (.getfield 59, 3) := by decide +kernel
theorem dX12_told_105 : decode cX12_told 105 = .ok (.iload_n 1, 1) := by decide +kernel
theorem dX12_told_106 : decode cX12_told 106 = .ok (.iaload, 1) := by decide +kernel
theorem dX12_told_107 : decode cX12_told 107 = .ok (.ireturn, 1) := by decide +kernel
theorem dX12_told_108 : decode cX12_told 108 = .ok (.aload_n 0, 1) := by decide +kernel
theorem dX12_told_109 : decode cX12_told 109 = .ok (.getfield 62, 3) := by decide +kernel
theorem dX12_told_112 : decode cX12_told 112 = .ok (.iload_n 1, 1) := by decide +kernel
theorem dX12_told_113 : decode cX12_told 113 = .ok (.iaload, 1) := by decide +kernel
theorem dX12_told_114 : decode cX12_told 114 = .ok (.ireturn, 1) := by decide +kernel
theorem dX12_told_115 : decode cX12_told 115 = .ok (.aload_n 0, 1) := by decide +kernel
theorem dX12_told_116 : decode cX12_told 116 = .ok (.getfield 68, 3) := by decide +kernel
theorem dX12_told_119 : decode cX12_told 119 = .ok (.iload_n 1, 1) := by decide +kernel
theorem dX12_told_120 : decode cX12_told 120 = .ok (.iaload, 1) := by decide +kernel
theorem dX12_told_121 : decode cX12_told 121 = .ok (.ireturn, 1) := by decide +kernel
theorem dX12_told_122 : decode cX12_told 122 = .ok (.aload_n 0, 1) := by decide +kernel
theorem dX12_told_123 : decode cX12_told 123 = .ok (.getfield 50, 3) := by decide +kernel
theorem dX12_told_126 : decode cX12_told 126 = .ok (.iload_n 1, 1) := by decide +kernel
theorem dX12_told_127 : decode cX12_told 127 = .ok (.iaload, 1) := by decide +kernel
theorem dX12_told_128 : decode cX12_told 128 = .ok (.iconst 1, 1) := by decide +kernel
theorem dX12_told_129 : decode cX12_told 129 = .ok (.if_icmp .ne 7, 3) := by decide +kernel
theorem dX12_told_132 : decode cX12_told 132 = .ok (.iconst (-1), 1) := by decide +kernel
theorem dX12_told_133 : decode cX12_told 133 = .ok (.goto 4, 3) := by decide +kernel
theorem dX12_told_136 : decode cX12_told 136 = .ok (.iconst 1, 1) := by decide +kernel
theorem dX12_told_137 : decode cX12_told 137 = .ok (.ireturn, 1) := by decide +kernel
theorem dX12_told_138 : decode cX12_told 138 = .ok (.aload_n 0, 1) := by decide +kernel
theorem dX12_told_139 : decode cX12_told 139 = .ok (.iload_n 1, 1) := by decide +kernel
theorem dX12_told_140 : decode cX12_told 140 = .ok (.invokevirtual 233, 3) := by decide +kernel
theorem dX12_told_143 : decode cX12_told 143 = .ok (.ireturn, 1) := by decide +kernel
theorem dX12_told_144 : decode cX12_told 144 = .ok (.aload_n 0, 1) := by decide +kernel
theorem dX12_told_145 : decode cX12_told 145 = .ok (.iload_n 1, 1) := by decide +kernel
theorem dX12_told_146 : decode cX12_told 146 = .ok (.invokevirtual 250, 3) := by decide +kernel
theorem dX12_told_149 : decode cX12_told 149 = .ok (.ireturn, 1) := by decide +kernel
theorem dX12_told_150 : decode cX12_told 150 = .ok (.aload_n 0, 1) := by decide +kernel
theorem dX12_told_151 : decode cX12_told 151 = .ok (.iload_n 1, 1) := by decide +kernel
theorem dX12_told_152 : decode cX12_told 152 = .ok (.invokevirtual 230, 3) := by decide +kernel
theorem dX12_told_155 : decode cX12_told 155 = .ok (.ireturn, 1) := by decide +kernel
theorem dX12_told_156 : decode cX12_told 156 = .ok (.aload_n 0, 1) := by decide +kernel
theorem dX12_told_157 : decode cX12_told 157 = .ok (.iload_n 1, 1) := by decide +kernel
theorem dX12_told_158 : decode cX12_told 158 = .ok (.invokevirtual 253, 3) := by decide +kernel
theorem dX12_told_161 : decode cX12_told 161 = .ok (.ifCond .eq 7, 3) := by decide +kernel
theorem dX12_told_164 : decode cX12_told 164 = .ok (.iconst 1, 1) := by decide +kernel
theorem dX12_told_165 : decode cX12_told 165 = .ok (.goto 4, 3) := by decide +kernel
theorem dX12_told_168 : decode cX12_told 168 = .ok (.iconst 0, 1) := by decide +kernel
theorem dX12_told_169 : decode cX12_told 169 = .ok (.ireturn, 1) := by decide +kernel
theorem dX12_told_170 : decode cX12_told 170 = .ok (.aload_n 0, 1) := by decide +kernel
theorem dX12_told_171 : decode cX12_told 171 = .ok (.iload_n 1, 1) := by decide +kernel
theorem dX12_told_172 : decode cX12_told 172 = .ok (.invokevirtual 256, 3) := by decide +kernel
theorem dX12_told_175 : decode cX12_told 175 = .ok (.ireturn, 1) := by decide +kernel
theorem dX12_told_176 : decode cX12_told 176 = .ok (.bipush (-5), 2) := by decide +kernel
theorem dX12_told_178 : decode cX12_told 178 = .ok (.ireturn, 1) := by decide +kernel
theorem sb_wsX12_turns_wsX12_turns_r1 : ∀ w ∈ wsX12_turns_r1, w ∈ wsX12_turns := fun _ h => (List.mem_cons_of_mem _ (List.mem_append_left _ (List.mem_append_left _ h)))
theorem sb_wsX12_turns_wsX12_turns_r2 : ∀ w ∈ wsX12_turns_r2, w ∈ wsX12_turns := fun _ h => (List.mem_cons_of_mem _ (List.mem_append_left _ (List.mem_append_right _ (List.mem_append_left _ h))))
theorem sb_wsX12_turns_wsX12_turns_r3 : ∀ w ∈ wsX12_turns_r3, w ∈ wsX12_turns := fun _ h => (List.mem_cons_of_mem _ (List.mem_append_left _ (List.mem_append_right _ (List.mem_append_right _ h))))
theorem sb_wsX12_turns_wsX120 : ∀ w ∈ wsX120, w ∈ wsX12_turns := fun _ h => (List.mem_cons_of_mem _ (List.mem_append_right _ h))
set_option maxRecDepth 20000 in
theorem ggX12_turns_X12_isShaft : GoodIn wsX12_turns wsX12_isShaft := goodIn_sub (x_mc (sb_wsX12_turns_wsX12_turns_r1 _ (List.mem_of_getElem? (i := 10) rfl)) (x_ina (x_mc (sb_wsX12_turns_wsX12_turns_r1 _ (List.mem_of_getElem? (i := 11) rfl)) (x_mc (sb_wsX12_turns_wsX12_turns_r1 _ (List.mem_of_getElem? (i := 12) rfl)) (x_mc (sb_wsX12_turns_wsX12_turns_r1 _ (List.mem_of_getElem? (i := 13) rfl)) (x_mc (sb_wsX12_turns_wsX12_turns_r1 _ (List.mem_of_getElem? (i := 9) rfl)) (x_mc (sb_wsX12_turns_wsX12_turns_r1 _ (List.mem_of_getElem? (i := 14) rfl)) x_mn))))) (fun _ h => sb_wsX12_turns_wsX120 _ h))) (by decide +kernel)
set_option maxRecDepth 20000 in
theorem gX12_turns_X12_isShaft : GoodIn wsX12_turns (wsV RX12 175 RX12 yX12_isShaft wsX12_isShaft) := goodIn_app (goodIn_of _ (by decide +kernel)) ggX12_turns_X12_isShaft
set_option maxRecDepth 20000 in
theorem ggX12_turns_X12_in : GoodIn wsX12_turns wsX12_in := goodIn_sub (x_mc (sb_wsX12_turns_wsX12_turns_r1 _ (List.mem_of_getElem? (i := 14) rfl)) x_mn) (by decide +kernel)
set_option maxRecDepth 20000 in
theorem gX12_turns_X12_in : GoodIn wsX12_turns (va_wsS RX12 156 yX12_in wsX12_in) := goodIn_app (goodIn_of _ (by decide +kernel)) ggX12_turns_X12_in
set_option maxRecDepth 20000 in
theorem ggX12_turns_X12_lays : GoodIn wsX12_turns wsX12_lays := goodIn_sub (x_mc (sb_wsX12_turns_wsX12_turns_r1 _ (List.mem_of_getElem? (i := 18) rfl)) (x_ina (x_ina (x_mc (sb_wsX12_turns_wsX12_turns_r1 _ (List.mem_of_getElem? (i := 2) rfl)) (x_mc (sb_wsX12_turns_wsX12_turns_r1 _ (List.mem_of_getElem? (i := 19) rfl)) (x_mc (sb_wsX12_turns_wsX12_turns_r1 _ (List.mem_of_getElem? (i := 3) rfl)) (x_mc (sb_wsX12_turns_wsX12_turns_r1 _ (List.mem_of_getElem? (i := 4) rfl)) (x_mc (sb_wsX12_turns_wsX12_turns_r1 _ (List.mem_of_getElem? (i := 20) rfl)) (x_mc (sb_wsX12_turns_wsX12_turns_r1 _ (List.mem_of_getElem? (i := 21) rfl)) (x_mc (sb_wsX12_turns_wsX12_turns_r1 _ (List.mem_of_getElem? (i := 22) rfl)) (x_mc (sb_wsX12_turns_wsX12_turns_r1 _ (List.mem_of_getElem? (i := 23) rfl)) (x_mc (sb_wsX12_turns_wsX12_turns_r2 _ (List.mem_of_getElem? (i := 0) rfl)) (x_mc (sb_wsX12_turns_wsX12_turns_r2 _ (List.mem_of_getElem? (i := 1) rfl)) (x_mc (sb_wsX12_turns_wsX12_turns_r2 _ (List.mem_of_getElem? (i := 2) rfl)) (x_mc (sb_wsX12_turns_wsX12_turns_r2 _ (List.mem_of_getElem? (i := 3) rfl)) (x_mc (sb_wsX12_turns_wsX12_turns_r1 _ (List.mem_of_getElem? (i := 9) rfl)) (x_mc (sb_wsX12_turns_wsX12_turns_r2 _ (List.mem_of_getElem? (i := 4) rfl)) (x_mc (sb_wsX12_turns_wsX12_turns_r2 _ (List.mem_of_getElem? (i := 5) rfl)) (x_mc (sb_wsX12_turns_wsX12_turns_r2 _ (List.mem_of_getElem? (i := 6) rfl)) (x_mc (sb_wsX12_turns_wsX12_turns_r2 _ (List.mem_of_getElem? (i := 7) rfl)) (x_mc (sb_wsX12_turns_wsX12_turns_r2 _ (List.mem_of_getElem? (i := 8) rfl)) (x_mc (sb_wsX12_turns_wsX12_turns_r2 _ (List.mem_of_getElem? (i := 9) rfl)) (x_mc (sb_wsX12_turns_wsX12_turns_r2 _ (List.mem_of_getElem? (i := 10) rfl)) (x_mc (sb_wsX12_turns_wsX12_turns_r2 _ (List.mem_of_getElem? (i := 11) rfl)) (x_mc (sb_wsX12_turns_wsX12_turns_r2 _ (List.mem_of_getElem? (i := 12) rfl)) (x_mc (sb_wsX12_turns_wsX12_turns_r2 _ (List.mem_of_getElem? (i := 13) rfl)) (x_mc (sb_wsX12_turns_wsX12_turns_r2 _ (List.mem_of_getElem? (i := 14) rfl)) x_mn)))))))))))))))))))))))) (x_mc (sb_wsX12_turns_wsX12_turns_r2 _ (List.mem_of_getElem? (i := 15) rfl)) (x_mc (sb_wsX12_turns_wsX12_turns_r2 _ (List.mem_of_getElem? (i := 16) rfl)) x_mn))) (fun _ h => sb_wsX12_turns_wsX120 _ h))) (by decide +kernel)
set_option maxRecDepth 20000 in
theorem gX12_turns_X12_lays : GoodIn wsX12_turns (wsV RX12 247 RX12 yX12_lays wsX12_lays) := goodIn_app (goodIn_of _ (by decide +kernel)) ggX12_turns_X12_lays
set_option maxRecDepth 20000 in
theorem ggX12_turns_X12_pullsAt : GoodIn wsX12_turns wsX12_pullsAt := goodIn_sub (x_mc (sb_wsX12_turns_wsX12_turns_r2 _ (List.mem_of_getElem? (i := 20) rfl)) (x_ina (x_ina (x_mc (sb_wsX12_turns_wsX12_turns_r1 _ (List.mem_of_getElem? (i := 20) rfl)) (x_mc (sb_wsX12_turns_wsX12_turns_r1 _ (List.mem_of_getElem? (i := 22) rfl)) (x_mc (sb_wsX12_turns_wsX12_turns_r1 _ (List.mem_of_getElem? (i := 23) rfl)) (x_mc (sb_wsX12_turns_wsX12_turns_r2 _ (List.mem_of_getElem? (i := 21) rfl)) (x_mc (sb_wsX12_turns_wsX12_turns_r2 _ (List.mem_of_getElem? (i := 22) rfl)) (x_mc (sb_wsX12_turns_wsX12_turns_r2 _ (List.mem_of_getElem? (i := 23) rfl)) (x_mc (sb_wsX12_turns_wsX12_turns_r1 _ (List.mem_of_getElem? (i := 9) rfl)) (x_mc (sb_wsX12_turns_wsX12_turns_r3 _ (List.mem_of_getElem? (i := 0) rfl)) (x_mc (sb_wsX12_turns_wsX12_turns_r1 _ (List.mem_of_getElem? (i := 21) rfl)) (x_mc (sb_wsX12_turns_wsX12_turns_r3 _ (List.mem_of_getElem? (i := 1) rfl)) (x_mc (sb_wsX12_turns_wsX12_turns_r3 _ (List.mem_of_getElem? (i := 2) rfl)) (x_mc (sb_wsX12_turns_wsX12_turns_r3 _ (List.mem_of_getElem? (i := 3) rfl)) (x_mc (sb_wsX12_turns_wsX12_turns_r3 _ (List.mem_of_getElem? (i := 4) rfl)) (x_mc (sb_wsX12_turns_wsX12_turns_r3 _ (List.mem_of_getElem? (i := 5) rfl)) (x_mc (sb_wsX12_turns_wsX12_turns_r3 _ (List.mem_of_getElem? (i := 6) rfl)) (x_mc (sb_wsX12_turns_wsX12_turns_r3 _ (List.mem_of_getElem? (i := 7) rfl)) (x_mc (sb_wsX12_turns_wsX12_turns_r3 _ (List.mem_of_getElem? (i := 8) rfl)) (x_mc (sb_wsX12_turns_wsX12_turns_r3 _ (List.mem_of_getElem? (i := 9) rfl)) (x_mc (sb_wsX12_turns_wsX12_turns_r3 _ (List.mem_of_getElem? (i := 10) rfl)) (x_mc (sb_wsX12_turns_wsX12_turns_r3 _ (List.mem_of_getElem? (i := 11) rfl)) (x_mc (sb_wsX12_turns_wsX12_turns_r3 _ (List.mem_of_getElem? (i := 12) rfl)) (x_mc (sb_wsX12_turns_wsX12_turns_r3 _ (List.mem_of_getElem? (i := 13) rfl)) (x_mc (sb_wsX12_turns_wsX12_turns_r3 _ (List.mem_of_getElem? (i := 14) rfl)) (x_mc (sb_wsX12_turns_wsX12_turns_r3 _ (List.mem_of_getElem? (i := 15) rfl)) x_mn)))))))))))))))))))))))) (x_mc (sb_wsX12_turns_wsX12_turns_r3 _ (List.mem_of_getElem? (i := 16) rfl)) (x_mc (sb_wsX12_turns_wsX12_turns_r3 _ (List.mem_of_getElem? (i := 17) rfl)) (x_mc (sb_wsX12_turns_wsX12_turns_r3 _ (List.mem_of_getElem? (i := 18) rfl)) (x_mc (sb_wsX12_turns_wsX12_turns_r3 _ (List.mem_of_getElem? (i := 19) rfl)) (x_mc (sb_wsX12_turns_wsX12_turns_r1 _ (List.mem_of_getElem? (i := 2) rfl)) (x_mc (sb_wsX12_turns_wsX12_turns_r1 _ (List.mem_of_getElem? (i := 3) rfl)) (x_mc (sb_wsX12_turns_wsX12_turns_r3 _ (List.mem_of_getElem? (i := 20) rfl)) x_mn)))))))) (fun _ h => sb_wsX12_turns_wsX120 _ h))) (by decide +kernel)
set_option maxRecDepth 20000 in
theorem gX12_turns_X12_pullsAt : GoodIn wsX12_turns (wsV RX12 263 RX12 yX12_pullsAt wsX12_pullsAt) := goodIn_app (goodIn_of _ (by decide +kernel)) ggX12_turns_X12_pullsAt
theorem dX12_turns_0 : decode cX12_turns 0 = .ok (.aload_n 0, 1) := by decide +kernel
theorem dX12_turns_1 : decode cX12_turns 1 = .ok (.iload_n 1, 1) := by decide +kernel
theorem dX12_turns_2 : decode cX12_turns 2 = .ok (.invokevirtual 175, 3) := by decide +kernel
theorem dX12_turns_5 : decode cX12_turns 5 = .ok (.ifCond .eq 15, 3) := by decide +kernel
theorem dX12_turns_8 : decode cX12_turns 8 = .ok (.iload_n 2, 1) := by decide +kernel
theorem dX12_turns_9 : decode cX12_turns 9 = .ok (.i2l, 1) := by decide +kernel
theorem dX12_turns_10 : decode cX12_turns 10 = .ok (.lconst 0, 1) := by decide +kernel
theorem dX12_turns_11 : decode cX12_turns 11 = .ok (.ldc2_w 259, 3) := by decide +kernel
theorem dX12_turns_14 : decode cX12_turns 14 = .ok (.invokestatic 156, 3) := by decide +kernel
theorem dX12_turns_17 : decode cX12_turns 17 = .ok (.ifCond .ne 7, 3) := by decide +kernel
theorem dX12_turns_20 : decode cX12_turns 20 = .ok (.ldc2_w 261, 3) := by decide +kernel
theorem dX12_turns_23 : decode cX12_turns 23 = .ok (.lreturn, 1) := by decide +kernel
theorem dX12_turns_24 : decode cX12_turns 24 = .ok (.aload_n 0, 1) := by decide +kernel
theorem dX12_turns_25 : decode cX12_turns 25 = .ok (.invokevirtual 247, 3) := by decide +kernel
theorem dX12_turns_28 : decode cX12_turns 28 = .ok (.iload_n 2, 1) := by decide +kernel
theorem dX12_turns_29 : decode cX12_turns 29 = .ok (.tableswitch 60 0 3 #[31, 38, 45, 53], 31) := by decide +kernel
theorem dX12_turns_60 : decode cX12_turns 60 = .ok (.aload_n 0, 1) := by decide +kernel
theorem dX12_turns_61 : decode cX12_turns 61 = .ok (.getfield 74, 3) := by decide +kernel
theorem dX12_turns_64 : decode cX12_turns 64 = .ok (.iload_n 1, 1) := by decide +kernel
theorem dX12_turns_65 : decode cX12_turns 65 = .ok (.laload, 1) := by decide +kernel
theorem dX12_turns_66 : decode cX12_turns 66 = .ok (.lreturn, 1) := by decide +kernel
theorem dX12_turns_67 : decode cX12_turns 67 = .ok (.aload_n 0, 1) := by decide +kernel
theorem dX12_turns_68 : decode cX12_turns 68 = .ok (.getfield 78, 3) := by decide +kernel
theorem dX12_turns_71 : decode cX12_turns 71 = .ok (.iload_n 1, 1) := by decide +kernel
theorem dX12_turns_72 : decode cX12_turns 72 = .ok (.laload, 1) := by decide +kernel
theorem dX12_turns_73 : decode cX12_turns 73 = .ok (.lreturn, 1) := by decide +kernel
theorem dX12_turns_74 : decode cX12_turns 74 = .ok (.aload_n 0, 1) := by decide +kernel
theorem dX12_turns_75 : decode cX12_turns 75 = .ok (.getfield 81, 3) := by decide +kernel
theorem dX12_turns_78 : decode cX12_turns 78 = .ok (.iload_n 1, 1) := by decide +kernel
theorem dX12_turns_79 : decode cX12_turns 79 = .ok (.iaload, 1) := by decide +kernel
theorem dX12_turns_80 : decode cX12_turns 80 = .ok (.i2l, 1) := by decide +kernel
theorem dX12_turns_81 : decode cX12_turns 81 = .ok (.lreturn, 1) := by decide +kernel
theorem dX12_turns_82 : decode cX12_turns 82 = .ok (.aload_n 0, 1) := by decide +kernel
theorem dX12_turns_83 : decode cX12_turns 83 = .ok (.iload_n 1, 1) := by decide +kernel
theorem dX12_turns_84 : decode cX12_turns 84 = .ok (.invokevirtual 263, 3) := by decide +kernel
theorem dX12_turns_87 : decode cX12_turns 87 = .ok (.i2l, 1) := by decide +kernel
theorem dX12_turns_88 : decode cX12_turns 88 = .ok (.lreturn, 1) := by decide +kernel
theorem dX12_turns_89 : decode cX12_turns 89 = .ok (.aload_n 0, 1) := by decide +kernel
theorem dX12_turns_90 : decode cX12_turns 90 = .ok (.iload_n 1, 1) := by decide +kernel
theorem dX12_turns_91 : decode cX12_turns 91 = .ok (.invokevirtual 263, 3) := by decide +kernel
theorem dX12_turns_94 : decode cX12_turns 94 = .ok (.aload_n 0, 1) := by decide +kernel
theorem dX12_turns_95 : decode cX12_turns 95 = .ok (.getfield 26, 3) := by decide +kernel
theorem dX12_turns_98 : decode cX12_turns 98 = .ok (.iload_n 1, 1) := by decide +kernel
theorem dX12_turns_99 : decode cX12_turns 99 = .ok (.iaload, 1) := by decide +kernel
theorem dX12_turns_100 : decode cX12_turns 100 = .ok (.if_icmp .le 7, 3) := by decide +kernel
theorem dX12_turns_103 : decode cX12_turns 103 = .ok (.lconst 1, 1) := by decide +kernel
theorem dX12_turns_104 : decode cX12_turns 104 = .ok (.goto 4, 3) := by decide +kernel
theorem dX12_turns_107 : decode cX12_turns 107 = .ok (.lconst 0, 1) := by decide +kernel
theorem dX12_turns_108 : decode cX12_turns 108 = .ok (.lreturn, 1) := by decide +kernel
theorem sb_wsX12_runs_wsX12_runs_r1 : ∀ w ∈ wsX12_runs_r1, w ∈ wsX12_runs := fun _ h => (List.mem_cons_of_mem _ (List.mem_append_left _ (List.mem_append_left _ h)))
theorem sb_wsX12_runs_wsX12_runs_r2 : ∀ w ∈ wsX12_runs_r2, w ∈ wsX12_runs := fun _ h => (List.mem_cons_of_mem _ (List.mem_append_left _ (List.mem_append_right _ (List.mem_append_left _ h))))
theorem sb_wsX12_runs_wsX12_runs_r3 : ∀ w ∈ wsX12_runs_r3, w ∈ wsX12_runs := fun _ h => (List.mem_cons_of_mem _ (List.mem_append_left _ (List.mem_append_right _ (List.mem_append_right _ h))))
theorem sb_wsX12_runs_wsX120 : ∀ w ∈ wsX120, w ∈ wsX12_runs := fun _ h => (List.mem_cons_of_mem _ (List.mem_append_right _ h))
set_option maxRecDepth 20000 in
theorem ggX12_runs_X12_in : GoodIn wsX12_runs wsX12_in := goodIn_sub (x_mc (sb_wsX12_runs_wsX12_runs_r1 _ (List.mem_of_getElem? (i := 7) rfl)) x_mn) (by decide +kernel)
set_option maxRecDepth 20000 in
theorem gX12_runs_X12_in : GoodIn wsX12_runs (va_wsS RX12 156 yX12_in wsX12_in) := goodIn_app (goodIn_of _ (by decide +kernel)) ggX12_runs_X12_in
set_option maxRecDepth 20000 in
theorem ggX12_runs_X12_lays : GoodIn wsX12_runs wsX12_lays := goodIn_sub (x_mc (sb_wsX12_runs_wsX12_runs_r1 _ (List.mem_of_getElem? (i := 11) rfl)) (x_ina (x_ina (x_mc (sb_wsX12_runs_wsX12_runs_r1 _ (List.mem_of_getElem? (i := 12) rfl)) (x_mc (sb_wsX12_runs_wsX12_runs_r1 _ (List.mem_of_getElem? (i := 13) rfl)) (x_mc (sb_wsX12_runs_wsX12_runs_r1 _ (List.mem_of_getElem? (i := 14) rfl)) (x_mc (sb_wsX12_runs_wsX12_runs_r1 _ (List.mem_of_getElem? (i := 2) rfl)) (x_mc (sb_wsX12_runs_wsX12_runs_r1 _ (List.mem_of_getElem? (i := 15) rfl)) (x_mc (sb_wsX12_runs_wsX12_runs_r1 _ (List.mem_of_getElem? (i := 16) rfl)) (x_mc (sb_wsX12_runs_wsX12_runs_r1 _ (List.mem_of_getElem? (i := 17) rfl)) (x_mc (sb_wsX12_runs_wsX12_runs_r1 _ (List.mem_of_getElem? (i := 18) rfl)) (x_mc (sb_wsX12_runs_wsX12_runs_r1 _ (List.mem_of_getElem? (i := 19) rfl)) (x_mc (sb_wsX12_runs_wsX12_runs_r1 _ (List.mem_of_getElem? (i := 20) rfl)) (x_mc (sb_wsX12_runs_wsX12_runs_r1 _ (List.mem_of_getElem? (i := 21) rfl)) (x_mc (sb_wsX12_runs_wsX12_runs_r1 _ (List.mem_of_getElem? (i := 22) rfl)) (x_mc (sb_wsX12_runs_wsX12_runs_r1 _ (List.mem_of_getElem? (i := 6) rfl)) (x_mc (sb_wsX12_runs_wsX12_runs_r1 _ (List.mem_of_getElem? (i := 23) rfl)) (x_mc (sb_wsX12_runs_wsX12_runs_r2 _ (List.mem_of_getElem? (i := 0) rfl)) (x_mc (sb_wsX12_runs_wsX12_runs_r2 _ (List.mem_of_getElem? (i := 1) rfl)) (x_mc (sb_wsX12_runs_wsX12_runs_r2 _ (List.mem_of_getElem? (i := 2) rfl)) (x_mc (sb_wsX12_runs_wsX12_runs_r2 _ (List.mem_of_getElem? (i := 3) rfl)) (x_mc (sb_wsX12_runs_wsX12_runs_r2 _ (List.mem_of_getElem? (i := 4) rfl)) (x_mc (sb_wsX12_runs_wsX12_runs_r2 _ (List.mem_of_getElem? (i := 5) rfl)) (x_mc (sb_wsX12_runs_wsX12_runs_r2 _ (List.mem_of_getElem? (i := 6) rfl)) (x_mc (sb_wsX12_runs_wsX12_runs_r2 _ (List.mem_of_getElem? (i := 7) rfl)) (x_mc (sb_wsX12_runs_wsX12_runs_r2 _ (List.mem_of_getElem? (i := 8) rfl)) (x_mc (sb_wsX12_runs_wsX12_runs_r2 _ (List.mem_of_getElem? (i := 9) rfl)) x_mn)))))))))))))))))))))))) (x_mc (sb_wsX12_runs_wsX12_runs_r2 _ (List.mem_of_getElem? (i := 10) rfl)) (x_mc (sb_wsX12_runs_wsX12_runs_r2 _ (List.mem_of_getElem? (i := 11) rfl)) x_mn))) (fun _ h => sb_wsX12_runs_wsX120 _ h))) (by decide +kernel)
set_option maxRecDepth 20000 in
theorem gX12_runs_X12_lays : GoodIn wsX12_runs (wsV RX12 247 RX12 yX12_lays wsX12_lays) := goodIn_app (goodIn_of _ (by decide +kernel)) ggX12_runs_X12_lays
set_option maxRecDepth 20000 in
theorem ggX12_runs_X12_runsWell : GoodIn wsX12_runs wsX12_runsWell := goodIn_sub (x_mc (sb_wsX12_runs_wsX12_runs_r2 _ (List.mem_of_getElem? (i := 15) rfl)) (x_ina (x_mc (sb_wsX12_runs_wsX12_runs_r1 _ (List.mem_of_getElem? (i := 3) rfl)) (x_mc (sb_wsX12_runs_wsX12_runs_r2 _ (List.mem_of_getElem? (i := 16) rfl)) (x_mc (sb_wsX12_runs_wsX12_runs_r1 _ (List.mem_of_getElem? (i := 12) rfl)) (x_mc (sb_wsX12_runs_wsX12_runs_r2 _ (List.mem_of_getElem? (i := 17) rfl)) (x_mc (sb_wsX12_runs_wsX12_runs_r1 _ (List.mem_of_getElem? (i := 14) rfl)) (x_mc (sb_wsX12_runs_wsX12_runs_r2 _ (List.mem_of_getElem? (i := 18) rfl)) x_mn)))))) (fun _ h => sb_wsX12_runs_wsX120 _ h))) (by decide +kernel)
set_option maxRecDepth 20000 in
theorem gX12_runs_X12_runsWell : GoodIn wsX12_runs (wsV RX12 266 RX12 yX12_runsWell wsX12_runsWell) := goodIn_app (goodIn_of _ (by decide +kernel)) ggX12_runs_X12_runsWell
set_option maxRecDepth 20000 in
theorem ggX12_runs_X12_allLoaded : GoodIn wsX12_runs wsX12_allLoaded := goodIn_sub (x_mc (sb_wsX12_runs_wsX12_runs_r2 _ (List.mem_of_getElem? (i := 22) rfl)) (x_ina (x_mc (sb_wsX12_runs_wsX12_runs_r1 _ (List.mem_of_getElem? (i := 1) rfl)) (x_mc (sb_wsX12_runs_wsX12_runs_r2 _ (List.mem_of_getElem? (i := 23) rfl)) (x_mc (sb_wsX12_runs_wsX12_runs_r3 _ (List.mem_of_getElem? (i := 0) rfl)) (x_mc (sb_wsX12_runs_wsX12_runs_r3 _ (List.mem_of_getElem? (i := 1) rfl)) (x_mc (sb_wsX12_runs_wsX12_runs_r1 _ (List.mem_of_getElem? (i := 6) rfl)) (x_mc (sb_wsX12_runs_wsX12_runs_r3 _ (List.mem_of_getElem? (i := 2) rfl)) (x_mc (sb_wsX12_runs_wsX12_runs_r2 _ (List.mem_of_getElem? (i := 16) rfl)) (x_mc (sb_wsX12_runs_wsX12_runs_r3 _ (List.mem_of_getElem? (i := 3) rfl)) (x_mc (sb_wsX12_runs_wsX12_runs_r3 _ (List.mem_of_getElem? (i := 4) rfl)) (x_mc (sb_wsX12_runs_wsX12_runs_r3 _ (List.mem_of_getElem? (i := 5) rfl)) (x_mc (sb_wsX12_runs_wsX12_runs_r1 _ (List.mem_of_getElem? (i := 3) rfl)) (x_mc (sb_wsX12_runs_wsX12_runs_r3 _ (List.mem_of_getElem? (i := 6) rfl)) (x_mc (sb_wsX12_runs_wsX12_runs_r3 _ (List.mem_of_getElem? (i := 7) rfl)) (x_mc (sb_wsX12_runs_wsX12_runs_r3 _ (List.mem_of_getElem? (i := 8) rfl)) (x_mc (sb_wsX12_runs_wsX12_runs_r3 _ (List.mem_of_getElem? (i := 9) rfl)) (x_mc (sb_wsX12_runs_wsX12_runs_r3 _ (List.mem_of_getElem? (i := 10) rfl)) (x_mc (sb_wsX12_runs_wsX12_runs_r1 _ (List.mem_of_getElem? (i := 12) rfl)) (x_mc (sb_wsX12_runs_wsX12_runs_r1 _ (List.mem_of_getElem? (i := 14) rfl)) (x_mc (sb_wsX12_runs_wsX12_runs_r3 _ (List.mem_of_getElem? (i := 11) rfl)) x_mn))))))))))))))))))) (fun _ h => sb_wsX12_runs_wsX120 _ h))) (by decide +kernel)
set_option maxRecDepth 20000 in
theorem gX12_runs_X12_allLoaded : GoodIn wsX12_runs (wsV RX12 269 RX12 yX12_allLoaded wsX12_allLoaded) := goodIn_app (goodIn_of _ (by decide +kernel)) ggX12_runs_X12_allLoaded
theorem dX12_runs_0 : decode cX12_runs 0 = .ok (.iload_n 1, 1) := by decide +kernel
theorem dX12_runs_1 : decode cX12_runs 1 = .ok (.i2l, 1) := by decide +kernel
theorem dX12_runs_2 : decode cX12_runs 2 = .ok (.lconst 0, 1) := by decide +kernel
theorem dX12_runs_3 : decode cX12_runs 3 = .ok (.ldc2_w 186, 3) := by decide +kernel
theorem dX12_runs_6 : decode cX12_runs 6 = .ok (.invokestatic 156, 3) := by decide +kernel
theorem dX12_runs_9 : decode cX12_runs 9 = .ok (.ifCond .ne 6, 3) := by decide +kernel
theorem dX12_runs_12 : decode cX12_runs 12 = .ok (.bipush (-2), 2) := by decide +kernel
theorem dX12_runs_14 : decode cX12_runs 14 = .ok (.ireturn, 1) := by decide +kernel
theorem dX12_runs_15 : decode cX12_runs 15 = .ok (.aload_n 0, 1) := by decide +kernel
theorem dX12_runs_16 : decode cX12_runs 16 = .ok (.invokevirtual 247, 3) := by decide +kernel
theorem dX12_runs_19 : decode cX12_runs 19 = .ok (.iconst 0, 1) := by decide +kernel
theorem dX12_runs_20 : decode cX12_runs 20 = .ok (.istore_n 2, 1) := by decide +kernel
theorem dX12_runs_21 : decode cX12_runs 21 = .ok (.iconst 0, 1) := by decide +kernel
theorem dX12_runs_22 : decode cX12_runs 22 = .ok (.istore_n 3, 1) := by decide +kernel
theorem dX12_runs_23 : decode cX12_runs 23 = .ok (.iload_n 3, 1) := by decide +kernel
theorem dX12_runs_24 : decode cX12_runs 24 = .ok (.aload_n 0, 1) := by decide +kernel
theorem dX12_runs_25 : decode cX12_runs 25 = .ok (.getfield 160, 3) := by decide +kernel
theorem dX12_runs_28 : decode cX12_runs 28 = .ok (.if_icmp .ge 48, 3) := by decide +kernel
theorem dX12_runs_31 : decode cX12_runs 31 = .ok (.iload_n 2, 1) := by decide +kernel
theorem dX12_runs_32 : decode cX12_runs 32 = .ok (.iload_n 1, 1) := by decide +kernel
theorem dX12_runs_33 : decode cX12_runs 33 = .ok (.ifCond .ne 14, 3) := by decide +kernel
theorem dX12_runs_36 : decode cX12_runs 36 = .ok (.aload_n 0, 1) := by decide +kernel
theorem dX12_runs_37 : decode cX12_runs 37 = .ok (.iload_n 3, 1) := by decide +kernel
theorem dX12_runs_38 : decode cX12_runs 38 = .ok (.invokevirtual 266, 3) := by decide +kernel
theorem dX12_runs_41 : decode cX12_runs 41 = .ok (.ifCond .eq 26, 3) := by decide +kernel
theorem dX12_runs_44 : decode cX12_runs 44 = .ok (.goto 17, 3) := by decide +kernel
theorem dX12_runs_47 : decode cX12_runs 47 = .ok (.aload_n 0, 1) := by decide +kernel
theorem dX12_runs_48 : decode cX12_runs 48 = .ok (.getfield 81, 3) := by decide +kernel
theorem dX12_runs_51 : decode cX12_runs 51 = .ok (.aload_n 0, 1) := by decide +kernel
theorem dX12_runs_52 : decode cX12_runs 52 = .ok (.getfield 29, 3) := by decide +kernel
theorem dX12_runs_55 : decode cX12_runs 55 = .ok (.iload_n 3, 1) := by decide +kernel
theorem dX12_runs_56 : decode cX12_runs 56 = .ok (.iaload, 1) := by decide +kernel
theorem dX12_runs_57 : decode cX12_runs 57 = .ok (.iaload, 1) := by decide +kernel
theorem dX12_runs_58 : decode cX12_runs 58 = .ok (.ifCond .eq 9, 3) := by decide +kernel
theorem dX12_runs_61 : decode cX12_runs 61 = .ok (.iconst 1, 1) := by decide +kernel
theorem dX12_runs_62 : decode cX12_runs 62 = .ok (.iload_n 3, 1) := by decide +kernel
theorem dX12_runs_63 : decode cX12_runs 63 = .ok (.ishl, 1) := by decide +kernel
theorem dX12_runs_64 : decode cX12_runs 64 = .ok (.goto 4, 3) := by decide +kernel
theorem dX12_runs_67 : decode cX12_runs 67 = .ok (.iconst 0, 1) := by decide +kernel
theorem dX12_runs_68 : decode cX12_runs 68 = .ok (.ior, 1) := by decide +kernel
theorem dX12_runs_69 : decode cX12_runs 69 = .ok (.istore_n 2, 1) := by decide +kernel
theorem dX12_runs_70 : decode cX12_runs 70 = .ok (.iinc 3 1, 3) := by decide +kernel
theorem dX12_runs_73 : decode cX12_runs 73 = .ok (.goto (-50), 3) := by decide +kernel
theorem dX12_runs_76 : decode cX12_runs 76 = .ok (.iload_n 1, 1) := by decide +kernel
theorem dX12_runs_77 : decode cX12_runs 77 = .ok (.iconst 2, 1) := by decide +kernel
theorem dX12_runs_78 : decode cX12_runs 78 = .ok (.if_icmp .ne 10, 3) := by decide +kernel
theorem dX12_runs_81 : decode cX12_runs 81 = .ok (.aload_n 0, 1) := by decide +kernel
theorem dX12_runs_82 : decode cX12_runs 82 = .ok (.invokevirtual 269, 3) := by decide +kernel
theorem dX12_runs_85 : decode cX12_runs 85 = .ok (.goto 4, 3) := by decide +kernel
theorem dX12_runs_88 : decode cX12_runs 88 = .ok (.iload_n 2, 1) := by decide +kernel
theorem dX12_runs_89 : decode cX12_runs 89 = .ok (.ireturn, 1) := by decide +kernel
theorem sb_wsX12_feed_wsX120 : ∀ w ∈ wsX120, w ∈ wsX12_feed := fun _ h => (List.mem_cons_of_mem _ (List.mem_append_right _ h))
set_option maxRecDepth 20000 in
theorem ggX12_feed_X12_in : GoodIn wsX12_feed wsX12_in := goodIn_sub (x_mc (List.mem_cons_of_mem _ (List.mem_append_left _ (List.mem_of_getElem? (i := 7) rfl))) x_mn) (by decide +kernel)
set_option maxRecDepth 20000 in
theorem gX12_feed_X12_in : GoodIn wsX12_feed (va_wsS RX12 156 yX12_in wsX12_in) := goodIn_app (goodIn_of _ (by decide +kernel)) ggX12_feed_X12_in
theorem dX12_feed_0 : decode cX12_feed 0 = .ok (.iload_n 1, 1) := by decide +kernel
theorem dX12_feed_1 : decode cX12_feed 1 = .ok (.i2l, 1) := by decide +kernel
theorem dX12_feed_2 : decode cX12_feed 2 = .ok (.lconst 1, 1) := by decide +kernel
theorem dX12_feed_3 : decode cX12_feed 3 = .ok (.ldc2_w 273, 3) := by decide +kernel
theorem dX12_feed_6 : decode cX12_feed 6 = .ok (.invokestatic 156, 3) := by decide +kernel
theorem dX12_feed_9 : decode cX12_feed 9 = .ok (.ifCond .ne 6, 3) := by decide +kernel
theorem dX12_feed_12 : decode cX12_feed 12 = .ok (.bipush (-2), 2) := by decide +kernel
theorem dX12_feed_14 : decode cX12_feed 14 = .ok (.ireturn, 1) := by decide +kernel
theorem dX12_feed_15 : decode cX12_feed 15 = .ok (.aload_n 0, 1) := by decide +kernel
theorem dX12_feed_16 : decode cX12_feed 16 = .ok (.getfield 275, 3) := by decide +kernel
theorem dX12_feed_19 : decode cX12_feed 19 = .ok (.iload_n 1, 1) := by decide +kernel
theorem dX12_feed_20 : decode cX12_feed 20 = .ok (.iadd, 1) := by decide +kernel
theorem dX12_feed_21 : decode cX12_feed 21 = .ok (.sipush 160, 3) := by decide +kernel
theorem dX12_feed_24 : decode cX12_feed 24 = .ok (.if_icmp .le 6, 3) := by decide +kernel
theorem dX12_feed_27 : decode cX12_feed 27 = .ok (.bipush (-4), 2) := by decide +kernel
theorem dX12_feed_29 : decode cX12_feed 29 = .ok (.ireturn, 1) := by decide +kernel
theorem dX12_feed_30 : decode cX12_feed 30 = .ok (.iconst 0, 1) := by decide +kernel
theorem dX12_feed_31 : decode cX12_feed 31 = .ok (.istore 4, 2) := by decide +kernel
theorem dX12_feed_33 : decode cX12_feed 33 = .ok (.iload 4, 2) := by decide +kernel
theorem dX12_feed_35 : decode cX12_feed 35 = .ok (.iload_n 1, 1) := by decide +kernel
theorem dX12_feed_36 : decode cX12_feed 36 = .ok (.if_icmp .ge 40, 3) := by decide +kernel
theorem dX12_feed_39 : decode cX12_feed 39 = .ok (.aload_n 0, 1) := by decide +kernel
theorem dX12_feed_40 : decode cX12_feed 40 = .ok (.getfield 20, 3) := by decide +kernel
theorem dX12_feed_43 : decode cX12_feed 43 = .ok (.aload_n 0, 1) := by decide +kernel
theorem dX12_feed_44 : decode cX12_feed 44 = .ok (.getfield 275, 3) := by decide +kernel
theorem dX12_feed_47 : decode cX12_feed 47 = .ok (.lload_n 2, 1) := by decide +kernel
theorem dX12_feed_48 : decode cX12_feed 48 = .ok (.bipush 8, 2) := by decide +kernel
theorem dX12_feed_50 : decode cX12_feed 50 = .ok (.iload 4, 2) := by decide +kernel
theorem dX12_feed_52 : decode cX12_feed 52 = .ok (.imul, 1) := by decide +kernel
theorem dX12_feed_53 : decode cX12_feed 53 = .ok (.lshr, 1) := by decide +kernel
theorem dX12_feed_54 : decode cX12_feed 54 = .ok (.ldc2_w 151, 3) := by decide +kernel
theorem dX12_feed_57 : decode cX12_feed 57 = .ok (.land, 1) := by decide +kernel
theorem dX12_feed_58 : decode cX12_feed 58 = .ok (.l2i, 1) := by decide +kernel
theorem dX12_feed_59 : decode cX12_feed 59 = .ok (.iastore, 1) := by decide +kernel
theorem dX12_feed_60 : decode cX12_feed 60 = .ok (.aload_n 0, 1) := by decide +kernel
theorem dX12_feed_61 : decode cX12_feed 61 = .ok (.dup, 1) := by decide +kernel
theorem dX12_feed_62 : decode cX12_feed 62 = .ok (.getfield 275, 3) := by decide +kernel
theorem dX12_feed_65 : decode cX12_feed 65 = .ok (.iconst 1, 1) := by decide +kernel
theorem dX12_feed_66 : decode cX12_feed 66 = .ok (.iadd, 1) := by decide +kernel
theorem dX12_feed_67 : decode cX12_feed 67 = .ok (.putfield 275, 3) := by decide +kernel
theorem dX12_feed_70 : decode cX12_feed 70 = .ok (.iinc 4 1, 3) := by decide +kernel
theorem dX12_feed_73 : decode cX12_feed 73 = .ok (.goto (-40), 3) := by decide +kernel
theorem dX12_feed_76 : decode cX12_feed 76 = .ok (.aload_n 0, 1) := by decide +kernel
theorem dX12_feed_77 : decode cX12_feed 77 = .ok (.getfield 275, 3) := by decide +kernel
theorem dX12_feed_80 : decode cX12_feed 80 = .ok (.ireturn, 1) := by decide +kernel
theorem dX12_byteAt_0 : decode cX12_byteAt 0 = .ok (.iload_n 1, 1) := by decide +kernel
theorem dX12_byteAt_1 : decode cX12_byteAt 1 = .ok (.aload_n 0, 1) := by decide +kernel
theorem dX12_byteAt_2 : decode cX12_byteAt 2 = .ok (.getfield 278, 3) := by decide +kernel
theorem dX12_byteAt_5 : decode cX12_byteAt 5 = .ok (.if_icmp .ge 17, 3) := by decide +kernel
theorem dX12_byteAt_8 : decode cX12_byteAt 8 = .ok (.aload_n 0, 1) := by decide +kernel
theorem dX12_byteAt_9 : decode cX12_byteAt 9 = .ok (.getfield 13, 3) := by decide +kernel
theorem dX12_byteAt_12 : decode cX12_byteAt 12 = .ok (.aload_n 0, 1) := by decide +kernel
theorem dX12_byteAt_13 : decode cX12_byteAt 13 = .ok (.getfield 281, 3) := by decide +kernel
theorem dX12_byteAt_16 : decode cX12_byteAt 16 = .ok (.iload_n 1, 1) := by decide +kernel
theorem dX12_byteAt_17 : decode cX12_byteAt 17 = .ok (.iadd, 1) := by decide +kernel
theorem dX12_byteAt_18 : decode cX12_byteAt 18 = .ok (.iaload, 1) := by decide +kernel
theorem dX12_byteAt_19 : decode cX12_byteAt 19 = .ok (.goto 4, 3) := by decide +kernel
theorem dX12_byteAt_22 : decode cX12_byteAt 22 = .ok (.iconst (-1), 1) := by decide +kernel
theorem dX12_byteAt_23 : decode cX12_byteAt 23 = .ok (.ireturn, 1) := by decide +kernel
theorem sb_wsX12_next_wsX120 : ∀ w ∈ wsX120, w ∈ wsX12_next := fun _ h => (List.mem_cons_of_mem _ (List.mem_append_right _ h))
set_option maxRecDepth 20000 in
theorem ggX12_next_X12_byteAt : GoodIn wsX12_next wsX12_byteAt := goodIn_sub (x_mc (List.mem_cons_of_mem _ (List.mem_append_left _ (List.mem_of_getElem? (i := 17) rfl))) (x_ina (x_mc (List.mem_cons_of_mem _ (List.mem_append_left _ (List.mem_of_getElem? (i := 3) rfl))) (x_mc (List.mem_cons_of_mem _ (List.mem_append_left _ (List.mem_of_getElem? (i := 18) rfl))) (x_mc (List.mem_cons_of_mem _ (List.mem_append_left _ (List.mem_of_getElem? (i := 19) rfl))) x_mn))) (fun _ h => sb_wsX12_next_wsX120 _ h))) (by decide +kernel)
set_option maxRecDepth 20000 in
theorem gX12_next_X12_byteAt : GoodIn wsX12_next (wsV RX12 287 RX12 yX12_byteAt wsX12_byteAt) := goodIn_app (goodIn_of _ (by decide +kernel)) ggX12_next_X12_byteAt
set_option maxRecDepth 20000 in
theorem ggX12_next_X12_in : GoodIn wsX12_next wsX12_in := goodIn_sub (x_mc (List.mem_cons_of_mem _ (List.mem_append_left _ (List.mem_of_getElem? (i := 22) rfl))) x_mn) (by decide +kernel)
set_option maxRecDepth 20000 in
theorem gX12_next_X12_in : GoodIn wsX12_next (va_wsS RX12 156 yX12_in wsX12_in) := goodIn_app (goodIn_of _ (by decide +kernel)) ggX12_next_X12_in
theorem dX12_next_0 : decode cX12_next 0 = .ok (.aload_n 0, 1) := by decide +kernel
theorem dX12_next_1 : decode cX12_next 1 = .ok (.aload_n 0, 1) := by decide +kernel
theorem dX12_next_2 : decode cX12_next 2 = .ok (.getfield 284, 3) := by decide +kernel
theorem dX12_next_5 : decode cX12_next 5 = .ok (.invokevirtual 287, 3) := by decide +kernel
theorem dX12_next_8 : decode cX12_next 8 = .ok (.bipush 32, 2) := by decide +kernel
theorem dX12_next_10 : decode cX12_next 10 = .ok (.if_icmp .eq 16, 3) := by decide +kernel
theorem dX12_next_13 : decode cX12_next 13 = .ok (.aload_n 0, 1) := by decide +kernel
theorem dX12_next_14 : decode cX12_next 14 = .ok (.aload_n 0, 1) := by decide +kernel
theorem dX12_next_15 : decode cX12_next 15 = .ok (.getfield 284, 3) := by decide +kernel
theorem dX12_next_18 : decode cX12_next 18 = .ok (.invokevirtual 287, 3) := by decide +kernel
theorem dX12_next_21 : decode cX12_next 21 = .ok (.bipush 10, 2) := by decide +kernel
theorem dX12_next_23 : decode cX12_next 23 = .ok (.if_icmp .ne 16, 3) := by decide +kernel
theorem dX12_next_26 : decode cX12_next 26 = .ok (.aload_n 0, 1) := by decide +kernel
theorem dX12_next_27 : decode cX12_next 27 = .ok (.dup, 1) := by decide +kernel
theorem dX12_next_28 : decode cX12_next 28 = .ok (.getfield 284, 3) := by decide +kernel
theorem dX12_next_31 : decode cX12_next 31 = .ok (.iconst 1, 1) := by decide +kernel
theorem dX12_next_32 : decode cX12_next 32 = .ok (.iadd, 1) := by decide +kernel
theorem dX12_next_33 : decode cX12_next 33 = .ok (.putfield 284, 3) := by decide +kernel
theorem dX12_next_36 : decode cX12_next 36 = .ok (.goto (-36), 3) := by decide +kernel
theorem dX12_next_39 : decode cX12_next 39 = .ok (.aload_n 0, 1) := by decide +kernel
theorem dX12_next_40 : decode cX12_next 40 = .ok (.aload_n 0, 1) := by decide +kernel
theorem dX12_next_41 : decode cX12_next 41 = .ok (.getfield 284, 3) := by decide +kernel
theorem dX12_next_44 : decode cX12_next 44 = .ok (.putfield 290, 3) := by decide +kernel
theorem dX12_next_47 : decode cX12_next 47 = .ok (.aload_n 0, 1) := by decide +kernel
theorem dX12_next_48 : decode cX12_next 48 = .ok (.aload_n 0, 1) := by decide +kernel
theorem dX12_next_49 : decode cX12_next 49 = .ok (.getfield 284, 3) := by decide +kernel
theorem dX12_next_52 : decode cX12_next 52 = .ok (.invokevirtual 287, 3) := by decide +kernel
theorem dX12_next_55 : decode cX12_next 55 = .ok (.istore_n 1, 1) := by decide +kernel
theorem dX12_next_56 : decode cX12_next 56 = .ok (.aload_n 0, 1) := by decide +kernel
theorem dX12_next_57 : decode cX12_next 57 = .ok (.iconst 4, 1) := by decide +kernel
theorem dX12_next_58 : decode cX12_next 58 = .ok (.putfield 293, 3) := by decide +kernel
theorem dX12_next_61 : decode cX12_next 61 = .ok (.iload_n 1, 1) := by decide +kernel
theorem dX12_next_62 : decode cX12_next 62 = .ok (.ifCond .ge 19, 3) := by decide +kernel
theorem dX12_next_65 : decode cX12_next 65 = .ok (.aload_n 0, 1) := by decide +kernel
theorem dX12_next_66 : decode cX12_next 66 = .ok (.iconst 0, 1) := by decide +kernel
theorem dX12_next_67 : decode cX12_next 67 = .ok (.putfield 293, 3) := by decide +kernel
theorem dX12_next_70 : decode cX12_next 70 = .ok (.aload_n 0, 1) := by decide +kernel
theorem dX12_next_71 : decode cX12_next 71 = .ok (.aload_n 0, 1) := by decide +kernel
theorem dX12_next_72 : decode cX12_next 72 = .ok (.getfield 278, 3) := by decide +kernel
theorem dX12_next_75 : decode cX12_next 75 = .ok (.putfield 290, 3) := by decide +kernel
theorem dX12_next_78 : decode cX12_next 78 = .ok (.goto 294, 3) := by decide +kernel
theorem dX12_next_81 : decode cX12_next 81 = .ok (.iload_n 1, 1) := by decide +kernel
theorem dX12_next_82 : decode cX12_next 82 = .ok (.i2l, 1) := by decide +kernel
theorem dX12_next_83 : decode cX12_next 83 = .ok (.ldc2_w 296, 3) := by decide +kernel
theorem dX12_next_86 : decode cX12_next 86 = .ok (.ldc2_w 298, 3) := by decide +kernel
theorem dX12_next_89 : decode cX12_next 89 = .ok (.invokestatic 156, 3) := by decide +kernel
theorem dX12_next_92 : decode cX12_next 92 = .ok (.ifCond .eq 93, 3) := by decide +kernel
theorem dX12_next_95 : decode cX12_next 95 = .ok (.aload_n 0, 1) := by decide +kernel
theorem dX12_next_96 : decode cX12_next 96 = .ok (.iconst 1, 1) := by decide +kernel
theorem dX12_next_97 : decode cX12_next 97 = .ok (.putfield 293, 3) := by decide +kernel
theorem dX12_next_100 : decode cX12_next 100 = .ok (.aload_n 0, 1) := by decide +kernel
theorem dX12_next_101 : decode cX12_next 101 = .ok (.lconst 0, 1) := by decide +kernel
theorem dX12_next_102 : decode cX12_next 102 = .ok (.putfield 300, 3) := by decide +kernel
theorem dX12_next_105 : decode cX12_next 105 = .ok (.iconst 0, 1) := by decide +kernel
theorem dX12_next_106 : decode cX12_next 106 = .ok (.istore_n 2, 1) := by decide +kernel
theorem dX12_next_107 : decode cX12_next 107 = .ok (.aload_n 0, 1) := by decide +kernel
theorem dX12_next_108 : decode cX12_next 108 = .ok (.aload_n 0, 1) := by decide +kernel
theorem dX12_next_109 : decode cX12_next 109 = .ok (.getfield 284, 3) := by decide +kernel
theorem dX12_next_112 : decode cX12_next 112 = .ok (.invokevirtual 287, 3) := by decide +kernel
theorem dX12_next_115 : decode cX12_next 115 = .ok (.i2l, 1) := by decide +kernel
theorem dX12_next_116 : decode cX12_next 116 = .ok (.ldc2_w 296, 3) := by decide +kernel
theorem dX12_next_119 : decode cX12_next 119 = .ok (.ldc2_w 298, 3) := by decide +kernel
theorem dX12_next_122 : decode cX12_next 122 = .ok (.invokestatic 156, 3) := by decide +kernel
theorem dX12_next_125 : decode cX12_next 125 = .ok (.ifCond .eq 57, 3) := by decide +kernel
theorem dX12_next_128 : decode cX12_next 128 = .ok (.aload_n 0, 1) := by decide +kernel
theorem dX12_next_129 : decode cX12_next 129 = .ok (.iload_n 2, 1) := by decide +kernel
theorem dX12_next_130 : decode cX12_next 130 = .ok (.bipush 8, 2) := by decide +kernel
theorem dX12_next_132 : decode cX12_next 132 = .ok (.if_icmp .ge 28, 3) := by decide +kernel
theorem dX12_next_135 : decode cX12_next 135 = .ok (.ldc2_w 304, 3) := by decide +kernel
theorem dX12_next_138 : decode cX12_next 138 = .ok (.aload_n 0, 1) := by decide +kernel
theorem dX12_next_139 : decode cX12_next 139 = .ok (.getfield 300, 3) := by decide +kernel
theorem dX12_next_142 : decode cX12_next 142 = .ok (.lmul, 1) := by decide +kernel
theorem dX12_next_143 : decode cX12_next 143 = .ok (.aload_n 0, 1) := by decide +kernel
theorem dX12_next_144 : decode cX12_next 144 = .ok (.aload_n 0, 1) := by decide +kernel
theorem dX12_next_145 : decode cX12_next 145 = .ok (.getfield 284, 3) := by decide +kernel
theorem dX12_next_148 : decode cX12_next 148 = .ok (.invokevirtual 287, 3) := by decide +kernel
theorem dX12_next_151 : decode cX12_next 151 = .ok (.i2l, 1) := by decide +kernel
theorem dX12_next_152 : decode cX12_next 152 = .ok (.ladd, 1) := by decide +kernel
theorem dX12_next_153 : decode cX12_next 153 = .ok (.ldc2_w 306, 3) := by decide +kernel
theorem dX12_next_156 : decode cX12_next 156 = .ok (.lsub, 1) := by decide +kernel
theorem dX12_next_157 : decode cX12_next 157 = .ok (.goto 6, 3) := by decide +kernel
theorem dX12_next_160 : decode cX12_next 160 = .ok (.ldc2_w 308, 3) := by decide +kernel
theorem dX12_next_163 : decode cX12_next 163 = .ok (.putfield 300, 3) := by decide +kernel
theorem dX12_next_166 : decode cX12_next 166 = .ok (.iinc 2 1, 3) := by decide +kernel
theorem dX12_next_169 : decode cX12_next 169 = .ok (.aload_n 0, 1) := by decide +kernel
theorem dX12_next_170 : decode cX12_next 170 = .ok (.dup, 1) := by decide +kernel
theorem dX12_next_171 : decode cX12_next 171 = .ok (.getfield 284, 3) := by decide +kernel
theorem dX12_next_174 : decode cX12_next 174 = .ok (.iconst 1, 1) := by decide +kernel
theorem dX12_next_175 : decode cX12_next 175 = .ok (.iadd, 1) := by decide +kernel
theorem dX12_next_176 : decode cX12_next 176 = .ok (.putfield 284, 3) := by decide +kernel
theorem dX12_next_179 : decode cX12_next 179 = .ok (.goto (-72), 3) := by decide +kernel
theorem dX12_next_182 : decode cX12_next 182 = .ok (.goto 190, 3) := by decide +kernel
theorem dX12_next_185 : decode cX12_next 185 = .ok (.iload_n 1, 1) := by decide +kernel
theorem dX12_next_186 : decode cX12_next 186 = .ok (.i2l, 1) := by decide +kernel
theorem dX12_next_187 : decode cX12_next 187 = .ok (.ldc2_w 310, 3) := by decide +kernel
theorem dX12_next_190 : decode cX12_next 190 = .ok (.ldc2_w 312, 3) := by decide +kernel
theorem dX12_next_193 : decode cX12_next 193 = .ok (.invokestatic 156, 3) := by decide +kernel
theorem dX12_next_196 : decode cX12_next 196 = .ok (.ifCond .eq 107, 3) := by decide +kernel
theorem dX12_next_199 : decode cX12_next 199 = .ok (.aload_n 0, 1) := by decide +kernel
theorem dX12_next_200 : decode cX12_next 200 = .ok (.iconst 2, 1) := by decide +kernel
theorem dX12_next_201 : decode cX12_next 201 = .ok (.putfield 293, 3) := by decide +kernel
theorem dX12_next_204 : decode cX12_next 204 = .ok (.aload_n 0, 1) := by decide +kernel
theorem dX12_next_205 : decode cX12_next 205 = .ok (.lconst 0, 1) := by decide +kernel
theorem dX12_next_206 : decode cX12_next 206 = .ok (.putfield 300, 3) := by decide +kernel
theorem dX12_next_209 : decode cX12_next 209 = .ok (.iconst 0, 1) := by decide +kernel
theorem dX12_next_210 : decode cX12_next 210 = .ok (.istore_n 2, 1) := by decide +kernel
theorem dX12_next_211 : decode cX12_next 211 = .ok (.aload_n 0, 1) := by decide +kernel
theorem dX12_next_212 : decode cX12_next 212 = .ok (.aload_n 0, 1) := by decide +kernel
theorem dX12_next_213 : decode cX12_next 213 = .ok (.getfield 284, 3) := by decide +kernel
theorem dX12_next_216 : decode cX12_next 216 = .ok (.invokevirtual 287, 3) := by decide +kernel
theorem dX12_next_219 : decode cX12_next 219 = .ok (.i2l, 1) := by decide +kernel
theorem dX12_next_220 : decode cX12_next 220 = .ok (.ldc2_w 310, 3) := by decide +kernel
theorem dX12_next_223 : decode cX12_next 223 = .ok (.ldc2_w 312, 3) := by decide +kernel
theorem dX12_next_226 : decode cX12_next 226 = .ok (.invokestatic 156, 3) := by decide +kernel
theorem dX12_next_229 : decode cX12_next 229 = .ok (.ifCond .eq 57, 3) := by decide +kernel
theorem dX12_next_232 : decode cX12_next 232 = .ok (.aload_n 0, 1) := by decide +kernel
theorem dX12_next_233 : decode cX12_next 233 = .ok (.iload_n 2, 1) := by decide +kernel
theorem dX12_next_234 : decode cX12_next 234 = .ok (.iconst 4, 1) := by decide +kernel
theorem dX12_next_235 : decode cX12_next 235 = .ok (.if_icmp .ge 28, 3) := by decide +kernel
theorem dX12_next_238 : decode cX12_next 238 = .ok (.ldc2_w 314, 3) := by decide +kernel
theorem dX12_next_241 : decode cX12_next 241 = .ok (.aload_n 0, 1) := by decide +kernel
theorem dX12_next_242 : decode cX12_next 242 = .ok (.getfield 300, 3) := by decide +kernel
theorem dX12_next_245 : decode cX12_next 245 = .ok (.lmul, 1) := by decide +kernel
theorem dX12_next_246 : decode cX12_next 246 = .ok (.aload_n 0, 1) := by decide +kernel
theorem dX12_next_247 : decode cX12_next 247 = .ok (.aload_n 0, 1) := by decide +kernel
theorem dX12_next_248 : decode cX12_next 248 = .ok (.getfield 284, 3) := by decide +kernel
theorem dX12_next_251 : decode cX12_next 251 = .ok (.invokevirtual 287, 3) := by decide +kernel
theorem dX12_next_254 : decode cX12_next 254 = .ok (.i2l, 1) := by decide +kernel
theorem dX12_next_255 : decode cX12_next 255 = .ok (.ladd, 1) := by decide +kernel
theorem dX12_next_256 : decode cX12_next 256 = .ok (.ldc2_w 310, 3) := by decide +kernel
theorem dX12_next_259 : decode cX12_next 259 = .ok (.lsub, 1) := by decide +kernel
theorem dX12_next_260 : decode cX12_next 260 = .ok (.goto 7, 3) := by decide +kernel
theorem dX12_next_263 : decode cX12_next 263 = .ok (.aload_n 0, 1) := by decide +kernel
theorem dX12_next_264 : decode cX12_next 264 = .ok (.getfield 300, 3) := by decide +kernel
theorem dX12_next_267 : decode cX12_next 267 = .ok (.putfield 300, 3) := by decide +kernel
theorem dX12_next_270 : decode cX12_next 270 = .ok (.iinc 2 1, 3) := by decide +kernel
theorem dX12_next_273 : decode cX12_next 273 = .ok (.aload_n 0, 1) := by decide +kernel
theorem dX12_next_274 : decode cX12_next 274 = .ok (.dup, 1) := by decide +kernel
theorem dX12_next_275 : decode cX12_next 275 = .ok (.getfield 284, 3) := by decide +kernel
theorem dX12_next_278 : decode cX12_next 278 = .ok (.iconst 1, 1) := by decide +kernel
theorem dX12_next_279 : decode cX12_next 279 = .ok (.iadd, 1) := by decide +kernel
theorem dX12_next_280 : decode cX12_next 280 = .ok (.putfield 284, 3) := by decide +kernel
theorem dX12_next_283 : decode cX12_next 283 = .ok (.goto (-72), 3) := by decide +kernel
theorem dX12_next_286 : decode cX12_next 286 = .ok (.aload_n 0, 1) := by decide +kernel
theorem dX12_next_287 : decode cX12_next 287 = .ok (.iload_n 2, 1) := by decide +kernel
theorem dX12_next_288 : decode cX12_next 288 = .ok (.iconst 4, 1) := by decide +kernel
theorem dX12_next_289 : decode cX12_next 289 = .ok (.if_icmp .le 7, 3) := by decide +kernel
theorem dX12_next_292 : decode cX12_next 292 = .ok (.iconst 4, 1) := by decide +kernel
theorem dX12_next_293 : decode cX12_next 293 = .ok (.goto 4, 3) := by decide +kernel
theorem dX12_next_296 : decode cX12_next 296 = .ok (.iconst 2, 1) := by decide +kernel
theorem dX12_next_297 : decode cX12_next 297 = .ok (.putfield 293, 3) := by decide +kernel
theorem dX12_next_300 : decode cX12_next 300 = .ok (.goto 72, 3) := by decide +kernel
theorem dX12_next_303 : decode cX12_next 303 = .ok (.iload_n 1, 1) := by decide +kernel
theorem dX12_next_304 : decode cX12_next 304 = .ok (.bipush 40, 2) := by decide +kernel
theorem dX12_next_306 : decode cX12_next 306 = .ok (.if_icmp .eq 45, 3) := by decide +kernel
theorem dX12_next_309 : decode cX12_next 309 = .ok (.iload_n 1, 1) := by decide +kernel
theorem dX12_next_310 : decode cX12_next 310 = .ok (.bipush 41, 2) := by decide +kernel
theorem dX12_next_312 : decode cX12_next 312 = .ok (.if_icmp .eq 39, 3) := by decide +kernel
theorem dX12_next_315 : decode cX12_next 315 = .ok (.iload_n 1, 1) := by decide +kernel
theorem dX12_next_316 : decode cX12_next 316 = .ok (.bipush 59, 2) := by decide +kernel
theorem dX12_next_318 : decode cX12_next 318 = .ok (.if_icmp .eq 33, 3) := by decide +kernel
theorem dX12_next_321 : decode cX12_next 321 = .ok (.iload_n 1, 1) := by decide +kernel
theorem dX12_next_322 : decode cX12_next 322 = .ok (.bipush 43, 2) := by decide +kernel
theorem dX12_next_324 : decode cX12_next 324 = .ok (.if_icmp .eq 27, 3) := by decide +kernel
theorem dX12_next_327 : decode cX12_next 327 = .ok (.iload_n 1, 1) := by decide +kernel
theorem dX12_next_328 : decode cX12_next 328 = .ok (.bipush 45, 2) := by decide +kernel
theorem dX12_next_330 : decode cX12_next 330 = .ok (.if_icmp .eq 21, 3) := by decide +kernel
theorem dX12_next_333 : decode cX12_next 333 = .ok (.iload_n 1, 1) := by decide +kernel
theorem dX12_next_334 : decode cX12_next 334 = .ok (.bipush 42, 2) := by decide +kernel
theorem dX12_next_336 : decode cX12_next 336 = .ok (.if_icmp .eq 15, 3) := by decide +kernel
theorem dX12_next_339 : decode cX12_next 339 = .ok (.iload_n 1, 1) := by decide +kernel
theorem dX12_next_340 : decode cX12_next 340 = .ok (.bipush 60, 2) := by decide +kernel
theorem dX12_next_342 : decode cX12_next 342 = .ok (.if_icmp .eq 9, 3) := by decide +kernel
theorem dX12_next_345 : decode cX12_next 345 = .ok (.iload_n 1, 1) := by decide +kernel
theorem dX12_next_346 : decode cX12_next 346 = .ok (.bipush 61, 2) := by decide +kernel
theorem dX12_next_348 : decode cX12_next 348 = .ok (.if_icmp .ne 24, 3) := by decide +kernel
theorem dX12_next_351 : decode cX12_next 351 = .ok (.aload_n 0, 1) := by decide +kernel
theorem dX12_next_352 : decode cX12_next 352 = .ok (.iconst 3, 1) := by decide +kernel
theorem dX12_next_353 : decode cX12_next 353 = .ok (.putfield 293, 3) := by decide +kernel
theorem dX12_next_356 : decode cX12_next 356 = .ok (.aload_n 0, 1) := by decide +kernel
theorem dX12_next_357 : decode cX12_next 357 = .ok (.iload_n 1, 1) := by decide +kernel
theorem dX12_next_358 : decode cX12_next 358 = .ok (.i2l, 1) := by decide +kernel
theorem dX12_next_359 : decode cX12_next 359 = .ok (.putfield 300, 3) := by decide +kernel
theorem dX12_next_362 : decode cX12_next 362 = .ok (.aload_n 0, 1) := by decide +kernel
theorem dX12_next_363 : decode cX12_next 363 = .ok (.dup, 1) := by decide +kernel
theorem dX12_next_364 : decode cX12_next 364 = .ok (.getfield 284, 3) := by decide +kernel
theorem dX12_next_367 : decode cX12_next 367 = .ok (.iconst 1, 1) := by decide +kernel
theorem dX12_next_368 : decode cX12_next 368 = .ok (.iadd, 1) := by decide +kernel
theorem dX12_next_369 : decode cX12_next 369 = .ok (.putfield 284, 3) := by decide +kernel
theorem dX12_next_372 : decode cX12_next 372 = .ok (.return_, 1) := by decide +kernel
theorem dX12_fail_0 : decode cX12_fail 0 = .ok (.aload_n 0, 1) := by decide +kernel
theorem dX12_fail_1 : decode cX12_fail 1 = .ok (.getfield 316, 3) := by decide +kernel
theorem dX12_fail_4 : decode cX12_fail 4 = .ok (.ifCond .ne 16, 3) := by decide +kernel
theorem dX12_fail_7 : decode cX12_fail 7 = .ok (.aload_n 0, 1) := by decide +kernel
theorem dX12_fail_8 : decode cX12_fail 8 = .ok (.iconst 1, 1) := by decide +kernel
theorem dX12_fail_9 : decode cX12_fail 9 = .ok (.putfield 316, 3) := by decide +kernel
theorem dX12_fail_12 : decode cX12_fail 12 = .ok (.aload_n 0, 1) := by decide +kernel
theorem dX12_fail_13 : decode cX12_fail 13 = .ok (.aload_n 0, 1) := by decide +kernel
theorem dX12_fail_14 : decode cX12_fail 14 = .ok (.getfield 290, 3) := by decide +kernel
theorem dX12_fail_17 : decode cX12_fail 17 = .ok (.putfield 320, 3) := by decide +kernel
theorem dX12_fail_20 : decode cX12_fail 20 = .ok (.return_, 1) := by decide +kernel
theorem dX12_isWord_0 : decode cX12_isWord 0 = .ok (.aload_n 0, 1) := by decide +kernel
theorem dX12_isWord_1 : decode cX12_isWord 1 = .ok (.getfield 316, 3) := by decide +kernel
theorem dX12_isWord_4 : decode cX12_isWord 4 = .ok (.ifCond .ne 24, 3) := by decide +kernel
theorem dX12_isWord_7 : decode cX12_isWord 7 = .ok (.aload_n 0, 1) := by decide +kernel
theorem dX12_isWord_8 : decode cX12_isWord 8 = .ok (.getfield 293, 3) := by decide +kernel
theorem dX12_isWord_11 : decode cX12_isWord 11 = .ok (.iconst 1, 1) := by decide +kernel
theorem dX12_isWord_12 : decode cX12_isWord 12 = .ok (.if_icmp .ne 16, 3) := by decide +kernel
theorem dX12_isWord_15 : decode cX12_isWord 15 = .ok (.aload_n 0, 1) := by decide +kernel
theorem dX12_isWord_16 : decode cX12_isWord 16 = .ok (.getfield 300, 3) := by decide +kernel
theorem dX12_isWord_19 : decode cX12_isWord 19 = .ok (.lload_n 1, 1) := by decide +kernel
theorem dX12_isWord_20 : decode cX12_isWord 20 = .ok (.lcmp, 1) := by decide +kernel
theorem dX12_isWord_21 : decode cX12_isWord 21 = .ok (.ifCond .ne 7, 3) := by decide +kernel
theorem dX12_isWord_24 : decode cX12_isWord 24 = .ok (.iconst 1, 1) := by decide +kernel
theorem dX12_isWord_25 : decode cX12_isWord 25 = .ok (.goto 4, 3) := by decide +kernel
theorem dX12_isWord_28 : decode cX12_isWord 28 = .ok (.iconst 0, 1) := by decide +kernel
theorem dX12_isWord_29 : decode cX12_isWord 29 = .ok (.ireturn, 1) := by decide +kernel
theorem dX12_isSign_0 : decode cX12_isSign 0 = .ok (.aload_n 0, 1) := by decide +kernel
theorem dX12_isSign_1 : decode cX12_isSign 1 = .ok (.getfield 316, 3) := by decide +kernel
theorem dX12_isSign_4 : decode cX12_isSign 4 = .ok (.ifCond .ne 25, 3) := by decide +kernel
theorem dX12_isSign_7 : decode cX12_isSign 7 = .ok (.aload_n 0, 1) := by decide +kernel
theorem dX12_isSign_8 : decode cX12_isSign 8 = .ok (.getfield 293, 3) := by decide +kernel
theorem dX12_isSign_11 : decode cX12_isSign 11 = .ok (.iconst 3, 1) := by decide +kernel
theorem dX12_isSign_12 : decode cX12_isSign 12 = .ok (.if_icmp .ne 17, 3) := by decide +kernel
theorem dX12_isSign_15 : decode cX12_isSign 15 = .ok (.aload_n 0, 1) := by decide +kernel
theorem dX12_isSign_16 : decode cX12_isSign 16 = .ok (.getfield 300, 3) := by decide +kernel
theorem dX12_isSign_19 : decode cX12_isSign 19 = .ok (.iload_n 1, 1) := by decide +kernel
theorem dX12_isSign_20 : decode cX12_isSign 20 = .ok (.i2l, 1) := by decide +kernel
theorem dX12_isSign_21 : decode cX12_isSign 21 = .ok (.lcmp, 1) := by decide +kernel
theorem dX12_isSign_22 : decode cX12_isSign 22 = .ok (.ifCond .ne 7, 3) := by decide +kernel
theorem dX12_isSign_25 : decode cX12_isSign 25 = .ok (.iconst 1, 1) := by decide +kernel
theorem dX12_isSign_26 : decode cX12_isSign 26 = .ok (.goto 4, 3) := by decide +kernel
theorem dX12_isSign_29 : decode cX12_isSign 29 = .ok (.iconst 0, 1) := by decide +kernel
theorem dX12_isSign_30 : decode cX12_isSign 30 = .ok (.ireturn, 1) := by decide +kernel
theorem sb_wsX12_opens_wsX12_opens_r1 : ∀ w ∈ wsX12_opens_r1, w ∈ wsX12_opens := fun _ h => (List.mem_cons_of_mem _ (List.mem_append_left _ (List.mem_append_left _ h)))
theorem sb_wsX12_opens_wsX12_opens_r2 : ∀ w ∈ wsX12_opens_r2, w ∈ wsX12_opens := fun _ h => (List.mem_cons_of_mem _ (List.mem_append_left _ (List.mem_append_right _ h)))
theorem sb_wsX12_opens_wsX120 : ∀ w ∈ wsX120, w ∈ wsX12_opens := fun _ h => (List.mem_cons_of_mem _ (List.mem_append_right _ h))
set_option maxRecDepth 20000 in
theorem ggX12_opens_X12_fail : GoodIn wsX12_opens wsX12_fail := goodIn_sub (x_mc (sb_wsX12_opens_wsX12_opens_r1 _ (List.mem_of_getElem? (i := 5) rfl)) (x_ina (x_mc (sb_wsX12_opens_wsX12_opens_r1 _ (List.mem_of_getElem? (i := 6) rfl)) (x_mc (sb_wsX12_opens_wsX12_opens_r1 _ (List.mem_of_getElem? (i := 7) rfl)) (x_mc (sb_wsX12_opens_wsX12_opens_r1 _ (List.mem_of_getElem? (i := 8) rfl)) x_mn))) (fun _ h => sb_wsX12_opens_wsX120 _ h))) (by decide +kernel)
set_option maxRecDepth 20000 in
theorem gX12_opens_X12_fail : GoodIn wsX12_opens (wsV RX12 326 RX12 yX12_fail wsX12_fail) := goodIn_app (goodIn_of _ (by decide +kernel)) ggX12_opens_X12_fail
set_option maxRecDepth 20000 in
theorem ggX12_opens_X12_next : GoodIn wsX12_opens wsX12_next := goodIn_sub (x_mc (sb_wsX12_opens_wsX12_opens_r1 _ (List.mem_of_getElem? (i := 12) rfl)) (x_ina (x_mc (sb_wsX12_opens_wsX12_opens_r1 _ (List.mem_of_getElem? (i := 13) rfl)) (x_mc (sb_wsX12_opens_wsX12_opens_r1 _ (List.mem_of_getElem? (i := 7) rfl)) (x_mc (sb_wsX12_opens_wsX12_opens_r1 _ (List.mem_of_getElem? (i := 14) rfl)) (x_mc (sb_wsX12_opens_wsX12_opens_r1 _ (List.mem_of_getElem? (i := 15) rfl)) (x_mc (sb_wsX12_opens_wsX12_opens_r1 _ (List.mem_of_getElem? (i := 16) rfl)) (x_mc (sb_wsX12_opens_wsX12_opens_r1 _ (List.mem_of_getElem? (i := 17) rfl)) (x_mc (sb_wsX12_opens_wsX12_opens_r1 _ (List.mem_of_getElem? (i := 18) rfl)) (x_mc (sb_wsX12_opens_wsX12_opens_r1 _ (List.mem_of_getElem? (i := 19) rfl)) (x_mc (sb_wsX12_opens_wsX12_opens_r1 _ (List.mem_of_getElem? (i := 20) rfl)) (x_mc (sb_wsX12_opens_wsX12_opens_r1 _ (List.mem_of_getElem? (i := 21) rfl)) (x_mc (sb_wsX12_opens_wsX12_opens_r1 _ (List.mem_of_getElem? (i := 22) rfl)) (x_mc (sb_wsX12_opens_wsX12_opens_r1 _ (List.mem_of_getElem? (i := 23) rfl)) (x_mc (sb_wsX12_opens_wsX12_opens_r2 _ (List.mem_of_getElem? (i := 0) rfl)) (x_mc (sb_wsX12_opens_wsX12_opens_r2 _ (List.mem_of_getElem? (i := 1) rfl)) (x_mc (sb_wsX12_opens_wsX12_opens_r2 _ (List.mem_of_getElem? (i := 2) rfl)) (x_mc (sb_wsX12_opens_wsX12_opens_r2 _ (List.mem_of_getElem? (i := 3) rfl)) (x_mc (sb_wsX12_opens_wsX12_opens_r1 _ (List.mem_of_getElem? (i := 4) rfl)) (x_mc (sb_wsX12_opens_wsX12_opens_r2 _ (List.mem_of_getElem? (i := 4) rfl)) (x_mc (sb_wsX12_opens_wsX12_opens_r2 _ (List.mem_of_getElem? (i := 5) rfl)) (x_mc (sb_wsX12_opens_wsX12_opens_r2 _ (List.mem_of_getElem? (i := 6) rfl)) (x_mc (sb_wsX12_opens_wsX12_opens_r2 _ (List.mem_of_getElem? (i := 7) rfl)) (x_mc (sb_wsX12_opens_wsX12_opens_r2 _ (List.mem_of_getElem? (i := 8) rfl)) (x_mc (sb_wsX12_opens_wsX12_opens_r2 _ (List.mem_of_getElem? (i := 9) rfl)) x_mn))))))))))))))))))))))) (fun _ h => sb_wsX12_opens_wsX120 _ h))) (by decide +kernel)
set_option maxRecDepth 20000 in
theorem gX12_opens_X12_next : GoodIn wsX12_opens (wsV RX12 329 RX12 yX12_next wsX12_next) := goodIn_app (goodIn_of _ (by decide +kernel)) ggX12_opens_X12_next
theorem dX12_opens_0 : decode cX12_opens 0 = .ok (.aload_n 0, 1) := by decide +kernel
theorem dX12_opens_1 : decode cX12_opens 1 = .ok (.getfield 323, 3) := by decide +kernel
theorem dX12_opens_4 : decode cX12_opens 4 = .ok (.iconst 5, 1) := by decide +kernel
theorem dX12_opens_5 : decode cX12_opens 5 = .ok (.if_icmp .ne 9, 3) := by decide +kernel
theorem dX12_opens_8 : decode cX12_opens 8 = .ok (.aload_n 0, 1) := by decide +kernel
theorem dX12_opens_9 : decode cX12_opens 9 = .ok (.invokevirtual 326, 3) := by decide +kernel
theorem dX12_opens_12 : decode cX12_opens 12 = .ok (.iconst 0, 1) := by decide +kernel
theorem dX12_opens_13 : decode cX12_opens 13 = .ok (.ireturn, 1) := by decide +kernel
theorem dX12_opens_14 : decode cX12_opens 14 = .ok (.aload_n 0, 1) := by decide +kernel
theorem dX12_opens_15 : decode cX12_opens 15 = .ok (.dup, 1) := by decide +kernel
theorem dX12_opens_16 : decode cX12_opens 16 = .ok (.getfield 323, 3) := by decide +kernel
theorem dX12_opens_19 : decode cX12_opens 19 = .ok (.iconst 1, 1) := by decide +kernel
theorem dX12_opens_20 : decode cX12_opens 20 = .ok (.iadd, 1) := by decide +kernel
theorem dX12_opens_21 : decode cX12_opens 21 = .ok (.putfield 323, 3) := by decide +kernel
theorem dX12_opens_24 : decode cX12_opens 24 = .ok (.aload_n 0, 1) := by decide +kernel
theorem dX12_opens_25 : decode cX12_opens 25 = .ok (.invokevirtual 329, 3) := by decide +kernel
theorem dX12_opens_28 : decode cX12_opens 28 = .ok (.iconst 1, 1) := by decide +kernel
theorem dX12_opens_29 : decode cX12_opens 29 = .ok (.ireturn, 1) := by decide +kernel
theorem sb_wsX12_name_wsX12_name_r1 : ∀ w ∈ wsX12_name_r1, w ∈ wsX12_name := fun _ h => (List.mem_cons_of_mem _ (List.mem_append_left _ (List.mem_append_left _ h)))
theorem sb_wsX12_name_wsX12_name_r2 : ∀ w ∈ wsX12_name_r2, w ∈ wsX12_name := fun _ h => (List.mem_cons_of_mem _ (List.mem_append_left _ (List.mem_append_right _ h)))
theorem sb_wsX12_name_wsX120 : ∀ w ∈ wsX120, w ∈ wsX12_name := fun _ h => (List.mem_cons_of_mem _ (List.mem_append_right _ h))
set_option maxRecDepth 20000 in
theorem ggX12_name_X12_isWord : GoodIn wsX12_name wsX12_isWord := goodIn_sub (x_mc (sb_wsX12_name_wsX12_name_r1 _ (List.mem_of_getElem? (i := 16) rfl)) (x_ina (x_mc (sb_wsX12_name_wsX12_name_r1 _ (List.mem_of_getElem? (i := 17) rfl)) (x_mc (sb_wsX12_name_wsX12_name_r1 _ (List.mem_of_getElem? (i := 18) rfl)) (x_mc (sb_wsX12_name_wsX12_name_r1 _ (List.mem_of_getElem? (i := 19) rfl)) x_mn))) (fun _ h => sb_wsX12_name_wsX120 _ h))) (by decide +kernel)
set_option maxRecDepth 20000 in
theorem gX12_name_X12_isWord : GoodIn wsX12_name (wsV RX12 334 RX12 yX12_isWord wsX12_isWord) := goodIn_app (goodIn_of _ (by decide +kernel)) ggX12_name_X12_isWord
set_option maxRecDepth 20000 in
theorem ggX12_name_X12_fail : GoodIn wsX12_name wsX12_fail := goodIn_sub (x_mc (sb_wsX12_name_wsX12_name_r1 _ (List.mem_of_getElem? (i := 23) rfl)) (x_ina (x_mc (sb_wsX12_name_wsX12_name_r1 _ (List.mem_of_getElem? (i := 17) rfl)) (x_mc (sb_wsX12_name_wsX12_name_r2 _ (List.mem_of_getElem? (i := 0) rfl)) (x_mc (sb_wsX12_name_wsX12_name_r2 _ (List.mem_of_getElem? (i := 1) rfl)) x_mn))) (fun _ h => sb_wsX12_name_wsX120 _ h))) (by decide +kernel)
set_option maxRecDepth 20000 in
theorem gX12_name_X12_fail : GoodIn wsX12_name (wsV RX12 326 RX12 yX12_fail wsX12_fail) := goodIn_app (goodIn_of _ (by decide +kernel)) ggX12_name_X12_fail
theorem dX12_name_0 : decode cX12_name 0 = .ok (.aload_n 0, 1) := by decide +kernel
theorem dX12_name_1 : decode cX12_name 1 = .ok (.ldc2_w 332, 3) := by decide +kernel
theorem dX12_name_4 : decode cX12_name 4 = .ok (.invokevirtual 334, 3) := by decide +kernel
theorem dX12_name_7 : decode cX12_name 7 = .ok (.ifCond .eq 8, 3) := by decide +kernel
theorem dX12_name_10 : decode cX12_name 10 = .ok (.aload_n 0, 1) := by decide +kernel
theorem dX12_name_11 : decode cX12_name 11 = .ok (.getfield 338, 3) := by decide +kernel
theorem dX12_name_14 : decode cX12_name 14 = .ok (.ireturn, 1) := by decide +kernel
theorem dX12_name_15 : decode cX12_name 15 = .ok (.aload_n 0, 1) := by decide +kernel
theorem dX12_name_16 : decode cX12_name 16 = .ok (.ldc2_w 341, 3) := by decide +kernel
theorem dX12_name_19 : decode cX12_name 19 = .ok (.invokevirtual 334, 3) := by decide +kernel
theorem dX12_name_22 : decode cX12_name 22 = .ok (.ifCond .eq 8, 3) := by decide +kernel
theorem dX12_name_25 : decode cX12_name 25 = .ok (.aload_n 0, 1) := by decide +kernel
theorem dX12_name_26 : decode cX12_name 26 = .ok (.getfield 343, 3) := by decide +kernel
theorem dX12_name_29 : decode cX12_name 29 = .ok (.ireturn, 1) := by decide +kernel
theorem dX12_name_30 : decode cX12_name 30 = .ok (.aload_n 0, 1) := by decide +kernel
theorem dX12_name_31 : decode cX12_name 31 = .ok (.ldc2_w 346, 3) := by decide +kernel
theorem dX12_name_34 : decode cX12_name 34 = .ok (.invokevirtual 334, 3) := by decide +kernel
theorem dX12_name_37 : decode cX12_name 37 = .ok (.ifCond .eq 8, 3) := by decide +kernel
theorem dX12_name_40 : decode cX12_name 40 = .ok (.aload_n 0, 1) := by decide +kernel
theorem dX12_name_41 : decode cX12_name 41 = .ok (.getfield 348, 3) := by decide +kernel
theorem dX12_name_44 : decode cX12_name 44 = .ok (.ireturn, 1) := by decide +kernel
theorem dX12_name_45 : decode cX12_name 45 = .ok (.aload_n 0, 1) := by decide +kernel
theorem dX12_name_46 : decode cX12_name 46 = .ok (.ldc2_w 351, 3) := by decide +kernel
theorem dX12_name_49 : decode cX12_name 49 = .ok (.invokevirtual 334, 3) := by decide +kernel
theorem dX12_name_52 : decode cX12_name 52 = .ok (.ifCond .eq 8, 3) := by decide +kernel
theorem dX12_name_55 : decode cX12_name 55 = .ok (.aload_n 0, 1) := by decide +kernel
theorem dX12_name_56 : decode cX12_name 56 = .ok (.getfield 353, 3) := by decide +kernel
theorem dX12_name_59 : decode cX12_name 59 = .ok (.ireturn, 1) := by decide +kernel
theorem dX12_name_60 : decode cX12_name 60 = .ok (.aload_n 0, 1) := by decide +kernel
theorem dX12_name_61 : decode cX12_name 61 = .ok (.ldc2_w 356, 3) := by decide +kernel
theorem dX12_name_64 : decode cX12_name 64 = .ok (.invokevirtual 334, 3) := by decide +kernel
theorem dX12_name_67 : decode cX12_name 67 = .ok (.ifCond .eq 8, 3) := by decide +kernel
theorem dX12_name_70 : decode cX12_name 70 = .ok (.aload_n 0, 1) := by decide +kernel
theorem dX12_name_71 : decode cX12_name 71 = .ok (.getfield 358, 3) := by decide +kernel
theorem dX12_name_74 : decode cX12_name 74 = .ok (.ireturn, 1) := by decide +kernel
theorem dX12_name_75 : decode cX12_name 75 = .ok (.aload_n 0, 1) := by decide +kernel
theorem dX12_name_76 : decode cX12_name 76 = .ok (.ldc2_w 361, 3) := by decide +kernel
theorem dX12_name_79 : decode cX12_name 79 = .ok (.invokevirtual 334, 3) := by decide +kernel
theorem dX12_name_82 : decode cX12_name 82 = .ok (.ifCond .eq 8, 3) := by decide +kernel
theorem dX12_name_85 : decode cX12_name 85 = .ok (.aload_n 0, 1) := by decide +kernel
theorem dX12_name_86 : decode cX12_name 86 = .ok (.getfield 363, 3) := by decide +kernel
theorem dX12_name_89 : decode cX12_name 89 = .ok (.ireturn, 1) := by decide +kernel
theorem dX12_name_90 : decode cX12_name 90 = .ok (.aload_n 0, 1) := by decide +kernel
theorem dX12_name_91 : decode cX12_name 91 = .ok (.invokevirtual 326, 3) := by decide +kernel
theorem dX12_name_94 : decode cX12_name 94 = .ok (.iconst 0, 1) := by decide +kernel
theorem dX12_name_95 : decode cX12_name 95 = .ok (.ireturn, 1) := by decide +kernel
theorem sb_wsX12_one_wsX12_one_r1 : ∀ w ∈ wsX12_one_r1, w ∈ wsX12_one := fun _ h => (List.mem_cons_of_mem _ (List.mem_append_left _ (List.mem_append_left _ h)))
theorem sb_wsX12_one_wsX12_one_r2 : ∀ w ∈ wsX12_one_r2, w ∈ wsX12_one := fun _ h => (List.mem_cons_of_mem _ (List.mem_append_left _ (List.mem_append_right _ (List.mem_append_left _ h))))
theorem sb_wsX12_one_wsX12_one_r3 : ∀ w ∈ wsX12_one_r3, w ∈ wsX12_one := fun _ h => (List.mem_cons_of_mem _ (List.mem_append_left _ (List.mem_append_right _ (List.mem_append_right _ (List.mem_append_left _ h)))))
theorem sb_wsX12_one_wsX12_one_r4 : ∀ w ∈ wsX12_one_r4, w ∈ wsX12_one := fun _ h => (List.mem_cons_of_mem _ (List.mem_append_left _ (List.mem_append_right _ (List.mem_append_right _ (List.mem_append_right _ h)))))
theorem sb_wsX12_one_wsX120 : ∀ w ∈ wsX120, w ∈ wsX12_one := fun _ h => (List.mem_cons_of_mem _ (List.mem_append_right _ h))
set_option maxRecDepth 20000 in
theorem ggX12_one_X12_isSign : GoodIn wsX12_one wsX12_isSign := goodIn_sub (x_mc (sb_wsX12_one_wsX12_one_r1 _ (List.mem_of_getElem? (i := 8) rfl)) (x_ina (x_mc (sb_wsX12_one_wsX12_one_r1 _ (List.mem_of_getElem? (i := 1) rfl)) (x_mc (sb_wsX12_one_wsX12_one_r1 _ (List.mem_of_getElem? (i := 2) rfl)) (x_mc (sb_wsX12_one_wsX12_one_r1 _ (List.mem_of_getElem? (i := 3) rfl)) x_mn))) (fun _ h => sb_wsX12_one_wsX120 _ h))) (by decide +kernel)
set_option maxRecDepth 20000 in
theorem gX12_one_X12_isSign : GoodIn wsX12_one (wsV RX12 366 RX12 yX12_isSign wsX12_isSign) := goodIn_app (goodIn_of _ (by decide +kernel)) ggX12_one_X12_isSign
set_option maxRecDepth 20000 in
theorem ggX12_one_X12_opens : GoodIn wsX12_one wsX12_opens := goodIn_sub (x_mc (sb_wsX12_one_wsX12_one_r1 _ (List.mem_of_getElem? (i := 12) rfl)) (x_ina (x_ina (x_mc (sb_wsX12_one_wsX12_one_r1 _ (List.mem_of_getElem? (i := 0) rfl)) (x_mc (sb_wsX12_one_wsX12_one_r1 _ (List.mem_of_getElem? (i := 13) rfl)) (x_mc (sb_wsX12_one_wsX12_one_r1 _ (List.mem_of_getElem? (i := 14) rfl)) (x_mc (sb_wsX12_one_wsX12_one_r1 _ (List.mem_of_getElem? (i := 15) rfl)) (x_mc (sb_wsX12_one_wsX12_one_r1 _ (List.mem_of_getElem? (i := 7) rfl)) (x_mc (sb_wsX12_one_wsX12_one_r1 _ (List.mem_of_getElem? (i := 16) rfl)) (x_mc (sb_wsX12_one_wsX12_one_r1 _ (List.mem_of_getElem? (i := 1) rfl)) (x_mc (sb_wsX12_one_wsX12_one_r1 _ (List.mem_of_getElem? (i := 17) rfl)) (x_mc (sb_wsX12_one_wsX12_one_r1 _ (List.mem_of_getElem? (i := 18) rfl)) (x_mc (sb_wsX12_one_wsX12_one_r1 _ (List.mem_of_getElem? (i := 19) rfl)) (x_mc (sb_wsX12_one_wsX12_one_r1 _ (List.mem_of_getElem? (i := 20) rfl)) (x_mc (sb_wsX12_one_wsX12_one_r1 _ (List.mem_of_getElem? (i := 21) rfl)) (x_mc (sb_wsX12_one_wsX12_one_r1 _ (List.mem_of_getElem? (i := 22) rfl)) (x_mc (sb_wsX12_one_wsX12_one_r1 _ (List.mem_of_getElem? (i := 23) rfl)) (x_mc (sb_wsX12_one_wsX12_one_r1 _ (List.mem_of_getElem? (i := 2) rfl)) (x_mc (sb_wsX12_one_wsX12_one_r2 _ (List.mem_of_getElem? (i := 0) rfl)) (x_mc (sb_wsX12_one_wsX12_one_r2 _ (List.mem_of_getElem? (i := 1) rfl)) (x_mc (sb_wsX12_one_wsX12_one_r2 _ (List.mem_of_getElem? (i := 2) rfl)) (x_mc (sb_wsX12_one_wsX12_one_r1 _ (List.mem_of_getElem? (i := 3) rfl)) (x_mc (sb_wsX12_one_wsX12_one_r2 _ (List.mem_of_getElem? (i := 3) rfl)) (x_mc (sb_wsX12_one_wsX12_one_r2 _ (List.mem_of_getElem? (i := 4) rfl)) (x_mc (sb_wsX12_one_wsX12_one_r2 _ (List.mem_of_getElem? (i := 5) rfl)) (x_mc (sb_wsX12_one_wsX12_one_r2 _ (List.mem_of_getElem? (i := 6) rfl)) (x_mc (sb_wsX12_one_wsX12_one_r2 _ (List.mem_of_getElem? (i := 7) rfl)) x_mn)))))))))))))))))))))))) (x_mc (sb_wsX12_one_wsX12_one_r2 _ (List.mem_of_getElem? (i := 8) rfl)) (x_mc (sb_wsX12_one_wsX12_one_r2 _ (List.mem_of_getElem? (i := 9) rfl)) (x_mc (sb_wsX12_one_wsX12_one_r2 _ (List.mem_of_getElem? (i := 10) rfl)) (x_mc (sb_wsX12_one_wsX12_one_r2 _ (List.mem_of_getElem? (i := 11) rfl)) (x_mc (sb_wsX12_one_wsX12_one_r2 _ (List.mem_of_getElem? (i := 12) rfl)) (x_mc (sb_wsX12_one_wsX12_one_r2 _ (List.mem_of_getElem? (i := 13) rfl)) (x_mc (sb_wsX12_one_wsX12_one_r2 _ (List.mem_of_getElem? (i := 14) rfl)) (x_mc (sb_wsX12_one_wsX12_one_r2 _ (List.mem_of_getElem? (i := 15) rfl)) (x_mc (sb_wsX12_one_wsX12_one_r2 _ (List.mem_of_getElem? (i := 16) rfl)) (x_mc (sb_wsX12_one_wsX12_one_r2 _ (List.mem_of_getElem? (i := 17) rfl)) x_mn))))))))))) (fun _ h => sb_wsX12_one_wsX120 _ h))) (by decide +kernel)
set_option maxRecDepth 20000 in
theorem gX12_one_X12_opens : GoodIn wsX12_one (wsV RX12 369 RX12 yX12_opens wsX12_opens) := goodIn_app (goodIn_of _ (by decide +kernel)) ggX12_one_X12_opens
set_option maxRecDepth 20000 in
theorem ggX12_one_X12_one : GoodIn wsX12_one wsX12_one := goodIn_sub (x_mc List.mem_cons_self (x_ina (x_ina (x_mc (sb_wsX12_one_wsX12_one_r1 _ (List.mem_of_getElem? (i := 0) rfl)) (x_mc (sb_wsX12_one_wsX12_one_r1 _ (List.mem_of_getElem? (i := 1) rfl)) (x_mc (sb_wsX12_one_wsX12_one_r1 _ (List.mem_of_getElem? (i := 2) rfl)) (x_mc (sb_wsX12_one_wsX12_one_r1 _ (List.mem_of_getElem? (i := 3) rfl)) (x_mc (sb_wsX12_one_wsX12_one_r1 _ (List.mem_of_getElem? (i := 4) rfl)) (x_mc (sb_wsX12_one_wsX12_one_r1 _ (List.mem_of_getElem? (i := 5) rfl)) (x_mc (sb_wsX12_one_wsX12_one_r1 _ (List.mem_of_getElem? (i := 6) rfl)) (x_mc (sb_wsX12_one_wsX12_one_r1 _ (List.mem_of_getElem? (i := 7) rfl)) (x_mc (sb_wsX12_one_wsX12_one_r1 _ (List.mem_of_getElem? (i := 8) rfl)) (x_mc (sb_wsX12_one_wsX12_one_r1 _ (List.mem_of_getElem? (i := 9) rfl)) (x_mc (sb_wsX12_one_wsX12_one_r1 _ (List.mem_of_getElem? (i := 10) rfl)) (x_mc (sb_wsX12_one_wsX12_one_r1 _ (List.mem_of_getElem? (i := 11) rfl)) (x_mc (sb_wsX12_one_wsX12_one_r1 _ (List.mem_of_getElem? (i := 12) rfl)) (x_mc (sb_wsX12_one_wsX12_one_r1 _ (List.mem_of_getElem? (i := 13) rfl)) (x_mc (sb_wsX12_one_wsX12_one_r1 _ (List.mem_of_getElem? (i := 14) rfl)) (x_mc (sb_wsX12_one_wsX12_one_r1 _ (List.mem_of_getElem? (i := 15) rfl)) (x_mc (sb_wsX12_one_wsX12_one_r1 _ (List.mem_of_getElem? (i := 16) rfl)) (x_mc (sb_wsX12_one_wsX12_one_r1 _ (List.mem_of_getElem? (i := 17) rfl)) (x_mc (sb_wsX12_one_wsX12_one_r1 _ (List.mem_of_getElem? (i := 18) rfl)) (x_mc (sb_wsX12_one_wsX12_one_r1 _ (List.mem_of_getElem? (i := 19) rfl)) (x_mc (sb_wsX12_one_wsX12_one_r1 _ (List.mem_of_getElem? (i := 20) rfl)) (x_mc (sb_wsX12_one_wsX12_one_r1 _ (List.mem_of_getElem? (i := 21) rfl)) (x_mc (sb_wsX12_one_wsX12_one_r1 _ (List.mem_of_getElem? (i := 22) rfl)) (x_mc (sb_wsX12_one_wsX12_one_r1 _ (List.mem_of_getElem? (i := 23) rfl)) x_mn)))))))))))))))))))))))) (x_ina (x_mc (sb_wsX12_one_wsX12_one_r2 _ (List.mem_of_getElem? (i := 0) rfl)) (x_mc (sb_wsX12_one_wsX12_one_r2 _ (List.mem_of_getElem? (i := 1) rfl)) (x_mc (sb_wsX12_one_wsX12_one_r2 _ (List.mem_of_getElem? (i := 2) rfl)) (x_mc (sb_wsX12_one_wsX12_one_r2 _ (List.mem_of_getElem? (i := 3) rfl)) (x_mc (sb_wsX12_one_wsX12_one_r2 _ (List.mem_of_getElem? (i := 4) rfl)) (x_mc (sb_wsX12_one_wsX12_one_r2 _ (List.mem_of_getElem? (i := 5) rfl)) (x_mc (sb_wsX12_one_wsX12_one_r2 _ (List.mem_of_getElem? (i := 6) rfl)) (x_mc (sb_wsX12_one_wsX12_one_r2 _ (List.mem_of_getElem? (i := 7) rfl)) (x_mc (sb_wsX12_one_wsX12_one_r2 _ (List.mem_of_getElem? (i := 8) rfl)) (x_mc (sb_wsX12_one_wsX12_one_r2 _ (List.mem_of_getElem? (i := 9) rfl)) (x_mc (sb_wsX12_one_wsX12_one_r2 _ (List.mem_of_getElem? (i := 10) rfl)) (x_mc (sb_wsX12_one_wsX12_one_r2 _ (List.mem_of_getElem? (i := 11) rfl)) (x_mc (sb_wsX12_one_wsX12_one_r2 _ (List.mem_of_getElem? (i := 12) rfl)) (x_mc (sb_wsX12_one_wsX12_one_r2 _ (List.mem_of_getElem? (i := 13) rfl)) (x_mc (sb_wsX12_one_wsX12_one_r2 _ (List.mem_of_getElem? (i := 14) rfl)) (x_mc (sb_wsX12_one_wsX12_one_r2 _ (List.mem_of_getElem? (i := 15) rfl)) (x_mc (sb_wsX12_one_wsX12_one_r2 _ (List.mem_of_getElem? (i := 16) rfl)) (x_mc (sb_wsX12_one_wsX12_one_r2 _ (List.mem_of_getElem? (i := 17) rfl)) (x_mc (sb_wsX12_one_wsX12_one_r2 _ (List.mem_of_getElem? (i := 18) rfl)) (x_mc (sb_wsX12_one_wsX12_one_r2 _ (List.mem_of_getElem? (i := 19) rfl)) (x_mc (sb_wsX12_one_wsX12_one_r2 _ (List.mem_of_getElem? (i := 20) rfl)) (x_mc (sb_wsX12_one_wsX12_one_r2 _ (List.mem_of_getElem? (i := 21) rfl)) (x_mc (sb_wsX12_one_wsX12_one_r2 _ (List.mem_of_getElem? (i := 22) rfl)) (x_mc (sb_wsX12_one_wsX12_one_r2 _ (List.mem_of_getElem? (i := 23) rfl)) x_mn)))))))))))))))))))))))) (x_ina (x_mc (sb_wsX12_one_wsX12_one_r3 _ (List.mem_of_getElem? (i := 0) rfl)) (x_mc (sb_wsX12_one_wsX12_one_r3 _ (List.mem_of_getElem? (i := 1) rfl)) (x_mc (sb_wsX12_one_wsX12_one_r3 _ (List.mem_of_getElem? (i := 2) rfl)) (x_mc (sb_wsX12_one_wsX12_one_r3 _ (List.mem_of_getElem? (i := 3) rfl)) (x_mc (sb_wsX12_one_wsX12_one_r3 _ (List.mem_of_getElem? (i := 4) rfl)) (x_mc (sb_wsX12_one_wsX12_one_r3 _ (List.mem_of_getElem? (i := 5) rfl)) (x_mc (sb_wsX12_one_wsX12_one_r3 _ (List.mem_of_getElem? (i := 6) rfl)) (x_mc (sb_wsX12_one_wsX12_one_r3 _ (List.mem_of_getElem? (i := 7) rfl)) (x_mc (sb_wsX12_one_wsX12_one_r3 _ (List.mem_of_getElem? (i := 8) rfl)) (x_mc (sb_wsX12_one_wsX12_one_r3 _ (List.mem_of_getElem? (i := 9) rfl)) (x_mc (sb_wsX12_one_wsX12_one_r3 _ (List.mem_of_getElem? (i := 10) rfl)) (x_mc (sb_wsX12_one_wsX12_one_r3 _ (List.mem_of_getElem? (i := 11) rfl)) (x_mc (sb_wsX12_one_wsX12_one_r3 _ (List.mem_of_getElem? (i := 12) rfl)) (x_mc (sb_wsX12_one_wsX12_one_r3 _ (List.mem_of_getElem? (i := 13) rfl)) (x_mc (sb_wsX12_one_wsX12_one_r3 _ (List.mem_of_getElem? (i := 14) rfl)) (x_mc (sb_wsX12_one_wsX12_one_r3 _ (List.mem_of_getElem? (i := 15) rfl)) (x_mc (sb_wsX12_one_wsX12_one_r3 _ (List.mem_of_getElem? (i := 16) rfl)) (x_mc (sb_wsX12_one_wsX12_one_r3 _ (List.mem_of_getElem? (i := 17) rfl)) (x_mc (sb_wsX12_one_wsX12_one_r3 _ (List.mem_of_getElem? (i := 18) rfl)) (x_mc (sb_wsX12_one_wsX12_one_r3 _ (List.mem_of_getElem? (i := 19) rfl)) (x_mc (sb_wsX12_one_wsX12_one_r3 _ (List.mem_of_getElem? (i := 20) rfl)) (x_mc (sb_wsX12_one_wsX12_one_r3 _ (List.mem_of_getElem? (i := 21) rfl)) (x_mc (sb_wsX12_one_wsX12_one_r3 _ (List.mem_of_getElem? (i := 22) rfl)) (x_mc (sb_wsX12_one_wsX12_one_r3 _ (List.mem_of_getElem? (i := 23) rfl)) x_mn)))))))))))))))))))))))) (x_mc (sb_wsX12_one_wsX12_one_r4 _ (List.mem_of_getElem? (i := 0) rfl)) (x_mc (sb_wsX12_one_wsX12_one_r4 _ (List.mem_of_getElem? (i := 1) rfl)) (x_mc (sb_wsX12_one_wsX12_one_r4 _ (List.mem_of_getElem? (i := 2) rfl)) (x_mc (sb_wsX12_one_wsX12_one_r4 _ (List.mem_of_getElem? (i := 3) rfl)) (x_mc (sb_wsX12_one_wsX12_one_r4 _ (List.mem_of_getElem? (i := 4) rfl)) (x_mc (sb_wsX12_one_wsX12_one_r4 _ (List.mem_of_getElem? (i := 5) rfl)) (x_mc (sb_wsX12_one_wsX12_one_r4 _ (List.mem_of_getElem? (i := 6) rfl)) (x_mc (sb_wsX12_one_wsX12_one_r4 _ (List.mem_of_getElem? (i := 7) rfl)) (x_mc (sb_wsX12_one_wsX12_one_r4 _ (List.mem_of_getElem? (i := 8) rfl)) (x_mc (sb_wsX12_one_wsX12_one_r4 _ (List.mem_of_getElem? (i := 9) rfl)) (x_mc (sb_wsX12_one_wsX12_one_r4 _ (List.mem_of_getElem? (i := 10) rfl)) (x_mc (sb_wsX12_one_wsX12_one_r4 _ (List.mem_of_getElem? (i := 11) rfl)) (x_mc (sb_wsX12_one_wsX12_one_r4 _ (List.mem_of_getElem? (i := 12) rfl)) (x_mc (sb_wsX12_one_wsX12_one_r4 _ (List.mem_of_getElem? (i := 13) rfl)) (x_mc (sb_wsX12_one_wsX12_one_r4 _ (List.mem_of_getElem? (i := 14) rfl)) (x_mc (sb_wsX12_one_wsX12_one_r4 _ (List.mem_of_getElem? (i := 15) rfl)) (x_mc (sb_wsX12_one_wsX12_one_r4 _ (List.mem_of_getElem? (i := 16) rfl)) (x_mc (sb_wsX12_one_wsX12_one_r4 _ (List.mem_of_getElem? (i := 17) rfl)) x_mn))))))))))))))))))))) (fun _ h => sb_wsX12_one_wsX120 _ h))) (by decide +kernel)
set_option maxRecDepth 20000 in
theorem gX12_one_X12_one : GoodIn wsX12_one (wsV RX12 373 RX12 yX12_one wsX12_one) := goodIn_app (goodIn_of _ (by decide +kernel)) ggX12_one_X12_one
set_option maxRecDepth 20000 in
theorem ggX12_one_X12_either : GoodIn wsX12_one wsX12_either := goodIn_sub (x_mc (sb_wsX12_one_wsX12_one_r4 _ (List.mem_of_getElem? (i := 6) rfl)) (x_ina (x_ina (x_mc (sb_wsX12_one_wsX12_one_r4 _ (List.mem_of_getElem? (i := 7) rfl)) (x_mc (sb_wsX12_one_wsX12_one_r4 _ (List.mem_of_getElem? (i := 8) rfl)) (x_mc (sb_wsX12_one_wsX12_one_r4 _ (List.mem_of_getElem? (i := 9) rfl)) (x_mc (sb_wsX12_one_wsX12_one_r4 _ (List.mem_of_getElem? (i := 10) rfl)) (x_mc (sb_wsX12_one_wsX12_one_r1 _ (List.mem_of_getElem? (i := 7) rfl)) (x_mc (sb_wsX12_one_wsX12_one_r3 _ (List.mem_of_getElem? (i := 16) rfl)) (x_mc (sb_wsX12_one_wsX12_one_r3 _ (List.mem_of_getElem? (i := 17) rfl)) (x_mc (sb_wsX12_one_wsX12_one_r3 _ (List.mem_of_getElem? (i := 18) rfl)) (x_mc (sb_wsX12_one_wsX12_one_r3 _ (List.mem_of_getElem? (i := 19) rfl)) (x_mc (sb_wsX12_one_wsX12_one_r1 _ (List.mem_of_getElem? (i := 1) rfl)) (x_mc (sb_wsX12_one_wsX12_one_r1 _ (List.mem_of_getElem? (i := 2) rfl)) (x_mc (sb_wsX12_one_wsX12_one_r1 _ (List.mem_of_getElem? (i := 3) rfl)) (x_mc (sb_wsX12_one_wsX12_one_r1 _ (List.mem_of_getElem? (i := 19) rfl)) (x_mc (sb_wsX12_one_wsX12_one_r1 _ (List.mem_of_getElem? (i := 20) rfl)) (x_mc (sb_wsX12_one_wsX12_one_r1 _ (List.mem_of_getElem? (i := 21) rfl)) (x_mc (sb_wsX12_one_wsX12_one_r1 _ (List.mem_of_getElem? (i := 22) rfl)) (x_mc (sb_wsX12_one_wsX12_one_r1 _ (List.mem_of_getElem? (i := 23) rfl)) (x_mc (sb_wsX12_one_wsX12_one_r1 _ (List.mem_of_getElem? (i := 17) rfl)) (x_mc (sb_wsX12_one_wsX12_one_r2 _ (List.mem_of_getElem? (i := 0) rfl)) (x_mc (sb_wsX12_one_wsX12_one_r2 _ (List.mem_of_getElem? (i := 1) rfl)) (x_mc (sb_wsX12_one_wsX12_one_r2 _ (List.mem_of_getElem? (i := 2) rfl)) (x_mc (sb_wsX12_one_wsX12_one_r2 _ (List.mem_of_getElem? (i := 3) rfl)) (x_mc (sb_wsX12_one_wsX12_one_r2 _ (List.mem_of_getElem? (i := 4) rfl)) (x_mc (sb_wsX12_one_wsX12_one_r2 _ (List.mem_of_getElem? (i := 5) rfl)) x_mn)))))))))))))))))))))))) (x_ina (x_mc (sb_wsX12_one_wsX12_one_r2 _ (List.mem_of_getElem? (i := 6) rfl)) (x_mc (sb_wsX12_one_wsX12_one_r2 _ (List.mem_of_getElem? (i := 7) rfl)) (x_mc (sb_wsX12_one_wsX12_one_r2 _ (List.mem_of_getElem? (i := 8) rfl)) (x_mc (sb_wsX12_one_wsX12_one_r2 _ (List.mem_of_getElem? (i := 9) rfl)) (x_mc (sb_wsX12_one_wsX12_one_r2 _ (List.mem_of_getElem? (i := 10) rfl)) (x_mc (sb_wsX12_one_wsX12_one_r2 _ (List.mem_of_getElem? (i := 11) rfl)) (x_mc (sb_wsX12_one_wsX12_one_r2 _ (List.mem_of_getElem? (i := 12) rfl)) (x_mc (sb_wsX12_one_wsX12_one_r2 _ (List.mem_of_getElem? (i := 13) rfl)) (x_mc (sb_wsX12_one_wsX12_one_r2 _ (List.mem_of_getElem? (i := 14) rfl)) (x_mc (sb_wsX12_one_wsX12_one_r2 _ (List.mem_of_getElem? (i := 15) rfl)) (x_mc (sb_wsX12_one_wsX12_one_r2 _ (List.mem_of_getElem? (i := 16) rfl)) (x_mc (sb_wsX12_one_wsX12_one_r2 _ (List.mem_of_getElem? (i := 17) rfl)) (x_mc (sb_wsX12_one_wsX12_one_r3 _ (List.mem_of_getElem? (i := 20) rfl)) (x_mc (sb_wsX12_one_wsX12_one_r3 _ (List.mem_of_getElem? (i := 21) rfl)) (x_mc (sb_wsX12_one_wsX12_one_r3 _ (List.mem_of_getElem? (i := 22) rfl)) (x_mc (sb_wsX12_one_wsX12_one_r3 _ (List.mem_of_getElem? (i := 23) rfl)) (x_mc (sb_wsX12_one_wsX12_one_r4 _ (List.mem_of_getElem? (i := 0) rfl)) (x_mc (sb_wsX12_one_wsX12_one_r1 _ (List.mem_of_getElem? (i := 4) rfl)) (x_mc (sb_wsX12_one_wsX12_one_r1 _ (List.mem_of_getElem? (i := 5) rfl)) (x_mc (sb_wsX12_one_wsX12_one_r1 _ (List.mem_of_getElem? (i := 6) rfl)) (x_mc (sb_wsX12_one_wsX12_one_r1 _ (List.mem_of_getElem? (i := 8) rfl)) (x_mc (sb_wsX12_one_wsX12_one_r4 _ (List.mem_of_getElem? (i := 1) rfl)) (x_mc (sb_wsX12_one_wsX12_one_r4 _ (List.mem_of_getElem? (i := 2) rfl)) (x_mc (sb_wsX12_one_wsX12_one_r4 _ (List.mem_of_getElem? (i := 3) rfl)) x_mn)))))))))))))))))))))))) (x_ina (x_mc (sb_wsX12_one_wsX12_one_r4 _ (List.mem_of_getElem? (i := 4) rfl)) (x_mc (sb_wsX12_one_wsX12_one_r4 _ (List.mem_of_getElem? (i := 5) rfl)) (x_mc (sb_wsX12_one_wsX12_one_r4 _ (List.mem_of_getElem? (i := 11) rfl)) (x_mc (sb_wsX12_one_wsX12_one_r4 _ (List.mem_of_getElem? (i := 12) rfl)) (x_mc (sb_wsX12_one_wsX12_one_r1 _ (List.mem_of_getElem? (i := 0) rfl)) (x_mc (sb_wsX12_one_wsX12_one_r4 _ (List.mem_of_getElem? (i := 13) rfl)) (x_mc (sb_wsX12_one_wsX12_one_r1 _ (List.mem_of_getElem? (i := 9) rfl)) (x_mc (sb_wsX12_one_wsX12_one_r1 _ (List.mem_of_getElem? (i := 10) rfl)) (x_mc (sb_wsX12_one_wsX12_one_r1 _ (List.mem_of_getElem? (i := 11) rfl)) (x_mc (sb_wsX12_one_wsX12_one_r1 _ (List.mem_of_getElem? (i := 12) rfl)) (x_mc (sb_wsX12_one_wsX12_one_r1 _ (List.mem_of_getElem? (i := 13) rfl)) (x_mc (sb_wsX12_one_wsX12_one_r1 _ (List.mem_of_getElem? (i := 14) rfl)) (x_mc (sb_wsX12_one_wsX12_one_r1 _ (List.mem_of_getElem? (i := 15) rfl)) (x_mc (sb_wsX12_one_wsX12_one_r1 _ (List.mem_of_getElem? (i := 16) rfl)) (x_mc (sb_wsX12_one_wsX12_one_r1 _ (List.mem_of_getElem? (i := 18) rfl)) (x_mc (sb_wsX12_one_wsX12_one_r4 _ (List.mem_of_getElem? (i := 14) rfl)) (x_mc (sb_wsX12_one_wsX12_one_r4 _ (List.mem_of_getElem? (i := 15) rfl)) (x_mc (sb_wsX12_one_wsX12_one_r4 _ (List.mem_of_getElem? (i := 16) rfl)) (x_mc List.mem_cons_self (x_mc (sb_wsX12_one_wsX12_one_r2 _ (List.mem_of_getElem? (i := 18) rfl)) (x_mc (sb_wsX12_one_wsX12_one_r2 _ (List.mem_of_getElem? (i := 19) rfl)) (x_mc (sb_wsX12_one_wsX12_one_r2 _ (List.mem_of_getElem? (i := 20) rfl)) (x_mc (sb_wsX12_one_wsX12_one_r2 _ (List.mem_of_getElem? (i := 21) rfl)) (x_mc (sb_wsX12_one_wsX12_one_r2 _ (List.mem_of_getElem? (i := 22) rfl)) x_mn)))))))))))))))))))))))) (x_mc (sb_wsX12_one_wsX12_one_r2 _ (List.mem_of_getElem? (i := 23) rfl)) (x_mc (sb_wsX12_one_wsX12_one_r3 _ (List.mem_of_getElem? (i := 0) rfl)) (x_mc (sb_wsX12_one_wsX12_one_r3 _ (List.mem_of_getElem? (i := 1) rfl)) (x_mc (sb_wsX12_one_wsX12_one_r3 _ (List.mem_of_getElem? (i := 2) rfl)) (x_mc (sb_wsX12_one_wsX12_one_r3 _ (List.mem_of_getElem? (i := 3) rfl)) (x_mc (sb_wsX12_one_wsX12_one_r3 _ (List.mem_of_getElem? (i := 4) rfl)) (x_mc (sb_wsX12_one_wsX12_one_r3 _ (List.mem_of_getElem? (i := 5) rfl)) (x_mc (sb_wsX12_one_wsX12_one_r3 _ (List.mem_of_getElem? (i := 6) rfl)) (x_mc (sb_wsX12_one_wsX12_one_r3 _ (List.mem_of_getElem? (i := 7) rfl)) (x_mc (sb_wsX12_one_wsX12_one_r3 _ (List.mem_of_getElem? (i := 8) rfl)) (x_mc (sb_wsX12_one_wsX12_one_r3 _ (List.mem_of_getElem? (i := 9) rfl)) (x_mc (sb_wsX12_one_wsX12_one_r3 _ (List.mem_of_getElem? (i := 10) rfl)) (x_mc (sb_wsX12_one_wsX12_one_r3 _ (List.mem_of_getElem? (i := 11) rfl)) (x_mc (sb_wsX12_one_wsX12_one_r3 _ (List.mem_of_getElem? (i := 12) rfl)) (x_mc (sb_wsX12_one_wsX12_one_r3 _ (List.mem_of_getElem? (i := 13) rfl)) (x_mc (sb_wsX12_one_wsX12_one_r3 _ (List.mem_of_getElem? (i := 14) rfl)) (x_mc (sb_wsX12_one_wsX12_one_r3 _ (List.mem_of_getElem? (i := 15) rfl)) (x_mc (sb_wsX12_one_wsX12_one_r4 _ (List.mem_of_getElem? (i := 17) rfl)) x_mn))))))))))))))))))))) (fun _ h => sb_wsX12_one_wsX120 _ h))) (by decide +kernel)
set_option maxRecDepth 20000 in
theorem gX12_one_X12_either : GoodIn wsX12_one (wsV RX12 376 RX12 yX12_either wsX12_either) := goodIn_app (goodIn_of _ (by decide +kernel)) ggX12_one_X12_either
set_option maxRecDepth 20000 in
theorem ggX12_one_X12_fail : GoodIn wsX12_one wsX12_fail := goodIn_sub (x_mc (sb_wsX12_one_wsX12_one_r1 _ (List.mem_of_getElem? (i := 16) rfl)) (x_ina (x_mc (sb_wsX12_one_wsX12_one_r1 _ (List.mem_of_getElem? (i := 1) rfl)) (x_mc (sb_wsX12_one_wsX12_one_r1 _ (List.mem_of_getElem? (i := 17) rfl)) (x_mc (sb_wsX12_one_wsX12_one_r1 _ (List.mem_of_getElem? (i := 18) rfl)) x_mn))) (fun _ h => sb_wsX12_one_wsX120 _ h))) (by decide +kernel)
set_option maxRecDepth 20000 in
theorem gX12_one_X12_fail : GoodIn wsX12_one (wsV RX12 326 RX12 yX12_fail wsX12_fail) := goodIn_app (goodIn_of _ (by decide +kernel)) ggX12_one_X12_fail
set_option maxRecDepth 20000 in
theorem ggX12_one_X12_next : GoodIn wsX12_one wsX12_next := goodIn_sub (x_mc (sb_wsX12_one_wsX12_one_r1 _ (List.mem_of_getElem? (i := 22) rfl)) (x_ina (x_mc (sb_wsX12_one_wsX12_one_r1 _ (List.mem_of_getElem? (i := 23) rfl)) (x_mc (sb_wsX12_one_wsX12_one_r1 _ (List.mem_of_getElem? (i := 17) rfl)) (x_mc (sb_wsX12_one_wsX12_one_r1 _ (List.mem_of_getElem? (i := 2) rfl)) (x_mc (sb_wsX12_one_wsX12_one_r2 _ (List.mem_of_getElem? (i := 0) rfl)) (x_mc (sb_wsX12_one_wsX12_one_r2 _ (List.mem_of_getElem? (i := 1) rfl)) (x_mc (sb_wsX12_one_wsX12_one_r2 _ (List.mem_of_getElem? (i := 2) rfl)) (x_mc (sb_wsX12_one_wsX12_one_r1 _ (List.mem_of_getElem? (i := 3) rfl)) (x_mc (sb_wsX12_one_wsX12_one_r2 _ (List.mem_of_getElem? (i := 3) rfl)) (x_mc (sb_wsX12_one_wsX12_one_r2 _ (List.mem_of_getElem? (i := 4) rfl)) (x_mc (sb_wsX12_one_wsX12_one_r2 _ (List.mem_of_getElem? (i := 5) rfl)) (x_mc (sb_wsX12_one_wsX12_one_r2 _ (List.mem_of_getElem? (i := 6) rfl)) (x_mc (sb_wsX12_one_wsX12_one_r2 _ (List.mem_of_getElem? (i := 7) rfl)) (x_mc (sb_wsX12_one_wsX12_one_r2 _ (List.mem_of_getElem? (i := 8) rfl)) (x_mc (sb_wsX12_one_wsX12_one_r2 _ (List.mem_of_getElem? (i := 9) rfl)) (x_mc (sb_wsX12_one_wsX12_one_r2 _ (List.mem_of_getElem? (i := 10) rfl)) (x_mc (sb_wsX12_one_wsX12_one_r2 _ (List.mem_of_getElem? (i := 11) rfl)) (x_mc (sb_wsX12_one_wsX12_one_r1 _ (List.mem_of_getElem? (i := 7) rfl)) (x_mc (sb_wsX12_one_wsX12_one_r2 _ (List.mem_of_getElem? (i := 12) rfl)) (x_mc (sb_wsX12_one_wsX12_one_r2 _ (List.mem_of_getElem? (i := 13) rfl)) (x_mc (sb_wsX12_one_wsX12_one_r2 _ (List.mem_of_getElem? (i := 14) rfl)) (x_mc (sb_wsX12_one_wsX12_one_r2 _ (List.mem_of_getElem? (i := 15) rfl)) (x_mc (sb_wsX12_one_wsX12_one_r2 _ (List.mem_of_getElem? (i := 16) rfl)) (x_mc (sb_wsX12_one_wsX12_one_r2 _ (List.mem_of_getElem? (i := 17) rfl)) x_mn))))))))))))))))))))))) (fun _ h => sb_wsX12_one_wsX120 _ h))) (by decide +kernel)
set_option maxRecDepth 20000 in
theorem gX12_one_X12_next : GoodIn wsX12_one (wsV RX12 329 RX12 yX12_next wsX12_next) := goodIn_app (goodIn_of _ (by decide +kernel)) ggX12_one_X12_next
set_option maxRecDepth 20000 in
theorem ggX12_one_X12_name : GoodIn wsX12_one wsX12_name := goodIn_sub (x_mc (sb_wsX12_one_wsX12_one_r3 _ (List.mem_of_getElem? (i := 3) rfl)) (x_ina (x_ina (x_mc (sb_wsX12_one_wsX12_one_r3 _ (List.mem_of_getElem? (i := 4) rfl)) (x_mc (sb_wsX12_one_wsX12_one_r3 _ (List.mem_of_getElem? (i := 5) rfl)) (x_mc (sb_wsX12_one_wsX12_one_r3 _ (List.mem_of_getElem? (i := 6) rfl)) (x_mc (sb_wsX12_one_wsX12_one_r3 _ (List.mem_of_getElem? (i := 7) rfl)) (x_mc (sb_wsX12_one_wsX12_one_r3 _ (List.mem_of_getElem? (i := 8) rfl)) (x_mc (sb_wsX12_one_wsX12_one_r3 _ (List.mem_of_getElem? (i := 9) rfl)) (x_mc (sb_wsX12_one_wsX12_one_r3 _ (List.mem_of_getElem? (i := 10) rfl)) (x_mc (sb_wsX12_one_wsX12_one_r3 _ (List.mem_of_getElem? (i := 11) rfl)) (x_mc (sb_wsX12_one_wsX12_one_r3 _ (List.mem_of_getElem? (i := 12) rfl)) (x_mc (sb_wsX12_one_wsX12_one_r3 _ (List.mem_of_getElem? (i := 13) rfl)) (x_mc (sb_wsX12_one_wsX12_one_r3 _ (List.mem_of_getElem? (i := 14) rfl)) (x_mc (sb_wsX12_one_wsX12_one_r3 _ (List.mem_of_getElem? (i := 15) rfl)) (x_mc (sb_wsX12_one_wsX12_one_r3 _ (List.mem_of_getElem? (i := 16) rfl)) (x_mc (sb_wsX12_one_wsX12_one_r3 _ (List.mem_of_getElem? (i := 17) rfl)) (x_mc (sb_wsX12_one_wsX12_one_r3 _ (List.mem_of_getElem? (i := 18) rfl)) (x_mc (sb_wsX12_one_wsX12_one_r1 _ (List.mem_of_getElem? (i := 7) rfl)) (x_mc (sb_wsX12_one_wsX12_one_r3 _ (List.mem_of_getElem? (i := 19) rfl)) (x_mc (sb_wsX12_one_wsX12_one_r1 _ (List.mem_of_getElem? (i := 1) rfl)) (x_mc (sb_wsX12_one_wsX12_one_r1 _ (List.mem_of_getElem? (i := 2) rfl)) (x_mc (sb_wsX12_one_wsX12_one_r1 _ (List.mem_of_getElem? (i := 3) rfl)) (x_mc (sb_wsX12_one_wsX12_one_r1 _ (List.mem_of_getElem? (i := 13) rfl)) (x_mc (sb_wsX12_one_wsX12_one_r1 _ (List.mem_of_getElem? (i := 14) rfl)) (x_mc (sb_wsX12_one_wsX12_one_r1 _ (List.mem_of_getElem? (i := 15) rfl)) (x_mc (sb_wsX12_one_wsX12_one_r1 _ (List.mem_of_getElem? (i := 16) rfl)) x_mn)))))))))))))))))))))))) (x_mc (sb_wsX12_one_wsX12_one_r1 _ (List.mem_of_getElem? (i := 17) rfl)) (x_mc (sb_wsX12_one_wsX12_one_r1 _ (List.mem_of_getElem? (i := 18) rfl)) x_mn))) (fun _ h => sb_wsX12_one_wsX120 _ h))) (by decide +kernel)
set_option maxRecDepth 20000 in
theorem gX12_one_X12_name : GoodIn wsX12_one (wsV RX12 379 RX12 yX12_name wsX12_name) := goodIn_app (goodIn_of _ (by decide +kernel)) ggX12_one_X12_name
theorem dX12_one_0 : decode cX12_one 0 = .ok (.iconst 0, 1) := by decide +kernel
theorem dX12_one_1 : decode cX12_one 1 = .ok (.istore_n 1, 1) := by decide +kernel
theorem dX12_one_2 : decode cX12_one 2 = .ok (.aload_n 0, 1) := by decide +kernel
theorem dX12_one_3 : decode cX12_one 3 = .ok (.bipush 45, 2) := by decide +kernel
theorem dX12_one_5 : decode cX12_one 5 = .ok (.invokevirtual 366, 3) := by decide +kernel
theorem dX12_one_8 : decode cX12_one 8 = .ok (.ifCond .eq 29, 3) := by decide +kernel
theorem dX12_one_11 : decode cX12_one 11 = .ok (.aload_n 0, 1) := by decide +kernel
theorem dX12_one_12 : decode cX12_one 12 = .ok (.invokevirtual 369, 3) := by decide +kernel
theorem dX12_one_15 : decode cX12_one 15 = .ok (.ifCond .eq 146, 3) := by decide +kernel
theorem dX12_one_18 : decode cX12_one 18 = .ok (.aload_n 0, 1) := by decide +kernel
theorem dX12_one_19 : decode cX12_one 19 = .ok (.invokevirtual 373, 3) := by decide +kernel
theorem dX12_one_22 : decode cX12_one 22 = .ok (.ineg, 1) := by decide +kernel
theorem dX12_one_23 : decode cX12_one 23 = .ok (.istore_n 1, 1) := by decide +kernel
theorem dX12_one_24 : decode cX12_one 24 = .ok (.aload_n 0, 1) := by decide +kernel
theorem dX12_one_25 : decode cX12_one 25 = .ok (.dup, 1) := by decide +kernel
theorem dX12_one_26 : decode cX12_one 26 = .ok (.getfield 323, 3) := by decide +kernel
theorem dX12_one_29 : decode cX12_one 29 = .ok (.iconst 1, 1) := by decide +kernel
theorem dX12_one_30 : decode cX12_one 30 = .ok (.isub, 1) := by decide +kernel
theorem dX12_one_31 : decode cX12_one 31 = .ok (.putfield 323, 3) := by decide +kernel
theorem dX12_one_34 : decode cX12_one 34 = .ok (.goto 127, 3) := by decide +kernel
theorem dX12_one_37 : decode cX12_one 37 = .ok (.aload_n 0, 1) := by decide +kernel
theorem dX12_one_38 : decode cX12_one 38 = .ok (.bipush 40, 2) := by decide +kernel
theorem dX12_one_40 : decode cX12_one 40 = .ok (.invokevirtual 366, 3) := by decide +kernel
theorem dX12_one_43 : decode cX12_one 43 = .ok (.ifCond .eq 52, 3) := by decide +kernel
theorem dX12_one_46 : decode cX12_one 46 = .ok (.aload_n 0, 1) := by decide +kernel
theorem dX12_one_47 : decode cX12_one 47 = .ok (.invokevirtual 369, 3) := by decide +kernel
theorem dX12_one_50 : decode cX12_one 50 = .ok (.ifCond .eq 111, 3) := by decide +kernel
theorem dX12_one_53 : decode cX12_one 53 = .ok (.aload_n 0, 1) := by decide +kernel
theorem dX12_one_54 : decode cX12_one 54 = .ok (.invokevirtual 376, 3) := by decide +kernel
theorem dX12_one_57 : decode cX12_one 57 = .ok (.istore_n 1, 1) := by decide +kernel
theorem dX12_one_58 : decode cX12_one 58 = .ok (.aload_n 0, 1) := by decide +kernel
theorem dX12_one_59 : decode cX12_one 59 = .ok (.bipush 41, 2) := by decide +kernel
theorem dX12_one_61 : decode cX12_one 61 = .ok (.invokevirtual 366, 3) := by decide +kernel
theorem dX12_one_64 : decode cX12_one 64 = .ok (.ifCond .ne 7, 3) := by decide +kernel
theorem dX12_one_67 : decode cX12_one 67 = .ok (.aload_n 0, 1) := by decide +kernel
theorem dX12_one_68 : decode cX12_one 68 = .ok (.invokevirtual 326, 3) := by decide +kernel
theorem dX12_one_71 : decode cX12_one 71 = .ok (.aload_n 0, 1) := by decide +kernel
theorem dX12_one_72 : decode cX12_one 72 = .ok (.dup, 1) := by decide +kernel
theorem dX12_one_73 : decode cX12_one 73 = .ok (.getfield 323, 3) := by decide +kernel
theorem dX12_one_76 : decode cX12_one 76 = .ok (.iconst 1, 1) := by decide +kernel
theorem dX12_one_77 : decode cX12_one 77 = .ok (.isub, 1) := by decide +kernel
theorem dX12_one_78 : decode cX12_one 78 = .ok (.putfield 323, 3) := by decide +kernel
theorem dX12_one_81 : decode cX12_one 81 = .ok (.aload_n 0, 1) := by decide +kernel
theorem dX12_one_82 : decode cX12_one 82 = .ok (.getfield 316, 3) := by decide +kernel
theorem dX12_one_85 : decode cX12_one 85 = .ok (.ifCond .ne 76, 3) := by decide +kernel
theorem dX12_one_88 : decode cX12_one 88 = .ok (.aload_n 0, 1) := by decide +kernel
theorem dX12_one_89 : decode cX12_one 89 = .ok (.invokevirtual 329, 3) := by decide +kernel
theorem dX12_one_92 : decode cX12_one 92 = .ok (.goto 69, 3) := by decide +kernel
theorem dX12_one_95 : decode cX12_one 95 = .ok (.aload_n 0, 1) := by decide +kernel
theorem dX12_one_96 : decode cX12_one 96 = .ok (.getfield 316, 3) := by decide +kernel
theorem dX12_one_99 : decode cX12_one 99 = .ok (.ifCond .ne 24, 3) := by decide +kernel
theorem dX12_one_102 : decode cX12_one 102 = .ok (.aload_n 0, 1) := by decide +kernel
theorem dX12_one_103 : decode cX12_one 103 = .ok (.getfield 293, 3) := by decide +kernel
theorem dX12_one_106 : decode cX12_one 106 = .ok (.iconst 2, 1) := by decide +kernel
theorem dX12_one_107 : decode cX12_one 107 = .ok (.if_icmp .ne 16, 3) := by decide +kernel
theorem dX12_one_110 : decode cX12_one 110 = .ok (.aload_n 0, 1) := by decide +kernel
theorem dX12_one_111 : decode cX12_one 111 = .ok (.getfield 300, 3) := by decide +kernel
theorem dX12_one_114 : decode cX12_one 114 = .ok (.l2i, 1) := by decide +kernel
theorem dX12_one_115 : decode cX12_one 115 = .ok (.istore_n 1, 1) := by decide +kernel
theorem dX12_one_116 : decode cX12_one 116 = .ok (.aload_n 0, 1) := by decide +kernel
theorem dX12_one_117 : decode cX12_one 117 = .ok (.invokevirtual 329, 3) := by decide +kernel
theorem dX12_one_120 : decode cX12_one 120 = .ok (.goto 41, 3) := by decide +kernel
theorem dX12_one_123 : decode cX12_one 123 = .ok (.aload_n 0, 1) := by decide +kernel
theorem dX12_one_124 : decode cX12_one 124 = .ok (.getfield 316, 3) := by decide +kernel
theorem dX12_one_127 : decode cX12_one 127 = .ok (.ifCond .ne 30, 3) := by decide +kernel
theorem dX12_one_130 : decode cX12_one 130 = .ok (.aload_n 0, 1) := by decide +kernel
theorem dX12_one_131 : decode cX12_one 131 = .ok (.getfield 293, 3) := by decide +kernel
theorem dX12_one_134 : decode cX12_one 134 = .ok (.iconst 1, 1) := by decide +kernel
theorem dX12_one_135 : decode cX12_one 135 = .ok (.if_icmp .ne 22, 3) := by decide +kernel
theorem dX12_one_138 : decode cX12_one 138 = .ok (.aload_n 0, 1) := by decide +kernel
theorem dX12_one_139 : decode cX12_one 139 = .ok (.invokevirtual 379, 3) := by decide +kernel
theorem dX12_one_142 : decode cX12_one 142 = .ok (.istore_n 1, 1) := by decide +kernel
theorem dX12_one_143 : decode cX12_one 143 = .ok (.aload_n 0, 1) := by decide +kernel
theorem dX12_one_144 : decode cX12_one 144 = .ok (.getfield 316, 3) := by decide +kernel
theorem dX12_one_147 : decode cX12_one 147 = .ok (.ifCond .ne 14, 3) := by decide +kernel
theorem dX12_one_150 : decode cX12_one 150 = .ok (.aload_n 0, 1) := by decide +kernel
theorem dX12_one_151 : decode cX12_one 151 = .ok (.invokevirtual 329, 3) := by decide +kernel
theorem dX12_one_154 : decode cX12_one 154 = .ok (.goto 7, 3) := by decide +kernel
theorem dX12_one_157 : decode cX12_one 157 = .ok (.aload_n 0, 1) := by decide +kernel
theorem dX12_one_158 : decode cX12_one 158 = .ok (.invokevirtual 326, 3) := by decide +kernel
theorem dX12_one_161 : decode cX12_one 161 = .ok (.iload_n 1, 1) := by decide +kernel
theorem dX12_one_162 : decode cX12_one 162 = .ok (.ireturn, 1) := by decide +kernel
theorem sb_wsX12_term_wsX12_term_r1 : ∀ w ∈ wsX12_term_r1, w ∈ wsX12_term := fun _ h => (List.mem_cons_of_mem _ (List.mem_append_left _ (List.mem_append_left _ h)))
theorem sb_wsX12_term_wsX12_term_r2 : ∀ w ∈ wsX12_term_r2, w ∈ wsX12_term := fun _ h => (List.mem_cons_of_mem _ (List.mem_append_left _ (List.mem_append_right _ (List.mem_append_left _ h))))
theorem sb_wsX12_term_wsX12_term_r3 : ∀ w ∈ wsX12_term_r3, w ∈ wsX12_term := fun _ h => (List.mem_cons_of_mem _ (List.mem_append_left _ (List.mem_append_right _ (List.mem_append_right _ (List.mem_append_left _ h)))))
theorem sb_wsX12_term_wsX12_term_r4 : ∀ w ∈ wsX12_term_r4, w ∈ wsX12_term := fun _ h => (List.mem_cons_of_mem _ (List.mem_append_left _ (List.mem_append_right _ (List.mem_append_right _ (List.mem_append_right _ h)))))
theorem sb_wsX12_term_wsX120 : ∀ w ∈ wsX120, w ∈ wsX12_term := fun _ h => (List.mem_cons_of_mem _ (List.mem_append_right _ h))
set_option maxRecDepth 20000 in
theorem ggX12_term_X12_one : GoodIn wsX12_term wsX12_one := goodIn_sub (x_mc (sb_wsX12_term_wsX12_term_r3 _ (List.mem_of_getElem? (i := 22) rfl)) (x_ina (x_ina (x_mc (sb_wsX12_term_wsX12_term_r3 _ (List.mem_of_getElem? (i := 8) rfl)) (x_mc (sb_wsX12_term_wsX12_term_r1 _ (List.mem_of_getElem? (i := 8) rfl)) (x_mc (sb_wsX12_term_wsX12_term_r1 _ (List.mem_of_getElem? (i := 9) rfl)) (x_mc (sb_wsX12_term_wsX12_term_r1 _ (List.mem_of_getElem? (i := 10) rfl)) (x_mc (sb_wsX12_term_wsX12_term_r1 _ (List.mem_of_getElem? (i := 4) rfl)) (x_mc (sb_wsX12_term_wsX12_term_r1 _ (List.mem_of_getElem? (i := 5) rfl)) (x_mc (sb_wsX12_term_wsX12_term_r1 _ (List.mem_of_getElem? (i := 6) rfl)) (x_mc (sb_wsX12_term_wsX12_term_r1 _ (List.mem_of_getElem? (i := 3) rfl)) (x_mc (sb_wsX12_term_wsX12_term_r1 _ (List.mem_of_getElem? (i := 7) rfl)) (x_mc (sb_wsX12_term_wsX12_term_r3 _ (List.mem_of_getElem? (i := 10) rfl)) (x_mc (sb_wsX12_term_wsX12_term_r3 _ (List.mem_of_getElem? (i := 11) rfl)) (x_mc (sb_wsX12_term_wsX12_term_r3 _ (List.mem_of_getElem? (i := 12) rfl)) (x_mc (sb_wsX12_term_wsX12_term_r3 _ (List.mem_of_getElem? (i := 13) rfl)) (x_mc (sb_wsX12_term_wsX12_term_r3 _ (List.mem_of_getElem? (i := 14) rfl)) (x_mc (sb_wsX12_term_wsX12_term_r3 _ (List.mem_of_getElem? (i := 15) rfl)) (x_mc (sb_wsX12_term_wsX12_term_r3 _ (List.mem_of_getElem? (i := 16) rfl)) (x_mc (sb_wsX12_term_wsX12_term_r3 _ (List.mem_of_getElem? (i := 17) rfl)) (x_mc (sb_wsX12_term_wsX12_term_r1 _ (List.mem_of_getElem? (i := 16) rfl)) (x_mc (sb_wsX12_term_wsX12_term_r3 _ (List.mem_of_getElem? (i := 18) rfl)) (x_mc (sb_wsX12_term_wsX12_term_r1 _ (List.mem_of_getElem? (i := 11) rfl)) (x_mc (sb_wsX12_term_wsX12_term_r1 _ (List.mem_of_getElem? (i := 12) rfl)) (x_mc (sb_wsX12_term_wsX12_term_r1 _ (List.mem_of_getElem? (i := 13) rfl)) (x_mc (sb_wsX12_term_wsX12_term_r1 _ (List.mem_of_getElem? (i := 14) rfl)) (x_mc (sb_wsX12_term_wsX12_term_r1 _ (List.mem_of_getElem? (i := 15) rfl)) x_mn)))))))))))))))))))))))) (x_ina (x_mc (sb_wsX12_term_wsX12_term_r1 _ (List.mem_of_getElem? (i := 17) rfl)) (x_mc (sb_wsX12_term_wsX12_term_r1 _ (List.mem_of_getElem? (i := 18) rfl)) (x_mc (sb_wsX12_term_wsX12_term_r1 _ (List.mem_of_getElem? (i := 19) rfl)) (x_mc (sb_wsX12_term_wsX12_term_r1 _ (List.mem_of_getElem? (i := 20) rfl)) (x_mc (sb_wsX12_term_wsX12_term_r1 _ (List.mem_of_getElem? (i := 21) rfl)) (x_mc (sb_wsX12_term_wsX12_term_r1 _ (List.mem_of_getElem? (i := 22) rfl)) (x_mc (sb_wsX12_term_wsX12_term_r1 _ (List.mem_of_getElem? (i := 23) rfl)) (x_mc (sb_wsX12_term_wsX12_term_r2 _ (List.mem_of_getElem? (i := 0) rfl)) (x_mc (sb_wsX12_term_wsX12_term_r2 _ (List.mem_of_getElem? (i := 1) rfl)) (x_mc (sb_wsX12_term_wsX12_term_r2 _ (List.mem_of_getElem? (i := 2) rfl)) (x_mc (sb_wsX12_term_wsX12_term_r2 _ (List.mem_of_getElem? (i := 3) rfl)) (x_mc (sb_wsX12_term_wsX12_term_r2 _ (List.mem_of_getElem? (i := 4) rfl)) (x_mc (sb_wsX12_term_wsX12_term_r2 _ (List.mem_of_getElem? (i := 5) rfl)) (x_mc (sb_wsX12_term_wsX12_term_r2 _ (List.mem_of_getElem? (i := 6) rfl)) (x_mc (sb_wsX12_term_wsX12_term_r2 _ (List.mem_of_getElem? (i := 7) rfl)) (x_mc (sb_wsX12_term_wsX12_term_r2 _ (List.mem_of_getElem? (i := 8) rfl)) (x_mc (sb_wsX12_term_wsX12_term_r2 _ (List.mem_of_getElem? (i := 9) rfl)) (x_mc (sb_wsX12_term_wsX12_term_r2 _ (List.mem_of_getElem? (i := 10) rfl)) (x_mc (sb_wsX12_term_wsX12_term_r1 _ (List.mem_of_getElem? (i := 0) rfl)) (x_mc (sb_wsX12_term_wsX12_term_r1 _ (List.mem_of_getElem? (i := 1) rfl)) (x_mc (sb_wsX12_term_wsX12_term_r1 _ (List.mem_of_getElem? (i := 2) rfl)) (x_mc (sb_wsX12_term_wsX12_term_r3 _ (List.mem_of_getElem? (i := 23) rfl)) (x_mc (sb_wsX12_term_wsX12_term_r4 _ (List.mem_of_getElem? (i := 0) rfl)) (x_mc (sb_wsX12_term_wsX12_term_r4 _ (List.mem_of_getElem? (i := 1) rfl)) x_mn)))))))))))))))))))))))) (x_ina (x_mc (sb_wsX12_term_wsX12_term_r4 _ (List.mem_of_getElem? (i := 2) rfl)) (x_mc (sb_wsX12_term_wsX12_term_r4 _ (List.mem_of_getElem? (i := 3) rfl)) (x_mc (sb_wsX12_term_wsX12_term_r4 _ (List.mem_of_getElem? (i := 4) rfl)) (x_mc (sb_wsX12_term_wsX12_term_r4 _ (List.mem_of_getElem? (i := 5) rfl)) (x_mc (sb_wsX12_term_wsX12_term_r4 _ (List.mem_of_getElem? (i := 6) rfl)) (x_mc (sb_wsX12_term_wsX12_term_r4 _ (List.mem_of_getElem? (i := 7) rfl)) (x_mc (sb_wsX12_term_wsX12_term_r4 _ (List.mem_of_getElem? (i := 8) rfl)) (x_mc (sb_wsX12_term_wsX12_term_r4 _ (List.mem_of_getElem? (i := 9) rfl)) (x_mc (sb_wsX12_term_wsX12_term_r4 _ (List.mem_of_getElem? (i := 10) rfl)) (x_mc (sb_wsX12_term_wsX12_term_r4 _ (List.mem_of_getElem? (i := 11) rfl)) (x_mc (sb_wsX12_term_wsX12_term_r4 _ (List.mem_of_getElem? (i := 12) rfl)) (x_mc (sb_wsX12_term_wsX12_term_r4 _ (List.mem_of_getElem? (i := 13) rfl)) (x_mc (sb_wsX12_term_wsX12_term_r4 _ (List.mem_of_getElem? (i := 14) rfl)) (x_mc (sb_wsX12_term_wsX12_term_r4 _ (List.mem_of_getElem? (i := 15) rfl)) (x_mc (sb_wsX12_term_wsX12_term_r4 _ (List.mem_of_getElem? (i := 16) rfl)) (x_mc (sb_wsX12_term_wsX12_term_r4 _ (List.mem_of_getElem? (i := 17) rfl)) (x_mc (sb_wsX12_term_wsX12_term_r2 _ (List.mem_of_getElem? (i := 21) rfl)) (x_mc (sb_wsX12_term_wsX12_term_r2 _ (List.mem_of_getElem? (i := 22) rfl)) (x_mc (sb_wsX12_term_wsX12_term_r2 _ (List.mem_of_getElem? (i := 23) rfl)) (x_mc (sb_wsX12_term_wsX12_term_r3 _ (List.mem_of_getElem? (i := 0) rfl)) (x_mc (sb_wsX12_term_wsX12_term_r2 _ (List.mem_of_getElem? (i := 11) rfl)) (x_mc (sb_wsX12_term_wsX12_term_r2 _ (List.mem_of_getElem? (i := 12) rfl)) (x_mc (sb_wsX12_term_wsX12_term_r2 _ (List.mem_of_getElem? (i := 13) rfl)) (x_mc (sb_wsX12_term_wsX12_term_r2 _ (List.mem_of_getElem? (i := 14) rfl)) x_mn)))))))))))))))))))))))) (x_mc (sb_wsX12_term_wsX12_term_r2 _ (List.mem_of_getElem? (i := 15) rfl)) (x_mc (sb_wsX12_term_wsX12_term_r2 _ (List.mem_of_getElem? (i := 16) rfl)) (x_mc (sb_wsX12_term_wsX12_term_r2 _ (List.mem_of_getElem? (i := 17) rfl)) (x_mc (sb_wsX12_term_wsX12_term_r2 _ (List.mem_of_getElem? (i := 18) rfl)) (x_mc (sb_wsX12_term_wsX12_term_r2 _ (List.mem_of_getElem? (i := 19) rfl)) (x_mc (sb_wsX12_term_wsX12_term_r2 _ (List.mem_of_getElem? (i := 20) rfl)) (x_mc (sb_wsX12_term_wsX12_term_r3 _ (List.mem_of_getElem? (i := 1) rfl)) (x_mc (sb_wsX12_term_wsX12_term_r3 _ (List.mem_of_getElem? (i := 2) rfl)) (x_mc (sb_wsX12_term_wsX12_term_r3 _ (List.mem_of_getElem? (i := 3) rfl)) (x_mc (sb_wsX12_term_wsX12_term_r3 _ (List.mem_of_getElem? (i := 4) rfl)) (x_mc (sb_wsX12_term_wsX12_term_r3 _ (List.mem_of_getElem? (i := 5) rfl)) (x_mc (sb_wsX12_term_wsX12_term_r3 _ (List.mem_of_getElem? (i := 6) rfl)) (x_mc (sb_wsX12_term_wsX12_term_r3 _ (List.mem_of_getElem? (i := 7) rfl)) (x_mc (sb_wsX12_term_wsX12_term_r3 _ (List.mem_of_getElem? (i := 9) rfl)) (x_mc (sb_wsX12_term_wsX12_term_r3 _ (List.mem_of_getElem? (i := 19) rfl)) (x_mc (sb_wsX12_term_wsX12_term_r3 _ (List.mem_of_getElem? (i := 20) rfl)) (x_mc (sb_wsX12_term_wsX12_term_r3 _ (List.mem_of_getElem? (i := 21) rfl)) (x_mc List.mem_cons_self x_mn))))))))))))))))))))) (fun _ h => sb_wsX12_term_wsX120 _ h))) (by decide +kernel)
set_option maxRecDepth 20000 in
theorem gX12_term_X12_one : GoodIn wsX12_term (wsV RX12 373 RX12 yX12_one wsX12_one) := goodIn_app (goodIn_of _ (by decide +kernel)) ggX12_term_X12_one
set_option maxRecDepth 20000 in
theorem ggX12_term_X12_isSign : GoodIn wsX12_term wsX12_isSign := goodIn_sub (x_mc (sb_wsX12_term_wsX12_term_r1 _ (List.mem_of_getElem? (i := 7) rfl)) (x_ina (x_mc (sb_wsX12_term_wsX12_term_r1 _ (List.mem_of_getElem? (i := 8) rfl)) (x_mc (sb_wsX12_term_wsX12_term_r1 _ (List.mem_of_getElem? (i := 9) rfl)) (x_mc (sb_wsX12_term_wsX12_term_r1 _ (List.mem_of_getElem? (i := 10) rfl)) x_mn))) (fun _ h => sb_wsX12_term_wsX120 _ h))) (by decide +kernel)
set_option maxRecDepth 20000 in
theorem gX12_term_X12_isSign : GoodIn wsX12_term (wsV RX12 366 RX12 yX12_isSign wsX12_isSign) := goodIn_app (goodIn_of _ (by decide +kernel)) ggX12_term_X12_isSign
set_option maxRecDepth 20000 in
theorem ggX12_term_X12_next : GoodIn wsX12_term wsX12_next := goodIn_sub (x_mc (sb_wsX12_term_wsX12_term_r1 _ (List.mem_of_getElem? (i := 14) rfl)) (x_ina (x_mc (sb_wsX12_term_wsX12_term_r1 _ (List.mem_of_getElem? (i := 15) rfl)) (x_mc (sb_wsX12_term_wsX12_term_r1 _ (List.mem_of_getElem? (i := 16) rfl)) (x_mc (sb_wsX12_term_wsX12_term_r1 _ (List.mem_of_getElem? (i := 9) rfl)) (x_mc (sb_wsX12_term_wsX12_term_r1 _ (List.mem_of_getElem? (i := 17) rfl)) (x_mc (sb_wsX12_term_wsX12_term_r1 _ (List.mem_of_getElem? (i := 18) rfl)) (x_mc (sb_wsX12_term_wsX12_term_r1 _ (List.mem_of_getElem? (i := 19) rfl)) (x_mc (sb_wsX12_term_wsX12_term_r1 _ (List.mem_of_getElem? (i := 10) rfl)) (x_mc (sb_wsX12_term_wsX12_term_r1 _ (List.mem_of_getElem? (i := 20) rfl)) (x_mc (sb_wsX12_term_wsX12_term_r1 _ (List.mem_of_getElem? (i := 21) rfl)) (x_mc (sb_wsX12_term_wsX12_term_r1 _ (List.mem_of_getElem? (i := 22) rfl)) (x_mc (sb_wsX12_term_wsX12_term_r1 _ (List.mem_of_getElem? (i := 23) rfl)) (x_mc (sb_wsX12_term_wsX12_term_r2 _ (List.mem_of_getElem? (i := 0) rfl)) (x_mc (sb_wsX12_term_wsX12_term_r2 _ (List.mem_of_getElem? (i := 1) rfl)) (x_mc (sb_wsX12_term_wsX12_term_r2 _ (List.mem_of_getElem? (i := 2) rfl)) (x_mc (sb_wsX12_term_wsX12_term_r2 _ (List.mem_of_getElem? (i := 3) rfl)) (x_mc (sb_wsX12_term_wsX12_term_r2 _ (List.mem_of_getElem? (i := 4) rfl)) (x_mc (sb_wsX12_term_wsX12_term_r1 _ (List.mem_of_getElem? (i := 3) rfl)) (x_mc (sb_wsX12_term_wsX12_term_r2 _ (List.mem_of_getElem? (i := 5) rfl)) (x_mc (sb_wsX12_term_wsX12_term_r2 _ (List.mem_of_getElem? (i := 6) rfl)) (x_mc (sb_wsX12_term_wsX12_term_r2 _ (List.mem_of_getElem? (i := 7) rfl)) (x_mc (sb_wsX12_term_wsX12_term_r2 _ (List.mem_of_getElem? (i := 8) rfl)) (x_mc (sb_wsX12_term_wsX12_term_r2 _ (List.mem_of_getElem? (i := 9) rfl)) (x_mc (sb_wsX12_term_wsX12_term_r2 _ (List.mem_of_getElem? (i := 10) rfl)) x_mn))))))))))))))))))))))) (fun _ h => sb_wsX12_term_wsX120 _ h))) (by decide +kernel)
set_option maxRecDepth 20000 in
theorem gX12_term_X12_next : GoodIn wsX12_term (wsV RX12 329 RX12 yX12_next wsX12_next) := goodIn_app (goodIn_of _ (by decide +kernel)) ggX12_term_X12_next
theorem dX12_term_0 : decode cX12_term 0 = .ok (.aload_n 0, 1) := by decide +kernel
theorem dX12_term_1 : decode cX12_term 1 = .ok (.invokevirtual 373, 3) := by decide +kernel
theorem dX12_term_4 : decode cX12_term 4 = .ok (.istore_n 1, 1) := by decide +kernel
theorem dX12_term_5 : decode cX12_term 5 = .ok (.aload_n 0, 1) := by decide +kernel
theorem dX12_term_6 : decode cX12_term 6 = .ok (.bipush 42, 2) := by decide +kernel
theorem dX12_term_8 : decode cX12_term 8 = .ok (.invokevirtual 366, 3) := by decide +kernel
theorem dX12_term_11 : decode cX12_term 11 = .ok (.ifCond .eq 17, 3) := by decide +kernel
theorem dX12_term_14 : decode cX12_term 14 = .ok (.aload_n 0, 1) := by decide +kernel
theorem dX12_term_15 : decode cX12_term 15 = .ok (.invokevirtual 329, 3) := by decide +kernel
theorem dX12_term_18 : decode cX12_term 18 = .ok (.iload_n 1, 1) := by decide +kernel
theorem dX12_term_19 : decode cX12_term 19 = .ok (.aload_n 0, 1) := by decide +kernel
theorem dX12_term_20 : decode cX12_term 20 = .ok (.invokevirtual 373, 3) := by decide +kernel
theorem dX12_term_23 : decode cX12_term 23 = .ok (.imul, 1) := by decide +kernel
theorem dX12_term_24 : decode cX12_term 24 = .ok (.istore_n 1, 1) := by decide +kernel
theorem dX12_term_25 : decode cX12_term 25 = .ok (.goto (-20), 3) := by decide +kernel
theorem dX12_term_28 : decode cX12_term 28 = .ok (.iload_n 1, 1) := by decide +kernel
theorem dX12_term_29 : decode cX12_term 29 = .ok (.ireturn, 1) := by decide +kernel
theorem sb_wsX12_added_wsX12_added_r1 : ∀ w ∈ wsX12_added_r1, w ∈ wsX12_added := fun _ h => (List.mem_cons_of_mem _ (List.mem_append_left _ (List.mem_append_left _ h)))
theorem sb_wsX12_added_wsX12_added_r2 : ∀ w ∈ wsX12_added_r2, w ∈ wsX12_added := fun _ h => (List.mem_cons_of_mem _ (List.mem_append_left _ (List.mem_append_right _ (List.mem_append_left _ h))))
theorem sb_wsX12_added_wsX12_added_r3 : ∀ w ∈ wsX12_added_r3, w ∈ wsX12_added := fun _ h => (List.mem_cons_of_mem _ (List.mem_append_left _ (List.mem_append_right _ (List.mem_append_right _ (List.mem_append_left _ h)))))
theorem sb_wsX12_added_wsX12_added_r4 : ∀ w ∈ wsX12_added_r4, w ∈ wsX12_added := fun _ h => (List.mem_cons_of_mem _ (List.mem_append_left _ (List.mem_append_right _ (List.mem_append_right _ (List.mem_append_right _ h)))))
theorem sb_wsX12_added_wsX120 : ∀ w ∈ wsX120, w ∈ wsX12_added := fun _ h => (List.mem_cons_of_mem _ (List.mem_append_right _ h))
set_option maxRecDepth 20000 in
theorem ggX12_added_X12_term : GoodIn wsX12_added wsX12_term := goodIn_sub (x_mc (sb_wsX12_added_wsX12_added_r4 _ (List.mem_of_getElem? (i := 17) rfl)) (x_ina (x_ina (x_mc (sb_wsX12_added_wsX12_added_r3 _ (List.mem_of_getElem? (i := 19) rfl)) (x_mc (sb_wsX12_added_wsX12_added_r3 _ (List.mem_of_getElem? (i := 20) rfl)) (x_mc (sb_wsX12_added_wsX12_added_r3 _ (List.mem_of_getElem? (i := 21) rfl)) (x_mc (sb_wsX12_added_wsX12_added_r1 _ (List.mem_of_getElem? (i := 5) rfl)) (x_mc (sb_wsX12_added_wsX12_added_r1 _ (List.mem_of_getElem? (i := 6) rfl)) (x_mc (sb_wsX12_added_wsX12_added_r1 _ (List.mem_of_getElem? (i := 7) rfl)) (x_mc (sb_wsX12_added_wsX12_added_r1 _ (List.mem_of_getElem? (i := 8) rfl)) (x_mc (sb_wsX12_added_wsX12_added_r1 _ (List.mem_of_getElem? (i := 9) rfl)) (x_mc (sb_wsX12_added_wsX12_added_r1 _ (List.mem_of_getElem? (i := 10) rfl)) (x_mc (sb_wsX12_added_wsX12_added_r1 _ (List.mem_of_getElem? (i := 11) rfl)) (x_mc (sb_wsX12_added_wsX12_added_r1 _ (List.mem_of_getElem? (i := 0) rfl)) (x_mc (sb_wsX12_added_wsX12_added_r1 _ (List.mem_of_getElem? (i := 12) rfl)) (x_mc (sb_wsX12_added_wsX12_added_r1 _ (List.mem_of_getElem? (i := 13) rfl)) (x_mc (sb_wsX12_added_wsX12_added_r1 _ (List.mem_of_getElem? (i := 14) rfl)) (x_mc (sb_wsX12_added_wsX12_added_r1 _ (List.mem_of_getElem? (i := 15) rfl)) (x_mc (sb_wsX12_added_wsX12_added_r1 _ (List.mem_of_getElem? (i := 16) rfl)) (x_mc (sb_wsX12_added_wsX12_added_r1 _ (List.mem_of_getElem? (i := 17) rfl)) (x_mc (sb_wsX12_added_wsX12_added_r1 _ (List.mem_of_getElem? (i := 18) rfl)) (x_mc (sb_wsX12_added_wsX12_added_r1 _ (List.mem_of_getElem? (i := 19) rfl)) (x_mc (sb_wsX12_added_wsX12_added_r1 _ (List.mem_of_getElem? (i := 20) rfl)) (x_mc (sb_wsX12_added_wsX12_added_r1 _ (List.mem_of_getElem? (i := 21) rfl)) (x_mc (sb_wsX12_added_wsX12_added_r1 _ (List.mem_of_getElem? (i := 22) rfl)) (x_mc (sb_wsX12_added_wsX12_added_r1 _ (List.mem_of_getElem? (i := 23) rfl)) (x_mc (sb_wsX12_added_wsX12_added_r2 _ (List.mem_of_getElem? (i := 0) rfl)) x_mn)))))))))))))))))))))))) (x_ina (x_mc (sb_wsX12_added_wsX12_added_r2 _ (List.mem_of_getElem? (i := 1) rfl)) (x_mc (sb_wsX12_added_wsX12_added_r2 _ (List.mem_of_getElem? (i := 2) rfl)) (x_mc (sb_wsX12_added_wsX12_added_r2 _ (List.mem_of_getElem? (i := 3) rfl)) (x_mc (sb_wsX12_added_wsX12_added_r2 _ (List.mem_of_getElem? (i := 4) rfl)) (x_mc (sb_wsX12_added_wsX12_added_r2 _ (List.mem_of_getElem? (i := 5) rfl)) (x_mc (sb_wsX12_added_wsX12_added_r2 _ (List.mem_of_getElem? (i := 6) rfl)) (x_mc (sb_wsX12_added_wsX12_added_r2 _ (List.mem_of_getElem? (i := 7) rfl)) (x_mc (sb_wsX12_added_wsX12_added_r2 _ (List.mem_of_getElem? (i := 8) rfl)) (x_mc (sb_wsX12_added_wsX12_added_r2 _ (List.mem_of_getElem? (i := 9) rfl)) (x_mc (sb_wsX12_added_wsX12_added_r2 _ (List.mem_of_getElem? (i := 10) rfl)) (x_mc (sb_wsX12_added_wsX12_added_r2 _ (List.mem_of_getElem? (i := 11) rfl)) (x_mc List.mem_cons_self (x_mc (sb_wsX12_added_wsX12_added_r1 _ (List.mem_of_getElem? (i := 1) rfl)) (x_mc (sb_wsX12_added_wsX12_added_r1 _ (List.mem_of_getElem? (i := 2) rfl)) (x_mc (sb_wsX12_added_wsX12_added_r1 _ (List.mem_of_getElem? (i := 3) rfl)) (x_mc (sb_wsX12_added_wsX12_added_r1 _ (List.mem_of_getElem? (i := 4) rfl)) (x_mc (sb_wsX12_added_wsX12_added_r2 _ (List.mem_of_getElem? (i := 12) rfl)) (x_mc (sb_wsX12_added_wsX12_added_r2 _ (List.mem_of_getElem? (i := 13) rfl)) (x_mc (sb_wsX12_added_wsX12_added_r2 _ (List.mem_of_getElem? (i := 14) rfl)) (x_mc (sb_wsX12_added_wsX12_added_r2 _ (List.mem_of_getElem? (i := 15) rfl)) (x_mc (sb_wsX12_added_wsX12_added_r2 _ (List.mem_of_getElem? (i := 16) rfl)) (x_mc (sb_wsX12_added_wsX12_added_r2 _ (List.mem_of_getElem? (i := 17) rfl)) (x_mc (sb_wsX12_added_wsX12_added_r2 _ (List.mem_of_getElem? (i := 18) rfl)) (x_mc (sb_wsX12_added_wsX12_added_r2 _ (List.mem_of_getElem? (i := 19) rfl)) x_mn)))))))))))))))))))))))) (x_ina (x_mc (sb_wsX12_added_wsX12_added_r2 _ (List.mem_of_getElem? (i := 20) rfl)) (x_mc (sb_wsX12_added_wsX12_added_r2 _ (List.mem_of_getElem? (i := 21) rfl)) (x_mc (sb_wsX12_added_wsX12_added_r2 _ (List.mem_of_getElem? (i := 22) rfl)) (x_mc (sb_wsX12_added_wsX12_added_r2 _ (List.mem_of_getElem? (i := 23) rfl)) (x_mc (sb_wsX12_added_wsX12_added_r3 _ (List.mem_of_getElem? (i := 0) rfl)) (x_mc (sb_wsX12_added_wsX12_added_r3 _ (List.mem_of_getElem? (i := 1) rfl)) (x_mc (sb_wsX12_added_wsX12_added_r3 _ (List.mem_of_getElem? (i := 2) rfl)) (x_mc (sb_wsX12_added_wsX12_added_r3 _ (List.mem_of_getElem? (i := 3) rfl)) (x_mc (sb_wsX12_added_wsX12_added_r3 _ (List.mem_of_getElem? (i := 4) rfl)) (x_mc (sb_wsX12_added_wsX12_added_r3 _ (List.mem_of_getElem? (i := 5) rfl)) (x_mc (sb_wsX12_added_wsX12_added_r3 _ (List.mem_of_getElem? (i := 6) rfl)) (x_mc (sb_wsX12_added_wsX12_added_r3 _ (List.mem_of_getElem? (i := 7) rfl)) (x_mc (sb_wsX12_added_wsX12_added_r3 _ (List.mem_of_getElem? (i := 8) rfl)) (x_mc (sb_wsX12_added_wsX12_added_r3 _ (List.mem_of_getElem? (i := 9) rfl)) (x_mc (sb_wsX12_added_wsX12_added_r3 _ (List.mem_of_getElem? (i := 10) rfl)) (x_mc (sb_wsX12_added_wsX12_added_r3 _ (List.mem_of_getElem? (i := 11) rfl)) (x_mc (sb_wsX12_added_wsX12_added_r3 _ (List.mem_of_getElem? (i := 12) rfl)) (x_mc (sb_wsX12_added_wsX12_added_r3 _ (List.mem_of_getElem? (i := 13) rfl)) (x_mc (sb_wsX12_added_wsX12_added_r3 _ (List.mem_of_getElem? (i := 14) rfl)) (x_mc (sb_wsX12_added_wsX12_added_r3 _ (List.mem_of_getElem? (i := 15) rfl)) (x_mc (sb_wsX12_added_wsX12_added_r3 _ (List.mem_of_getElem? (i := 16) rfl)) (x_mc (sb_wsX12_added_wsX12_added_r3 _ (List.mem_of_getElem? (i := 17) rfl)) (x_mc (sb_wsX12_added_wsX12_added_r3 _ (List.mem_of_getElem? (i := 18) rfl)) (x_mc (sb_wsX12_added_wsX12_added_r3 _ (List.mem_of_getElem? (i := 22) rfl)) x_mn)))))))))))))))))))))))) (x_mc (sb_wsX12_added_wsX12_added_r3 _ (List.mem_of_getElem? (i := 23) rfl)) (x_mc (sb_wsX12_added_wsX12_added_r4 _ (List.mem_of_getElem? (i := 0) rfl)) (x_mc (sb_wsX12_added_wsX12_added_r4 _ (List.mem_of_getElem? (i := 1) rfl)) (x_mc (sb_wsX12_added_wsX12_added_r4 _ (List.mem_of_getElem? (i := 2) rfl)) (x_mc (sb_wsX12_added_wsX12_added_r4 _ (List.mem_of_getElem? (i := 3) rfl)) (x_mc (sb_wsX12_added_wsX12_added_r4 _ (List.mem_of_getElem? (i := 4) rfl)) (x_mc (sb_wsX12_added_wsX12_added_r4 _ (List.mem_of_getElem? (i := 5) rfl)) (x_mc (sb_wsX12_added_wsX12_added_r4 _ (List.mem_of_getElem? (i := 6) rfl)) (x_mc (sb_wsX12_added_wsX12_added_r4 _ (List.mem_of_getElem? (i := 7) rfl)) (x_mc (sb_wsX12_added_wsX12_added_r4 _ (List.mem_of_getElem? (i := 8) rfl)) (x_mc (sb_wsX12_added_wsX12_added_r4 _ (List.mem_of_getElem? (i := 9) rfl)) (x_mc (sb_wsX12_added_wsX12_added_r4 _ (List.mem_of_getElem? (i := 10) rfl)) (x_mc (sb_wsX12_added_wsX12_added_r4 _ (List.mem_of_getElem? (i := 11) rfl)) (x_mc (sb_wsX12_added_wsX12_added_r4 _ (List.mem_of_getElem? (i := 12) rfl)) (x_mc (sb_wsX12_added_wsX12_added_r4 _ (List.mem_of_getElem? (i := 13) rfl)) (x_mc (sb_wsX12_added_wsX12_added_r4 _ (List.mem_of_getElem? (i := 14) rfl)) (x_mc (sb_wsX12_added_wsX12_added_r4 _ (List.mem_of_getElem? (i := 15) rfl)) (x_mc (sb_wsX12_added_wsX12_added_r4 _ (List.mem_of_getElem? (i := 16) rfl)) x_mn))))))))))))))))))))) (fun _ h => sb_wsX12_added_wsX120 _ h))) (by decide +kernel)
set_option maxRecDepth 20000 in
theorem gX12_added_X12_term : GoodIn wsX12_added (wsV RX12 382 RX12 yX12_term wsX12_term) := goodIn_app (goodIn_of _ (by decide +kernel)) ggX12_added_X12_term
set_option maxRecDepth 20000 in
theorem ggX12_added_X12_isSign : GoodIn wsX12_added wsX12_isSign := goodIn_sub (x_mc (sb_wsX12_added_wsX12_added_r1 _ (List.mem_of_getElem? (i := 9) rfl)) (x_ina (x_mc (sb_wsX12_added_wsX12_added_r1 _ (List.mem_of_getElem? (i := 10) rfl)) (x_mc (sb_wsX12_added_wsX12_added_r1 _ (List.mem_of_getElem? (i := 11) rfl)) (x_mc (sb_wsX12_added_wsX12_added_r1 _ (List.mem_of_getElem? (i := 0) rfl)) x_mn))) (fun _ h => sb_wsX12_added_wsX120 _ h))) (by decide +kernel)
set_option maxRecDepth 20000 in
theorem gX12_added_X12_isSign : GoodIn wsX12_added (wsV RX12 366 RX12 yX12_isSign wsX12_isSign) := goodIn_app (goodIn_of _ (by decide +kernel)) ggX12_added_X12_isSign
set_option maxRecDepth 20000 in
theorem ggX12_added_X12_next : GoodIn wsX12_added wsX12_next := goodIn_sub (x_mc (sb_wsX12_added_wsX12_added_r1 _ (List.mem_of_getElem? (i := 15) rfl)) (x_ina (x_mc (sb_wsX12_added_wsX12_added_r1 _ (List.mem_of_getElem? (i := 16) rfl)) (x_mc (sb_wsX12_added_wsX12_added_r1 _ (List.mem_of_getElem? (i := 17) rfl)) (x_mc (sb_wsX12_added_wsX12_added_r1 _ (List.mem_of_getElem? (i := 11) rfl)) (x_mc (sb_wsX12_added_wsX12_added_r1 _ (List.mem_of_getElem? (i := 18) rfl)) (x_mc (sb_wsX12_added_wsX12_added_r1 _ (List.mem_of_getElem? (i := 19) rfl)) (x_mc (sb_wsX12_added_wsX12_added_r1 _ (List.mem_of_getElem? (i := 20) rfl)) (x_mc (sb_wsX12_added_wsX12_added_r1 _ (List.mem_of_getElem? (i := 0) rfl)) (x_mc (sb_wsX12_added_wsX12_added_r1 _ (List.mem_of_getElem? (i := 21) rfl)) (x_mc (sb_wsX12_added_wsX12_added_r1 _ (List.mem_of_getElem? (i := 22) rfl)) (x_mc (sb_wsX12_added_wsX12_added_r1 _ (List.mem_of_getElem? (i := 23) rfl)) (x_mc (sb_wsX12_added_wsX12_added_r2 _ (List.mem_of_getElem? (i := 0) rfl)) (x_mc (sb_wsX12_added_wsX12_added_r2 _ (List.mem_of_getElem? (i := 1) rfl)) (x_mc (sb_wsX12_added_wsX12_added_r2 _ (List.mem_of_getElem? (i := 2) rfl)) (x_mc (sb_wsX12_added_wsX12_added_r2 _ (List.mem_of_getElem? (i := 3) rfl)) (x_mc (sb_wsX12_added_wsX12_added_r2 _ (List.mem_of_getElem? (i := 4) rfl)) (x_mc (sb_wsX12_added_wsX12_added_r2 _ (List.mem_of_getElem? (i := 5) rfl)) (x_mc (sb_wsX12_added_wsX12_added_r1 _ (List.mem_of_getElem? (i := 5) rfl)) (x_mc (sb_wsX12_added_wsX12_added_r2 _ (List.mem_of_getElem? (i := 6) rfl)) (x_mc (sb_wsX12_added_wsX12_added_r2 _ (List.mem_of_getElem? (i := 7) rfl)) (x_mc (sb_wsX12_added_wsX12_added_r2 _ (List.mem_of_getElem? (i := 8) rfl)) (x_mc (sb_wsX12_added_wsX12_added_r2 _ (List.mem_of_getElem? (i := 9) rfl)) (x_mc (sb_wsX12_added_wsX12_added_r2 _ (List.mem_of_getElem? (i := 10) rfl)) (x_mc (sb_wsX12_added_wsX12_added_r2 _ (List.mem_of_getElem? (i := 11) rfl)) x_mn))))))))))))))))))))))) (fun _ h => sb_wsX12_added_wsX120 _ h))) (by decide +kernel)
set_option maxRecDepth 20000 in
theorem gX12_added_X12_next : GoodIn wsX12_added (wsV RX12 329 RX12 yX12_next wsX12_next) := goodIn_app (goodIn_of _ (by decide +kernel)) ggX12_added_X12_next
theorem dX12_added_0 : decode cX12_added 0 = .ok (.aload_n 0, 1) := by decide +kernel
theorem dX12_added_1 : decode cX12_added 1 = .ok (.invokevirtual 382, 3) := by decide +kernel
theorem dX12_added_4 : decode cX12_added 4 = .ok (.istore_n 1, 1) := by decide +kernel
theorem dX12_added_5 : decode cX12_added 5 = .ok (.aload_n 0, 1) := by decide +kernel
theorem dX12_added_6 : decode cX12_added 6 = .ok (.bipush 43, 2) := by decide +kernel
theorem dX12_added_8 : decode cX12_added 8 = .ok (.invokevirtual 366, 3) := by decide +kernel
theorem dX12_added_11 : decode cX12_added 11 = .ok (.ifCond .ne 12, 3) := by decide +kernel
theorem dX12_added_14 : decode cX12_added 14 = .ok (.aload_n 0, 1) := by decide +kernel
theorem dX12_added_15 : decode cX12_added 15 = .ok (.bipush 45, 2) := by decide +kernel
theorem dX12_added_17 : decode cX12_added 17 = .ok (.invokevirtual 366, 3) := by decide +kernel
theorem dX12_added_20 : decode cX12_added 20 = .ok (.ifCond .eq 46, 3) := by decide +kernel
theorem dX12_added_23 : decode cX12_added 23 = .ok (.aload_n 0, 1) := by decide +kernel
theorem dX12_added_24 : decode cX12_added 24 = .ok (.getfield 300, 3) := by decide +kernel
theorem dX12_added_27 : decode cX12_added 27 = .ok (.ldc2_w 385, 3) := by decide +kernel
theorem dX12_added_30 : decode cX12_added 30 = .ok (.lcmp, 1) := by decide +kernel
theorem dX12_added_31 : decode cX12_added 31 = .ok (.ifCond .ne 7, 3) := by decide +kernel
theorem dX12_added_34 : decode cX12_added 34 = .ok (.iconst 1, 1) := by decide +kernel
theorem dX12_added_35 : decode cX12_added 35 = .ok (.goto 4, 3) := by decide +kernel
theorem dX12_added_38 : decode cX12_added 38 = .ok (.iconst 0, 1) := by decide +kernel
theorem dX12_added_39 : decode cX12_added 39 = .ok (.istore_n 2, 1) := by decide +kernel
theorem dX12_added_40 : decode cX12_added 40 = .ok (.aload_n 0, 1) := by decide +kernel
theorem dX12_added_41 : decode cX12_added 41 = .ok (.invokevirtual 329, 3) := by decide +kernel
theorem dX12_added_44 : decode cX12_added 44 = .ok (.aload_n 0, 1) := by decide +kernel
theorem dX12_added_45 : decode cX12_added 45 = .ok (.invokevirtual 382, 3) := by decide +kernel
theorem dX12_added_48 : decode cX12_added 48 = .ok (.istore_n 3, 1) := by decide +kernel
theorem dX12_added_49 : decode cX12_added 49 = .ok (.iload_n 2, 1) := by decide +kernel
theorem dX12_added_50 : decode cX12_added 50 = .ok (.ifCond .eq 9, 3) := by decide +kernel
theorem dX12_added_53 : decode cX12_added 53 = .ok (.iload_n 1, 1) := by decide +kernel
theorem dX12_added_54 : decode cX12_added 54 = .ok (.iload_n 3, 1) := by decide +kernel
theorem dX12_added_55 : decode cX12_added 55 = .ok (.iadd, 1) := by decide +kernel
theorem dX12_added_56 : decode cX12_added 56 = .ok (.goto 6, 3) := by decide +kernel
theorem dX12_added_59 : decode cX12_added 59 = .ok (.iload_n 1, 1) := by decide +kernel
theorem dX12_added_60 : decode cX12_added 60 = .ok (.iload_n 3, 1) := by decide +kernel
theorem dX12_added_61 : decode cX12_added 61 = .ok (.isub, 1) := by decide +kernel
theorem dX12_added_62 : decode cX12_added 62 = .ok (.istore_n 1, 1) := by decide +kernel
theorem dX12_added_63 : decode cX12_added 63 = .ok (.goto (-58), 3) := by decide +kernel
theorem dX12_added_66 : decode cX12_added 66 = .ok (.iload_n 1, 1) := by decide +kernel
theorem dX12_added_67 : decode cX12_added 67 = .ok (.ireturn, 1) := by decide +kernel
theorem sb_wsX12_not_wsX12_not_r1 : ∀ w ∈ wsX12_not_r1, w ∈ wsX12_not := fun _ h => (List.mem_cons_of_mem _ (List.mem_append_left _ (List.mem_append_left _ h)))
theorem sb_wsX12_not_wsX12_not_r2 : ∀ w ∈ wsX12_not_r2, w ∈ wsX12_not := fun _ h => (List.mem_cons_of_mem _ (List.mem_append_left _ (List.mem_append_right _ (List.mem_append_left _ h))))
theorem sb_wsX12_not_wsX12_not_r3 : ∀ w ∈ wsX12_not_r3, w ∈ wsX12_not := fun _ h => (List.mem_cons_of_mem _ (List.mem_append_left _ (List.mem_append_right _ (List.mem_append_right _ (List.mem_append_left _ h)))))
theorem sb_wsX12_not_wsX12_not_r4 : ∀ w ∈ wsX12_not_r4, w ∈ wsX12_not := fun _ h => (List.mem_cons_of_mem _ (List.mem_append_left _ (List.mem_append_right _ (List.mem_append_right _ (List.mem_append_right _ h)))))
theorem sb_wsX12_not_wsX120 : ∀ w ∈ wsX120, w ∈ wsX12_not := fun _ h => (List.mem_cons_of_mem _ (List.mem_append_right _ h))
set_option maxRecDepth 20000 in
theorem ggX12_not_X12_isWord : GoodIn wsX12_not wsX12_isWord := goodIn_sub (x_mc (sb_wsX12_not_wsX12_not_r1 _ (List.mem_of_getElem? (i := 8) rfl)) (x_ina (x_mc (sb_wsX12_not_wsX12_not_r1 _ (List.mem_of_getElem? (i := 9) rfl)) (x_mc (sb_wsX12_not_wsX12_not_r1 _ (List.mem_of_getElem? (i := 10) rfl)) (x_mc (sb_wsX12_not_wsX12_not_r1 _ (List.mem_of_getElem? (i := 2) rfl)) x_mn))) (fun _ h => sb_wsX12_not_wsX120 _ h))) (by decide +kernel)
set_option maxRecDepth 20000 in
theorem gX12_not_X12_isWord : GoodIn wsX12_not (wsV RX12 334 RX12 yX12_isWord wsX12_isWord) := goodIn_app (goodIn_of _ (by decide +kernel)) ggX12_not_X12_isWord
set_option maxRecDepth 20000 in
theorem ggX12_not_X12_opens : GoodIn wsX12_not wsX12_opens := goodIn_sub (x_mc (sb_wsX12_not_wsX12_not_r1 _ (List.mem_of_getElem? (i := 14) rfl)) (x_ina (x_ina (x_mc (sb_wsX12_not_wsX12_not_r1 _ (List.mem_of_getElem? (i := 1) rfl)) (x_mc (sb_wsX12_not_wsX12_not_r1 _ (List.mem_of_getElem? (i := 15) rfl)) (x_mc (sb_wsX12_not_wsX12_not_r1 _ (List.mem_of_getElem? (i := 16) rfl)) (x_mc (sb_wsX12_not_wsX12_not_r1 _ (List.mem_of_getElem? (i := 17) rfl)) (x_mc (sb_wsX12_not_wsX12_not_r1 _ (List.mem_of_getElem? (i := 7) rfl)) (x_mc (sb_wsX12_not_wsX12_not_r1 _ (List.mem_of_getElem? (i := 18) rfl)) (x_mc (sb_wsX12_not_wsX12_not_r1 _ (List.mem_of_getElem? (i := 9) rfl)) (x_mc (sb_wsX12_not_wsX12_not_r1 _ (List.mem_of_getElem? (i := 19) rfl)) (x_mc (sb_wsX12_not_wsX12_not_r1 _ (List.mem_of_getElem? (i := 20) rfl)) (x_mc (sb_wsX12_not_wsX12_not_r1 _ (List.mem_of_getElem? (i := 21) rfl)) (x_mc (sb_wsX12_not_wsX12_not_r1 _ (List.mem_of_getElem? (i := 22) rfl)) (x_mc (sb_wsX12_not_wsX12_not_r1 _ (List.mem_of_getElem? (i := 23) rfl)) (x_mc (sb_wsX12_not_wsX12_not_r2 _ (List.mem_of_getElem? (i := 0) rfl)) (x_mc (sb_wsX12_not_wsX12_not_r2 _ (List.mem_of_getElem? (i := 1) rfl)) (x_mc (sb_wsX12_not_wsX12_not_r1 _ (List.mem_of_getElem? (i := 10) rfl)) (x_mc (sb_wsX12_not_wsX12_not_r2 _ (List.mem_of_getElem? (i := 2) rfl)) (x_mc (sb_wsX12_not_wsX12_not_r2 _ (List.mem_of_getElem? (i := 3) rfl)) (x_mc (sb_wsX12_not_wsX12_not_r2 _ (List.mem_of_getElem? (i := 4) rfl)) (x_mc (sb_wsX12_not_wsX12_not_r1 _ (List.mem_of_getElem? (i := 2) rfl)) (x_mc (sb_wsX12_not_wsX12_not_r2 _ (List.mem_of_getElem? (i := 5) rfl)) (x_mc (sb_wsX12_not_wsX12_not_r2 _ (List.mem_of_getElem? (i := 6) rfl)) (x_mc (sb_wsX12_not_wsX12_not_r2 _ (List.mem_of_getElem? (i := 7) rfl)) (x_mc (sb_wsX12_not_wsX12_not_r2 _ (List.mem_of_getElem? (i := 8) rfl)) (x_mc (sb_wsX12_not_wsX12_not_r2 _ (List.mem_of_getElem? (i := 9) rfl)) x_mn)))))))))))))))))))))))) (x_mc (sb_wsX12_not_wsX12_not_r2 _ (List.mem_of_getElem? (i := 10) rfl)) (x_mc (sb_wsX12_not_wsX12_not_r2 _ (List.mem_of_getElem? (i := 11) rfl)) (x_mc (sb_wsX12_not_wsX12_not_r2 _ (List.mem_of_getElem? (i := 12) rfl)) (x_mc (sb_wsX12_not_wsX12_not_r2 _ (List.mem_of_getElem? (i := 13) rfl)) (x_mc (sb_wsX12_not_wsX12_not_r2 _ (List.mem_of_getElem? (i := 14) rfl)) (x_mc (sb_wsX12_not_wsX12_not_r2 _ (List.mem_of_getElem? (i := 15) rfl)) (x_mc (sb_wsX12_not_wsX12_not_r2 _ (List.mem_of_getElem? (i := 16) rfl)) (x_mc (sb_wsX12_not_wsX12_not_r2 _ (List.mem_of_getElem? (i := 17) rfl)) (x_mc (sb_wsX12_not_wsX12_not_r2 _ (List.mem_of_getElem? (i := 18) rfl)) (x_mc (sb_wsX12_not_wsX12_not_r2 _ (List.mem_of_getElem? (i := 19) rfl)) x_mn))))))))))) (fun _ h => sb_wsX12_not_wsX120 _ h))) (by decide +kernel)
set_option maxRecDepth 20000 in
theorem gX12_not_X12_opens : GoodIn wsX12_not (wsV RX12 369 RX12 yX12_opens wsX12_opens) := goodIn_app (goodIn_of _ (by decide +kernel)) ggX12_not_X12_opens
set_option maxRecDepth 20000 in
theorem ggX12_not_X12_not : GoodIn wsX12_not wsX12_not := goodIn_sub (x_mc List.mem_cons_self (x_ina (x_ina (x_mc (sb_wsX12_not_wsX12_not_r1 _ (List.mem_of_getElem? (i := 0) rfl)) (x_mc (sb_wsX12_not_wsX12_not_r1 _ (List.mem_of_getElem? (i := 1) rfl)) (x_mc (sb_wsX12_not_wsX12_not_r1 _ (List.mem_of_getElem? (i := 2) rfl)) (x_mc (sb_wsX12_not_wsX12_not_r1 _ (List.mem_of_getElem? (i := 3) rfl)) (x_mc (sb_wsX12_not_wsX12_not_r1 _ (List.mem_of_getElem? (i := 4) rfl)) (x_mc (sb_wsX12_not_wsX12_not_r1 _ (List.mem_of_getElem? (i := 5) rfl)) (x_mc (sb_wsX12_not_wsX12_not_r1 _ (List.mem_of_getElem? (i := 6) rfl)) (x_mc (sb_wsX12_not_wsX12_not_r1 _ (List.mem_of_getElem? (i := 7) rfl)) (x_mc (sb_wsX12_not_wsX12_not_r1 _ (List.mem_of_getElem? (i := 8) rfl)) (x_mc (sb_wsX12_not_wsX12_not_r1 _ (List.mem_of_getElem? (i := 9) rfl)) (x_mc (sb_wsX12_not_wsX12_not_r1 _ (List.mem_of_getElem? (i := 10) rfl)) (x_mc (sb_wsX12_not_wsX12_not_r1 _ (List.mem_of_getElem? (i := 11) rfl)) (x_mc (sb_wsX12_not_wsX12_not_r1 _ (List.mem_of_getElem? (i := 12) rfl)) (x_mc (sb_wsX12_not_wsX12_not_r1 _ (List.mem_of_getElem? (i := 13) rfl)) (x_mc (sb_wsX12_not_wsX12_not_r1 _ (List.mem_of_getElem? (i := 14) rfl)) (x_mc (sb_wsX12_not_wsX12_not_r1 _ (List.mem_of_getElem? (i := 15) rfl)) (x_mc (sb_wsX12_not_wsX12_not_r1 _ (List.mem_of_getElem? (i := 16) rfl)) (x_mc (sb_wsX12_not_wsX12_not_r1 _ (List.mem_of_getElem? (i := 17) rfl)) (x_mc (sb_wsX12_not_wsX12_not_r1 _ (List.mem_of_getElem? (i := 18) rfl)) (x_mc (sb_wsX12_not_wsX12_not_r1 _ (List.mem_of_getElem? (i := 19) rfl)) (x_mc (sb_wsX12_not_wsX12_not_r1 _ (List.mem_of_getElem? (i := 20) rfl)) (x_mc (sb_wsX12_not_wsX12_not_r1 _ (List.mem_of_getElem? (i := 21) rfl)) (x_mc (sb_wsX12_not_wsX12_not_r1 _ (List.mem_of_getElem? (i := 22) rfl)) (x_mc (sb_wsX12_not_wsX12_not_r1 _ (List.mem_of_getElem? (i := 23) rfl)) x_mn)))))))))))))))))))))))) (x_ina (x_mc (sb_wsX12_not_wsX12_not_r2 _ (List.mem_of_getElem? (i := 0) rfl)) (x_mc (sb_wsX12_not_wsX12_not_r2 _ (List.mem_of_getElem? (i := 1) rfl)) (x_mc (sb_wsX12_not_wsX12_not_r2 _ (List.mem_of_getElem? (i := 2) rfl)) (x_mc (sb_wsX12_not_wsX12_not_r2 _ (List.mem_of_getElem? (i := 3) rfl)) (x_mc (sb_wsX12_not_wsX12_not_r2 _ (List.mem_of_getElem? (i := 4) rfl)) (x_mc (sb_wsX12_not_wsX12_not_r2 _ (List.mem_of_getElem? (i := 5) rfl)) (x_mc (sb_wsX12_not_wsX12_not_r2 _ (List.mem_of_getElem? (i := 6) rfl)) (x_mc (sb_wsX12_not_wsX12_not_r2 _ (List.mem_of_getElem? (i := 7) rfl)) (x_mc (sb_wsX12_not_wsX12_not_r2 _ (List.mem_of_getElem? (i := 8) rfl)) (x_mc (sb_wsX12_not_wsX12_not_r2 _ (List.mem_of_getElem? (i := 9) rfl)) (x_mc (sb_wsX12_not_wsX12_not_r2 _ (List.mem_of_getElem? (i := 10) rfl)) (x_mc (sb_wsX12_not_wsX12_not_r2 _ (List.mem_of_getElem? (i := 11) rfl)) (x_mc (sb_wsX12_not_wsX12_not_r2 _ (List.mem_of_getElem? (i := 12) rfl)) (x_mc (sb_wsX12_not_wsX12_not_r2 _ (List.mem_of_getElem? (i := 13) rfl)) (x_mc (sb_wsX12_not_wsX12_not_r2 _ (List.mem_of_getElem? (i := 14) rfl)) (x_mc (sb_wsX12_not_wsX12_not_r2 _ (List.mem_of_getElem? (i := 15) rfl)) (x_mc (sb_wsX12_not_wsX12_not_r2 _ (List.mem_of_getElem? (i := 16) rfl)) (x_mc (sb_wsX12_not_wsX12_not_r2 _ (List.mem_of_getElem? (i := 17) rfl)) (x_mc (sb_wsX12_not_wsX12_not_r2 _ (List.mem_of_getElem? (i := 18) rfl)) (x_mc (sb_wsX12_not_wsX12_not_r2 _ (List.mem_of_getElem? (i := 19) rfl)) (x_mc (sb_wsX12_not_wsX12_not_r2 _ (List.mem_of_getElem? (i := 20) rfl)) (x_mc (sb_wsX12_not_wsX12_not_r2 _ (List.mem_of_getElem? (i := 21) rfl)) (x_mc (sb_wsX12_not_wsX12_not_r2 _ (List.mem_of_getElem? (i := 22) rfl)) (x_mc (sb_wsX12_not_wsX12_not_r2 _ (List.mem_of_getElem? (i := 23) rfl)) x_mn)))))))))))))))))))))))) (x_ina (x_mc (sb_wsX12_not_wsX12_not_r3 _ (List.mem_of_getElem? (i := 0) rfl)) (x_mc (sb_wsX12_not_wsX12_not_r3 _ (List.mem_of_getElem? (i := 1) rfl)) (x_mc (sb_wsX12_not_wsX12_not_r3 _ (List.mem_of_getElem? (i := 2) rfl)) (x_mc (sb_wsX12_not_wsX12_not_r3 _ (List.mem_of_getElem? (i := 3) rfl)) (x_mc (sb_wsX12_not_wsX12_not_r3 _ (List.mem_of_getElem? (i := 4) rfl)) (x_mc (sb_wsX12_not_wsX12_not_r3 _ (List.mem_of_getElem? (i := 5) rfl)) (x_mc (sb_wsX12_not_wsX12_not_r3 _ (List.mem_of_getElem? (i := 6) rfl)) (x_mc (sb_wsX12_not_wsX12_not_r3 _ (List.mem_of_getElem? (i := 7) rfl)) (x_mc (sb_wsX12_not_wsX12_not_r3 _ (List.mem_of_getElem? (i := 8) rfl)) (x_mc (sb_wsX12_not_wsX12_not_r3 _ (List.mem_of_getElem? (i := 9) rfl)) (x_mc (sb_wsX12_not_wsX12_not_r3 _ (List.mem_of_getElem? (i := 10) rfl)) (x_mc (sb_wsX12_not_wsX12_not_r3 _ (List.mem_of_getElem? (i := 11) rfl)) (x_mc (sb_wsX12_not_wsX12_not_r3 _ (List.mem_of_getElem? (i := 12) rfl)) (x_mc (sb_wsX12_not_wsX12_not_r3 _ (List.mem_of_getElem? (i := 13) rfl)) (x_mc (sb_wsX12_not_wsX12_not_r3 _ (List.mem_of_getElem? (i := 14) rfl)) (x_mc (sb_wsX12_not_wsX12_not_r3 _ (List.mem_of_getElem? (i := 15) rfl)) (x_mc (sb_wsX12_not_wsX12_not_r3 _ (List.mem_of_getElem? (i := 16) rfl)) (x_mc (sb_wsX12_not_wsX12_not_r3 _ (List.mem_of_getElem? (i := 17) rfl)) (x_mc (sb_wsX12_not_wsX12_not_r3 _ (List.mem_of_getElem? (i := 18) rfl)) (x_mc (sb_wsX12_not_wsX12_not_r3 _ (List.mem_of_getElem? (i := 19) rfl)) (x_mc (sb_wsX12_not_wsX12_not_r3 _ (List.mem_of_getElem? (i := 20) rfl)) (x_mc (sb_wsX12_not_wsX12_not_r3 _ (List.mem_of_getElem? (i := 21) rfl)) (x_mc (sb_wsX12_not_wsX12_not_r3 _ (List.mem_of_getElem? (i := 22) rfl)) (x_mc (sb_wsX12_not_wsX12_not_r3 _ (List.mem_of_getElem? (i := 23) rfl)) x_mn)))))))))))))))))))))))) (x_mc (sb_wsX12_not_wsX12_not_r4 _ (List.mem_of_getElem? (i := 0) rfl)) (x_mc (sb_wsX12_not_wsX12_not_r4 _ (List.mem_of_getElem? (i := 1) rfl)) (x_mc (sb_wsX12_not_wsX12_not_r4 _ (List.mem_of_getElem? (i := 2) rfl)) (x_mc (sb_wsX12_not_wsX12_not_r4 _ (List.mem_of_getElem? (i := 3) rfl)) (x_mc (sb_wsX12_not_wsX12_not_r4 _ (List.mem_of_getElem? (i := 4) rfl)) (x_mc (sb_wsX12_not_wsX12_not_r4 _ (List.mem_of_getElem? (i := 5) rfl)) (x_mc (sb_wsX12_not_wsX12_not_r4 _ (List.mem_of_getElem? (i := 6) rfl)) (x_mc (sb_wsX12_not_wsX12_not_r4 _ (List.mem_of_getElem? (i := 7) rfl)) (x_mc (sb_wsX12_not_wsX12_not_r4 _ (List.mem_of_getElem? (i := 8) rfl)) (x_mc (sb_wsX12_not_wsX12_not_r4 _ (List.mem_of_getElem? (i := 9) rfl)) (x_mc (sb_wsX12_not_wsX12_not_r4 _ (List.mem_of_getElem? (i := 10) rfl)) (x_mc (sb_wsX12_not_wsX12_not_r4 _ (List.mem_of_getElem? (i := 11) rfl)) (x_mc (sb_wsX12_not_wsX12_not_r4 _ (List.mem_of_getElem? (i := 12) rfl)) (x_mc (sb_wsX12_not_wsX12_not_r4 _ (List.mem_of_getElem? (i := 13) rfl)) (x_mc (sb_wsX12_not_wsX12_not_r4 _ (List.mem_of_getElem? (i := 14) rfl)) (x_mc (sb_wsX12_not_wsX12_not_r4 _ (List.mem_of_getElem? (i := 15) rfl)) (x_mc (sb_wsX12_not_wsX12_not_r4 _ (List.mem_of_getElem? (i := 16) rfl)) (x_mc (sb_wsX12_not_wsX12_not_r4 _ (List.mem_of_getElem? (i := 17) rfl)) x_mn))))))))))))))))))))) (fun _ h => sb_wsX12_not_wsX120 _ h))) (by decide +kernel)
set_option maxRecDepth 20000 in
theorem gX12_not_X12_not : GoodIn wsX12_not (wsV RX12 389 RX12 yX12_not wsX12_not) := goodIn_app (goodIn_of _ (by decide +kernel)) ggX12_not_X12_not
set_option maxRecDepth 20000 in
theorem ggX12_not_X12_added : GoodIn wsX12_not wsX12_added := goodIn_sub (x_mc (sb_wsX12_not_wsX12_not_r3 _ (List.mem_of_getElem? (i := 6) rfl)) (x_ina (x_ina (x_mc (sb_wsX12_not_wsX12_not_r1 _ (List.mem_of_getElem? (i := 2) rfl)) (x_mc (sb_wsX12_not_wsX12_not_r3 _ (List.mem_of_getElem? (i := 7) rfl)) (x_mc (sb_wsX12_not_wsX12_not_r3 _ (List.mem_of_getElem? (i := 8) rfl)) (x_mc (sb_wsX12_not_wsX12_not_r3 _ (List.mem_of_getElem? (i := 9) rfl)) (x_mc (sb_wsX12_not_wsX12_not_r3 _ (List.mem_of_getElem? (i := 10) rfl)) (x_mc (sb_wsX12_not_wsX12_not_r1 _ (List.mem_of_getElem? (i := 7) rfl)) (x_mc (sb_wsX12_not_wsX12_not_r3 _ (List.mem_of_getElem? (i := 2) rfl)) (x_mc (sb_wsX12_not_wsX12_not_r3 _ (List.mem_of_getElem? (i := 3) rfl)) (x_mc (sb_wsX12_not_wsX12_not_r3 _ (List.mem_of_getElem? (i := 4) rfl)) (x_mc (sb_wsX12_not_wsX12_not_r3 _ (List.mem_of_getElem? (i := 5) rfl)) (x_mc (sb_wsX12_not_wsX12_not_r1 _ (List.mem_of_getElem? (i := 9) rfl)) (x_mc (sb_wsX12_not_wsX12_not_r1 _ (List.mem_of_getElem? (i := 10) rfl)) (x_mc (sb_wsX12_not_wsX12_not_r1 _ (List.mem_of_getElem? (i := 21) rfl)) (x_mc (sb_wsX12_not_wsX12_not_r1 _ (List.mem_of_getElem? (i := 22) rfl)) (x_mc (sb_wsX12_not_wsX12_not_r1 _ (List.mem_of_getElem? (i := 23) rfl)) (x_mc (sb_wsX12_not_wsX12_not_r2 _ (List.mem_of_getElem? (i := 0) rfl)) (x_mc (sb_wsX12_not_wsX12_not_r2 _ (List.mem_of_getElem? (i := 1) rfl)) (x_mc (sb_wsX12_not_wsX12_not_r1 _ (List.mem_of_getElem? (i := 19) rfl)) (x_mc (sb_wsX12_not_wsX12_not_r2 _ (List.mem_of_getElem? (i := 2) rfl)) (x_mc (sb_wsX12_not_wsX12_not_r2 _ (List.mem_of_getElem? (i := 3) rfl)) (x_mc (sb_wsX12_not_wsX12_not_r2 _ (List.mem_of_getElem? (i := 4) rfl)) (x_mc (sb_wsX12_not_wsX12_not_r2 _ (List.mem_of_getElem? (i := 5) rfl)) (x_mc (sb_wsX12_not_wsX12_not_r2 _ (List.mem_of_getElem? (i := 6) rfl)) (x_mc (sb_wsX12_not_wsX12_not_r2 _ (List.mem_of_getElem? (i := 7) rfl)) x_mn)))))))))))))))))))))))) (x_ina (x_mc (sb_wsX12_not_wsX12_not_r2 _ (List.mem_of_getElem? (i := 8) rfl)) (x_mc (sb_wsX12_not_wsX12_not_r2 _ (List.mem_of_getElem? (i := 9) rfl)) (x_mc (sb_wsX12_not_wsX12_not_r2 _ (List.mem_of_getElem? (i := 10) rfl)) (x_mc (sb_wsX12_not_wsX12_not_r2 _ (List.mem_of_getElem? (i := 11) rfl)) (x_mc (sb_wsX12_not_wsX12_not_r2 _ (List.mem_of_getElem? (i := 12) rfl)) (x_mc (sb_wsX12_not_wsX12_not_r2 _ (List.mem_of_getElem? (i := 13) rfl)) (x_mc (sb_wsX12_not_wsX12_not_r2 _ (List.mem_of_getElem? (i := 14) rfl)) (x_mc (sb_wsX12_not_wsX12_not_r2 _ (List.mem_of_getElem? (i := 15) rfl)) (x_mc (sb_wsX12_not_wsX12_not_r2 _ (List.mem_of_getElem? (i := 16) rfl)) (x_mc (sb_wsX12_not_wsX12_not_r2 _ (List.mem_of_getElem? (i := 17) rfl)) (x_mc (sb_wsX12_not_wsX12_not_r2 _ (List.mem_of_getElem? (i := 18) rfl)) (x_mc (sb_wsX12_not_wsX12_not_r2 _ (List.mem_of_getElem? (i := 19) rfl)) (x_mc (sb_wsX12_not_wsX12_not_r3 _ (List.mem_of_getElem? (i := 11) rfl)) (x_mc (sb_wsX12_not_wsX12_not_r3 _ (List.mem_of_getElem? (i := 12) rfl)) (x_mc (sb_wsX12_not_wsX12_not_r2 _ (List.mem_of_getElem? (i := 20) rfl)) (x_mc (sb_wsX12_not_wsX12_not_r2 _ (List.mem_of_getElem? (i := 21) rfl)) (x_mc (sb_wsX12_not_wsX12_not_r2 _ (List.mem_of_getElem? (i := 22) rfl)) (x_mc (sb_wsX12_not_wsX12_not_r1 _ (List.mem_of_getElem? (i := 4) rfl)) (x_mc (sb_wsX12_not_wsX12_not_r1 _ (List.mem_of_getElem? (i := 5) rfl)) (x_mc (sb_wsX12_not_wsX12_not_r1 _ (List.mem_of_getElem? (i := 6) rfl)) (x_mc (sb_wsX12_not_wsX12_not_r1 _ (List.mem_of_getElem? (i := 8) rfl)) (x_mc (sb_wsX12_not_wsX12_not_r3 _ (List.mem_of_getElem? (i := 13) rfl)) (x_mc (sb_wsX12_not_wsX12_not_r3 _ (List.mem_of_getElem? (i := 14) rfl)) (x_mc (sb_wsX12_not_wsX12_not_r3 _ (List.mem_of_getElem? (i := 15) rfl)) x_mn)))))))))))))))))))))))) (x_ina (x_mc (sb_wsX12_not_wsX12_not_r3 _ (List.mem_of_getElem? (i := 16) rfl)) (x_mc (sb_wsX12_not_wsX12_not_r3 _ (List.mem_of_getElem? (i := 17) rfl)) (x_mc List.mem_cons_self (x_mc (sb_wsX12_not_wsX12_not_r1 _ (List.mem_of_getElem? (i := 0) rfl)) (x_mc (sb_wsX12_not_wsX12_not_r1 _ (List.mem_of_getElem? (i := 1) rfl)) (x_mc (sb_wsX12_not_wsX12_not_r1 _ (List.mem_of_getElem? (i := 3) rfl)) (x_mc (sb_wsX12_not_wsX12_not_r1 _ (List.mem_of_getElem? (i := 11) rfl)) (x_mc (sb_wsX12_not_wsX12_not_r1 _ (List.mem_of_getElem? (i := 12) rfl)) (x_mc (sb_wsX12_not_wsX12_not_r1 _ (List.mem_of_getElem? (i := 13) rfl)) (x_mc (sb_wsX12_not_wsX12_not_r1 _ (List.mem_of_getElem? (i := 14) rfl)) (x_mc (sb_wsX12_not_wsX12_not_r1 _ (List.mem_of_getElem? (i := 15) rfl)) (x_mc (sb_wsX12_not_wsX12_not_r1 _ (List.mem_of_getElem? (i := 16) rfl)) (x_mc (sb_wsX12_not_wsX12_not_r1 _ (List.mem_of_getElem? (i := 17) rfl)) (x_mc (sb_wsX12_not_wsX12_not_r1 _ (List.mem_of_getElem? (i := 18) rfl)) (x_mc (sb_wsX12_not_wsX12_not_r1 _ (List.mem_of_getElem? (i := 20) rfl)) (x_mc (sb_wsX12_not_wsX12_not_r2 _ (List.mem_of_getElem? (i := 23) rfl)) (x_mc (sb_wsX12_not_wsX12_not_r3 _ (List.mem_of_getElem? (i := 0) rfl)) (x_mc (sb_wsX12_not_wsX12_not_r3 _ (List.mem_of_getElem? (i := 1) rfl)) (x_mc (sb_wsX12_not_wsX12_not_r3 _ (List.mem_of_getElem? (i := 18) rfl)) (x_mc (sb_wsX12_not_wsX12_not_r3 _ (List.mem_of_getElem? (i := 19) rfl)) (x_mc (sb_wsX12_not_wsX12_not_r3 _ (List.mem_of_getElem? (i := 20) rfl)) (x_mc (sb_wsX12_not_wsX12_not_r3 _ (List.mem_of_getElem? (i := 21) rfl)) (x_mc (sb_wsX12_not_wsX12_not_r3 _ (List.mem_of_getElem? (i := 22) rfl)) (x_mc (sb_wsX12_not_wsX12_not_r3 _ (List.mem_of_getElem? (i := 23) rfl)) x_mn)))))))))))))))))))))))) (x_mc (sb_wsX12_not_wsX12_not_r4 _ (List.mem_of_getElem? (i := 0) rfl)) (x_mc (sb_wsX12_not_wsX12_not_r4 _ (List.mem_of_getElem? (i := 1) rfl)) (x_mc (sb_wsX12_not_wsX12_not_r4 _ (List.mem_of_getElem? (i := 2) rfl)) (x_mc (sb_wsX12_not_wsX12_not_r4 _ (List.mem_of_getElem? (i := 3) rfl)) (x_mc (sb_wsX12_not_wsX12_not_r4 _ (List.mem_of_getElem? (i := 4) rfl)) (x_mc (sb_wsX12_not_wsX12_not_r4 _ (List.mem_of_getElem? (i := 5) rfl)) (x_mc (sb_wsX12_not_wsX12_not_r4 _ (List.mem_of_getElem? (i := 6) rfl)) (x_mc (sb_wsX12_not_wsX12_not_r4 _ (List.mem_of_getElem? (i := 7) rfl)) (x_mc (sb_wsX12_not_wsX12_not_r4 _ (List.mem_of_getElem? (i := 8) rfl)) (x_mc (sb_wsX12_not_wsX12_not_r4 _ (List.mem_of_getElem? (i := 9) rfl)) (x_mc (sb_wsX12_not_wsX12_not_r4 _ (List.mem_of_getElem? (i := 10) rfl)) (x_mc (sb_wsX12_not_wsX12_not_r4 _ (List.mem_of_getElem? (i := 11) rfl)) (x_mc (sb_wsX12_not_wsX12_not_r4 _ (List.mem_of_getElem? (i := 12) rfl)) (x_mc (sb_wsX12_not_wsX12_not_r4 _ (List.mem_of_getElem? (i := 13) rfl)) (x_mc (sb_wsX12_not_wsX12_not_r4 _ (List.mem_of_getElem? (i := 14) rfl)) (x_mc (sb_wsX12_not_wsX12_not_r4 _ (List.mem_of_getElem? (i := 15) rfl)) (x_mc (sb_wsX12_not_wsX12_not_r4 _ (List.mem_of_getElem? (i := 16) rfl)) (x_mc (sb_wsX12_not_wsX12_not_r4 _ (List.mem_of_getElem? (i := 17) rfl)) x_mn))))))))))))))))))))) (fun _ h => sb_wsX12_not_wsX120 _ h))) (by decide +kernel)
set_option maxRecDepth 20000 in
theorem gX12_not_X12_added : GoodIn wsX12_not (wsV RX12 392 RX12 yX12_added wsX12_added) := goodIn_app (goodIn_of _ (by decide +kernel)) ggX12_not_X12_added
set_option maxRecDepth 20000 in
theorem ggX12_not_X12_isSign : GoodIn wsX12_not wsX12_isSign := goodIn_sub (x_mc (sb_wsX12_not_wsX12_not_r3 _ (List.mem_of_getElem? (i := 5) rfl)) (x_ina (x_mc (sb_wsX12_not_wsX12_not_r1 _ (List.mem_of_getElem? (i := 9) rfl)) (x_mc (sb_wsX12_not_wsX12_not_r1 _ (List.mem_of_getElem? (i := 10) rfl)) (x_mc (sb_wsX12_not_wsX12_not_r1 _ (List.mem_of_getElem? (i := 2) rfl)) x_mn))) (fun _ h => sb_wsX12_not_wsX120 _ h))) (by decide +kernel)
set_option maxRecDepth 20000 in
theorem gX12_not_X12_isSign : GoodIn wsX12_not (wsV RX12 366 RX12 yX12_isSign wsX12_isSign) := goodIn_app (goodIn_of _ (by decide +kernel)) ggX12_not_X12_isSign
set_option maxRecDepth 20000 in
theorem ggX12_not_X12_next : GoodIn wsX12_not wsX12_next := goodIn_sub (x_mc (sb_wsX12_not_wsX12_not_r2 _ (List.mem_of_getElem? (i := 0) rfl)) (x_ina (x_mc (sb_wsX12_not_wsX12_not_r2 _ (List.mem_of_getElem? (i := 1) rfl)) (x_mc (sb_wsX12_not_wsX12_not_r1 _ (List.mem_of_getElem? (i := 19) rfl)) (x_mc (sb_wsX12_not_wsX12_not_r1 _ (List.mem_of_getElem? (i := 10) rfl)) (x_mc (sb_wsX12_not_wsX12_not_r2 _ (List.mem_of_getElem? (i := 2) rfl)) (x_mc (sb_wsX12_not_wsX12_not_r2 _ (List.mem_of_getElem? (i := 3) rfl)) (x_mc (sb_wsX12_not_wsX12_not_r2 _ (List.mem_of_getElem? (i := 4) rfl)) (x_mc (sb_wsX12_not_wsX12_not_r1 _ (List.mem_of_getElem? (i := 2) rfl)) (x_mc (sb_wsX12_not_wsX12_not_r2 _ (List.mem_of_getElem? (i := 5) rfl)) (x_mc (sb_wsX12_not_wsX12_not_r2 _ (List.mem_of_getElem? (i := 6) rfl)) (x_mc (sb_wsX12_not_wsX12_not_r2 _ (List.mem_of_getElem? (i := 7) rfl)) (x_mc (sb_wsX12_not_wsX12_not_r2 _ (List.mem_of_getElem? (i := 8) rfl)) (x_mc (sb_wsX12_not_wsX12_not_r2 _ (List.mem_of_getElem? (i := 9) rfl)) (x_mc (sb_wsX12_not_wsX12_not_r2 _ (List.mem_of_getElem? (i := 10) rfl)) (x_mc (sb_wsX12_not_wsX12_not_r2 _ (List.mem_of_getElem? (i := 11) rfl)) (x_mc (sb_wsX12_not_wsX12_not_r2 _ (List.mem_of_getElem? (i := 12) rfl)) (x_mc (sb_wsX12_not_wsX12_not_r2 _ (List.mem_of_getElem? (i := 13) rfl)) (x_mc (sb_wsX12_not_wsX12_not_r1 _ (List.mem_of_getElem? (i := 7) rfl)) (x_mc (sb_wsX12_not_wsX12_not_r2 _ (List.mem_of_getElem? (i := 14) rfl)) (x_mc (sb_wsX12_not_wsX12_not_r2 _ (List.mem_of_getElem? (i := 15) rfl)) (x_mc (sb_wsX12_not_wsX12_not_r2 _ (List.mem_of_getElem? (i := 16) rfl)) (x_mc (sb_wsX12_not_wsX12_not_r2 _ (List.mem_of_getElem? (i := 17) rfl)) (x_mc (sb_wsX12_not_wsX12_not_r2 _ (List.mem_of_getElem? (i := 18) rfl)) (x_mc (sb_wsX12_not_wsX12_not_r2 _ (List.mem_of_getElem? (i := 19) rfl)) x_mn))))))))))))))))))))))) (fun _ h => sb_wsX12_not_wsX120 _ h))) (by decide +kernel)
set_option maxRecDepth 20000 in
theorem gX12_not_X12_next : GoodIn wsX12_not (wsV RX12 329 RX12 yX12_next wsX12_next) := goodIn_app (goodIn_of _ (by decide +kernel)) ggX12_not_X12_next
theorem dX12_not_0 : decode cX12_not 0 = .ok (.aload_n 0, 1) := by decide +kernel
theorem dX12_not_1 : decode cX12_not 1 = .ok (.ldc2_w 387, 3) := by decide +kernel
theorem dX12_not_4 : decode cX12_not 4 = .ok (.invokevirtual 334, 3) := by decide +kernel
theorem dX12_not_7 : decode cX12_not 7 = .ok (.ifCond .eq 37, 3) := by decide +kernel
theorem dX12_not_10 : decode cX12_not 10 = .ok (.aload_n 0, 1) := by decide +kernel
theorem dX12_not_11 : decode cX12_not 11 = .ok (.invokevirtual 369, 3) := by decide +kernel
theorem dX12_not_14 : decode cX12_not 14 = .ok (.ifCond .ne 5, 3) := by decide +kernel
theorem dX12_not_17 : decode cX12_not 17 = .ok (.iconst 0, 1) := by decide +kernel
theorem dX12_not_18 : decode cX12_not 18 = .ok (.ireturn, 1) := by decide +kernel
theorem dX12_not_19 : decode cX12_not 19 = .ok (.aload_n 0, 1) := by decide +kernel
theorem dX12_not_20 : decode cX12_not 20 = .ok (.invokevirtual 389, 3) := by decide +kernel
theorem dX12_not_23 : decode cX12_not 23 = .ok (.istore_n 1, 1) := by decide +kernel
theorem dX12_not_24 : decode cX12_not 24 = .ok (.aload_n 0, 1) := by decide +kernel
theorem dX12_not_25 : decode cX12_not 25 = .ok (.dup, 1) := by decide +kernel
theorem dX12_not_26 : decode cX12_not 26 = .ok (.getfield 323, 3) := by decide +kernel
theorem dX12_not_29 : decode cX12_not 29 = .ok (.iconst 1, 1) := by decide +kernel
theorem dX12_not_30 : decode cX12_not 30 = .ok (.isub, 1) := by decide +kernel
theorem dX12_not_31 : decode cX12_not 31 = .ok (.putfield 323, 3) := by decide +kernel
theorem dX12_not_34 : decode cX12_not 34 = .ok (.iload_n 1, 1) := by decide +kernel
theorem dX12_not_35 : decode cX12_not 35 = .ok (.ifCond .ne 7, 3) := by decide +kernel
theorem dX12_not_38 : decode cX12_not 38 = .ok (.iconst 1, 1) := by decide +kernel
theorem dX12_not_39 : decode cX12_not 39 = .ok (.goto 4, 3) := by decide +kernel
theorem dX12_not_42 : decode cX12_not 42 = .ok (.iconst 0, 1) := by decide +kernel
theorem dX12_not_43 : decode cX12_not 43 = .ok (.ireturn, 1) := by decide +kernel
theorem dX12_not_44 : decode cX12_not 44 = .ok (.aload_n 0, 1) := by decide +kernel
theorem dX12_not_45 : decode cX12_not 45 = .ok (.invokevirtual 392, 3) := by decide +kernel
theorem dX12_not_48 : decode cX12_not 48 = .ok (.istore_n 1, 1) := by decide +kernel
theorem dX12_not_49 : decode cX12_not 49 = .ok (.aload_n 0, 1) := by decide +kernel
theorem dX12_not_50 : decode cX12_not 50 = .ok (.bipush 60, 2) := by decide +kernel
theorem dX12_not_52 : decode cX12_not 52 = .ok (.invokevirtual 366, 3) := by decide +kernel
theorem dX12_not_55 : decode cX12_not 55 = .ok (.ifCond .ne 14, 3) := by decide +kernel
theorem dX12_not_58 : decode cX12_not 58 = .ok (.aload_n 0, 1) := by decide +kernel
theorem dX12_not_59 : decode cX12_not 59 = .ok (.bipush 61, 2) := by decide +kernel
theorem dX12_not_61 : decode cX12_not 61 = .ok (.invokevirtual 366, 3) := by decide +kernel
theorem dX12_not_64 : decode cX12_not 64 = .ok (.ifCond .ne 5, 3) := by decide +kernel
theorem dX12_not_67 : decode cX12_not 67 = .ok (.iload_n 1, 1) := by decide +kernel
theorem dX12_not_68 : decode cX12_not 68 = .ok (.ireturn, 1) := by decide +kernel
theorem dX12_not_69 : decode cX12_not 69 = .ok (.aload_n 0, 1) := by decide +kernel
theorem dX12_not_70 : decode cX12_not 70 = .ok (.getfield 300, 3) := by decide +kernel
theorem dX12_not_73 : decode cX12_not 73 = .ok (.ldc2_w 395, 3) := by decide +kernel
theorem dX12_not_76 : decode cX12_not 76 = .ok (.lcmp, 1) := by decide +kernel
theorem dX12_not_77 : decode cX12_not 77 = .ok (.ifCond .ne 7, 3) := by decide +kernel
theorem dX12_not_80 : decode cX12_not 80 = .ok (.iconst 1, 1) := by decide +kernel
theorem dX12_not_81 : decode cX12_not 81 = .ok (.goto 4, 3) := by decide +kernel
theorem dX12_not_84 : decode cX12_not 84 = .ok (.iconst 0, 1) := by decide +kernel
theorem dX12_not_85 : decode cX12_not 85 = .ok (.istore_n 2, 1) := by decide +kernel
theorem dX12_not_86 : decode cX12_not 86 = .ok (.aload_n 0, 1) := by decide +kernel
theorem dX12_not_87 : decode cX12_not 87 = .ok (.invokevirtual 329, 3) := by decide +kernel
theorem dX12_not_90 : decode cX12_not 90 = .ok (.aload_n 0, 1) := by decide +kernel
theorem dX12_not_91 : decode cX12_not 91 = .ok (.invokevirtual 392, 3) := by decide +kernel
theorem dX12_not_94 : decode cX12_not 94 = .ok (.istore_n 3, 1) := by decide +kernel
theorem dX12_not_95 : decode cX12_not 95 = .ok (.iload_n 2, 1) := by decide +kernel
theorem dX12_not_96 : decode cX12_not 96 = .ok (.ifCond .eq 11, 3) := by decide +kernel
theorem dX12_not_99 : decode cX12_not 99 = .ok (.iload_n 1, 1) := by decide +kernel
theorem dX12_not_100 : decode cX12_not 100 = .ok (.iload_n 3, 1) := by decide +kernel
theorem dX12_not_101 : decode cX12_not 101 = .ok (.if_icmp .ge 15, 3) := by decide +kernel
theorem dX12_not_104 : decode cX12_not 104 = .ok (.goto 8, 3) := by decide +kernel
theorem dX12_not_107 : decode cX12_not 107 = .ok (.iload_n 1, 1) := by decide +kernel
theorem dX12_not_108 : decode cX12_not 108 = .ok (.iload_n 3, 1) := by decide +kernel
theorem dX12_not_109 : decode cX12_not 109 = .ok (.if_icmp .ne 7, 3) := by decide +kernel
theorem dX12_not_112 : decode cX12_not 112 = .ok (.iconst 1, 1) := by decide +kernel
theorem dX12_not_113 : decode cX12_not 113 = .ok (.goto 4, 3) := by decide +kernel
theorem dX12_not_116 : decode cX12_not 116 = .ok (.iconst 0, 1) := by decide +kernel
theorem dX12_not_117 : decode cX12_not 117 = .ok (.ireturn, 1) := by decide +kernel
theorem sb_wsX12_both_wsX12_both_r1 : ∀ w ∈ wsX12_both_r1, w ∈ wsX12_both := fun _ h => (List.mem_cons_of_mem _ (List.mem_append_left _ (List.mem_append_left _ h)))
theorem sb_wsX12_both_wsX12_both_r2 : ∀ w ∈ wsX12_both_r2, w ∈ wsX12_both := fun _ h => (List.mem_cons_of_mem _ (List.mem_append_left _ (List.mem_append_right _ (List.mem_append_left _ h))))
theorem sb_wsX12_both_wsX12_both_r3 : ∀ w ∈ wsX12_both_r3, w ∈ wsX12_both := fun _ h => (List.mem_cons_of_mem _ (List.mem_append_left _ (List.mem_append_right _ (List.mem_append_right _ (List.mem_append_left _ h)))))
theorem sb_wsX12_both_wsX12_both_r4 : ∀ w ∈ wsX12_both_r4, w ∈ wsX12_both := fun _ h => (List.mem_cons_of_mem _ (List.mem_append_left _ (List.mem_append_right _ (List.mem_append_right _ (List.mem_append_right _ h)))))
theorem sb_wsX12_both_wsX120 : ∀ w ∈ wsX120, w ∈ wsX12_both := fun _ h => (List.mem_cons_of_mem _ (List.mem_append_right _ h))
set_option maxRecDepth 20000 in
theorem ggX12_both_X12_not : GoodIn wsX12_both wsX12_not := goodIn_sub (x_mc (sb_wsX12_both_wsX12_both_r3 _ (List.mem_of_getElem? (i := 2) rfl)) (x_ina (x_ina (x_mc (sb_wsX12_both_wsX12_both_r3 _ (List.mem_of_getElem? (i := 3) rfl)) (x_mc (sb_wsX12_both_wsX12_both_r3 _ (List.mem_of_getElem? (i := 4) rfl)) (x_mc (sb_wsX12_both_wsX12_both_r1 _ (List.mem_of_getElem? (i := 11) rfl)) (x_mc (sb_wsX12_both_wsX12_both_r3 _ (List.mem_of_getElem? (i := 5) rfl)) (x_mc (sb_wsX12_both_wsX12_both_r1 _ (List.mem_of_getElem? (i := 5) rfl)) (x_mc (sb_wsX12_both_wsX12_both_r1 _ (List.mem_of_getElem? (i := 6) rfl)) (x_mc (sb_wsX12_both_wsX12_both_r1 _ (List.mem_of_getElem? (i := 7) rfl)) (x_mc (sb_wsX12_both_wsX12_both_r1 _ (List.mem_of_getElem? (i := 4) rfl)) (x_mc (sb_wsX12_both_wsX12_both_r1 _ (List.mem_of_getElem? (i := 8) rfl)) (x_mc (sb_wsX12_both_wsX12_both_r1 _ (List.mem_of_getElem? (i := 9) rfl)) (x_mc (sb_wsX12_both_wsX12_both_r1 _ (List.mem_of_getElem? (i := 10) rfl)) (x_mc (sb_wsX12_both_wsX12_both_r3 _ (List.mem_of_getElem? (i := 6) rfl)) (x_mc (sb_wsX12_both_wsX12_both_r3 _ (List.mem_of_getElem? (i := 7) rfl)) (x_mc (sb_wsX12_both_wsX12_both_r3 _ (List.mem_of_getElem? (i := 8) rfl)) (x_mc (sb_wsX12_both_wsX12_both_r3 _ (List.mem_of_getElem? (i := 9) rfl)) (x_mc (sb_wsX12_both_wsX12_both_r3 _ (List.mem_of_getElem? (i := 10) rfl)) (x_mc (sb_wsX12_both_wsX12_both_r3 _ (List.mem_of_getElem? (i := 11) rfl)) (x_mc (sb_wsX12_both_wsX12_both_r3 _ (List.mem_of_getElem? (i := 12) rfl)) (x_mc (sb_wsX12_both_wsX12_both_r3 _ (List.mem_of_getElem? (i := 13) rfl)) (x_mc (sb_wsX12_both_wsX12_both_r1 _ (List.mem_of_getElem? (i := 17) rfl)) (x_mc (sb_wsX12_both_wsX12_both_r3 _ (List.mem_of_getElem? (i := 14) rfl)) (x_mc (sb_wsX12_both_wsX12_both_r1 _ (List.mem_of_getElem? (i := 12) rfl)) (x_mc (sb_wsX12_both_wsX12_both_r1 _ (List.mem_of_getElem? (i := 13) rfl)) (x_mc (sb_wsX12_both_wsX12_both_r1 _ (List.mem_of_getElem? (i := 14) rfl)) x_mn)))))))))))))))))))))))) (x_ina (x_mc (sb_wsX12_both_wsX12_both_r1 _ (List.mem_of_getElem? (i := 15) rfl)) (x_mc (sb_wsX12_both_wsX12_both_r1 _ (List.mem_of_getElem? (i := 16) rfl)) (x_mc (sb_wsX12_both_wsX12_both_r1 _ (List.mem_of_getElem? (i := 18) rfl)) (x_mc (sb_wsX12_both_wsX12_both_r1 _ (List.mem_of_getElem? (i := 19) rfl)) (x_mc (sb_wsX12_both_wsX12_both_r1 _ (List.mem_of_getElem? (i := 20) rfl)) (x_mc (sb_wsX12_both_wsX12_both_r1 _ (List.mem_of_getElem? (i := 21) rfl)) (x_mc (sb_wsX12_both_wsX12_both_r1 _ (List.mem_of_getElem? (i := 22) rfl)) (x_mc (sb_wsX12_both_wsX12_both_r1 _ (List.mem_of_getElem? (i := 23) rfl)) (x_mc (sb_wsX12_both_wsX12_both_r2 _ (List.mem_of_getElem? (i := 0) rfl)) (x_mc (sb_wsX12_both_wsX12_both_r2 _ (List.mem_of_getElem? (i := 1) rfl)) (x_mc (sb_wsX12_both_wsX12_both_r2 _ (List.mem_of_getElem? (i := 2) rfl)) (x_mc (sb_wsX12_both_wsX12_both_r2 _ (List.mem_of_getElem? (i := 3) rfl)) (x_mc (sb_wsX12_both_wsX12_both_r2 _ (List.mem_of_getElem? (i := 4) rfl)) (x_mc (sb_wsX12_both_wsX12_both_r2 _ (List.mem_of_getElem? (i := 5) rfl)) (x_mc (sb_wsX12_both_wsX12_both_r2 _ (List.mem_of_getElem? (i := 6) rfl)) (x_mc (sb_wsX12_both_wsX12_both_r2 _ (List.mem_of_getElem? (i := 7) rfl)) (x_mc (sb_wsX12_both_wsX12_both_r2 _ (List.mem_of_getElem? (i := 8) rfl)) (x_mc (sb_wsX12_both_wsX12_both_r2 _ (List.mem_of_getElem? (i := 9) rfl)) (x_mc (sb_wsX12_both_wsX12_both_r2 _ (List.mem_of_getElem? (i := 10) rfl)) (x_mc (sb_wsX12_both_wsX12_both_r2 _ (List.mem_of_getElem? (i := 11) rfl)) (x_mc (sb_wsX12_both_wsX12_both_r1 _ (List.mem_of_getElem? (i := 1) rfl)) (x_mc (sb_wsX12_both_wsX12_both_r1 _ (List.mem_of_getElem? (i := 2) rfl)) (x_mc (sb_wsX12_both_wsX12_both_r1 _ (List.mem_of_getElem? (i := 3) rfl)) (x_mc (sb_wsX12_both_wsX12_both_r3 _ (List.mem_of_getElem? (i := 15) rfl)) x_mn)))))))))))))))))))))))) (x_ina (x_mc (sb_wsX12_both_wsX12_both_r3 _ (List.mem_of_getElem? (i := 16) rfl)) (x_mc (sb_wsX12_both_wsX12_both_r3 _ (List.mem_of_getElem? (i := 17) rfl)) (x_mc (sb_wsX12_both_wsX12_both_r2 _ (List.mem_of_getElem? (i := 17) rfl)) (x_mc (sb_wsX12_both_wsX12_both_r2 _ (List.mem_of_getElem? (i := 18) rfl)) (x_mc (sb_wsX12_both_wsX12_both_r2 _ (List.mem_of_getElem? (i := 19) rfl)) (x_mc (sb_wsX12_both_wsX12_both_r2 _ (List.mem_of_getElem? (i := 20) rfl)) (x_mc (sb_wsX12_both_wsX12_both_r2 _ (List.mem_of_getElem? (i := 12) rfl)) (x_mc (sb_wsX12_both_wsX12_both_r2 _ (List.mem_of_getElem? (i := 13) rfl)) (x_mc (sb_wsX12_both_wsX12_both_r2 _ (List.mem_of_getElem? (i := 14) rfl)) (x_mc (sb_wsX12_both_wsX12_both_r2 _ (List.mem_of_getElem? (i := 15) rfl)) (x_mc (sb_wsX12_both_wsX12_both_r2 _ (List.mem_of_getElem? (i := 16) rfl)) (x_mc List.mem_cons_self (x_mc (sb_wsX12_both_wsX12_both_r1 _ (List.mem_of_getElem? (i := 0) rfl)) (x_mc (sb_wsX12_both_wsX12_both_r2 _ (List.mem_of_getElem? (i := 21) rfl)) (x_mc (sb_wsX12_both_wsX12_both_r2 _ (List.mem_of_getElem? (i := 22) rfl)) (x_mc (sb_wsX12_both_wsX12_both_r2 _ (List.mem_of_getElem? (i := 23) rfl)) (x_mc (sb_wsX12_both_wsX12_both_r3 _ (List.mem_of_getElem? (i := 0) rfl)) (x_mc (sb_wsX12_both_wsX12_both_r3 _ (List.mem_of_getElem? (i := 1) rfl)) (x_mc (sb_wsX12_both_wsX12_both_r3 _ (List.mem_of_getElem? (i := 18) rfl)) (x_mc (sb_wsX12_both_wsX12_both_r3 _ (List.mem_of_getElem? (i := 19) rfl)) (x_mc (sb_wsX12_both_wsX12_both_r3 _ (List.mem_of_getElem? (i := 20) rfl)) (x_mc (sb_wsX12_both_wsX12_both_r3 _ (List.mem_of_getElem? (i := 21) rfl)) (x_mc (sb_wsX12_both_wsX12_both_r3 _ (List.mem_of_getElem? (i := 22) rfl)) (x_mc (sb_wsX12_both_wsX12_both_r3 _ (List.mem_of_getElem? (i := 23) rfl)) x_mn)))))))))))))))))))))))) (x_mc (sb_wsX12_both_wsX12_both_r4 _ (List.mem_of_getElem? (i := 0) rfl)) (x_mc (sb_wsX12_both_wsX12_both_r4 _ (List.mem_of_getElem? (i := 1) rfl)) (x_mc (sb_wsX12_both_wsX12_both_r4 _ (List.mem_of_getElem? (i := 2) rfl)) (x_mc (sb_wsX12_both_wsX12_both_r4 _ (List.mem_of_getElem? (i := 3) rfl)) (x_mc (sb_wsX12_both_wsX12_both_r4 _ (List.mem_of_getElem? (i := 4) rfl)) (x_mc (sb_wsX12_both_wsX12_both_r4 _ (List.mem_of_getElem? (i := 5) rfl)) (x_mc (sb_wsX12_both_wsX12_both_r4 _ (List.mem_of_getElem? (i := 6) rfl)) (x_mc (sb_wsX12_both_wsX12_both_r4 _ (List.mem_of_getElem? (i := 7) rfl)) (x_mc (sb_wsX12_both_wsX12_both_r4 _ (List.mem_of_getElem? (i := 8) rfl)) (x_mc (sb_wsX12_both_wsX12_both_r4 _ (List.mem_of_getElem? (i := 9) rfl)) (x_mc (sb_wsX12_both_wsX12_both_r4 _ (List.mem_of_getElem? (i := 10) rfl)) (x_mc (sb_wsX12_both_wsX12_both_r4 _ (List.mem_of_getElem? (i := 11) rfl)) (x_mc (sb_wsX12_both_wsX12_both_r4 _ (List.mem_of_getElem? (i := 12) rfl)) (x_mc (sb_wsX12_both_wsX12_both_r4 _ (List.mem_of_getElem? (i := 13) rfl)) (x_mc (sb_wsX12_both_wsX12_both_r4 _ (List.mem_of_getElem? (i := 14) rfl)) (x_mc (sb_wsX12_both_wsX12_both_r4 _ (List.mem_of_getElem? (i := 15) rfl)) (x_mc (sb_wsX12_both_wsX12_both_r4 _ (List.mem_of_getElem? (i := 16) rfl)) (x_mc (sb_wsX12_both_wsX12_both_r4 _ (List.mem_of_getElem? (i := 17) rfl)) x_mn))))))))))))))))))))) (fun _ h => sb_wsX12_both_wsX120 _ h))) (by decide +kernel)
set_option maxRecDepth 20000 in
theorem gX12_both_X12_not : GoodIn wsX12_both (wsV RX12 389 RX12 yX12_not wsX12_not) := goodIn_app (goodIn_of _ (by decide +kernel)) ggX12_both_X12_not
set_option maxRecDepth 20000 in
theorem ggX12_both_X12_isWord : GoodIn wsX12_both wsX12_isWord := goodIn_sub (x_mc (sb_wsX12_both_wsX12_both_r1 _ (List.mem_of_getElem? (i := 8) rfl)) (x_ina (x_mc (sb_wsX12_both_wsX12_both_r1 _ (List.mem_of_getElem? (i := 9) rfl)) (x_mc (sb_wsX12_both_wsX12_both_r1 _ (List.mem_of_getElem? (i := 10) rfl)) (x_mc (sb_wsX12_both_wsX12_both_r1 _ (List.mem_of_getElem? (i := 11) rfl)) x_mn))) (fun _ h => sb_wsX12_both_wsX120 _ h))) (by decide +kernel)
set_option maxRecDepth 20000 in
theorem gX12_both_X12_isWord : GoodIn wsX12_both (wsV RX12 334 RX12 yX12_isWord wsX12_isWord) := goodIn_app (goodIn_of _ (by decide +kernel)) ggX12_both_X12_isWord
set_option maxRecDepth 20000 in
theorem ggX12_both_X12_next : GoodIn wsX12_both wsX12_next := goodIn_sub (x_mc (sb_wsX12_both_wsX12_both_r1 _ (List.mem_of_getElem? (i := 15) rfl)) (x_ina (x_mc (sb_wsX12_both_wsX12_both_r1 _ (List.mem_of_getElem? (i := 16) rfl)) (x_mc (sb_wsX12_both_wsX12_both_r1 _ (List.mem_of_getElem? (i := 17) rfl)) (x_mc (sb_wsX12_both_wsX12_both_r1 _ (List.mem_of_getElem? (i := 10) rfl)) (x_mc (sb_wsX12_both_wsX12_both_r1 _ (List.mem_of_getElem? (i := 18) rfl)) (x_mc (sb_wsX12_both_wsX12_both_r1 _ (List.mem_of_getElem? (i := 19) rfl)) (x_mc (sb_wsX12_both_wsX12_both_r1 _ (List.mem_of_getElem? (i := 20) rfl)) (x_mc (sb_wsX12_both_wsX12_both_r1 _ (List.mem_of_getElem? (i := 11) rfl)) (x_mc (sb_wsX12_both_wsX12_both_r1 _ (List.mem_of_getElem? (i := 21) rfl)) (x_mc (sb_wsX12_both_wsX12_both_r1 _ (List.mem_of_getElem? (i := 22) rfl)) (x_mc (sb_wsX12_both_wsX12_both_r1 _ (List.mem_of_getElem? (i := 23) rfl)) (x_mc (sb_wsX12_both_wsX12_both_r2 _ (List.mem_of_getElem? (i := 0) rfl)) (x_mc (sb_wsX12_both_wsX12_both_r2 _ (List.mem_of_getElem? (i := 1) rfl)) (x_mc (sb_wsX12_both_wsX12_both_r2 _ (List.mem_of_getElem? (i := 2) rfl)) (x_mc (sb_wsX12_both_wsX12_both_r2 _ (List.mem_of_getElem? (i := 3) rfl)) (x_mc (sb_wsX12_both_wsX12_both_r2 _ (List.mem_of_getElem? (i := 4) rfl)) (x_mc (sb_wsX12_both_wsX12_both_r2 _ (List.mem_of_getElem? (i := 5) rfl)) (x_mc (sb_wsX12_both_wsX12_both_r1 _ (List.mem_of_getElem? (i := 4) rfl)) (x_mc (sb_wsX12_both_wsX12_both_r2 _ (List.mem_of_getElem? (i := 6) rfl)) (x_mc (sb_wsX12_both_wsX12_both_r2 _ (List.mem_of_getElem? (i := 7) rfl)) (x_mc (sb_wsX12_both_wsX12_both_r2 _ (List.mem_of_getElem? (i := 8) rfl)) (x_mc (sb_wsX12_both_wsX12_both_r2 _ (List.mem_of_getElem? (i := 9) rfl)) (x_mc (sb_wsX12_both_wsX12_both_r2 _ (List.mem_of_getElem? (i := 10) rfl)) (x_mc (sb_wsX12_both_wsX12_both_r2 _ (List.mem_of_getElem? (i := 11) rfl)) x_mn))))))))))))))))))))))) (fun _ h => sb_wsX12_both_wsX120 _ h))) (by decide +kernel)
set_option maxRecDepth 20000 in
theorem gX12_both_X12_next : GoodIn wsX12_both (wsV RX12 329 RX12 yX12_next wsX12_next) := goodIn_app (goodIn_of _ (by decide +kernel)) ggX12_both_X12_next
theorem dX12_both_0 : decode cX12_both 0 = .ok (.aload_n 0, 1) := by decide +kernel
theorem dX12_both_1 : decode cX12_both 1 = .ok (.invokevirtual 389, 3) := by decide +kernel
theorem dX12_both_4 : decode cX12_both 4 = .ok (.istore_n 1, 1) := by decide +kernel
theorem dX12_both_5 : decode cX12_both 5 = .ok (.aload_n 0, 1) := by decide +kernel
theorem dX12_both_6 : decode cX12_both 6 = .ok (.ldc2_w 397, 3) := by decide +kernel
theorem dX12_both_9 : decode cX12_both 9 = .ok (.invokevirtual 334, 3) := by decide +kernel
theorem dX12_both_12 : decode cX12_both 12 = .ok (.ifCond .eq 29, 3) := by decide +kernel
theorem dX12_both_15 : decode cX12_both 15 = .ok (.aload_n 0, 1) := by decide +kernel
theorem dX12_both_16 : decode cX12_both 16 = .ok (.invokevirtual 329, 3) := by decide +kernel
theorem dX12_both_19 : decode cX12_both 19 = .ok (.aload_n 0, 1) := by decide +kernel
theorem dX12_both_20 : decode cX12_both 20 = .ok (.invokevirtual 389, 3) := by decide +kernel
theorem dX12_both_23 : decode cX12_both 23 = .ok (.istore_n 2, 1) := by decide +kernel
theorem dX12_both_24 : decode cX12_both 24 = .ok (.iload_n 1, 1) := by decide +kernel
theorem dX12_both_25 : decode cX12_both 25 = .ok (.ifCond .eq 11, 3) := by decide +kernel
theorem dX12_both_28 : decode cX12_both 28 = .ok (.iload_n 2, 1) := by decide +kernel
theorem dX12_both_29 : decode cX12_both 29 = .ok (.ifCond .eq 7, 3) := by decide +kernel
theorem dX12_both_32 : decode cX12_both 32 = .ok (.iconst 1, 1) := by decide +kernel
theorem dX12_both_33 : decode cX12_both 33 = .ok (.goto 4, 3) := by decide +kernel
theorem dX12_both_36 : decode cX12_both 36 = .ok (.iconst 0, 1) := by decide +kernel
theorem dX12_both_37 : decode cX12_both 37 = .ok (.istore_n 1, 1) := by decide +kernel
theorem dX12_both_38 : decode cX12_both 38 = .ok (.goto (-33), 3) := by decide +kernel
theorem dX12_both_41 : decode cX12_both 41 = .ok (.iload_n 1, 1) := by decide +kernel
theorem dX12_both_42 : decode cX12_both 42 = .ok (.ireturn, 1) := by decide +kernel
theorem sb_wsX12_either_wsX12_either_r1 : ∀ w ∈ wsX12_either_r1, w ∈ wsX12_either := fun _ h => (List.mem_cons_of_mem _ (List.mem_append_left _ (List.mem_append_left _ h)))
theorem sb_wsX12_either_wsX12_either_r2 : ∀ w ∈ wsX12_either_r2, w ∈ wsX12_either := fun _ h => (List.mem_cons_of_mem _ (List.mem_append_left _ (List.mem_append_right _ (List.mem_append_left _ h))))
theorem sb_wsX12_either_wsX12_either_r3 : ∀ w ∈ wsX12_either_r3, w ∈ wsX12_either := fun _ h => (List.mem_cons_of_mem _ (List.mem_append_left _ (List.mem_append_right _ (List.mem_append_right _ (List.mem_append_left _ h)))))
theorem sb_wsX12_either_wsX12_either_r4 : ∀ w ∈ wsX12_either_r4, w ∈ wsX12_either := fun _ h => (List.mem_cons_of_mem _ (List.mem_append_left _ (List.mem_append_right _ (List.mem_append_right _ (List.mem_append_right _ h)))))
theorem sb_wsX12_either_wsX120 : ∀ w ∈ wsX120, w ∈ wsX12_either := fun _ h => (List.mem_cons_of_mem _ (List.mem_append_right _ h))
set_option maxRecDepth 20000 in
theorem ggX12_either_X12_both : GoodIn wsX12_either wsX12_both := goodIn_sub (x_mc (sb_wsX12_either_wsX12_either_r2 _ (List.mem_of_getElem? (i := 21) rfl)) (x_ina (x_ina (x_mc (sb_wsX12_either_wsX12_either_r2 _ (List.mem_of_getElem? (i := 22) rfl)) (x_mc (sb_wsX12_either_wsX12_either_r2 _ (List.mem_of_getElem? (i := 23) rfl)) (x_mc (sb_wsX12_either_wsX12_either_r3 _ (List.mem_of_getElem? (i := 0) rfl)) (x_mc (sb_wsX12_either_wsX12_either_r3 _ (List.mem_of_getElem? (i := 1) rfl)) (x_mc (sb_wsX12_either_wsX12_either_r1 _ (List.mem_of_getElem? (i := 4) rfl)) (x_mc (sb_wsX12_either_wsX12_either_r1 _ (List.mem_of_getElem? (i := 5) rfl)) (x_mc (sb_wsX12_either_wsX12_either_r1 _ (List.mem_of_getElem? (i := 6) rfl)) (x_mc (sb_wsX12_either_wsX12_either_r1 _ (List.mem_of_getElem? (i := 7) rfl)) (x_mc (sb_wsX12_either_wsX12_either_r1 _ (List.mem_of_getElem? (i := 8) rfl)) (x_mc (sb_wsX12_either_wsX12_either_r1 _ (List.mem_of_getElem? (i := 9) rfl)) (x_mc (sb_wsX12_either_wsX12_either_r1 _ (List.mem_of_getElem? (i := 10) rfl)) (x_mc (sb_wsX12_either_wsX12_either_r1 _ (List.mem_of_getElem? (i := 11) rfl)) (x_mc (sb_wsX12_either_wsX12_either_r1 _ (List.mem_of_getElem? (i := 12) rfl)) (x_mc (sb_wsX12_either_wsX12_either_r1 _ (List.mem_of_getElem? (i := 13) rfl)) (x_mc (sb_wsX12_either_wsX12_either_r1 _ (List.mem_of_getElem? (i := 14) rfl)) (x_mc (sb_wsX12_either_wsX12_either_r1 _ (List.mem_of_getElem? (i := 15) rfl)) (x_mc (sb_wsX12_either_wsX12_either_r1 _ (List.mem_of_getElem? (i := 16) rfl)) (x_mc (sb_wsX12_either_wsX12_either_r1 _ (List.mem_of_getElem? (i := 17) rfl)) (x_mc (sb_wsX12_either_wsX12_either_r1 _ (List.mem_of_getElem? (i := 18) rfl)) (x_mc (sb_wsX12_either_wsX12_either_r1 _ (List.mem_of_getElem? (i := 19) rfl)) (x_mc (sb_wsX12_either_wsX12_either_r1 _ (List.mem_of_getElem? (i := 20) rfl)) (x_mc (sb_wsX12_either_wsX12_either_r1 _ (List.mem_of_getElem? (i := 21) rfl)) (x_mc (sb_wsX12_either_wsX12_either_r1 _ (List.mem_of_getElem? (i := 22) rfl)) (x_mc (sb_wsX12_either_wsX12_either_r1 _ (List.mem_of_getElem? (i := 23) rfl)) x_mn)))))))))))))))))))))))) (x_ina (x_mc (sb_wsX12_either_wsX12_either_r2 _ (List.mem_of_getElem? (i := 0) rfl)) (x_mc (sb_wsX12_either_wsX12_either_r2 _ (List.mem_of_getElem? (i := 1) rfl)) (x_mc (sb_wsX12_either_wsX12_either_r2 _ (List.mem_of_getElem? (i := 2) rfl)) (x_mc (sb_wsX12_either_wsX12_either_r2 _ (List.mem_of_getElem? (i := 3) rfl)) (x_mc (sb_wsX12_either_wsX12_either_r2 _ (List.mem_of_getElem? (i := 4) rfl)) (x_mc (sb_wsX12_either_wsX12_either_r2 _ (List.mem_of_getElem? (i := 5) rfl)) (x_mc (sb_wsX12_either_wsX12_either_r2 _ (List.mem_of_getElem? (i := 6) rfl)) (x_mc (sb_wsX12_either_wsX12_either_r2 _ (List.mem_of_getElem? (i := 7) rfl)) (x_mc (sb_wsX12_either_wsX12_either_r2 _ (List.mem_of_getElem? (i := 8) rfl)) (x_mc (sb_wsX12_either_wsX12_either_r2 _ (List.mem_of_getElem? (i := 9) rfl)) (x_mc (sb_wsX12_either_wsX12_either_r2 _ (List.mem_of_getElem? (i := 10) rfl)) (x_mc (sb_wsX12_either_wsX12_either_r2 _ (List.mem_of_getElem? (i := 11) rfl)) (x_mc (sb_wsX12_either_wsX12_either_r2 _ (List.mem_of_getElem? (i := 12) rfl)) (x_mc (sb_wsX12_either_wsX12_either_r2 _ (List.mem_of_getElem? (i := 13) rfl)) (x_mc (sb_wsX12_either_wsX12_either_r2 _ (List.mem_of_getElem? (i := 14) rfl)) (x_mc (sb_wsX12_either_wsX12_either_r2 _ (List.mem_of_getElem? (i := 15) rfl)) (x_mc (sb_wsX12_either_wsX12_either_r2 _ (List.mem_of_getElem? (i := 16) rfl)) (x_mc (sb_wsX12_either_wsX12_either_r2 _ (List.mem_of_getElem? (i := 17) rfl)) (x_mc (sb_wsX12_either_wsX12_either_r2 _ (List.mem_of_getElem? (i := 18) rfl)) (x_mc (sb_wsX12_either_wsX12_either_r2 _ (List.mem_of_getElem? (i := 19) rfl)) (x_mc (sb_wsX12_either_wsX12_either_r2 _ (List.mem_of_getElem? (i := 20) rfl)) (x_mc List.mem_cons_self (x_mc (sb_wsX12_either_wsX12_either_r1 _ (List.mem_of_getElem? (i := 0) rfl)) (x_mc (sb_wsX12_either_wsX12_either_r1 _ (List.mem_of_getElem? (i := 1) rfl)) x_mn)))))))))))))))))))))))) (x_ina (x_mc (sb_wsX12_either_wsX12_either_r1 _ (List.mem_of_getElem? (i := 2) rfl)) (x_mc (sb_wsX12_either_wsX12_either_r1 _ (List.mem_of_getElem? (i := 3) rfl)) (x_mc (sb_wsX12_either_wsX12_either_r3 _ (List.mem_of_getElem? (i := 2) rfl)) (x_mc (sb_wsX12_either_wsX12_either_r3 _ (List.mem_of_getElem? (i := 3) rfl)) (x_mc (sb_wsX12_either_wsX12_either_r3 _ (List.mem_of_getElem? (i := 4) rfl)) (x_mc (sb_wsX12_either_wsX12_either_r3 _ (List.mem_of_getElem? (i := 5) rfl)) (x_mc (sb_wsX12_either_wsX12_either_r3 _ (List.mem_of_getElem? (i := 6) rfl)) (x_mc (sb_wsX12_either_wsX12_either_r3 _ (List.mem_of_getElem? (i := 7) rfl)) (x_mc (sb_wsX12_either_wsX12_either_r3 _ (List.mem_of_getElem? (i := 8) rfl)) (x_mc (sb_wsX12_either_wsX12_either_r3 _ (List.mem_of_getElem? (i := 9) rfl)) (x_mc (sb_wsX12_either_wsX12_either_r3 _ (List.mem_of_getElem? (i := 10) rfl)) (x_mc (sb_wsX12_either_wsX12_either_r3 _ (List.mem_of_getElem? (i := 11) rfl)) (x_mc (sb_wsX12_either_wsX12_either_r3 _ (List.mem_of_getElem? (i := 12) rfl)) (x_mc (sb_wsX12_either_wsX12_either_r3 _ (List.mem_of_getElem? (i := 13) rfl)) (x_mc (sb_wsX12_either_wsX12_either_r3 _ (List.mem_of_getElem? (i := 14) rfl)) (x_mc (sb_wsX12_either_wsX12_either_r3 _ (List.mem_of_getElem? (i := 15) rfl)) (x_mc (sb_wsX12_either_wsX12_either_r3 _ (List.mem_of_getElem? (i := 16) rfl)) (x_mc (sb_wsX12_either_wsX12_either_r3 _ (List.mem_of_getElem? (i := 17) rfl)) (x_mc (sb_wsX12_either_wsX12_either_r3 _ (List.mem_of_getElem? (i := 18) rfl)) (x_mc (sb_wsX12_either_wsX12_either_r3 _ (List.mem_of_getElem? (i := 19) rfl)) (x_mc (sb_wsX12_either_wsX12_either_r3 _ (List.mem_of_getElem? (i := 20) rfl)) (x_mc (sb_wsX12_either_wsX12_either_r3 _ (List.mem_of_getElem? (i := 21) rfl)) (x_mc (sb_wsX12_either_wsX12_either_r3 _ (List.mem_of_getElem? (i := 22) rfl)) (x_mc (sb_wsX12_either_wsX12_either_r3 _ (List.mem_of_getElem? (i := 23) rfl)) x_mn)))))))))))))))))))))))) (x_mc (sb_wsX12_either_wsX12_either_r4 _ (List.mem_of_getElem? (i := 0) rfl)) (x_mc (sb_wsX12_either_wsX12_either_r4 _ (List.mem_of_getElem? (i := 1) rfl)) (x_mc (sb_wsX12_either_wsX12_either_r4 _ (List.mem_of_getElem? (i := 2) rfl)) (x_mc (sb_wsX12_either_wsX12_either_r4 _ (List.mem_of_getElem? (i := 3) rfl)) (x_mc (sb_wsX12_either_wsX12_either_r4 _ (List.mem_of_getElem? (i := 4) rfl)) (x_mc (sb_wsX12_either_wsX12_either_r4 _ (List.mem_of_getElem? (i := 5) rfl)) (x_mc (sb_wsX12_either_wsX12_either_r4 _ (List.mem_of_getElem? (i := 6) rfl)) (x_mc (sb_wsX12_either_wsX12_either_r4 _ (List.mem_of_getElem? (i := 7) rfl)) (x_mc (sb_wsX12_either_wsX12_either_r4 _ (List.mem_of_getElem? (i := 8) rfl)) (x_mc (sb_wsX12_either_wsX12_either_r4 _ (List.mem_of_getElem? (i := 9) rfl)) (x_mc (sb_wsX12_either_wsX12_either_r4 _ (List.mem_of_getElem? (i := 10) rfl)) (x_mc (sb_wsX12_either_wsX12_either_r4 _ (List.mem_of_getElem? (i := 11) rfl)) (x_mc (sb_wsX12_either_wsX12_either_r4 _ (List.mem_of_getElem? (i := 12) rfl)) (x_mc (sb_wsX12_either_wsX12_either_r4 _ (List.mem_of_getElem? (i := 13) rfl)) (x_mc (sb_wsX12_either_wsX12_either_r4 _ (List.mem_of_getElem? (i := 14) rfl)) (x_mc (sb_wsX12_either_wsX12_either_r4 _ (List.mem_of_getElem? (i := 15) rfl)) (x_mc (sb_wsX12_either_wsX12_either_r4 _ (List.mem_of_getElem? (i := 16) rfl)) (x_mc (sb_wsX12_either_wsX12_either_r4 _ (List.mem_of_getElem? (i := 17) rfl)) x_mn))))))))))))))))))))) (fun _ h => sb_wsX12_either_wsX120 _ h))) (by decide +kernel)
set_option maxRecDepth 20000 in
theorem gX12_either_X12_both : GoodIn wsX12_either (wsV RX12 399 RX12 yX12_both wsX12_both) := goodIn_app (goodIn_of _ (by decide +kernel)) ggX12_either_X12_both
set_option maxRecDepth 20000 in
theorem ggX12_either_X12_isWord : GoodIn wsX12_either wsX12_isWord := goodIn_sub (x_mc (sb_wsX12_either_wsX12_either_r1 _ (List.mem_of_getElem? (i := 8) rfl)) (x_ina (x_mc (sb_wsX12_either_wsX12_either_r1 _ (List.mem_of_getElem? (i := 9) rfl)) (x_mc (sb_wsX12_either_wsX12_either_r1 _ (List.mem_of_getElem? (i := 10) rfl)) (x_mc (sb_wsX12_either_wsX12_either_r1 _ (List.mem_of_getElem? (i := 11) rfl)) x_mn))) (fun _ h => sb_wsX12_either_wsX120 _ h))) (by decide +kernel)
set_option maxRecDepth 20000 in
theorem gX12_either_X12_isWord : GoodIn wsX12_either (wsV RX12 334 RX12 yX12_isWord wsX12_isWord) := goodIn_app (goodIn_of _ (by decide +kernel)) ggX12_either_X12_isWord
set_option maxRecDepth 20000 in
theorem ggX12_either_X12_next : GoodIn wsX12_either wsX12_next := goodIn_sub (x_mc (sb_wsX12_either_wsX12_either_r1 _ (List.mem_of_getElem? (i := 15) rfl)) (x_ina (x_mc (sb_wsX12_either_wsX12_either_r1 _ (List.mem_of_getElem? (i := 16) rfl)) (x_mc (sb_wsX12_either_wsX12_either_r1 _ (List.mem_of_getElem? (i := 17) rfl)) (x_mc (sb_wsX12_either_wsX12_either_r1 _ (List.mem_of_getElem? (i := 10) rfl)) (x_mc (sb_wsX12_either_wsX12_either_r1 _ (List.mem_of_getElem? (i := 18) rfl)) (x_mc (sb_wsX12_either_wsX12_either_r1 _ (List.mem_of_getElem? (i := 19) rfl)) (x_mc (sb_wsX12_either_wsX12_either_r1 _ (List.mem_of_getElem? (i := 20) rfl)) (x_mc (sb_wsX12_either_wsX12_either_r1 _ (List.mem_of_getElem? (i := 11) rfl)) (x_mc (sb_wsX12_either_wsX12_either_r1 _ (List.mem_of_getElem? (i := 21) rfl)) (x_mc (sb_wsX12_either_wsX12_either_r1 _ (List.mem_of_getElem? (i := 22) rfl)) (x_mc (sb_wsX12_either_wsX12_either_r1 _ (List.mem_of_getElem? (i := 23) rfl)) (x_mc (sb_wsX12_either_wsX12_either_r2 _ (List.mem_of_getElem? (i := 0) rfl)) (x_mc (sb_wsX12_either_wsX12_either_r2 _ (List.mem_of_getElem? (i := 1) rfl)) (x_mc (sb_wsX12_either_wsX12_either_r2 _ (List.mem_of_getElem? (i := 2) rfl)) (x_mc (sb_wsX12_either_wsX12_either_r2 _ (List.mem_of_getElem? (i := 3) rfl)) (x_mc (sb_wsX12_either_wsX12_either_r2 _ (List.mem_of_getElem? (i := 4) rfl)) (x_mc (sb_wsX12_either_wsX12_either_r2 _ (List.mem_of_getElem? (i := 5) rfl)) (x_mc (sb_wsX12_either_wsX12_either_r1 _ (List.mem_of_getElem? (i := 4) rfl)) (x_mc (sb_wsX12_either_wsX12_either_r2 _ (List.mem_of_getElem? (i := 6) rfl)) (x_mc (sb_wsX12_either_wsX12_either_r2 _ (List.mem_of_getElem? (i := 7) rfl)) (x_mc (sb_wsX12_either_wsX12_either_r2 _ (List.mem_of_getElem? (i := 8) rfl)) (x_mc (sb_wsX12_either_wsX12_either_r2 _ (List.mem_of_getElem? (i := 9) rfl)) (x_mc (sb_wsX12_either_wsX12_either_r2 _ (List.mem_of_getElem? (i := 10) rfl)) (x_mc (sb_wsX12_either_wsX12_either_r2 _ (List.mem_of_getElem? (i := 11) rfl)) x_mn))))))))))))))))))))))) (fun _ h => sb_wsX12_either_wsX120 _ h))) (by decide +kernel)
set_option maxRecDepth 20000 in
theorem gX12_either_X12_next : GoodIn wsX12_either (wsV RX12 329 RX12 yX12_next wsX12_next) := goodIn_app (goodIn_of _ (by decide +kernel)) ggX12_either_X12_next
theorem dX12_either_0 : decode cX12_either 0 = .ok (.aload_n 0, 1) := by decide +kernel
theorem dX12_either_1 : decode cX12_either 1 = .ok (.invokevirtual 399, 3) := by decide +kernel
theorem dX12_either_4 : decode cX12_either 4 = .ok (.istore_n 1, 1) := by decide +kernel
theorem dX12_either_5 : decode cX12_either 5 = .ok (.aload_n 0, 1) := by decide +kernel
theorem dX12_either_6 : decode cX12_either 6 = .ok (.ldc2_w 402, 3) := by decide +kernel
theorem dX12_either_9 : decode cX12_either 9 = .ok (.invokevirtual 334, 3) := by decide +kernel
theorem dX12_either_12 : decode cX12_either 12 = .ok (.ifCond .eq 29, 3) := by decide +kernel
theorem dX12_either_15 : decode cX12_either 15 = .ok (.aload_n 0, 1) := by decide +kernel
theorem dX12_either_16 : decode cX12_either 16 = .ok (.invokevirtual 329, 3) := by decide +kernel
theorem dX12_either_19 : decode cX12_either 19 = .ok (.aload_n 0, 1) := by decide +kernel
theorem dX12_either_20 : decode cX12_either 20 = .ok (.invokevirtual 399, 3) := by decide +kernel
theorem dX12_either_23 : decode cX12_either 23 = .ok (.istore_n 2, 1) := by decide +kernel
theorem dX12_either_24 : decode cX12_either 24 = .ok (.iload_n 1, 1) := by decide +kernel
theorem dX12_either_25 : decode cX12_either 25 = .ok (.ifCond .ne 7, 3) := by decide +kernel
theorem dX12_either_28 : decode cX12_either 28 = .ok (.iload_n 2, 1) := by decide +kernel
theorem dX12_either_29 : decode cX12_either 29 = .ok (.ifCond .eq 7, 3) := by decide +kernel
theorem dX12_either_32 : decode cX12_either 32 = .ok (.iconst 1, 1) := by decide +kernel
theorem dX12_either_33 : decode cX12_either 33 = .ok (.goto 4, 3) := by decide +kernel
theorem dX12_either_36 : decode cX12_either 36 = .ok (.iconst 0, 1) := by decide +kernel
theorem dX12_either_37 : decode cX12_either 37 = .ok (.istore_n 1, 1) := by decide +kernel
theorem dX12_either_38 : decode cX12_either 38 = .ok (.goto (-33), 3) := by decide +kernel
theorem dX12_either_41 : decode cX12_either 41 = .ok (.iload_n 1, 1) := by decide +kernel
theorem dX12_either_42 : decode cX12_either 42 = .ok (.ireturn, 1) := by decide +kernel
theorem sb_wsX12_part_wsX12_part_r1 : ∀ w ∈ wsX12_part_r1, w ∈ wsX12_part := fun _ h => (List.mem_cons_of_mem _ (List.mem_append_left _ (List.mem_append_left _ h)))
theorem sb_wsX12_part_wsX12_part_r2 : ∀ w ∈ wsX12_part_r2, w ∈ wsX12_part := fun _ h => (List.mem_cons_of_mem _ (List.mem_append_left _ (List.mem_append_right _ (List.mem_append_left _ h))))
theorem sb_wsX12_part_wsX12_part_r3 : ∀ w ∈ wsX12_part_r3, w ∈ wsX12_part := fun _ h => (List.mem_cons_of_mem _ (List.mem_append_left _ (List.mem_append_right _ (List.mem_append_right _ (List.mem_append_left _ h)))))
theorem sb_wsX12_part_wsX12_part_r4 : ∀ w ∈ wsX12_part_r4, w ∈ wsX12_part := fun _ h => (List.mem_cons_of_mem _ (List.mem_append_left _ (List.mem_append_right _ (List.mem_append_right _ (List.mem_append_right _ h)))))
theorem sb_wsX12_part_wsX120 : ∀ w ∈ wsX120, w ∈ wsX12_part := fun _ h => (List.mem_cons_of_mem _ (List.mem_append_right _ h))
set_option maxRecDepth 20000 in
theorem ggX12_part_X12_isWord : GoodIn wsX12_part wsX12_isWord := goodIn_sub (x_mc (sb_wsX12_part_wsX12_part_r1 _ (List.mem_of_getElem? (i := 5) rfl)) (x_ina (x_mc (sb_wsX12_part_wsX12_part_r1 _ (List.mem_of_getElem? (i := 0) rfl)) (x_mc (sb_wsX12_part_wsX12_part_r1 _ (List.mem_of_getElem? (i := 6) rfl)) (x_mc (sb_wsX12_part_wsX12_part_r1 _ (List.mem_of_getElem? (i := 7) rfl)) x_mn))) (fun _ h => sb_wsX12_part_wsX120 _ h))) (by decide +kernel)
set_option maxRecDepth 20000 in
theorem gX12_part_X12_isWord : GoodIn wsX12_part (wsV RX12 334 RX12 yX12_isWord wsX12_isWord) := goodIn_app (goodIn_of _ (by decide +kernel)) ggX12_part_X12_isWord
set_option maxRecDepth 20000 in
theorem ggX12_part_X12_fail : GoodIn wsX12_part wsX12_fail := goodIn_sub (x_mc (sb_wsX12_part_wsX12_part_r1 _ (List.mem_of_getElem? (i := 11) rfl)) (x_ina (x_mc (sb_wsX12_part_wsX12_part_r1 _ (List.mem_of_getElem? (i := 0) rfl)) (x_mc (sb_wsX12_part_wsX12_part_r1 _ (List.mem_of_getElem? (i := 12) rfl)) (x_mc (sb_wsX12_part_wsX12_part_r1 _ (List.mem_of_getElem? (i := 13) rfl)) x_mn))) (fun _ h => sb_wsX12_part_wsX120 _ h))) (by decide +kernel)
set_option maxRecDepth 20000 in
theorem gX12_part_X12_fail : GoodIn wsX12_part (wsV RX12 326 RX12 yX12_fail wsX12_fail) := goodIn_app (goodIn_of _ (by decide +kernel)) ggX12_part_X12_fail
set_option maxRecDepth 20000 in
theorem ggX12_part_X12_next : GoodIn wsX12_part wsX12_next := goodIn_sub (x_mc (sb_wsX12_part_wsX12_part_r1 _ (List.mem_of_getElem? (i := 17) rfl)) (x_ina (x_mc (sb_wsX12_part_wsX12_part_r1 _ (List.mem_of_getElem? (i := 18) rfl)) (x_mc (sb_wsX12_part_wsX12_part_r1 _ (List.mem_of_getElem? (i := 12) rfl)) (x_mc (sb_wsX12_part_wsX12_part_r1 _ (List.mem_of_getElem? (i := 6) rfl)) (x_mc (sb_wsX12_part_wsX12_part_r1 _ (List.mem_of_getElem? (i := 19) rfl)) (x_mc (sb_wsX12_part_wsX12_part_r1 _ (List.mem_of_getElem? (i := 20) rfl)) (x_mc (sb_wsX12_part_wsX12_part_r1 _ (List.mem_of_getElem? (i := 21) rfl)) (x_mc (sb_wsX12_part_wsX12_part_r1 _ (List.mem_of_getElem? (i := 7) rfl)) (x_mc (sb_wsX12_part_wsX12_part_r1 _ (List.mem_of_getElem? (i := 22) rfl)) (x_mc (sb_wsX12_part_wsX12_part_r1 _ (List.mem_of_getElem? (i := 23) rfl)) (x_mc (sb_wsX12_part_wsX12_part_r2 _ (List.mem_of_getElem? (i := 0) rfl)) (x_mc (sb_wsX12_part_wsX12_part_r2 _ (List.mem_of_getElem? (i := 1) rfl)) (x_mc (sb_wsX12_part_wsX12_part_r2 _ (List.mem_of_getElem? (i := 2) rfl)) (x_mc (sb_wsX12_part_wsX12_part_r2 _ (List.mem_of_getElem? (i := 3) rfl)) (x_mc (sb_wsX12_part_wsX12_part_r2 _ (List.mem_of_getElem? (i := 4) rfl)) (x_mc (sb_wsX12_part_wsX12_part_r2 _ (List.mem_of_getElem? (i := 5) rfl)) (x_mc (sb_wsX12_part_wsX12_part_r2 _ (List.mem_of_getElem? (i := 6) rfl)) (x_mc (sb_wsX12_part_wsX12_part_r1 _ (List.mem_of_getElem? (i := 4) rfl)) (x_mc (sb_wsX12_part_wsX12_part_r2 _ (List.mem_of_getElem? (i := 7) rfl)) (x_mc (sb_wsX12_part_wsX12_part_r2 _ (List.mem_of_getElem? (i := 8) rfl)) (x_mc (sb_wsX12_part_wsX12_part_r2 _ (List.mem_of_getElem? (i := 9) rfl)) (x_mc (sb_wsX12_part_wsX12_part_r2 _ (List.mem_of_getElem? (i := 10) rfl)) (x_mc (sb_wsX12_part_wsX12_part_r2 _ (List.mem_of_getElem? (i := 11) rfl)) (x_mc (sb_wsX12_part_wsX12_part_r2 _ (List.mem_of_getElem? (i := 12) rfl)) x_mn))))))))))))))))))))))) (fun _ h => sb_wsX12_part_wsX120 _ h))) (by decide +kernel)
set_option maxRecDepth 20000 in
theorem gX12_part_X12_next : GoodIn wsX12_part (wsV RX12 329 RX12 yX12_next wsX12_next) := goodIn_app (goodIn_of _ (by decide +kernel)) ggX12_part_X12_next
set_option maxRecDepth 20000 in
theorem ggX12_part_X12_either : GoodIn wsX12_part wsX12_either := goodIn_sub (x_mc (sb_wsX12_part_wsX12_part_r2 _ (List.mem_of_getElem? (i := 16) rfl)) (x_ina (x_ina (x_mc (sb_wsX12_part_wsX12_part_r2 _ (List.mem_of_getElem? (i := 17) rfl)) (x_mc (sb_wsX12_part_wsX12_part_r2 _ (List.mem_of_getElem? (i := 18) rfl)) (x_mc (sb_wsX12_part_wsX12_part_r2 _ (List.mem_of_getElem? (i := 19) rfl)) (x_mc (sb_wsX12_part_wsX12_part_r2 _ (List.mem_of_getElem? (i := 20) rfl)) (x_mc (sb_wsX12_part_wsX12_part_r1 _ (List.mem_of_getElem? (i := 4) rfl)) (x_mc (sb_wsX12_part_wsX12_part_r1 _ (List.mem_of_getElem? (i := 1) rfl)) (x_mc (sb_wsX12_part_wsX12_part_r1 _ (List.mem_of_getElem? (i := 2) rfl)) (x_mc (sb_wsX12_part_wsX12_part_r1 _ (List.mem_of_getElem? (i := 3) rfl)) (x_mc (sb_wsX12_part_wsX12_part_r1 _ (List.mem_of_getElem? (i := 5) rfl)) (x_mc (sb_wsX12_part_wsX12_part_r1 _ (List.mem_of_getElem? (i := 0) rfl)) (x_mc (sb_wsX12_part_wsX12_part_r1 _ (List.mem_of_getElem? (i := 6) rfl)) (x_mc (sb_wsX12_part_wsX12_part_r1 _ (List.mem_of_getElem? (i := 7) rfl)) (x_mc (sb_wsX12_part_wsX12_part_r1 _ (List.mem_of_getElem? (i := 14) rfl)) (x_mc (sb_wsX12_part_wsX12_part_r1 _ (List.mem_of_getElem? (i := 15) rfl)) (x_mc (sb_wsX12_part_wsX12_part_r1 _ (List.mem_of_getElem? (i := 16) rfl)) (x_mc (sb_wsX12_part_wsX12_part_r1 _ (List.mem_of_getElem? (i := 17) rfl)) (x_mc (sb_wsX12_part_wsX12_part_r1 _ (List.mem_of_getElem? (i := 18) rfl)) (x_mc (sb_wsX12_part_wsX12_part_r1 _ (List.mem_of_getElem? (i := 12) rfl)) (x_mc (sb_wsX12_part_wsX12_part_r1 _ (List.mem_of_getElem? (i := 19) rfl)) (x_mc (sb_wsX12_part_wsX12_part_r1 _ (List.mem_of_getElem? (i := 20) rfl)) (x_mc (sb_wsX12_part_wsX12_part_r1 _ (List.mem_of_getElem? (i := 21) rfl)) (x_mc (sb_wsX12_part_wsX12_part_r1 _ (List.mem_of_getElem? (i := 22) rfl)) (x_mc (sb_wsX12_part_wsX12_part_r1 _ (List.mem_of_getElem? (i := 23) rfl)) (x_mc (sb_wsX12_part_wsX12_part_r2 _ (List.mem_of_getElem? (i := 0) rfl)) x_mn)))))))))))))))))))))))) (x_ina (x_mc (sb_wsX12_part_wsX12_part_r2 _ (List.mem_of_getElem? (i := 1) rfl)) (x_mc (sb_wsX12_part_wsX12_part_r2 _ (List.mem_of_getElem? (i := 2) rfl)) (x_mc (sb_wsX12_part_wsX12_part_r2 _ (List.mem_of_getElem? (i := 3) rfl)) (x_mc (sb_wsX12_part_wsX12_part_r2 _ (List.mem_of_getElem? (i := 4) rfl)) (x_mc (sb_wsX12_part_wsX12_part_r2 _ (List.mem_of_getElem? (i := 5) rfl)) (x_mc (sb_wsX12_part_wsX12_part_r2 _ (List.mem_of_getElem? (i := 6) rfl)) (x_mc (sb_wsX12_part_wsX12_part_r2 _ (List.mem_of_getElem? (i := 7) rfl)) (x_mc (sb_wsX12_part_wsX12_part_r2 _ (List.mem_of_getElem? (i := 8) rfl)) (x_mc (sb_wsX12_part_wsX12_part_r2 _ (List.mem_of_getElem? (i := 9) rfl)) (x_mc (sb_wsX12_part_wsX12_part_r2 _ (List.mem_of_getElem? (i := 10) rfl)) (x_mc (sb_wsX12_part_wsX12_part_r2 _ (List.mem_of_getElem? (i := 11) rfl)) (x_mc (sb_wsX12_part_wsX12_part_r2 _ (List.mem_of_getElem? (i := 12) rfl)) (x_mc (sb_wsX12_part_wsX12_part_r2 _ (List.mem_of_getElem? (i := 21) rfl)) (x_mc (sb_wsX12_part_wsX12_part_r2 _ (List.mem_of_getElem? (i := 22) rfl)) (x_mc (sb_wsX12_part_wsX12_part_r2 _ (List.mem_of_getElem? (i := 23) rfl)) (x_mc (sb_wsX12_part_wsX12_part_r3 _ (List.mem_of_getElem? (i := 0) rfl)) (x_mc (sb_wsX12_part_wsX12_part_r3 _ (List.mem_of_getElem? (i := 1) rfl)) (x_mc (sb_wsX12_part_wsX12_part_r3 _ (List.mem_of_getElem? (i := 2) rfl)) (x_mc (sb_wsX12_part_wsX12_part_r3 _ (List.mem_of_getElem? (i := 3) rfl)) (x_mc (sb_wsX12_part_wsX12_part_r3 _ (List.mem_of_getElem? (i := 4) rfl)) (x_mc (sb_wsX12_part_wsX12_part_r3 _ (List.mem_of_getElem? (i := 5) rfl)) (x_mc (sb_wsX12_part_wsX12_part_r3 _ (List.mem_of_getElem? (i := 6) rfl)) (x_mc (sb_wsX12_part_wsX12_part_r3 _ (List.mem_of_getElem? (i := 7) rfl)) (x_mc (sb_wsX12_part_wsX12_part_r3 _ (List.mem_of_getElem? (i := 8) rfl)) x_mn)))))))))))))))))))))))) (x_ina (x_mc (sb_wsX12_part_wsX12_part_r3 _ (List.mem_of_getElem? (i := 9) rfl)) (x_mc (sb_wsX12_part_wsX12_part_r3 _ (List.mem_of_getElem? (i := 10) rfl)) (x_mc (sb_wsX12_part_wsX12_part_r3 _ (List.mem_of_getElem? (i := 11) rfl)) (x_mc (sb_wsX12_part_wsX12_part_r3 _ (List.mem_of_getElem? (i := 12) rfl)) (x_mc (sb_wsX12_part_wsX12_part_r3 _ (List.mem_of_getElem? (i := 13) rfl)) (x_mc (sb_wsX12_part_wsX12_part_r3 _ (List.mem_of_getElem? (i := 14) rfl)) (x_mc (sb_wsX12_part_wsX12_part_r3 _ (List.mem_of_getElem? (i := 15) rfl)) (x_mc (sb_wsX12_part_wsX12_part_r3 _ (List.mem_of_getElem? (i := 16) rfl)) (x_mc (sb_wsX12_part_wsX12_part_r3 _ (List.mem_of_getElem? (i := 17) rfl)) (x_mc (sb_wsX12_part_wsX12_part_r3 _ (List.mem_of_getElem? (i := 18) rfl)) (x_mc (sb_wsX12_part_wsX12_part_r1 _ (List.mem_of_getElem? (i := 8) rfl)) (x_mc (sb_wsX12_part_wsX12_part_r1 _ (List.mem_of_getElem? (i := 9) rfl)) (x_mc (sb_wsX12_part_wsX12_part_r1 _ (List.mem_of_getElem? (i := 10) rfl)) (x_mc (sb_wsX12_part_wsX12_part_r1 _ (List.mem_of_getElem? (i := 11) rfl)) (x_mc (sb_wsX12_part_wsX12_part_r1 _ (List.mem_of_getElem? (i := 13) rfl)) (x_mc (sb_wsX12_part_wsX12_part_r3 _ (List.mem_of_getElem? (i := 19) rfl)) (x_mc (sb_wsX12_part_wsX12_part_r3 _ (List.mem_of_getElem? (i := 20) rfl)) (x_mc (sb_wsX12_part_wsX12_part_r3 _ (List.mem_of_getElem? (i := 21) rfl)) (x_mc (sb_wsX12_part_wsX12_part_r3 _ (List.mem_of_getElem? (i := 22) rfl)) (x_mc (sb_wsX12_part_wsX12_part_r3 _ (List.mem_of_getElem? (i := 23) rfl)) (x_mc (sb_wsX12_part_wsX12_part_r4 _ (List.mem_of_getElem? (i := 0) rfl)) (x_mc (sb_wsX12_part_wsX12_part_r4 _ (List.mem_of_getElem? (i := 1) rfl)) (x_mc (sb_wsX12_part_wsX12_part_r2 _ (List.mem_of_getElem? (i := 13) rfl)) (x_mc (sb_wsX12_part_wsX12_part_r2 _ (List.mem_of_getElem? (i := 14) rfl)) x_mn)))))))))))))))))))))))) (x_mc (sb_wsX12_part_wsX12_part_r2 _ (List.mem_of_getElem? (i := 15) rfl)) (x_mc (sb_wsX12_part_wsX12_part_r4 _ (List.mem_of_getElem? (i := 2) rfl)) (x_mc (sb_wsX12_part_wsX12_part_r4 _ (List.mem_of_getElem? (i := 3) rfl)) (x_mc (sb_wsX12_part_wsX12_part_r4 _ (List.mem_of_getElem? (i := 4) rfl)) (x_mc (sb_wsX12_part_wsX12_part_r4 _ (List.mem_of_getElem? (i := 5) rfl)) (x_mc (sb_wsX12_part_wsX12_part_r4 _ (List.mem_of_getElem? (i := 6) rfl)) (x_mc (sb_wsX12_part_wsX12_part_r4 _ (List.mem_of_getElem? (i := 7) rfl)) (x_mc (sb_wsX12_part_wsX12_part_r4 _ (List.mem_of_getElem? (i := 8) rfl)) (x_mc (sb_wsX12_part_wsX12_part_r4 _ (List.mem_of_getElem? (i := 9) rfl)) (x_mc (sb_wsX12_part_wsX12_part_r4 _ (List.mem_of_getElem? (i := 10) rfl)) (x_mc (sb_wsX12_part_wsX12_part_r4 _ (List.mem_of_getElem? (i := 11) rfl)) (x_mc (sb_wsX12_part_wsX12_part_r4 _ (List.mem_of_getElem? (i := 12) rfl)) (x_mc (sb_wsX12_part_wsX12_part_r4 _ (List.mem_of_getElem? (i := 13) rfl)) (x_mc (sb_wsX12_part_wsX12_part_r4 _ (List.mem_of_getElem? (i := 14) rfl)) (x_mc (sb_wsX12_part_wsX12_part_r4 _ (List.mem_of_getElem? (i := 15) rfl)) (x_mc (sb_wsX12_part_wsX12_part_r4 _ (List.mem_of_getElem? (i := 16) rfl)) (x_mc (sb_wsX12_part_wsX12_part_r4 _ (List.mem_of_getElem? (i := 17) rfl)) (x_mc (sb_wsX12_part_wsX12_part_r4 _ (List.mem_of_getElem? (i := 18) rfl)) x_mn))))))))))))))))))))) (fun _ h => sb_wsX12_part_wsX120 _ h))) (by decide +kernel)
set_option maxRecDepth 20000 in
theorem gX12_part_X12_either : GoodIn wsX12_part (wsV RX12 376 RX12 yX12_either wsX12_either) := goodIn_app (goodIn_of _ (by decide +kernel)) ggX12_part_X12_either
set_option maxRecDepth 20000 in
theorem ggX12_part_X12_isSign : GoodIn wsX12_part wsX12_isSign := goodIn_sub (x_mc (sb_wsX12_part_wsX12_part_r3 _ (List.mem_of_getElem? (i := 5) rfl)) (x_ina (x_mc (sb_wsX12_part_wsX12_part_r1 _ (List.mem_of_getElem? (i := 0) rfl)) (x_mc (sb_wsX12_part_wsX12_part_r1 _ (List.mem_of_getElem? (i := 6) rfl)) (x_mc (sb_wsX12_part_wsX12_part_r1 _ (List.mem_of_getElem? (i := 7) rfl)) x_mn))) (fun _ h => sb_wsX12_part_wsX120 _ h))) (by decide +kernel)
set_option maxRecDepth 20000 in
theorem gX12_part_X12_isSign : GoodIn wsX12_part (wsV RX12 366 RX12 yX12_isSign wsX12_isSign) := goodIn_app (goodIn_of _ (by decide +kernel)) ggX12_part_X12_isSign
theorem dX12_part_0 : decode cX12_part 0 = .ok (.aload_n 0, 1) := by decide +kernel
theorem dX12_part_1 : decode cX12_part 1 = .ok (.lload_n 1, 1) := by decide +kernel
theorem dX12_part_2 : decode cX12_part 2 = .ok (.invokevirtual 334, 3) := by decide +kernel
theorem dX12_part_5 : decode cX12_part 5 = .ok (.ifCond .ne 7, 3) := by decide +kernel
theorem dX12_part_8 : decode cX12_part 8 = .ok (.aload_n 0, 1) := by decide +kernel
theorem dX12_part_9 : decode cX12_part 9 = .ok (.invokevirtual 326, 3) := by decide +kernel
theorem dX12_part_12 : decode cX12_part 12 = .ok (.aload_n 0, 1) := by decide +kernel
theorem dX12_part_13 : decode cX12_part 13 = .ok (.getfield 316, 3) := by decide +kernel
theorem dX12_part_16 : decode cX12_part 16 = .ok (.ifCond .ne 7, 3) := by decide +kernel
theorem dX12_part_19 : decode cX12_part 19 = .ok (.aload_n 0, 1) := by decide +kernel
theorem dX12_part_20 : decode cX12_part 20 = .ok (.invokevirtual 329, 3) := by decide +kernel
theorem dX12_part_23 : decode cX12_part 23 = .ok (.aload_n 0, 1) := by decide +kernel
theorem dX12_part_24 : decode cX12_part 24 = .ok (.getfield 316, 3) := by decide +kernel
theorem dX12_part_27 : decode cX12_part 27 = .ok (.ifCond .eq 7, 3) := by decide +kernel
theorem dX12_part_30 : decode cX12_part 30 = .ok (.iconst 0, 1) := by decide +kernel
theorem dX12_part_31 : decode cX12_part 31 = .ok (.goto 7, 3) := by decide +kernel
theorem dX12_part_34 : decode cX12_part 34 = .ok (.aload_n 0, 1) := by decide +kernel
theorem dX12_part_35 : decode cX12_part 35 = .ok (.invokevirtual 376, 3) := by decide +kernel
theorem dX12_part_38 : decode cX12_part 38 = .ok (.istore_n 3, 1) := by decide +kernel
theorem dX12_part_39 : decode cX12_part 39 = .ok (.aload_n 0, 1) := by decide +kernel
theorem dX12_part_40 : decode cX12_part 40 = .ok (.bipush 59, 2) := by decide +kernel
theorem dX12_part_42 : decode cX12_part 42 = .ok (.invokevirtual 366, 3) := by decide +kernel
theorem dX12_part_45 : decode cX12_part 45 = .ok (.ifCond .ne 7, 3) := by decide +kernel
theorem dX12_part_48 : decode cX12_part 48 = .ok (.aload_n 0, 1) := by decide +kernel
theorem dX12_part_49 : decode cX12_part 49 = .ok (.invokevirtual 326, 3) := by decide +kernel
theorem dX12_part_52 : decode cX12_part 52 = .ok (.aload_n 0, 1) := by decide +kernel
theorem dX12_part_53 : decode cX12_part 53 = .ok (.getfield 316, 3) := by decide +kernel
theorem dX12_part_56 : decode cX12_part 56 = .ok (.ifCond .ne 7, 3) := by decide +kernel
theorem dX12_part_59 : decode cX12_part 59 = .ok (.aload_n 0, 1) := by decide +kernel
theorem dX12_part_60 : decode cX12_part 60 = .ok (.invokevirtual 329, 3) := by decide +kernel
theorem dX12_part_63 : decode cX12_part 63 = .ok (.iload_n 3, 1) := by decide +kernel
theorem dX12_part_64 : decode cX12_part 64 = .ok (.ireturn, 1) := by decide +kernel
theorem sb_wsX12_read_wsX12_read_r1 : ∀ w ∈ wsX12_read_r1, w ∈ wsX12_read := fun _ h => (List.mem_cons_of_mem _ (List.mem_append_left _ (List.mem_append_left _ h)))
theorem sb_wsX12_read_wsX12_read_r2 : ∀ w ∈ wsX12_read_r2, w ∈ wsX12_read := fun _ h => (List.mem_cons_of_mem _ (List.mem_append_left _ (List.mem_append_right _ (List.mem_append_left _ h))))
theorem sb_wsX12_read_wsX12_read_r3 : ∀ w ∈ wsX12_read_r3, w ∈ wsX12_read := fun _ h => (List.mem_cons_of_mem _ (List.mem_append_left _ (List.mem_append_right _ (List.mem_append_right _ (List.mem_append_left _ h)))))
theorem sb_wsX12_read_wsX12_read_r4 : ∀ w ∈ wsX12_read_r4, w ∈ wsX12_read := fun _ h => (List.mem_cons_of_mem _ (List.mem_append_left _ (List.mem_append_right _ (List.mem_append_right _ (List.mem_append_right _ (List.mem_append_left _ h))))))
theorem sb_wsX12_read_wsX12_read_r5 : ∀ w ∈ wsX12_read_r5, w ∈ wsX12_read := fun _ h => (List.mem_cons_of_mem _ (List.mem_append_left _ (List.mem_append_right _ (List.mem_append_right _ (List.mem_append_right _ (List.mem_append_right _ h))))))
theorem sb_wsX12_read_wsX120 : ∀ w ∈ wsX120, w ∈ wsX12_read := fun _ h => (List.mem_cons_of_mem _ (List.mem_append_right _ h))
set_option maxRecDepth 20000 in
theorem ggX12_read_X12_next : GoodIn wsX12_read wsX12_next := goodIn_sub (x_mc (sb_wsX12_read_wsX12_read_r1 _ (List.mem_of_getElem? (i := 20) rfl)) (x_ina (x_mc (sb_wsX12_read_wsX12_read_r1 _ (List.mem_of_getElem? (i := 9) rfl)) (x_mc (sb_wsX12_read_wsX12_read_r1 _ (List.mem_of_getElem? (i := 21) rfl)) (x_mc (sb_wsX12_read_wsX12_read_r1 _ (List.mem_of_getElem? (i := 15) rfl)) (x_mc (sb_wsX12_read_wsX12_read_r1 _ (List.mem_of_getElem? (i := 8) rfl)) (x_mc (sb_wsX12_read_wsX12_read_r1 _ (List.mem_of_getElem? (i := 22) rfl)) (x_mc (sb_wsX12_read_wsX12_read_r1 _ (List.mem_of_getElem? (i := 23) rfl)) (x_mc (sb_wsX12_read_wsX12_read_r2 _ (List.mem_of_getElem? (i := 0) rfl)) (x_mc (sb_wsX12_read_wsX12_read_r2 _ (List.mem_of_getElem? (i := 1) rfl)) (x_mc (sb_wsX12_read_wsX12_read_r2 _ (List.mem_of_getElem? (i := 2) rfl)) (x_mc (sb_wsX12_read_wsX12_read_r2 _ (List.mem_of_getElem? (i := 3) rfl)) (x_mc (sb_wsX12_read_wsX12_read_r2 _ (List.mem_of_getElem? (i := 4) rfl)) (x_mc (sb_wsX12_read_wsX12_read_r2 _ (List.mem_of_getElem? (i := 5) rfl)) (x_mc (sb_wsX12_read_wsX12_read_r2 _ (List.mem_of_getElem? (i := 6) rfl)) (x_mc (sb_wsX12_read_wsX12_read_r2 _ (List.mem_of_getElem? (i := 7) rfl)) (x_mc (sb_wsX12_read_wsX12_read_r2 _ (List.mem_of_getElem? (i := 8) rfl)) (x_mc (sb_wsX12_read_wsX12_read_r2 _ (List.mem_of_getElem? (i := 9) rfl)) (x_mc (sb_wsX12_read_wsX12_read_r1 _ (List.mem_of_getElem? (i := 19) rfl)) (x_mc (sb_wsX12_read_wsX12_read_r2 _ (List.mem_of_getElem? (i := 10) rfl)) (x_mc (sb_wsX12_read_wsX12_read_r2 _ (List.mem_of_getElem? (i := 11) rfl)) (x_mc (sb_wsX12_read_wsX12_read_r1 _ (List.mem_of_getElem? (i := 6) rfl)) (x_mc (sb_wsX12_read_wsX12_read_r2 _ (List.mem_of_getElem? (i := 12) rfl)) (x_mc (sb_wsX12_read_wsX12_read_r2 _ (List.mem_of_getElem? (i := 13) rfl)) (x_mc (sb_wsX12_read_wsX12_read_r2 _ (List.mem_of_getElem? (i := 14) rfl)) x_mn))))))))))))))))))))))) (fun _ h => sb_wsX12_read_wsX120 _ h))) (by decide +kernel)
set_option maxRecDepth 20000 in
theorem gX12_read_X12_next : GoodIn wsX12_read (wsV RX12 329 RX12 yX12_next wsX12_next) := goodIn_app (goodIn_of _ (by decide +kernel)) ggX12_read_X12_next
set_option maxRecDepth 20000 in
theorem ggX12_read_X12_part : GoodIn wsX12_read wsX12_part := goodIn_sub (x_mc (sb_wsX12_read_wsX12_read_r2 _ (List.mem_of_getElem? (i := 18) rfl)) (x_ina (x_ina (x_mc (sb_wsX12_read_wsX12_read_r1 _ (List.mem_of_getElem? (i := 11) rfl)) (x_mc (sb_wsX12_read_wsX12_read_r2 _ (List.mem_of_getElem? (i := 19) rfl)) (x_mc (sb_wsX12_read_wsX12_read_r2 _ (List.mem_of_getElem? (i := 20) rfl)) (x_mc (sb_wsX12_read_wsX12_read_r2 _ (List.mem_of_getElem? (i := 21) rfl)) (x_mc (sb_wsX12_read_wsX12_read_r1 _ (List.mem_of_getElem? (i := 19) rfl)) (x_mc (sb_wsX12_read_wsX12_read_r2 _ (List.mem_of_getElem? (i := 22) rfl)) (x_mc (sb_wsX12_read_wsX12_read_r1 _ (List.mem_of_getElem? (i := 15) rfl)) (x_mc (sb_wsX12_read_wsX12_read_r2 _ (List.mem_of_getElem? (i := 0) rfl)) (x_mc (sb_wsX12_read_wsX12_read_r2 _ (List.mem_of_getElem? (i := 23) rfl)) (x_mc (sb_wsX12_read_wsX12_read_r3 _ (List.mem_of_getElem? (i := 0) rfl)) (x_mc (sb_wsX12_read_wsX12_read_r3 _ (List.mem_of_getElem? (i := 1) rfl)) (x_mc (sb_wsX12_read_wsX12_read_r3 _ (List.mem_of_getElem? (i := 2) rfl)) (x_mc (sb_wsX12_read_wsX12_read_r1 _ (List.mem_of_getElem? (i := 21) rfl)) (x_mc (sb_wsX12_read_wsX12_read_r3 _ (List.mem_of_getElem? (i := 3) rfl)) (x_mc (sb_wsX12_read_wsX12_read_r1 _ (List.mem_of_getElem? (i := 16) rfl)) (x_mc (sb_wsX12_read_wsX12_read_r1 _ (List.mem_of_getElem? (i := 17) rfl)) (x_mc (sb_wsX12_read_wsX12_read_r1 _ (List.mem_of_getElem? (i := 18) rfl)) (x_mc (sb_wsX12_read_wsX12_read_r1 _ (List.mem_of_getElem? (i := 20) rfl)) (x_mc (sb_wsX12_read_wsX12_read_r1 _ (List.mem_of_getElem? (i := 9) rfl)) (x_mc (sb_wsX12_read_wsX12_read_r1 _ (List.mem_of_getElem? (i := 8) rfl)) (x_mc (sb_wsX12_read_wsX12_read_r1 _ (List.mem_of_getElem? (i := 22) rfl)) (x_mc (sb_wsX12_read_wsX12_read_r1 _ (List.mem_of_getElem? (i := 23) rfl)) (x_mc (sb_wsX12_read_wsX12_read_r2 _ (List.mem_of_getElem? (i := 1) rfl)) (x_mc (sb_wsX12_read_wsX12_read_r2 _ (List.mem_of_getElem? (i := 2) rfl)) x_mn)))))))))))))))))))))))) (x_ina (x_mc (sb_wsX12_read_wsX12_read_r2 _ (List.mem_of_getElem? (i := 3) rfl)) (x_mc (sb_wsX12_read_wsX12_read_r2 _ (List.mem_of_getElem? (i := 4) rfl)) (x_mc (sb_wsX12_read_wsX12_read_r2 _ (List.mem_of_getElem? (i := 5) rfl)) (x_mc (sb_wsX12_read_wsX12_read_r2 _ (List.mem_of_getElem? (i := 6) rfl)) (x_mc (sb_wsX12_read_wsX12_read_r2 _ (List.mem_of_getElem? (i := 7) rfl)) (x_mc (sb_wsX12_read_wsX12_read_r2 _ (List.mem_of_getElem? (i := 8) rfl)) (x_mc (sb_wsX12_read_wsX12_read_r2 _ (List.mem_of_getElem? (i := 9) rfl)) (x_mc (sb_wsX12_read_wsX12_read_r2 _ (List.mem_of_getElem? (i := 10) rfl)) (x_mc (sb_wsX12_read_wsX12_read_r2 _ (List.mem_of_getElem? (i := 11) rfl)) (x_mc (sb_wsX12_read_wsX12_read_r1 _ (List.mem_of_getElem? (i := 6) rfl)) (x_mc (sb_wsX12_read_wsX12_read_r2 _ (List.mem_of_getElem? (i := 12) rfl)) (x_mc (sb_wsX12_read_wsX12_read_r2 _ (List.mem_of_getElem? (i := 13) rfl)) (x_mc (sb_wsX12_read_wsX12_read_r2 _ (List.mem_of_getElem? (i := 14) rfl)) (x_mc (sb_wsX12_read_wsX12_read_r3 _ (List.mem_of_getElem? (i := 4) rfl)) (x_mc (sb_wsX12_read_wsX12_read_r3 _ (List.mem_of_getElem? (i := 5) rfl)) (x_mc (sb_wsX12_read_wsX12_read_r3 _ (List.mem_of_getElem? (i := 6) rfl)) (x_mc (sb_wsX12_read_wsX12_read_r3 _ (List.mem_of_getElem? (i := 7) rfl)) (x_mc (sb_wsX12_read_wsX12_read_r3 _ (List.mem_of_getElem? (i := 8) rfl)) (x_mc (sb_wsX12_read_wsX12_read_r3 _ (List.mem_of_getElem? (i := 9) rfl)) (x_mc (sb_wsX12_read_wsX12_read_r3 _ (List.mem_of_getElem? (i := 10) rfl)) (x_mc (sb_wsX12_read_wsX12_read_r3 _ (List.mem_of_getElem? (i := 11) rfl)) (x_mc (sb_wsX12_read_wsX12_read_r3 _ (List.mem_of_getElem? (i := 12) rfl)) (x_mc (sb_wsX12_read_wsX12_read_r3 _ (List.mem_of_getElem? (i := 13) rfl)) (x_mc (sb_wsX12_read_wsX12_read_r3 _ (List.mem_of_getElem? (i := 14) rfl)) x_mn)))))))))))))))))))))))) (x_ina (x_mc (sb_wsX12_read_wsX12_read_r3 _ (List.mem_of_getElem? (i := 15) rfl)) (x_mc (sb_wsX12_read_wsX12_read_r3 _ (List.mem_of_getElem? (i := 16) rfl)) (x_mc (sb_wsX12_read_wsX12_read_r3 _ (List.mem_of_getElem? (i := 17) rfl)) (x_mc (sb_wsX12_read_wsX12_read_r3 _ (List.mem_of_getElem? (i := 18) rfl)) (x_mc (sb_wsX12_read_wsX12_read_r3 _ (List.mem_of_getElem? (i := 19) rfl)) (x_mc (sb_wsX12_read_wsX12_read_r3 _ (List.mem_of_getElem? (i := 20) rfl)) (x_mc (sb_wsX12_read_wsX12_read_r3 _ (List.mem_of_getElem? (i := 21) rfl)) (x_mc (sb_wsX12_read_wsX12_read_r3 _ (List.mem_of_getElem? (i := 22) rfl)) (x_mc (sb_wsX12_read_wsX12_read_r3 _ (List.mem_of_getElem? (i := 23) rfl)) (x_mc (sb_wsX12_read_wsX12_read_r4 _ (List.mem_of_getElem? (i := 0) rfl)) (x_mc (sb_wsX12_read_wsX12_read_r4 _ (List.mem_of_getElem? (i := 1) rfl)) (x_mc (sb_wsX12_read_wsX12_read_r4 _ (List.mem_of_getElem? (i := 2) rfl)) (x_mc (sb_wsX12_read_wsX12_read_r4 _ (List.mem_of_getElem? (i := 3) rfl)) (x_mc (sb_wsX12_read_wsX12_read_r1 _ (List.mem_of_getElem? (i := 10) rfl)) (x_mc (sb_wsX12_read_wsX12_read_r4 _ (List.mem_of_getElem? (i := 4) rfl)) (x_mc (sb_wsX12_read_wsX12_read_r4 _ (List.mem_of_getElem? (i := 5) rfl)) (x_mc (sb_wsX12_read_wsX12_read_r4 _ (List.mem_of_getElem? (i := 6) rfl)) (x_mc (sb_wsX12_read_wsX12_read_r4 _ (List.mem_of_getElem? (i := 7) rfl)) (x_mc (sb_wsX12_read_wsX12_read_r4 _ (List.mem_of_getElem? (i := 8) rfl)) (x_mc (sb_wsX12_read_wsX12_read_r4 _ (List.mem_of_getElem? (i := 9) rfl)) (x_mc (sb_wsX12_read_wsX12_read_r4 _ (List.mem_of_getElem? (i := 10) rfl)) (x_mc (sb_wsX12_read_wsX12_read_r4 _ (List.mem_of_getElem? (i := 11) rfl)) (x_mc (sb_wsX12_read_wsX12_read_r4 _ (List.mem_of_getElem? (i := 12) rfl)) (x_mc (sb_wsX12_read_wsX12_read_r4 _ (List.mem_of_getElem? (i := 13) rfl)) x_mn)))))))))))))))))))))))) (x_mc (sb_wsX12_read_wsX12_read_r4 _ (List.mem_of_getElem? (i := 14) rfl)) (x_mc (sb_wsX12_read_wsX12_read_r4 _ (List.mem_of_getElem? (i := 15) rfl)) (x_mc (sb_wsX12_read_wsX12_read_r4 _ (List.mem_of_getElem? (i := 16) rfl)) (x_mc (sb_wsX12_read_wsX12_read_r4 _ (List.mem_of_getElem? (i := 17) rfl)) (x_mc (sb_wsX12_read_wsX12_read_r4 _ (List.mem_of_getElem? (i := 18) rfl)) (x_mc (sb_wsX12_read_wsX12_read_r4 _ (List.mem_of_getElem? (i := 19) rfl)) (x_mc (sb_wsX12_read_wsX12_read_r4 _ (List.mem_of_getElem? (i := 20) rfl)) (x_mc (sb_wsX12_read_wsX12_read_r1 _ (List.mem_of_getElem? (i := 0) rfl)) (x_mc (sb_wsX12_read_wsX12_read_r4 _ (List.mem_of_getElem? (i := 21) rfl)) (x_mc (sb_wsX12_read_wsX12_read_r1 _ (List.mem_of_getElem? (i := 1) rfl)) (x_mc (sb_wsX12_read_wsX12_read_r4 _ (List.mem_of_getElem? (i := 22) rfl)) (x_mc (sb_wsX12_read_wsX12_read_r1 _ (List.mem_of_getElem? (i := 2) rfl)) (x_mc (sb_wsX12_read_wsX12_read_r4 _ (List.mem_of_getElem? (i := 23) rfl)) (x_mc (sb_wsX12_read_wsX12_read_r1 _ (List.mem_of_getElem? (i := 3) rfl)) (x_mc (sb_wsX12_read_wsX12_read_r5 _ (List.mem_of_getElem? (i := 0) rfl)) (x_mc (sb_wsX12_read_wsX12_read_r1 _ (List.mem_of_getElem? (i := 4) rfl)) (x_mc (sb_wsX12_read_wsX12_read_r5 _ (List.mem_of_getElem? (i := 1) rfl)) (x_mc (sb_wsX12_read_wsX12_read_r1 _ (List.mem_of_getElem? (i := 5) rfl)) (x_mc (sb_wsX12_read_wsX12_read_r5 _ (List.mem_of_getElem? (i := 2) rfl)) x_mn)))))))))))))))))))))) (fun _ h => sb_wsX12_read_wsX120 _ h))) (by decide +kernel)
set_option maxRecDepth 20000 in
theorem gX12_read_X12_part : GoodIn wsX12_read (wsV RX12 406 RX12 yX12_part wsX12_part) := goodIn_app (goodIn_of _ (by decide +kernel)) ggX12_read_X12_part
set_option maxRecDepth 20000 in
theorem ggX12_read_X12_fail : GoodIn wsX12_read wsX12_fail := goodIn_sub (x_mc (sb_wsX12_read_wsX12_read_r3 _ (List.mem_of_getElem? (i := 2) rfl)) (x_ina (x_mc (sb_wsX12_read_wsX12_read_r1 _ (List.mem_of_getElem? (i := 11) rfl)) (x_mc (sb_wsX12_read_wsX12_read_r1 _ (List.mem_of_getElem? (i := 21) rfl)) (x_mc (sb_wsX12_read_wsX12_read_r3 _ (List.mem_of_getElem? (i := 3) rfl)) x_mn))) (fun _ h => sb_wsX12_read_wsX120 _ h))) (by decide +kernel)
set_option maxRecDepth 20000 in
theorem gX12_read_X12_fail : GoodIn wsX12_read (wsV RX12 326 RX12 yX12_fail wsX12_fail) := goodIn_app (goodIn_of _ (by decide +kernel)) ggX12_read_X12_fail
theorem dX12_read_0 : decode cX12_read 0 = .ok (.aload_n 0, 1) := by decide +kernel
theorem dX12_read_1 : decode cX12_read 1 = .ok (.iload_n 2, 1) := by decide +kernel
theorem dX12_read_2 : decode cX12_read 2 = .ok (.putfield 338, 3) := by decide +kernel
theorem dX12_read_5 : decode cX12_read 5 = .ok (.aload_n 0, 1) := by decide +kernel
theorem dX12_read_6 : decode cX12_read 6 = .ok (.iload_n 3, 1) := by decide +kernel
theorem dX12_read_7 : decode cX12_read 7 = .ok (.putfield 343, 3) := by decide +kernel
theorem dX12_read_10 : decode cX12_read 10 = .ok (.aload_n 0, 1) := by decide +kernel
theorem dX12_read_11 : decode cX12_read 11 = .ok (.iload 4, 2) := by decide +kernel
theorem dX12_read_13 : decode cX12_read 13 = .ok (.putfield 348, 3) := by decide +kernel
theorem dX12_read_16 : decode cX12_read 16 = .ok (.aload_n 0, 1) := by decide +kernel
theorem dX12_read_17 : decode cX12_read 17 = .ok (.iload 5, 2) := by decide +kernel
theorem dX12_read_19 : decode cX12_read 19 = .ok (.putfield 353, 3) := by decide +kernel
theorem dX12_read_22 : decode cX12_read 22 = .ok (.aload_n 0, 1) := by decide +kernel
theorem dX12_read_23 : decode cX12_read 23 = .ok (.iload 6, 2) := by decide +kernel
theorem dX12_read_25 : decode cX12_read 25 = .ok (.putfield 358, 3) := by decide +kernel
theorem dX12_read_28 : decode cX12_read 28 = .ok (.aload_n 0, 1) := by decide +kernel
theorem dX12_read_29 : decode cX12_read 29 = .ok (.iload 7, 2) := by decide +kernel
theorem dX12_read_31 : decode cX12_read 31 = .ok (.putfield 363, 3) := by decide +kernel
theorem dX12_read_34 : decode cX12_read 34 = .ok (.aload_n 0, 1) := by decide +kernel
theorem dX12_read_35 : decode cX12_read 35 = .ok (.sipush 160, 3) := by decide +kernel
theorem dX12_read_38 : decode cX12_read 38 = .ok (.iload_n 1, 1) := by decide +kernel
theorem dX12_read_39 : decode cX12_read 39 = .ok (.imul, 1) := by decide +kernel
theorem dX12_read_40 : decode cX12_read 40 = .ok (.putfield 281, 3) := by decide +kernel
theorem dX12_read_43 : decode cX12_read 43 = .ok (.aload_n 0, 1) := by decide +kernel
theorem dX12_read_44 : decode cX12_read 44 = .ok (.aload_n 0, 1) := by decide +kernel
theorem dX12_read_45 : decode cX12_read 45 = .ok (.getfield 17, 3) := by decide +kernel
theorem dX12_read_48 : decode cX12_read 48 = .ok (.iload_n 1, 1) := by decide +kernel
theorem dX12_read_49 : decode cX12_read 49 = .ok (.iaload, 1) := by decide +kernel
theorem dX12_read_50 : decode cX12_read 50 = .ok (.putfield 278, 3) := by decide +kernel
theorem dX12_read_53 : decode cX12_read 53 = .ok (.aload_n 0, 1) := by decide +kernel
theorem dX12_read_54 : decode cX12_read 54 = .ok (.iconst 0, 1) := by decide +kernel
theorem dX12_read_55 : decode cX12_read 55 = .ok (.putfield 284, 3) := by decide +kernel
theorem dX12_read_58 : decode cX12_read 58 = .ok (.aload_n 0, 1) := by decide +kernel
theorem dX12_read_59 : decode cX12_read 59 = .ok (.iconst 0, 1) := by decide +kernel
theorem dX12_read_60 : decode cX12_read 60 = .ok (.putfield 323, 3) := by decide +kernel
theorem dX12_read_63 : decode cX12_read 63 = .ok (.aload_n 0, 1) := by decide +kernel
theorem dX12_read_64 : decode cX12_read 64 = .ok (.iconst 0, 1) := by decide +kernel
theorem dX12_read_65 : decode cX12_read 65 = .ok (.putfield 316, 3) := by decide +kernel
theorem dX12_read_68 : decode cX12_read 68 = .ok (.aload_n 0, 1) := by decide +kernel
theorem dX12_read_69 : decode cX12_read 69 = .ok (.invokevirtual 329, 3) := by decide +kernel
theorem dX12_read_72 : decode cX12_read 72 = .ok (.aload_n 0, 1) := by decide +kernel
theorem dX12_read_73 : decode cX12_read 73 = .ok (.ldc2_w 404, 3) := by decide +kernel
theorem dX12_read_76 : decode cX12_read 76 = .ok (.invokevirtual 406, 3) := by decide +kernel
theorem dX12_read_79 : decode cX12_read 79 = .ok (.istore 9, 2) := by decide +kernel
theorem dX12_read_81 : decode cX12_read 81 = .ok (.aload_n 0, 1) := by decide +kernel
theorem dX12_read_82 : decode cX12_read 82 = .ok (.getfield 316, 3) := by decide +kernel
theorem dX12_read_85 : decode cX12_read 85 = .ok (.ifCond .eq 7, 3) := by decide +kernel
theorem dX12_read_88 : decode cX12_read 88 = .ok (.iconst 0, 1) := by decide +kernel
theorem dX12_read_89 : decode cX12_read 89 = .ok (.goto 10, 3) := by decide +kernel
theorem dX12_read_92 : decode cX12_read 92 = .ok (.aload_n 0, 1) := by decide +kernel
theorem dX12_read_93 : decode cX12_read 93 = .ok (.ldc2_w 410, 3) := by decide +kernel
theorem dX12_read_96 : decode cX12_read 96 = .ok (.invokevirtual 406, 3) := by decide +kernel
theorem dX12_read_99 : decode cX12_read 99 = .ok (.istore 10, 2) := by decide +kernel
theorem dX12_read_101 : decode cX12_read 101 = .ok (.aload_n 0, 1) := by decide +kernel
theorem dX12_read_102 : decode cX12_read 102 = .ok (.getfield 316, 3) := by decide +kernel
theorem dX12_read_105 : decode cX12_read 105 = .ok (.ifCond .eq 7, 3) := by decide +kernel
theorem dX12_read_108 : decode cX12_read 108 = .ok (.iconst 0, 1) := by decide +kernel
theorem dX12_read_109 : decode cX12_read 109 = .ok (.goto 10, 3) := by decide +kernel
theorem dX12_read_112 : decode cX12_read 112 = .ok (.aload_n 0, 1) := by decide +kernel
theorem dX12_read_113 : decode cX12_read 113 = .ok (.ldc2_w 412, 3) := by decide +kernel
theorem dX12_read_116 : decode cX12_read 116 = .ok (.invokevirtual 406, 3) := by decide +kernel
theorem dX12_read_119 : decode cX12_read 119 = .ok (.istore 11, 2) := by decide +kernel
theorem dX12_read_121 : decode cX12_read 121 = .ok (.aload_n 0, 1) := by decide +kernel
theorem dX12_read_122 : decode cX12_read 122 = .ok (.getfield 316, 3) := by decide +kernel
theorem dX12_read_125 : decode cX12_read 125 = .ok (.ifCond .ne 14, 3) := by decide +kernel
theorem dX12_read_128 : decode cX12_read 128 = .ok (.aload_n 0, 1) := by decide +kernel
theorem dX12_read_129 : decode cX12_read 129 = .ok (.getfield 293, 3) := by decide +kernel
theorem dX12_read_132 : decode cX12_read 132 = .ok (.ifCond .eq 7, 3) := by decide +kernel
theorem dX12_read_135 : decode cX12_read 135 = .ok (.aload_n 0, 1) := by decide +kernel
theorem dX12_read_136 : decode cX12_read 136 = .ok (.invokevirtual 326, 3) := by decide +kernel
theorem dX12_read_139 : decode cX12_read 139 = .ok (.iload 8, 2) := by decide +kernel
theorem dX12_read_141 : decode cX12_read 141 = .ok (.ifCond .ne 8, 3) := by decide +kernel
theorem dX12_read_144 : decode cX12_read 144 = .ok (.iload 9, 2) := by decide +kernel
theorem dX12_read_146 : decode cX12_read 146 = .ok (.goto 16, 3) := by decide +kernel
theorem dX12_read_149 : decode cX12_read 149 = .ok (.iload 8, 2) := by decide +kernel
theorem dX12_read_151 : decode cX12_read 151 = .ok (.iconst 1, 1) := by decide +kernel
theorem dX12_read_152 : decode cX12_read 152 = .ok (.if_icmp .ne 8, 3) := by decide +kernel
theorem dX12_read_155 : decode cX12_read 155 = .ok (.iload 10, 2) := by decide +kernel
theorem dX12_read_157 : decode cX12_read 157 = .ok (.goto 5, 3) := by decide +kernel
theorem dX12_read_160 : decode cX12_read 160 = .ok (.iload 11, 2) := by decide +kernel
theorem dX12_read_162 : decode cX12_read 162 = .ok (.ireturn, 1) := by decide +kernel
theorem dX12_within_0 : decode cX12_within 0 = .ok (.iload_n 0, 1) := by decide +kernel
theorem dX12_within_1 : decode cX12_within 1 = .ok (.iload_n 1, 1) := by decide +kernel
theorem dX12_within_2 : decode cX12_within 2 = .ok (.if_icmp .ge 7, 3) := by decide +kernel
theorem dX12_within_5 : decode cX12_within 5 = .ok (.iload_n 1, 1) := by decide +kernel
theorem dX12_within_6 : decode cX12_within 6 = .ok (.goto 13, 3) := by decide +kernel
theorem dX12_within_9 : decode cX12_within 9 = .ok (.iload_n 0, 1) := by decide +kernel
theorem dX12_within_10 : decode cX12_within 10 = .ok (.iload_n 2, 1) := by decide +kernel
theorem dX12_within_11 : decode cX12_within 11 = .ok (.if_icmp .le 7, 3) := by decide +kernel
theorem dX12_within_14 : decode cX12_within 14 = .ok (.iload_n 2, 1) := by decide +kernel
theorem dX12_within_15 : decode cX12_within 15 = .ok (.goto 4, 3) := by decide +kernel
theorem dX12_within_18 : decode cX12_within 18 = .ok (.iload_n 0, 1) := by decide +kernel
theorem dX12_within_19 : decode cX12_within 19 = .ok (.ireturn, 1) := by decide +kernel
theorem sb_wsX12_text_wsX12_text_r1 : ∀ w ∈ wsX12_text_r1, w ∈ wsX12_text := fun _ h => (List.mem_cons_of_mem _ (List.mem_append_left _ (List.mem_append_left _ h)))
theorem sb_wsX12_text_wsX12_text_r2 : ∀ w ∈ wsX12_text_r2, w ∈ wsX12_text := fun _ h => (List.mem_cons_of_mem _ (List.mem_append_left _ (List.mem_append_right _ (List.mem_append_left _ h))))
theorem sb_wsX12_text_wsX12_text_r3 : ∀ w ∈ wsX12_text_r3, w ∈ wsX12_text := fun _ h => (List.mem_cons_of_mem _ (List.mem_append_left _ (List.mem_append_right _ (List.mem_append_right _ (List.mem_append_left _ h)))))
theorem sb_wsX12_text_wsX12_text_r4 : ∀ w ∈ wsX12_text_r4, w ∈ wsX12_text := fun _ h => (List.mem_cons_of_mem _ (List.mem_append_left _ (List.mem_append_right _ (List.mem_append_right _ (List.mem_append_right _ (List.mem_append_left _ h))))))
theorem sb_wsX12_text_wsX12_text_r5 : ∀ w ∈ wsX12_text_r5, w ∈ wsX12_text := fun _ h => (List.mem_cons_of_mem _ (List.mem_append_left _ (List.mem_append_right _ (List.mem_append_right _ (List.mem_append_right _ (List.mem_append_right _ h))))))
theorem sb_wsX12_text_wsX120 : ∀ w ∈ wsX120, w ∈ wsX12_text := fun _ h => (List.mem_cons_of_mem _ (List.mem_append_right _ h))
set_option maxRecDepth 20000 in
theorem ggX12_text_X12_read : GoodIn wsX12_text wsX12_read := goodIn_sub (x_mc (sb_wsX12_text_wsX12_text_r1 _ (List.mem_of_getElem? (i := 11) rfl)) (x_ina (x_ina (x_mc (sb_wsX12_text_wsX12_text_r1 _ (List.mem_of_getElem? (i := 12) rfl)) (x_mc (sb_wsX12_text_wsX12_text_r1 _ (List.mem_of_getElem? (i := 13) rfl)) (x_mc (sb_wsX12_text_wsX12_text_r1 _ (List.mem_of_getElem? (i := 14) rfl)) (x_mc (sb_wsX12_text_wsX12_text_r1 _ (List.mem_of_getElem? (i := 15) rfl)) (x_mc (sb_wsX12_text_wsX12_text_r1 _ (List.mem_of_getElem? (i := 16) rfl)) (x_mc (sb_wsX12_text_wsX12_text_r1 _ (List.mem_of_getElem? (i := 17) rfl)) (x_mc (sb_wsX12_text_wsX12_text_r1 _ (List.mem_of_getElem? (i := 18) rfl)) (x_mc (sb_wsX12_text_wsX12_text_r1 _ (List.mem_of_getElem? (i := 4) rfl)) (x_mc (sb_wsX12_text_wsX12_text_r1 _ (List.mem_of_getElem? (i := 19) rfl)) (x_mc (sb_wsX12_text_wsX12_text_r1 _ (List.mem_of_getElem? (i := 20) rfl)) (x_mc (sb_wsX12_text_wsX12_text_r1 _ (List.mem_of_getElem? (i := 21) rfl)) (x_mc (sb_wsX12_text_wsX12_text_r1 _ (List.mem_of_getElem? (i := 5) rfl)) (x_mc (sb_wsX12_text_wsX12_text_r1 _ (List.mem_of_getElem? (i := 22) rfl)) (x_mc (sb_wsX12_text_wsX12_text_r1 _ (List.mem_of_getElem? (i := 23) rfl)) (x_mc (sb_wsX12_text_wsX12_text_r2 _ (List.mem_of_getElem? (i := 0) rfl)) (x_mc (sb_wsX12_text_wsX12_text_r2 _ (List.mem_of_getElem? (i := 1) rfl)) (x_mc (sb_wsX12_text_wsX12_text_r2 _ (List.mem_of_getElem? (i := 2) rfl)) (x_mc (sb_wsX12_text_wsX12_text_r2 _ (List.mem_of_getElem? (i := 3) rfl)) (x_mc (sb_wsX12_text_wsX12_text_r2 _ (List.mem_of_getElem? (i := 4) rfl)) (x_mc (sb_wsX12_text_wsX12_text_r1 _ (List.mem_of_getElem? (i := 10) rfl)) (x_mc (sb_wsX12_text_wsX12_text_r2 _ (List.mem_of_getElem? (i := 5) rfl)) (x_mc (sb_wsX12_text_wsX12_text_r2 _ (List.mem_of_getElem? (i := 6) rfl)) (x_mc (sb_wsX12_text_wsX12_text_r2 _ (List.mem_of_getElem? (i := 7) rfl)) (x_mc (sb_wsX12_text_wsX12_text_r2 _ (List.mem_of_getElem? (i := 8) rfl)) x_mn)))))))))))))))))))))))) (x_ina (x_mc (sb_wsX12_text_wsX12_text_r2 _ (List.mem_of_getElem? (i := 9) rfl)) (x_mc (sb_wsX12_text_wsX12_text_r2 _ (List.mem_of_getElem? (i := 10) rfl)) (x_mc (sb_wsX12_text_wsX12_text_r2 _ (List.mem_of_getElem? (i := 11) rfl)) (x_mc (sb_wsX12_text_wsX12_text_r2 _ (List.mem_of_getElem? (i := 12) rfl)) (x_mc (sb_wsX12_text_wsX12_text_r2 _ (List.mem_of_getElem? (i := 13) rfl)) (x_mc (sb_wsX12_text_wsX12_text_r2 _ (List.mem_of_getElem? (i := 14) rfl)) (x_mc (sb_wsX12_text_wsX12_text_r2 _ (List.mem_of_getElem? (i := 15) rfl)) (x_mc (sb_wsX12_text_wsX12_text_r2 _ (List.mem_of_getElem? (i := 16) rfl)) (x_mc (sb_wsX12_text_wsX12_text_r2 _ (List.mem_of_getElem? (i := 17) rfl)) (x_mc (sb_wsX12_text_wsX12_text_r2 _ (List.mem_of_getElem? (i := 18) rfl)) (x_mc (sb_wsX12_text_wsX12_text_r2 _ (List.mem_of_getElem? (i := 19) rfl)) (x_mc (sb_wsX12_text_wsX12_text_r1 _ (List.mem_of_getElem? (i := 2) rfl)) (x_mc (sb_wsX12_text_wsX12_text_r2 _ (List.mem_of_getElem? (i := 20) rfl)) (x_mc (sb_wsX12_text_wsX12_text_r2 _ (List.mem_of_getElem? (i := 21) rfl)) (x_mc (sb_wsX12_text_wsX12_text_r2 _ (List.mem_of_getElem? (i := 22) rfl)) (x_mc (sb_wsX12_text_wsX12_text_r2 _ (List.mem_of_getElem? (i := 23) rfl)) (x_mc (sb_wsX12_text_wsX12_text_r3 _ (List.mem_of_getElem? (i := 0) rfl)) (x_mc (sb_wsX12_text_wsX12_text_r3 _ (List.mem_of_getElem? (i := 1) rfl)) (x_mc (sb_wsX12_text_wsX12_text_r3 _ (List.mem_of_getElem? (i := 2) rfl)) (x_mc (sb_wsX12_text_wsX12_text_r3 _ (List.mem_of_getElem? (i := 3) rfl)) (x_mc (sb_wsX12_text_wsX12_text_r3 _ (List.mem_of_getElem? (i := 4) rfl)) (x_mc (sb_wsX12_text_wsX12_text_r3 _ (List.mem_of_getElem? (i := 5) rfl)) (x_mc (sb_wsX12_text_wsX12_text_r3 _ (List.mem_of_getElem? (i := 6) rfl)) (x_mc (sb_wsX12_text_wsX12_text_r3 _ (List.mem_of_getElem? (i := 7) rfl)) x_mn)))))))))))))))))))))))) (x_ina (x_mc (sb_wsX12_text_wsX12_text_r3 _ (List.mem_of_getElem? (i := 8) rfl)) (x_mc (sb_wsX12_text_wsX12_text_r3 _ (List.mem_of_getElem? (i := 9) rfl)) (x_mc (sb_wsX12_text_wsX12_text_r3 _ (List.mem_of_getElem? (i := 10) rfl)) (x_mc (sb_wsX12_text_wsX12_text_r1 _ (List.mem_of_getElem? (i := 6) rfl)) (x_mc (sb_wsX12_text_wsX12_text_r3 _ (List.mem_of_getElem? (i := 11) rfl)) (x_mc (sb_wsX12_text_wsX12_text_r3 _ (List.mem_of_getElem? (i := 12) rfl)) (x_mc (sb_wsX12_text_wsX12_text_r3 _ (List.mem_of_getElem? (i := 13) rfl)) (x_mc (sb_wsX12_text_wsX12_text_r3 _ (List.mem_of_getElem? (i := 14) rfl)) (x_mc (sb_wsX12_text_wsX12_text_r3 _ (List.mem_of_getElem? (i := 15) rfl)) (x_mc (sb_wsX12_text_wsX12_text_r3 _ (List.mem_of_getElem? (i := 16) rfl)) (x_mc (sb_wsX12_text_wsX12_text_r3 _ (List.mem_of_getElem? (i := 17) rfl)) (x_mc (sb_wsX12_text_wsX12_text_r3 _ (List.mem_of_getElem? (i := 18) rfl)) (x_mc (sb_wsX12_text_wsX12_text_r3 _ (List.mem_of_getElem? (i := 19) rfl)) (x_mc (sb_wsX12_text_wsX12_text_r3 _ (List.mem_of_getElem? (i := 20) rfl)) (x_mc (sb_wsX12_text_wsX12_text_r3 _ (List.mem_of_getElem? (i := 21) rfl)) (x_mc (sb_wsX12_text_wsX12_text_r3 _ (List.mem_of_getElem? (i := 22) rfl)) (x_mc (sb_wsX12_text_wsX12_text_r3 _ (List.mem_of_getElem? (i := 23) rfl)) (x_mc (sb_wsX12_text_wsX12_text_r4 _ (List.mem_of_getElem? (i := 0) rfl)) (x_mc (sb_wsX12_text_wsX12_text_r4 _ (List.mem_of_getElem? (i := 1) rfl)) (x_mc (sb_wsX12_text_wsX12_text_r4 _ (List.mem_of_getElem? (i := 2) rfl)) (x_mc (sb_wsX12_text_wsX12_text_r4 _ (List.mem_of_getElem? (i := 3) rfl)) (x_mc (sb_wsX12_text_wsX12_text_r4 _ (List.mem_of_getElem? (i := 4) rfl)) (x_mc (sb_wsX12_text_wsX12_text_r4 _ (List.mem_of_getElem? (i := 5) rfl)) (x_mc (sb_wsX12_text_wsX12_text_r4 _ (List.mem_of_getElem? (i := 6) rfl)) x_mn)))))))))))))))))))))))) (x_ina (x_mc (sb_wsX12_text_wsX12_text_r4 _ (List.mem_of_getElem? (i := 7) rfl)) (x_mc (sb_wsX12_text_wsX12_text_r4 _ (List.mem_of_getElem? (i := 8) rfl)) (x_mc (sb_wsX12_text_wsX12_text_r4 _ (List.mem_of_getElem? (i := 9) rfl)) (x_mc (sb_wsX12_text_wsX12_text_r4 _ (List.mem_of_getElem? (i := 10) rfl)) (x_mc (sb_wsX12_text_wsX12_text_r4 _ (List.mem_of_getElem? (i := 11) rfl)) (x_mc (sb_wsX12_text_wsX12_text_r4 _ (List.mem_of_getElem? (i := 12) rfl)) (x_mc (sb_wsX12_text_wsX12_text_r4 _ (List.mem_of_getElem? (i := 13) rfl)) (x_mc (sb_wsX12_text_wsX12_text_r4 _ (List.mem_of_getElem? (i := 14) rfl)) (x_mc (sb_wsX12_text_wsX12_text_r4 _ (List.mem_of_getElem? (i := 15) rfl)) (x_mc (sb_wsX12_text_wsX12_text_r4 _ (List.mem_of_getElem? (i := 16) rfl)) (x_mc (sb_wsX12_text_wsX12_text_r4 _ (List.mem_of_getElem? (i := 17) rfl)) (x_mc (sb_wsX12_text_wsX12_text_r4 _ (List.mem_of_getElem? (i := 18) rfl)) (x_mc (sb_wsX12_text_wsX12_text_r4 _ (List.mem_of_getElem? (i := 19) rfl)) (x_mc (sb_wsX12_text_wsX12_text_r4 _ (List.mem_of_getElem? (i := 20) rfl)) (x_mc (sb_wsX12_text_wsX12_text_r4 _ (List.mem_of_getElem? (i := 21) rfl)) (x_mc (sb_wsX12_text_wsX12_text_r4 _ (List.mem_of_getElem? (i := 22) rfl)) (x_mc (sb_wsX12_text_wsX12_text_r4 _ (List.mem_of_getElem? (i := 23) rfl)) (x_mc (sb_wsX12_text_wsX12_text_r5 _ (List.mem_of_getElem? (i := 0) rfl)) (x_mc (sb_wsX12_text_wsX12_text_r5 _ (List.mem_of_getElem? (i := 1) rfl)) (x_mc (sb_wsX12_text_wsX12_text_r5 _ (List.mem_of_getElem? (i := 2) rfl)) (x_mc (sb_wsX12_text_wsX12_text_r5 _ (List.mem_of_getElem? (i := 3) rfl)) (x_mc (sb_wsX12_text_wsX12_text_r5 _ (List.mem_of_getElem? (i := 4) rfl)) (x_mc (sb_wsX12_text_wsX12_text_r5 _ (List.mem_of_getElem? (i := 5) rfl)) (x_mc (sb_wsX12_text_wsX12_text_r5 _ (List.mem_of_getElem? (i := 6) rfl)) x_mn)))))))))))))))))))))))) (x_mc (sb_wsX12_text_wsX12_text_r5 _ (List.mem_of_getElem? (i := 7) rfl)) (x_mc (sb_wsX12_text_wsX12_text_r5 _ (List.mem_of_getElem? (i := 8) rfl)) (x_mc (sb_wsX12_text_wsX12_text_r5 _ (List.mem_of_getElem? (i := 9) rfl)) x_mn))))))) (fun _ h => sb_wsX12_text_wsX120 _ h))) (by decide +kernel)
set_option maxRecDepth 20000 in
theorem gX12_text_X12_read : GoodIn wsX12_text (wsV RX12 239 RX12 yX12_read wsX12_read) := goodIn_app (goodIn_of _ (by decide +kernel)) ggX12_text_X12_read
theorem dX12_text_0 : decode cX12_text 0 = .ok (.aload_n 0, 1) := by decide +kernel
theorem dX12_text_1 : decode cX12_text 1 = .ok (.getfield 142, 3) := by decide +kernel
theorem dX12_text_4 : decode cX12_text 4 = .ok (.bipush 6, 2) := by decide +kernel
theorem dX12_text_6 : decode cX12_text 6 = .ok (.if_icmp .ne 6, 3) := by decide +kernel
theorem dX12_text_9 : decode cX12_text 9 = .ok (.bipush (-4), 2) := by decide +kernel
theorem dX12_text_11 : decode cX12_text 11 = .ok (.ireturn, 1) := by decide +kernel
theorem dX12_text_12 : decode cX12_text 12 = .ok (.iconst 0, 1) := by decide +kernel
theorem dX12_text_13 : decode cX12_text 13 = .ok (.istore_n 1, 1) := by decide +kernel
theorem dX12_text_14 : decode cX12_text 14 = .ok (.iload_n 1, 1) := by decide +kernel
theorem dX12_text_15 : decode cX12_text 15 = .ok (.aload_n 0, 1) := by decide +kernel
theorem dX12_text_16 : decode cX12_text 16 = .ok (.getfield 275, 3) := by decide +kernel
theorem dX12_text_19 : decode cX12_text 19 = .ok (.if_icmp .ge 30, 3) := by decide +kernel
theorem dX12_text_22 : decode cX12_text 22 = .ok (.aload_n 0, 1) := by decide +kernel
theorem dX12_text_23 : decode cX12_text 23 = .ok (.getfield 13, 3) := by decide +kernel
theorem dX12_text_26 : decode cX12_text 26 = .ok (.sipush 160, 3) := by decide +kernel
theorem dX12_text_29 : decode cX12_text 29 = .ok (.aload_n 0, 1) := by decide +kernel
theorem dX12_text_30 : decode cX12_text 30 = .ok (.getfield 142, 3) := by decide +kernel
theorem dX12_text_33 : decode cX12_text 33 = .ok (.imul, 1) := by decide +kernel
theorem dX12_text_34 : decode cX12_text 34 = .ok (.iload_n 1, 1) := by decide +kernel
theorem dX12_text_35 : decode cX12_text 35 = .ok (.iadd, 1) := by decide +kernel
theorem dX12_text_36 : decode cX12_text 36 = .ok (.aload_n 0, 1) := by decide +kernel
theorem dX12_text_37 : decode cX12_text 37 = .ok (.getfield 20, 3) := by decide +kernel
theorem dX12_text_40 : decode cX12_text 40 = .ok (.iload_n 1, 1) := by decide +kernel
theorem dX12_text_41 : decode cX12_text 41 = .ok (.iaload, 1) := by decide +kernel
theorem dX12_text_42 : decode cX12_text 42 = .ok (.iastore, 1) := by decide +kernel
theorem dX12_text_43 : decode cX12_text 43 = .ok (.iinc 1 1, 3) := by decide +kernel
theorem dX12_text_46 : decode cX12_text 46 = .ok (.goto (-32), 3) := by decide +kernel
theorem dX12_text_49 : decode cX12_text 49 = .ok (.aload_n 0, 1) := by decide +kernel
theorem dX12_text_50 : decode cX12_text 50 = .ok (.getfield 17, 3) := by decide +kernel
theorem dX12_text_53 : decode cX12_text 53 = .ok (.aload_n 0, 1) := by decide +kernel
theorem dX12_text_54 : decode cX12_text 54 = .ok (.getfield 142, 3) := by decide +kernel
theorem dX12_text_57 : decode cX12_text 57 = .ok (.aload_n 0, 1) := by decide +kernel
theorem dX12_text_58 : decode cX12_text 58 = .ok (.getfield 275, 3) := by decide +kernel
theorem dX12_text_61 : decode cX12_text 61 = .ok (.iastore, 1) := by decide +kernel
theorem dX12_text_62 : decode cX12_text 62 = .ok (.aload_n 0, 1) := by decide +kernel
theorem dX12_text_63 : decode cX12_text 63 = .ok (.iconst 0, 1) := by decide +kernel
theorem dX12_text_64 : decode cX12_text 64 = .ok (.putfield 275, 3) := by decide +kernel
theorem dX12_text_67 : decode cX12_text 67 = .ok (.aload_n 0, 1) := by decide +kernel
theorem dX12_text_68 : decode cX12_text 68 = .ok (.aload_n 0, 1) := by decide +kernel
theorem dX12_text_69 : decode cX12_text 69 = .ok (.getfield 142, 3) := by decide +kernel
theorem dX12_text_72 : decode cX12_text 72 = .ok (.iconst 0, 1) := by decide +kernel
theorem dX12_text_73 : decode cX12_text 73 = .ok (.iconst 0, 1) := by decide +kernel
theorem dX12_text_74 : decode cX12_text 74 = .ok (.iconst 0, 1) := by decide +kernel
theorem dX12_text_75 : decode cX12_text 75 = .ok (.iconst 0, 1) := by decide +kernel
theorem dX12_text_76 : decode cX12_text 76 = .ok (.iconst 0, 1) := by decide +kernel
theorem dX12_text_77 : decode cX12_text 77 = .ok (.iconst 0, 1) := by decide +kernel
theorem dX12_text_78 : decode cX12_text 78 = .ok (.iconst 0, 1) := by decide +kernel
theorem dX12_text_79 : decode cX12_text 79 = .ok (.invokevirtual 239, 3) := by decide +kernel
theorem dX12_text_82 : decode cX12_text 82 = .ok (.istore_n 1, 1) := by decide +kernel
theorem dX12_text_83 : decode cX12_text 83 = .ok (.aload_n 0, 1) := by decide +kernel
theorem dX12_text_84 : decode cX12_text 84 = .ok (.getfield 316, 3) := by decide +kernel
theorem dX12_text_87 : decode cX12_text 87 = .ok (.ifCond .eq 11, 3) := by decide +kernel
theorem dX12_text_90 : decode cX12_text 90 = .ok (.bipush (-100), 2) := by decide +kernel
theorem dX12_text_92 : decode cX12_text 92 = .ok (.aload_n 0, 1) := by decide +kernel
theorem dX12_text_93 : decode cX12_text 93 = .ok (.getfield 320, 3) := by decide +kernel
theorem dX12_text_96 : decode cX12_text 96 = .ok (.isub, 1) := by decide +kernel
theorem dX12_text_97 : decode cX12_text 97 = .ok (.ireturn, 1) := by decide +kernel
theorem dX12_text_98 : decode cX12_text 98 = .ok (.aload_n 0, 1) := by decide +kernel
theorem dX12_text_99 : decode cX12_text 99 = .ok (.dup, 1) := by decide +kernel
theorem dX12_text_100 : decode cX12_text 100 = .ok (.getfield 142, 3) := by decide +kernel
theorem dX12_text_103 : decode cX12_text 103 = .ok (.iconst 1, 1) := by decide +kernel
theorem dX12_text_104 : decode cX12_text 104 = .ok (.iadd, 1) := by decide +kernel
theorem dX12_text_105 : decode cX12_text 105 = .ok (.putfield 142, 3) := by decide +kernel
theorem dX12_text_108 : decode cX12_text 108 = .ok (.aload_n 0, 1) := by decide +kernel
theorem dX12_text_109 : decode cX12_text 109 = .ok (.getfield 142, 3) := by decide +kernel
theorem dX12_text_112 : decode cX12_text 112 = .ok (.iconst 1, 1) := by decide +kernel
theorem dX12_text_113 : decode cX12_text 113 = .ok (.isub, 1) := by decide +kernel
theorem dX12_text_114 : decode cX12_text 114 = .ok (.ireturn, 1) := by decide +kernel
theorem sb_wsX12_force_wsX120 : ∀ w ∈ wsX120, w ∈ wsX12_force := fun _ h => (List.mem_cons_of_mem _ (List.mem_append_right _ h))
set_option maxRecDepth 20000 in
theorem ggX12_force_X12_in : GoodIn wsX12_force wsX12_in := goodIn_sub (x_mc (List.mem_cons_of_mem _ (List.mem_append_left _ (List.mem_of_getElem? (i := 5) rfl))) x_mn) (by decide +kernel)
set_option maxRecDepth 20000 in
theorem gX12_force_X12_in : GoodIn wsX12_force (va_wsS RX12 156 yX12_in wsX12_in) := goodIn_app (goodIn_of _ (by decide +kernel)) ggX12_force_X12_in
theorem dX12_force_0 : decode cX12_force 0 = .ok (.iload_n 1, 1) := by decide +kernel
theorem dX12_force_1 : decode cX12_force 1 = .ok (.i2l, 1) := by decide +kernel
theorem dX12_force_2 : decode cX12_force 2 = .ok (.lconst 0, 1) := by decide +kernel
theorem dX12_force_3 : decode cX12_force 3 = .ok (.aload_n 0, 1) := by decide +kernel
theorem dX12_force_4 : decode cX12_force 4 = .ok (.getfield 142, 3) := by decide +kernel
theorem dX12_force_7 : decode cX12_force 7 = .ok (.iconst 1, 1) := by decide +kernel
theorem dX12_force_8 : decode cX12_force 8 = .ok (.isub, 1) := by decide +kernel
theorem dX12_force_9 : decode cX12_force 9 = .ok (.i2l, 1) := by decide +kernel
theorem dX12_force_10 : decode cX12_force 10 = .ok (.invokestatic 156, 3) := by decide +kernel
theorem dX12_force_13 : decode cX12_force 13 = .ok (.ifCond .ne 6, 3) := by decide +kernel
theorem dX12_force_16 : decode cX12_force 16 = .ok (.bipush (-2), 2) := by decide +kernel
theorem dX12_force_18 : decode cX12_force 18 = .ok (.ireturn, 1) := by decide +kernel
theorem dX12_force_19 : decode cX12_force 19 = .ok (.aload_n 0, 1) := by decide +kernel
theorem dX12_force_20 : decode cX12_force 20 = .ok (.getfield 236, 3) := by decide +kernel
theorem dX12_force_23 : decode cX12_force 23 = .ok (.istore_n 2, 1) := by decide +kernel
theorem dX12_force_24 : decode cX12_force 24 = .ok (.aload_n 0, 1) := by decide +kernel
theorem dX12_force_25 : decode cX12_force 25 = .ok (.iload_n 1, 1) := by decide +kernel
theorem dX12_force_26 : decode cX12_force 26 = .ok (.putfield 236, 3) := by decide +kernel
theorem dX12_force_29 : decode cX12_force 29 = .ok (.iload_n 2, 1) := by decide +kernel
theorem dX12_force_30 : decode cX12_force 30 = .ok (.ireturn, 1) := by decide +kernel
theorem dX12_isTwice_0 : decode cX12_isTwice 0 = .ok (.iconst 0, 1) := by decide +kernel
theorem dX12_isTwice_1 : decode cX12_isTwice 1 = .ok (.istore_n 2, 1) := by decide +kernel
theorem dX12_isTwice_2 : decode cX12_isTwice 2 = .ok (.iconst 0, 1) := by decide +kernel
theorem dX12_isTwice_3 : decode cX12_isTwice 3 = .ok (.istore_n 3, 1) := by decide +kernel
theorem dX12_isTwice_4 : decode cX12_isTwice 4 = .ok (.iload_n 3, 1) := by decide +kernel
theorem dX12_isTwice_5 : decode cX12_isTwice 5 = .ok (.aload_n 0, 1) := by decide +kernel
theorem dX12_isTwice_6 : decode cX12_isTwice 6 = .ok (.getfield 166, 3) := by decide +kernel
theorem dX12_isTwice_9 : decode cX12_isTwice 9 = .ok (.if_icmp .ge 37, 3) := by decide +kernel
theorem dX12_isTwice_12 : decode cX12_isTwice 12 = .ok (.iload_n 2, 1) := by decide +kernel
theorem dX12_isTwice_13 : decode cX12_isTwice 13 = .ok (.aload_n 0, 1) := by decide +kernel
theorem dX12_isTwice_14 : decode cX12_isTwice 14 = .ok (.getfield 59, 3) := by decide +kernel
theorem dX12_isTwice_17 : decode cX12_isTwice 17 = .ok (.iload_n 3, 1) := by decide +kernel
theorem dX12_isTwice_18 : decode cX12_isTwice 18 = .ok (.iaload, 1) := by decide +kernel
theorem dX12_isTwice_19 : decode cX12_isTwice 19 = .ok (.iload_n 1, 1) := by decide +kernel
theorem dX12_isTwice_20 : decode cX12_isTwice 20 = .ok (.if_icmp .eq 13, 3) := by decide +kernel
theorem dX12_isTwice_23 : decode cX12_isTwice 23 = .ok (.aload_n 0, 1) := by decide +kernel
