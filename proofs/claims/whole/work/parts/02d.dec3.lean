theorem dX11_post_215 : decode cX11_post 215 = .ok (.iload_n 1, 1) := by decide +kernel
theorem dX11_post_216 : decode cX11_post 216 = .ok (.iastore, 1) := by decide +kernel
theorem dX11_post_217 : decode cX11_post 217 = .ok (.aload_n 0, 1) := by decide +kernel
theorem dX11_post_218 : decode cX11_post 218 = .ok (.getfield 102, 3) := by decide +kernel
theorem dX11_post_221 : decode cX11_post 221 = .ok (.aload_n 0, 1) := by decide +kernel
theorem dX11_post_222 : decode cX11_post 222 = .ok (.getfield 275, 3) := by decide +kernel
theorem dX11_post_225 : decode cX11_post 225 = .ok (.iload_n 2, 1) := by decide +kernel
theorem dX11_post_226 : decode cX11_post 226 = .ok (.iastore, 1) := by decide +kernel
theorem dX11_post_227 : decode cX11_post 227 = .ok (.aload_n 0, 1) := by decide +kernel
theorem dX11_post_228 : decode cX11_post 228 = .ok (.getfield 105, 3) := by decide +kernel
theorem dX11_post_231 : decode cX11_post 231 = .ok (.aload_n 0, 1) := by decide +kernel
theorem dX11_post_232 : decode cX11_post 232 = .ok (.getfield 275, 3) := by decide +kernel
theorem dX11_post_235 : decode cX11_post 235 = .ok (.lload_n 3, 1) := by decide +kernel
theorem dX11_post_236 : decode cX11_post 236 = .ok (.lastore, 1) := by decide +kernel
theorem dX11_post_237 : decode cX11_post 237 = .ok (.aload_n 0, 1) := by decide +kernel
theorem dX11_post_238 : decode cX11_post 238 = .ok (.getfield 108, 3) := by decide +kernel
theorem dX11_post_241 : decode cX11_post 241 = .ok (.aload_n 0, 1) := by decide +kernel
theorem dX11_post_242 : decode cX11_post 242 = .ok (.getfield 275, 3) := by decide +kernel
theorem dX11_post_245 : decode cX11_post 245 = .ok (.aload_n 0, 1) := by decide +kernel
theorem dX11_post_246 : decode cX11_post 246 = .ok (.invokevirtual 252, 3) := by decide +kernel
theorem dX11_post_249 : decode cX11_post 249 = .ok (.iastore, 1) := by decide +kernel
theorem dX11_post_250 : decode cX11_post 250 = .ok (.aload_n 0, 1) := by decide +kernel
theorem dX11_post_251 : decode cX11_post 251 = .ok (.getfield 111, 3) := by decide +kernel
theorem dX11_post_254 : decode cX11_post 254 = .ok (.aload_n 0, 1) := by decide +kernel
theorem dX11_post_255 : decode cX11_post 255 = .ok (.getfield 275, 3) := by decide +kernel
theorem dX11_post_258 : decode cX11_post 258 = .ok (.aload_n 0, 1) := by decide +kernel
theorem dX11_post_259 : decode cX11_post 259 = .ok (.getfield 166, 3) := by decide +kernel
theorem dX11_post_262 : decode cX11_post 262 = .ok (.iastore, 1) := by decide +kernel
theorem dX11_post_263 : decode cX11_post 263 = .ok (.aload_n 0, 1) := by decide +kernel
theorem dX11_post_264 : decode cX11_post 264 = .ok (.getfield 117, 3) := by decide +kernel
theorem dX11_post_267 : decode cX11_post 267 = .ok (.aload_n 0, 1) := by decide +kernel
theorem dX11_post_268 : decode cX11_post 268 = .ok (.getfield 275, 3) := by decide +kernel
theorem dX11_post_271 : decode cX11_post 271 = .ok (.iconst (-1), 1) := by decide +kernel
theorem dX11_post_272 : decode cX11_post 272 = .ok (.iastore, 1) := by decide +kernel
theorem dX11_post_273 : decode cX11_post 273 = .ok (.aload_n 0, 1) := by decide +kernel
theorem dX11_post_274 : decode cX11_post 274 = .ok (.iconst 0, 1) := by decide +kernel
theorem dX11_post_275 : decode cX11_post 275 = .ok (.putfield 163, 3) := by decide +kernel
theorem dX11_post_278 : decode cX11_post 278 = .ok (.aload_n 0, 1) := by decide +kernel
theorem dX11_post_279 : decode cX11_post 279 = .ok (.getfield 275, 3) := by decide +kernel
theorem dX11_post_282 : decode cX11_post 282 = .ok (.ireturn, 1) := by decide +kernel
theorem dX11_circle_0 : decode cX11_circle 0 = .ok (.iload_n 1, 1) := by decide +kernel
theorem dX11_circle_1 : decode cX11_circle 1 = .ok (.ifCond .lt 11, 3) := by decide +kernel
theorem dX11_circle_4 : decode cX11_circle 4 = .ok (.iload_n 1, 1) := by decide +kernel
theorem dX11_circle_5 : decode cX11_circle 5 = .ok (.aload_n 0, 1) := by decide +kernel
theorem dX11_circle_6 : decode cX11_circle 6 = .ok (.getfield 281, 3) := by decide +kernel
theorem dX11_circle_9 : decode cX11_circle 9 = .ok (.if_icmp .lt 7, 3) := by decide +kernel
theorem dX11_circle_12 : decode cX11_circle 12 = .ok (.iconst (-1), 1) := by decide +kernel
theorem dX11_circle_13 : decode cX11_circle 13 = .ok (.goto 9, 3) := by decide +kernel
theorem dX11_circle_16 : decode cX11_circle 16 = .ok (.aload_n 0, 1) := by decide +kernel
theorem dX11_circle_17 : decode cX11_circle 17 = .ok (.getfield 133, 3) := by decide +kernel
theorem dX11_circle_20 : decode cX11_circle 20 = .ok (.iload_n 1, 1) := by decide +kernel
theorem dX11_circle_21 : decode cX11_circle 21 = .ok (.iaload, 1) := by decide +kernel
theorem dX11_circle_22 : decode cX11_circle 22 = .ok (.ireturn, 1) := by decide +kernel
theorem dX11_undo_0 : decode cX11_undo 0 = .ok (.iload_n 1, 1) := by decide +kernel
theorem dX11_undo_1 : decode cX11_undo 1 = .ok (.iconst 1, 1) := by decide +kernel
theorem dX11_undo_2 : decode cX11_undo 2 = .ok (.if_icmp .lt 11, 3) := by decide +kernel
theorem dX11_undo_5 : decode cX11_undo 5 = .ok (.iload_n 1, 1) := by decide +kernel
theorem dX11_undo_6 : decode cX11_undo 6 = .ok (.aload_n 0, 1) := by decide +kernel
theorem dX11_undo_7 : decode cX11_undo 7 = .ok (.getfield 275, 3) := by decide +kernel
theorem dX11_undo_10 : decode cX11_undo 10 = .ok (.if_icmp .le 9, 3) := by decide +kernel
theorem dX11_undo_13 : decode cX11_undo 13 = .ok (.aload_n 0, 1) := by decide +kernel
theorem dX11_undo_14 : decode cX11_undo 14 = .ok (.iconst 1, 1) := by decide +kernel
theorem dX11_undo_15 : decode cX11_undo 15 = .ok (.invokevirtual 238, 3) := by decide +kernel
theorem dX11_undo_18 : decode cX11_undo 18 = .ok (.ireturn, 1) := by decide +kernel
theorem dX11_undo_19 : decode cX11_undo 19 = .ok (.aload_n 0, 1) := by decide +kernel
theorem dX11_undo_20 : decode cX11_undo 20 = .ok (.iload_n 1, 1) := by decide +kernel
theorem dX11_undo_21 : decode cX11_undo 21 = .ok (.invokevirtual 278, 3) := by decide +kernel
theorem dX11_undo_24 : decode cX11_undo 24 = .ok (.ifCond .eq 10, 3) := by decide +kernel
theorem dX11_undo_27 : decode cX11_undo 27 = .ok (.aload_n 0, 1) := by decide +kernel
theorem dX11_undo_28 : decode cX11_undo 28 = .ok (.bipush 8, 2) := by decide +kernel
theorem dX11_undo_30 : decode cX11_undo 30 = .ok (.invokevirtual 238, 3) := by decide +kernel
theorem dX11_undo_33 : decode cX11_undo 33 = .ok (.ireturn, 1) := by decide +kernel
theorem dX11_undo_34 : decode cX11_undo 34 = .ok (.aload_n 0, 1) := by decide +kernel
theorem dX11_undo_35 : decode cX11_undo 35 = .ok (.getfield 114, 3) := by decide +kernel
theorem dX11_undo_38 : decode cX11_undo 38 = .ok (.iload_n 1, 1) := by decide +kernel
theorem dX11_undo_39 : decode cX11_undo 39 = .ok (.aload_n 0, 1) := by decide +kernel
theorem dX11_undo_40 : decode cX11_undo 40 = .ok (.invokevirtual 252, 3) := by decide +kernel
theorem dX11_undo_43 : decode cX11_undo 43 = .ok (.iastore, 1) := by decide +kernel
theorem dX11_undo_44 : decode cX11_undo 44 = .ok (.aload_n 0, 1) := by decide +kernel
theorem dX11_undo_45 : decode cX11_undo 45 = .ok (.getfield 117, 3) := by decide +kernel
theorem dX11_undo_48 : decode cX11_undo 48 = .ok (.iload_n 1, 1) := by decide +kernel
theorem dX11_undo_49 : decode cX11_undo 49 = .ok (.aload_n 0, 1) := by decide +kernel
theorem dX11_undo_50 : decode cX11_undo 50 = .ok (.getfield 166, 3) := by decide +kernel
theorem dX11_undo_53 : decode cX11_undo 53 = .ok (.iastore, 1) := by decide +kernel
theorem dX11_undo_54 : decode cX11_undo 54 = .ok (.aload_n 0, 1) := by decide +kernel
theorem dX11_undo_55 : decode cX11_undo 55 = .ok (.iconst 0, 1) := by decide +kernel
theorem dX11_undo_56 : decode cX11_undo 56 = .ok (.putfield 163, 3) := by decide +kernel
theorem dX11_undo_59 : decode cX11_undo 59 = .ok (.iconst 1, 1) := by decide +kernel
theorem dX11_undo_60 : decode cX11_undo 60 = .ok (.ireturn, 1) := by decide +kernel
theorem dX11_release_0 : decode cX11_release 0 = .ok (.aload_n 0, 1) := by decide +kernel
theorem dX11_release_1 : decode cX11_release 1 = .ok (.iload_n 1, 1) := by decide +kernel
theorem dX11_release_2 : decode cX11_release 2 = .ok (.invokevirtual 224, 3) := by decide +kernel
theorem dX11_release_5 : decode cX11_release 5 = .ok (.ifCond .ne 9, 3) := by decide +kernel
theorem dX11_release_8 : decode cX11_release 8 = .ok (.aload_n 0, 1) := by decide +kernel
theorem dX11_release_9 : decode cX11_release 9 = .ok (.iconst 1, 1) := by decide +kernel
theorem dX11_release_10 : decode cX11_release 10 = .ok (.invokevirtual 238, 3) := by decide +kernel
theorem dX11_release_13 : decode cX11_release 13 = .ok (.ireturn, 1) := by decide +kernel
theorem dX11_release_14 : decode cX11_release 14 = .ok (.aload_n 0, 1) := by decide +kernel
theorem dX11_release_15 : decode cX11_release 15 = .ok (.aload_n 0, 1) := by decide +kernel
theorem dX11_release_16 : decode cX11_release 16 = .ok (.getfield 20, 3) := by decide +kernel
theorem dX11_release_19 : decode cX11_release 19 = .ok (.iload_n 1, 1) := by decide +kernel
theorem dX11_release_20 : decode cX11_release 20 = .ok (.iaload, 1) := by decide +kernel
theorem dX11_release_21 : decode cX11_release 21 = .ok (.iload_n 2, 1) := by decide +kernel
theorem dX11_release_22 : decode cX11_release 22 = .ok (.invokevirtual 235, 3) := by decide +kernel
theorem dX11_release_25 : decode cX11_release 25 = .ok (.istore_n 3, 1) := by decide +kernel
theorem dX11_release_26 : decode cX11_release 26 = .ok (.iload_n 3, 1) := by decide +kernel
theorem dX11_release_27 : decode cX11_release 27 = .ok (.ifCond .le 9, 3) := by decide +kernel
theorem dX11_release_30 : decode cX11_release 30 = .ok (.aload_n 0, 1) := by decide +kernel
theorem dX11_release_31 : decode cX11_release 31 = .ok (.iload_n 3, 1) := by decide +kernel
theorem dX11_release_32 : decode cX11_release 32 = .ok (.invokevirtual 238, 3) := by decide +kernel
theorem dX11_release_35 : decode cX11_release 35 = .ok (.ireturn, 1) := by decide +kernel
theorem dX11_release_36 : decode cX11_release 36 = .ok (.aload_n 0, 1) := by decide +kernel
theorem dX11_release_37 : decode cX11_release 37 = .ok (.invokevirtual 257, 3) := by decide +kernel
theorem dX11_release_40 : decode cX11_release 40 = .ok (.aload_n 0, 1) := by decide +kernel
theorem dX11_release_41 : decode cX11_release 41 = .ok (.iload_n 1, 1) := by decide +kernel
theorem dX11_release_42 : decode cX11_release 42 = .ok (.iload_n 2, 1) := by decide +kernel
theorem dX11_release_43 : decode cX11_release 43 = .ok (.invokevirtual 293, 3) := by decide +kernel
theorem dX11_release_46 : decode cX11_release 46 = .ok (.ifCond .ne 10, 3) := by decide +kernel
theorem dX11_release_49 : decode cX11_release 49 = .ok (.aload_n 0, 1) := by decide +kernel
theorem dX11_release_50 : decode cX11_release 50 = .ok (.bipush 6, 2) := by decide +kernel
theorem dX11_release_52 : decode cX11_release 52 = .ok (.invokevirtual 238, 3) := by decide +kernel
theorem dX11_release_55 : decode cX11_release 55 = .ok (.ireturn, 1) := by decide +kernel
theorem dX11_release_56 : decode cX11_release 56 = .ok (.aload_n 0, 1) := by decide +kernel
theorem dX11_release_57 : decode cX11_release 57 = .ok (.getfield 93, 3) := by decide +kernel
theorem dX11_release_60 : decode cX11_release 60 = .ok (.bipush 60, 2) := by decide +kernel
theorem dX11_release_62 : decode cX11_release 62 = .ok (.iload_n 1, 1) := by decide +kernel
theorem dX11_release_63 : decode cX11_release 63 = .ok (.imul, 1) := by decide +kernel
theorem dX11_release_64 : decode cX11_release 64 = .ok (.iload_n 2, 1) := by decide +kernel
theorem dX11_release_65 : decode cX11_release 65 = .ok (.iadd, 1) := by decide +kernel
theorem dX11_release_66 : decode cX11_release 66 = .ok (.aload_n 0, 1) := by decide +kernel
theorem dX11_release_67 : decode cX11_release 67 = .ok (.invokevirtual 252, 3) := by decide +kernel
theorem dX11_release_70 : decode cX11_release 70 = .ok (.iastore, 1) := by decide +kernel
theorem dX11_release_71 : decode cX11_release 71 = .ok (.aload_n 0, 1) := by decide +kernel
theorem dX11_release_72 : decode cX11_release 72 = .ok (.getfield 96, 3) := by decide +kernel
theorem dX11_release_75 : decode cX11_release 75 = .ok (.bipush 60, 2) := by decide +kernel
theorem dX11_release_77 : decode cX11_release 77 = .ok (.iload_n 1, 1) := by decide +kernel
theorem dX11_release_78 : decode cX11_release 78 = .ok (.imul, 1) := by decide +kernel
theorem dX11_release_79 : decode cX11_release 79 = .ok (.iload_n 2, 1) := by decide +kernel
theorem dX11_release_80 : decode cX11_release 80 = .ok (.iadd, 1) := by decide +kernel
theorem dX11_release_81 : decode cX11_release 81 = .ok (.aload_n 0, 1) := by decide +kernel
theorem dX11_release_82 : decode cX11_release 82 = .ok (.getfield 166, 3) := by decide +kernel
theorem dX11_release_85 : decode cX11_release 85 = .ok (.iastore, 1) := by decide +kernel
theorem dX11_release_86 : decode cX11_release 86 = .ok (.aload_n 0, 1) := by decide +kernel
theorem dX11_release_87 : decode cX11_release 87 = .ok (.iconst 0, 1) := by decide +kernel
theorem dX11_release_88 : decode cX11_release 88 = .ok (.putfield 163, 3) := by decide +kernel
theorem dX11_release_91 : decode cX11_release 91 = .ok (.iconst 1, 1) := by decide +kernel
theorem dX11_release_92 : decode cX11_release 92 = .ok (.ireturn, 1) := by decide +kernel
theorem dX11_strike_0 : decode cX11_strike 0 = .ok (.aload_n 0, 1) := by decide +kernel
theorem dX11_strike_1 : decode cX11_strike 1 = .ok (.iload_n 1, 1) := by decide +kernel
theorem dX11_strike_2 : decode cX11_strike 2 = .ok (.invokevirtual 224, 3) := by decide +kernel
theorem dX11_strike_5 : decode cX11_strike 5 = .ok (.ifCond .ne 9, 3) := by decide +kernel
theorem dX11_strike_8 : decode cX11_strike 8 = .ok (.aload_n 0, 1) := by decide +kernel
theorem dX11_strike_9 : decode cX11_strike 9 = .ok (.iconst 1, 1) := by decide +kernel
theorem dX11_strike_10 : decode cX11_strike 10 = .ok (.invokevirtual 238, 3) := by decide +kernel
theorem dX11_strike_13 : decode cX11_strike 13 = .ok (.ireturn, 1) := by decide +kernel
theorem dX11_strike_14 : decode cX11_strike 14 = .ok (.aload_n 0, 1) := by decide +kernel
theorem dX11_strike_15 : decode cX11_strike 15 = .ok (.getfield 26, 3) := by decide +kernel
theorem dX11_strike_18 : decode cX11_strike 18 = .ok (.iload_n 1, 1) := by decide +kernel
theorem dX11_strike_19 : decode cX11_strike 19 = .ok (.iaload, 1) := by decide +kernel
theorem dX11_strike_20 : decode cX11_strike 20 = .ok (.ifCond .eq 9, 3) := by decide +kernel
theorem dX11_strike_23 : decode cX11_strike 23 = .ok (.aload_n 0, 1) := by decide +kernel
theorem dX11_strike_24 : decode cX11_strike 24 = .ok (.iconst 4, 1) := by decide +kernel
theorem dX11_strike_25 : decode cX11_strike 25 = .ok (.invokevirtual 238, 3) := by decide +kernel
theorem dX11_strike_28 : decode cX11_strike 28 = .ok (.ireturn, 1) := by decide +kernel
theorem dX11_strike_29 : decode cX11_strike 29 = .ok (.aload_n 0, 1) := by decide +kernel
theorem dX11_strike_30 : decode cX11_strike 30 = .ok (.iload_n 1, 1) := by decide +kernel
theorem dX11_strike_31 : decode cX11_strike 31 = .ok (.invokevirtual 260, 3) := by decide +kernel
theorem dX11_strike_34 : decode cX11_strike 34 = .ok (.ifCond .ne 10, 3) := by decide +kernel
theorem dX11_strike_37 : decode cX11_strike 37 = .ok (.aload_n 0, 1) := by decide +kernel
theorem dX11_strike_38 : decode cX11_strike 38 = .ok (.bipush 6, 2) := by decide +kernel
theorem dX11_strike_40 : decode cX11_strike 40 = .ok (.invokevirtual 238, 3) := by decide +kernel
theorem dX11_strike_43 : decode cX11_strike 43 = .ok (.ireturn, 1) := by decide +kernel
theorem dX11_strike_44 : decode cX11_strike 44 = .ok (.aload_n 0, 1) := by decide +kernel
theorem dX11_strike_45 : decode cX11_strike 45 = .ok (.invokevirtual 252, 3) := by decide +kernel
theorem dX11_strike_48 : decode cX11_strike 48 = .ok (.aload_n 0, 1) := by decide +kernel
theorem dX11_strike_49 : decode cX11_strike 49 = .ok (.getfield 48, 3) := by decide +kernel
theorem dX11_strike_52 : decode cX11_strike 52 = .ok (.iload_n 1, 1) := by decide +kernel
theorem dX11_strike_53 : decode cX11_strike 53 = .ok (.iaload, 1) := by decide +kernel
theorem dX11_strike_54 : decode cX11_strike 54 = .ok (.if_icmp .ge 10, 3) := by decide +kernel
theorem dX11_strike_57 : decode cX11_strike 57 = .ok (.aload_n 0, 1) := by decide +kernel
theorem dX11_strike_58 : decode cX11_strike 58 = .ok (.bipush 8, 2) := by decide +kernel
theorem dX11_strike_60 : decode cX11_strike 60 = .ok (.invokevirtual 238, 3) := by decide +kernel
theorem dX11_strike_63 : decode cX11_strike 63 = .ok (.ireturn, 1) := by decide +kernel
theorem dX11_strike_64 : decode cX11_strike 64 = .ok (.aload_n 0, 1) := by decide +kernel
theorem dX11_strike_65 : decode cX11_strike 65 = .ok (.getfield 54, 3) := by decide +kernel
theorem dX11_strike_68 : decode cX11_strike 68 = .ok (.iload_n 1, 1) := by decide +kernel
theorem dX11_strike_69 : decode cX11_strike 69 = .ok (.aload_n 0, 1) := by decide +kernel
theorem dX11_strike_70 : decode cX11_strike 70 = .ok (.invokevirtual 252, 3) := by decide +kernel
theorem dX11_strike_73 : decode cX11_strike 73 = .ok (.iastore, 1) := by decide +kernel
theorem dX11_strike_74 : decode cX11_strike 74 = .ok (.aload_n 0, 1) := by decide +kernel
theorem dX11_strike_75 : decode cX11_strike 75 = .ok (.getfield 57, 3) := by decide +kernel
theorem dX11_strike_78 : decode cX11_strike 78 = .ok (.iload_n 1, 1) := by decide +kernel
theorem dX11_strike_79 : decode cX11_strike 79 = .ok (.aload_n 0, 1) := by decide +kernel
theorem dX11_strike_80 : decode cX11_strike 80 = .ok (.getfield 166, 3) := by decide +kernel
theorem dX11_strike_83 : decode cX11_strike 83 = .ok (.iastore, 1) := by decide +kernel
theorem dX11_strike_84 : decode cX11_strike 84 = .ok (.aload_n 0, 1) := by decide +kernel
theorem dX11_strike_85 : decode cX11_strike 85 = .ok (.iconst 0, 1) := by decide +kernel
theorem dX11_strike_86 : decode cX11_strike 86 = .ok (.putfield 163, 3) := by decide +kernel
theorem dX11_strike_89 : decode cX11_strike 89 = .ok (.iconst 1, 1) := by decide +kernel
theorem dX11_strike_90 : decode cX11_strike 90 = .ok (.ireturn, 1) := by decide +kernel
theorem dX11_keep_0 : decode cX11_keep 0 = .ok (.aload_n 0, 1) := by decide +kernel
theorem dX11_keep_1 : decode cX11_keep 1 = .ok (.iload_n 1, 1) := by decide +kernel
theorem dX11_keep_2 : decode cX11_keep 2 = .ok (.invokevirtual 224, 3) := by decide +kernel
theorem dX11_keep_5 : decode cX11_keep 5 = .ok (.ifCond .eq 11, 3) := by decide +kernel
theorem dX11_keep_8 : decode cX11_keep 8 = .ok (.aload_n 0, 1) := by decide +kernel
theorem dX11_keep_9 : decode cX11_keep 9 = .ok (.iload_n 2, 1) := by decide +kernel
theorem dX11_keep_10 : decode cX11_keep 10 = .ok (.invokevirtual 224, 3) := by decide +kernel
theorem dX11_keep_13 : decode cX11_keep 13 = .ok (.ifCond .ne 9, 3) := by decide +kernel
theorem dX11_keep_16 : decode cX11_keep 16 = .ok (.aload_n 0, 1) := by decide +kernel
theorem dX11_keep_17 : decode cX11_keep 17 = .ok (.iconst 1, 1) := by decide +kernel
theorem dX11_keep_18 : decode cX11_keep 18 = .ok (.invokevirtual 238, 3) := by decide +kernel
theorem dX11_keep_21 : decode cX11_keep 21 = .ok (.ireturn, 1) := by decide +kernel
theorem dX11_keep_22 : decode cX11_keep 22 = .ok (.aload_n 0, 1) := by decide +kernel
theorem dX11_keep_23 : decode cX11_keep 23 = .ok (.getfield 17, 3) := by decide +kernel
theorem dX11_keep_26 : decode cX11_keep 26 = .ok (.iload_n 1, 1) := by decide +kernel
theorem dX11_keep_27 : decode cX11_keep 27 = .ok (.iaload, 1) := by decide +kernel
theorem dX11_keep_28 : decode cX11_keep 28 = .ok (.bipush 6, 2) := by decide +kernel
theorem dX11_keep_30 : decode cX11_keep 30 = .ok (.if_icmp .ne 23, 3) := by decide +kernel
theorem dX11_keep_33 : decode cX11_keep 33 = .ok (.aload_n 0, 1) := by decide +kernel
theorem dX11_keep_34 : decode cX11_keep 34 = .ok (.getfield 17, 3) := by decide +kernel
theorem dX11_keep_37 : decode cX11_keep 37 = .ok (.iload_n 2, 1) := by decide +kernel
theorem dX11_keep_38 : decode cX11_keep 38 = .ok (.iaload, 1) := by decide +kernel
theorem dX11_keep_39 : decode cX11_keep 39 = .ok (.bipush 6, 2) := by decide +kernel
theorem dX11_keep_41 : decode cX11_keep 41 = .ok (.if_icmp .eq 12, 3) := by decide +kernel
theorem dX11_keep_44 : decode cX11_keep 44 = .ok (.aload_n 0, 1) := by decide +kernel
theorem dX11_keep_45 : decode cX11_keep 45 = .ok (.getfield 26, 3) := by decide +kernel
theorem dX11_keep_48 : decode cX11_keep 48 = .ok (.iload_n 2, 1) := by decide +kernel
theorem dX11_keep_49 : decode cX11_keep 49 = .ok (.iaload, 1) := by decide +kernel
theorem dX11_keep_50 : decode cX11_keep 50 = .ok (.ifCond .eq 9, 3) := by decide +kernel
theorem dX11_keep_53 : decode cX11_keep 53 = .ok (.aload_n 0, 1) := by decide +kernel
theorem dX11_keep_54 : decode cX11_keep 54 = .ok (.iconst 4, 1) := by decide +kernel
theorem dX11_keep_55 : decode cX11_keep 55 = .ok (.invokevirtual 238, 3) := by decide +kernel
theorem dX11_keep_58 : decode cX11_keep 58 = .ok (.ireturn, 1) := by decide +kernel
theorem dX11_keep_59 : decode cX11_keep 59 = .ok (.aload_n 0, 1) := by decide +kernel
theorem dX11_keep_60 : decode cX11_keep 60 = .ok (.iload_n 1, 1) := by decide +kernel
theorem dX11_keep_61 : decode cX11_keep 61 = .ok (.invokevirtual 260, 3) := by decide +kernel
theorem dX11_keep_64 : decode cX11_keep 64 = .ok (.ifCond .eq 26, 3) := by decide +kernel
theorem dX11_keep_67 : decode cX11_keep 67 = .ok (.aload_n 0, 1) := by decide +kernel
theorem dX11_keep_68 : decode cX11_keep 68 = .ok (.iload_n 2, 1) := by decide +kernel
theorem dX11_keep_69 : decode cX11_keep 69 = .ok (.invokevirtual 195, 3) := by decide +kernel
theorem dX11_keep_72 : decode cX11_keep 72 = .ok (.ifCond .eq 18, 3) := by decide +kernel
theorem dX11_keep_75 : decode cX11_keep 75 = .ok (.aload_n 0, 1) := by decide +kernel
theorem dX11_keep_76 : decode cX11_keep 76 = .ok (.getfield 20, 3) := by decide +kernel
theorem dX11_keep_79 : decode cX11_keep 79 = .ok (.iload_n 1, 1) := by decide +kernel
theorem dX11_keep_80 : decode cX11_keep 80 = .ok (.iaload, 1) := by decide +kernel
theorem dX11_keep_81 : decode cX11_keep 81 = .ok (.aload_n 0, 1) := by decide +kernel
theorem dX11_keep_82 : decode cX11_keep 82 = .ok (.getfield 20, 3) := by decide +kernel
theorem dX11_keep_85 : decode cX11_keep 85 = .ok (.iload_n 2, 1) := by decide +kernel
theorem dX11_keep_86 : decode cX11_keep 86 = .ok (.iaload, 1) := by decide +kernel
theorem dX11_keep_87 : decode cX11_keep 87 = .ok (.if_icmp .eq 10, 3) := by decide +kernel
theorem dX11_keep_90 : decode cX11_keep 90 = .ok (.aload_n 0, 1) := by decide +kernel
theorem dX11_keep_91 : decode cX11_keep 91 = .ok (.bipush 6, 2) := by decide +kernel
theorem dX11_keep_93 : decode cX11_keep 93 = .ok (.invokevirtual 238, 3) := by decide +kernel
theorem dX11_keep_96 : decode cX11_keep 96 = .ok (.ireturn, 1) := by decide +kernel
theorem dX11_keep_97 : decode cX11_keep 97 = .ok (.aload_n 0, 1) := by decide +kernel
theorem dX11_keep_98 : decode cX11_keep 98 = .ok (.getfield 48, 3) := by decide +kernel
theorem dX11_keep_101 : decode cX11_keep 101 = .ok (.iload_n 2, 1) := by decide +kernel
theorem dX11_keep_102 : decode cX11_keep 102 = .ok (.iaload, 1) := by decide +kernel
theorem dX11_keep_103 : decode cX11_keep 103 = .ok (.aload_n 0, 1) := by decide +kernel
theorem dX11_keep_104 : decode cX11_keep 104 = .ok (.getfield 48, 3) := by decide +kernel
theorem dX11_keep_107 : decode cX11_keep 107 = .ok (.iload_n 1, 1) := by decide +kernel
theorem dX11_keep_108 : decode cX11_keep 108 = .ok (.iaload, 1) := by decide +kernel
theorem dX11_keep_109 : decode cX11_keep 109 = .ok (.isub, 1) := by decide +kernel
theorem dX11_keep_110 : decode cX11_keep 110 = .ok (.istore_n 3, 1) := by decide +kernel
theorem dX11_keep_111 : decode cX11_keep 111 = .ok (.iload_n 3, 1) := by decide +kernel
theorem dX11_keep_112 : decode cX11_keep 112 = .ok (.ifCond .lt 31, 3) := by decide +kernel
theorem dX11_keep_115 : decode cX11_keep 115 = .ok (.iload_n 3, 1) := by decide +kernel
theorem dX11_keep_116 : decode cX11_keep 116 = .ok (.aload_n 0, 1) := by decide +kernel
theorem dX11_keep_117 : decode cX11_keep 117 = .ok (.getfield 42, 3) := by decide +kernel
theorem dX11_keep_120 : decode cX11_keep 120 = .ok (.iload_n 1, 1) := by decide +kernel
theorem dX11_keep_121 : decode cX11_keep 121 = .ok (.iaload, 1) := by decide +kernel
theorem dX11_keep_122 : decode cX11_keep 122 = .ok (.if_icmp .gt 21, 3) := by decide +kernel
theorem dX11_keep_125 : decode cX11_keep 125 = .ok (.aload_n 0, 1) := by decide +kernel
theorem dX11_keep_126 : decode cX11_keep 126 = .ok (.getfield 81, 3) := by decide +kernel
theorem dX11_keep_129 : decode cX11_keep 129 = .ok (.iload_n 1, 1) := by decide +kernel
theorem dX11_keep_130 : decode cX11_keep 130 = .ok (.iaload, 1) := by decide +kernel
theorem dX11_keep_131 : decode cX11_keep 131 = .ok (.ifCond .ne 12, 3) := by decide +kernel
theorem dX11_keep_134 : decode cX11_keep 134 = .ok (.aload_n 0, 1) := by decide +kernel
theorem dX11_keep_135 : decode cX11_keep 135 = .ok (.getfield 84, 3) := by decide +kernel
theorem dX11_keep_138 : decode cX11_keep 138 = .ok (.iload_n 2, 1) := by decide +kernel
theorem dX11_keep_139 : decode cX11_keep 139 = .ok (.iaload, 1) := by decide +kernel
theorem dX11_keep_140 : decode cX11_keep 140 = .ok (.ifCond .eq 10, 3) := by decide +kernel
theorem dX11_keep_143 : decode cX11_keep 143 = .ok (.aload_n 0, 1) := by decide +kernel
theorem dX11_keep_144 : decode cX11_keep 144 = .ok (.bipush 8, 2) := by decide +kernel
theorem dX11_keep_146 : decode cX11_keep 146 = .ok (.invokevirtual 238, 3) := by decide +kernel
theorem dX11_keep_149 : decode cX11_keep 149 = .ok (.ireturn, 1) := by decide +kernel
theorem dX11_keep_150 : decode cX11_keep 150 = .ok (.aload_n 0, 1) := by decide +kernel
theorem dX11_keep_151 : decode cX11_keep 151 = .ok (.getfield 81, 3) := by decide +kernel
theorem dX11_keep_154 : decode cX11_keep 154 = .ok (.iload_n 1, 1) := by decide +kernel
theorem dX11_keep_155 : decode cX11_keep 155 = .ok (.iload_n 2, 1) := by decide +kernel
theorem dX11_keep_156 : decode cX11_keep 156 = .ok (.iastore, 1) := by decide +kernel
theorem dX11_keep_157 : decode cX11_keep 157 = .ok (.aload_n 0, 1) := by decide +kernel
theorem dX11_keep_158 : decode cX11_keep 158 = .ok (.getfield 84, 3) := by decide +kernel
theorem dX11_keep_161 : decode cX11_keep 161 = .ok (.iload_n 2, 1) := by decide +kernel
theorem dX11_keep_162 : decode cX11_keep 162 = .ok (.iload_n 1, 1) := by decide +kernel
theorem dX11_keep_163 : decode cX11_keep 163 = .ok (.iastore, 1) := by decide +kernel
theorem dX11_keep_164 : decode cX11_keep 164 = .ok (.aload_n 0, 1) := by decide +kernel
theorem dX11_keep_165 : decode cX11_keep 165 = .ok (.getfield 87, 3) := by decide +kernel
theorem dX11_keep_168 : decode cX11_keep 168 = .ok (.iload_n 2, 1) := by decide +kernel
theorem dX11_keep_169 : decode cX11_keep 169 = .ok (.aload_n 0, 1) := by decide +kernel
theorem dX11_keep_170 : decode cX11_keep 170 = .ok (.invokevirtual 252, 3) := by decide +kernel
theorem dX11_keep_173 : decode cX11_keep 173 = .ok (.iastore, 1) := by decide +kernel
theorem dX11_keep_174 : decode cX11_keep 174 = .ok (.aload_n 0, 1) := by decide +kernel
theorem dX11_keep_175 : decode cX11_keep 175 = .ok (.getfield 90, 3) := by decide +kernel
theorem dX11_keep_178 : decode cX11_keep 178 = .ok (.iload_n 2, 1) := by decide +kernel
theorem dX11_keep_179 : decode cX11_keep 179 = .ok (.aload_n 0, 1) := by decide +kernel
theorem dX11_keep_180 : decode cX11_keep 180 = .ok (.getfield 166, 3) := by decide +kernel
theorem dX11_keep_183 : decode cX11_keep 183 = .ok (.iastore, 1) := by decide +kernel
theorem dX11_keep_184 : decode cX11_keep 184 = .ok (.aload_n 0, 1) := by decide +kernel
theorem dX11_keep_185 : decode cX11_keep 185 = .ok (.iconst 0, 1) := by decide +kernel
theorem dX11_keep_186 : decode cX11_keep 186 = .ok (.putfield 163, 3) := by decide +kernel
theorem dX11_keep_189 : decode cX11_keep 189 = .ok (.iconst 1, 1) := by decide +kernel
theorem dX11_keep_190 : decode cX11_keep 190 = .ok (.ireturn, 1) := by decide +kernel
theorem dX11_isFirst_0 : decode cX11_isFirst 0 = .ok (.aload_n 0, 1) := by decide +kernel
theorem dX11_isFirst_1 : decode cX11_isFirst 1 = .ok (.getfield 17, 3) := by decide +kernel
theorem dX11_isFirst_4 : decode cX11_isFirst 4 = .ok (.iload_n 1, 1) := by decide +kernel
theorem dX11_isFirst_5 : decode cX11_isFirst 5 = .ok (.iaload, 1) := by decide +kernel
theorem dX11_isFirst_6 : decode cX11_isFirst 6 = .ok (.iconst 5, 1) := by decide +kernel
theorem dX11_isFirst_7 : decode cX11_isFirst 7 = .ok (.if_icmp .ne 39, 3) := by decide +kernel
theorem dX11_isFirst_10 : decode cX11_isFirst 10 = .ok (.aload_n 0, 1) := by decide +kernel
theorem dX11_isFirst_11 : decode cX11_isFirst 11 = .ok (.aload_n 0, 1) := by decide +kernel
theorem dX11_isFirst_12 : decode cX11_isFirst 12 = .ok (.getfield 75, 3) := by decide +kernel
theorem dX11_isFirst_15 : decode cX11_isFirst 15 = .ok (.iload_n 1, 1) := by decide +kernel
theorem dX11_isFirst_16 : decode cX11_isFirst 16 = .ok (.iaload, 1) := by decide +kernel
theorem dX11_isFirst_17 : decode cX11_isFirst 17 = .ok (.aload_n 0, 1) := by decide +kernel
theorem dX11_isFirst_18 : decode cX11_isFirst 18 = .ok (.getfield 78, 3) := by decide +kernel
theorem dX11_isFirst_21 : decode cX11_isFirst 21 = .ok (.iload_n 1, 1) := by decide +kernel
theorem dX11_isFirst_22 : decode cX11_isFirst 22 = .ok (.iaload, 1) := by decide +kernel
theorem dX11_isFirst_23 : decode cX11_isFirst 23 = .ok (.invokevirtual 185, 3) := by decide +kernel
theorem dX11_isFirst_26 : decode cX11_isFirst 26 = .ok (.ifCond .eq 20, 3) := by decide +kernel
theorem dX11_isFirst_29 : decode cX11_isFirst 29 = .ok (.aload_n 0, 1) := by decide +kernel
theorem dX11_isFirst_30 : decode cX11_isFirst 30 = .ok (.getfield 69, 3) := by decide +kernel
theorem dX11_isFirst_33 : decode cX11_isFirst 33 = .ok (.iload_n 1, 1) := by decide +kernel
theorem dX11_isFirst_34 : decode cX11_isFirst 34 = .ok (.iaload, 1) := by decide +kernel
theorem dX11_isFirst_35 : decode cX11_isFirst 35 = .ok (.aload_n 0, 1) := by decide +kernel
theorem dX11_isFirst_36 : decode cX11_isFirst 36 = .ok (.getfield 175, 3) := by decide +kernel
theorem dX11_isFirst_39 : decode cX11_isFirst 39 = .ok (.if_icmp .gt 7, 3) := by decide +kernel
theorem dX11_isFirst_42 : decode cX11_isFirst 42 = .ok (.iconst 1, 1) := by decide +kernel
theorem dX11_isFirst_43 : decode cX11_isFirst 43 = .ok (.goto 4, 3) := by decide +kernel
theorem dX11_isFirst_46 : decode cX11_isFirst 46 = .ok (.iconst 0, 1) := by decide +kernel
theorem dX11_isFirst_47 : decode cX11_isFirst 47 = .ok (.ireturn, 1) := by decide +kernel
theorem dX11_whose_0 : decode cX11_whose 0 = .ok (.aload_n 0, 1) := by decide +kernel
theorem dX11_whose_1 : decode cX11_whose 1 = .ok (.getfield 139, 3) := by decide +kernel
theorem dX11_whose_4 : decode cX11_whose 4 = .ok (.iload_n 1, 1) := by decide +kernel
theorem dX11_whose_5 : decode cX11_whose 5 = .ok (.baload, 1) := by decide +kernel
theorem dX11_whose_6 : decode cX11_whose 6 = .ok (.ifCond .eq 17, 3) := by decide +kernel
theorem dX11_whose_9 : decode cX11_whose 9 = .ok (.aload_n 0, 1) := by decide +kernel
theorem dX11_whose_10 : decode cX11_whose 10 = .ok (.getfield 84, 3) := by decide +kernel
theorem dX11_whose_13 : decode cX11_whose 13 = .ok (.aload_n 0, 1) := by decide +kernel
theorem dX11_whose_14 : decode cX11_whose 14 = .ok (.getfield 136, 3) := by decide +kernel
theorem dX11_whose_17 : decode cX11_whose 17 = .ok (.iload_n 1, 1) := by decide +kernel
theorem dX11_whose_18 : decode cX11_whose 18 = .ok (.iaload, 1) := by decide +kernel
theorem dX11_whose_19 : decode cX11_whose 19 = .ok (.iaload, 1) := by decide +kernel
theorem dX11_whose_20 : decode cX11_whose 20 = .ok (.goto 9, 3) := by decide +kernel
theorem dX11_whose_23 : decode cX11_whose 23 = .ok (.aload_n 0, 1) := by decide +kernel
theorem dX11_whose_24 : decode cX11_whose 24 = .ok (.getfield 136, 3) := by decide +kernel
theorem dX11_whose_27 : decode cX11_whose 27 = .ok (.iload_n 1, 1) := by decide +kernel
theorem dX11_whose_28 : decode cX11_whose 28 = .ok (.iaload, 1) := by decide +kernel
theorem dX11_whose_29 : decode cX11_whose 29 = .ok (.ireturn, 1) := by decide +kernel
theorem dX11_isAhead_0 : decode cX11_isAhead 0 = .ok (.aload_n 0, 1) := by decide +kernel
theorem dX11_isAhead_1 : decode cX11_isAhead 1 = .ok (.iload_n 1, 1) := by decide +kernel
theorem dX11_isAhead_2 : decode cX11_isAhead 2 = .ok (.invokevirtual 296, 3) := by decide +kernel
theorem dX11_isAhead_5 : decode cX11_isAhead 5 = .ok (.istore 4, 2) := by decide +kernel
theorem dX11_isAhead_7 : decode cX11_isAhead 7 = .ok (.iload_n 3, 1) := by decide +kernel
theorem dX11_isAhead_8 : decode cX11_isAhead 8 = .ok (.ifCond .eq 12, 3) := by decide +kernel
theorem dX11_isAhead_11 : decode cX11_isAhead 11 = .ok (.aload_n 0, 1) := by decide +kernel
theorem dX11_isAhead_12 : decode cX11_isAhead 12 = .ok (.getfield 84, 3) := by decide +kernel
theorem dX11_isAhead_15 : decode cX11_isAhead 15 = .ok (.iload_n 2, 1) := by decide +kernel
theorem dX11_isAhead_16 : decode cX11_isAhead 16 = .ok (.iaload, 1) := by decide +kernel
theorem dX11_isAhead_17 : decode cX11_isAhead 17 = .ok (.goto 4, 3) := by decide +kernel
theorem dX11_isAhead_20 : decode cX11_isAhead 20 = .ok (.iload_n 2, 1) := by decide +kernel
theorem dX11_isAhead_21 : decode cX11_isAhead 21 = .ok (.istore 5, 2) := by decide +kernel
theorem dX11_isAhead_23 : decode cX11_isAhead 23 = .ok (.aload_n 0, 1) := by decide +kernel
theorem dX11_isAhead_24 : decode cX11_isAhead 24 = .ok (.getfield 139, 3) := by decide +kernel
theorem dX11_isAhead_27 : decode cX11_isAhead 27 = .ok (.iload_n 1, 1) := by decide +kernel
theorem dX11_isAhead_28 : decode cX11_isAhead 28 = .ok (.baload, 1) := by decide +kernel
theorem dX11_isAhead_29 : decode cX11_isAhead 29 = .ok (.ifCond .ne 16, 3) := by decide +kernel
theorem dX11_isAhead_32 : decode cX11_isAhead 32 = .ok (.aload_n 0, 1) := by decide +kernel
theorem dX11_isAhead_33 : decode cX11_isAhead 33 = .ok (.iload 4, 2) := by decide +kernel
theorem dX11_isAhead_35 : decode cX11_isAhead 35 = .ok (.invokevirtual 299, 3) := by decide +kernel
theorem dX11_isAhead_38 : decode cX11_isAhead 38 = .ok (.ifCond .eq 7, 3) := by decide +kernel
theorem dX11_isAhead_41 : decode cX11_isAhead 41 = .ok (.iconst 1, 1) := by decide +kernel
theorem dX11_isAhead_42 : decode cX11_isAhead 42 = .ok (.goto 4, 3) := by decide +kernel
theorem dX11_isAhead_45 : decode cX11_isAhead 45 = .ok (.iconst 0, 1) := by decide +kernel
theorem dX11_isAhead_46 : decode cX11_isAhead 46 = .ok (.istore 6, 2) := by decide +kernel
theorem dX11_isAhead_48 : decode cX11_isAhead 48 = .ok (.iload_n 3, 1) := by decide +kernel
theorem dX11_isAhead_49 : decode cX11_isAhead 49 = .ok (.ifCond .ne 16, 3) := by decide +kernel
theorem dX11_isAhead_52 : decode cX11_isAhead 52 = .ok (.aload_n 0, 1) := by decide +kernel
theorem dX11_isAhead_53 : decode cX11_isAhead 53 = .ok (.iload 5, 2) := by decide +kernel
theorem dX11_isAhead_55 : decode cX11_isAhead 55 = .ok (.invokevirtual 299, 3) := by decide +kernel
theorem dX11_isAhead_58 : decode cX11_isAhead 58 = .ok (.ifCond .eq 7, 3) := by decide +kernel
theorem dX11_isAhead_61 : decode cX11_isAhead 61 = .ok (.iconst 1, 1) := by decide +kernel
theorem dX11_isAhead_62 : decode cX11_isAhead 62 = .ok (.goto 4, 3) := by decide +kernel
theorem dX11_isAhead_65 : decode cX11_isAhead 65 = .ok (.iconst 0, 1) := by decide +kernel
theorem dX11_isAhead_66 : decode cX11_isAhead 66 = .ok (.istore 7, 2) := by decide +kernel
theorem dX11_isAhead_68 : decode cX11_isAhead 68 = .ok (.iload 6, 2) := by decide +kernel
theorem dX11_isAhead_70 : decode cX11_isAhead 70 = .ok (.iload 7, 2) := by decide +kernel
theorem dX11_isAhead_72 : decode cX11_isAhead 72 = .ok (.if_icmp .eq 6, 3) := by decide +kernel
theorem dX11_isAhead_75 : decode cX11_isAhead 75 = .ok (.iload 6, 2) := by decide +kernel
theorem dX11_isAhead_77 : decode cX11_isAhead 77 = .ok (.ireturn, 1) := by decide +kernel
theorem dX11_isAhead_78 : decode cX11_isAhead 78 = .ok (.aload_n 0, 1) := by decide +kernel
theorem dX11_isAhead_79 : decode cX11_isAhead 79 = .ok (.getfield 48, 3) := by decide +kernel
theorem dX11_isAhead_82 : decode cX11_isAhead 82 = .ok (.iload 4, 2) := by decide +kernel
theorem dX11_isAhead_84 : decode cX11_isAhead 84 = .ok (.iaload, 1) := by decide +kernel
theorem dX11_isAhead_85 : decode cX11_isAhead 85 = .ok (.aload_n 0, 1) := by decide +kernel
theorem dX11_isAhead_86 : decode cX11_isAhead 86 = .ok (.getfield 48, 3) := by decide +kernel
theorem dX11_isAhead_89 : decode cX11_isAhead 89 = .ok (.iload 5, 2) := by decide +kernel
theorem dX11_isAhead_91 : decode cX11_isAhead 91 = .ok (.iaload, 1) := by decide +kernel
theorem dX11_isAhead_92 : decode cX11_isAhead 92 = .ok (.if_icmp .eq 28, 3) := by decide +kernel
theorem dX11_isAhead_95 : decode cX11_isAhead 95 = .ok (.aload_n 0, 1) := by decide +kernel
theorem dX11_isAhead_96 : decode cX11_isAhead 96 = .ok (.getfield 48, 3) := by decide +kernel
theorem dX11_isAhead_99 : decode cX11_isAhead 99 = .ok (.iload 4, 2) := by decide +kernel
theorem dX11_isAhead_101 : decode cX11_isAhead 101 = .ok (.iaload, 1) := by decide +kernel
theorem dX11_isAhead_102 : decode cX11_isAhead 102 = .ok (.aload_n 0, 1) := by decide +kernel
theorem dX11_isAhead_103 : decode cX11_isAhead 103 = .ok (.getfield 48, 3) := by decide +kernel
theorem dX11_isAhead_106 : decode cX11_isAhead 106 = .ok (.iload 5, 2) := by decide +kernel
theorem dX11_isAhead_108 : decode cX11_isAhead 108 = .ok (.iaload, 1) := by decide +kernel
theorem dX11_isAhead_109 : decode cX11_isAhead 109 = .ok (.if_icmp .ge 7, 3) := by decide +kernel
theorem dX11_isAhead_112 : decode cX11_isAhead 112 = .ok (.iconst 1, 1) := by decide +kernel
theorem dX11_isAhead_113 : decode cX11_isAhead 113 = .ok (.goto 19, 3) := by decide +kernel
theorem dX11_isAhead_116 : decode cX11_isAhead 116 = .ok (.iconst 0, 1) := by decide +kernel
theorem dX11_isAhead_117 : decode cX11_isAhead 117 = .ok (.goto 15, 3) := by decide +kernel
theorem dX11_isAhead_120 : decode cX11_isAhead 120 = .ok (.iload 4, 2) := by decide +kernel
theorem dX11_isAhead_122 : decode cX11_isAhead 122 = .ok (.iload 5, 2) := by decide +kernel
theorem dX11_isAhead_124 : decode cX11_isAhead 124 = .ok (.if_icmp .ge 7, 3) := by decide +kernel
theorem dX11_isAhead_127 : decode cX11_isAhead 127 = .ok (.iconst 1, 1) := by decide +kernel
theorem dX11_isAhead_128 : decode cX11_isAhead 128 = .ok (.goto 4, 3) := by decide +kernel
theorem dX11_isAhead_131 : decode cX11_isAhead 131 = .ok (.iconst 0, 1) := by decide +kernel
theorem dX11_isAhead_132 : decode cX11_isAhead 132 = .ok (.ireturn, 1) := by decide +kernel
theorem dX11_stand_0 : decode cX11_stand 0 = .ok (.aload_n 0, 1) := by decide +kernel
theorem dX11_stand_1 : decode cX11_stand 1 = .ok (.getfield 302, 3) := by decide +kernel
theorem dX11_stand_4 : decode cX11_stand 4 = .ok (.istore_n 3, 1) := by decide +kernel
theorem dX11_stand_5 : decode cX11_stand 5 = .ok (.iload_n 3, 1) := by decide +kernel
theorem dX11_stand_6 : decode cX11_stand 6 = .ok (.ifCond .le 49, 3) := by decide +kernel
theorem dX11_stand_9 : decode cX11_stand 9 = .ok (.aload_n 0, 1) := by decide +kernel
theorem dX11_stand_10 : decode cX11_stand 10 = .ok (.iload_n 3, 1) := by decide +kernel
theorem dX11_stand_11 : decode cX11_stand 11 = .ok (.iconst 1, 1) := by decide +kernel
theorem dX11_stand_12 : decode cX11_stand 12 = .ok (.isub, 1) := by decide +kernel
theorem dX11_stand_13 : decode cX11_stand 13 = .ok (.iload_n 1, 1) := by decide +kernel
theorem dX11_stand_14 : decode cX11_stand 14 = .ok (.iload_n 2, 1) := by decide +kernel
theorem dX11_stand_15 : decode cX11_stand 15 = .ok (.invokevirtual 305, 3) := by decide +kernel
theorem dX11_stand_18 : decode cX11_stand 18 = .ok (.ifCond .ne 37, 3) := by decide +kernel
theorem dX11_stand_21 : decode cX11_stand 21 = .ok (.aload_n 0, 1) := by decide +kernel
theorem dX11_stand_22 : decode cX11_stand 22 = .ok (.getfield 136, 3) := by decide +kernel
theorem dX11_stand_25 : decode cX11_stand 25 = .ok (.iload_n 3, 1) := by decide +kernel
theorem dX11_stand_26 : decode cX11_stand 26 = .ok (.aload_n 0, 1) := by decide +kernel
theorem dX11_stand_27 : decode cX11_stand 27 = .ok (.getfield 136, 3) := by decide +kernel
theorem dX11_stand_30 : decode cX11_stand 30 = .ok (.iload_n 3, 1) := by decide +kernel
theorem dX11_stand_31 : decode cX11_stand 31 = .ok (.iconst 1, 1) := by decide +kernel
theorem dX11_stand_32 : decode cX11_stand 32 = .ok (.isub, 1) := by decide +kernel
theorem dX11_stand_33 : decode cX11_stand 33 = .ok (.iaload, 1) := by decide +kernel
theorem dX11_stand_34 : decode cX11_stand 34 = .ok (.iastore, 1) := by decide +kernel
theorem dX11_stand_35 : decode cX11_stand 35 = .ok (.aload_n 0, 1) := by decide +kernel
theorem dX11_stand_36 : decode cX11_stand 36 = .ok (.getfield 139, 3) := by decide +kernel
theorem dX11_stand_39 : decode cX11_stand 39 = .ok (.iload_n 3, 1) := by decide +kernel
theorem dX11_stand_40 : decode cX11_stand 40 = .ok (.aload_n 0, 1) := by decide +kernel
theorem dX11_stand_41 : decode cX11_stand 41 = .ok (.getfield 139, 3) := by decide +kernel
theorem dX11_stand_44 : decode cX11_stand 44 = .ok (.iload_n 3, 1) := by decide +kernel
theorem dX11_stand_45 : decode cX11_stand 45 = .ok (.iconst 1, 1) := by decide +kernel
theorem dX11_stand_46 : decode cX11_stand 46 = .ok (.isub, 1) := by decide +kernel
theorem dX11_stand_47 : decode cX11_stand 47 = .ok (.baload, 1) := by decide +kernel
theorem dX11_stand_48 : decode cX11_stand 48 = .ok (.bastore, 1) := by decide +kernel
theorem dX11_stand_49 : decode cX11_stand 49 = .ok (.iinc 3 (-1), 3) := by decide +kernel
theorem dX11_stand_52 : decode cX11_stand 52 = .ok (.goto (-47), 3) := by decide +kernel
theorem dX11_stand_55 : decode cX11_stand 55 = .ok (.aload_n 0, 1) := by decide +kernel
theorem dX11_stand_56 : decode cX11_stand 56 = .ok (.getfield 136, 3) := by decide +kernel
theorem dX11_stand_59 : decode cX11_stand 59 = .ok (.iload_n 3, 1) := by decide +kernel
theorem dX11_stand_60 : decode cX11_stand 60 = .ok (.iload_n 1, 1) := by decide +kernel
theorem dX11_stand_61 : decode cX11_stand 61 = .ok (.iastore, 1) := by decide +kernel
theorem dX11_stand_62 : decode cX11_stand 62 = .ok (.aload_n 0, 1) := by decide +kernel
theorem dX11_stand_63 : decode cX11_stand 63 = .ok (.getfield 139, 3) := by decide +kernel
theorem dX11_stand_66 : decode cX11_stand 66 = .ok (.iload_n 3, 1) := by decide +kernel
theorem dX11_stand_67 : decode cX11_stand 67 = .ok (.iload_n 2, 1) := by decide +kernel
theorem dX11_stand_68 : decode cX11_stand 68 = .ok (.bastore, 1) := by decide +kernel
theorem dX11_stand_69 : decode cX11_stand 69 = .ok (.aload_n 0, 1) := by decide +kernel
theorem dX11_stand_70 : decode cX11_stand 70 = .ok (.dup, 1) := by decide +kernel
theorem dX11_stand_71 : decode cX11_stand 71 = .ok (.getfield 302, 3) := by decide +kernel
theorem dX11_stand_74 : decode cX11_stand 74 = .ok (.iconst 1, 1) := by decide +kernel
theorem dX11_stand_75 : decode cX11_stand 75 = .ok (.iadd, 1) := by decide +kernel
theorem dX11_stand_76 : decode cX11_stand 76 = .ok (.putfield 302, 3) := by decide +kernel
theorem dX11_stand_79 : decode cX11_stand 79 = .ok (.return_, 1) := by decide +kernel
theorem dX11_placesOn_0 : decode cX11_placesOn 0 = .ok (.aload_n 0, 1) := by decide +kernel
theorem dX11_placesOn_1 : decode cX11_placesOn 1 = .ok (.iconst 0, 1) := by decide +kernel
theorem dX11_placesOn_2 : decode cX11_placesOn 2 = .ok (.putfield 302, 3) := by decide +kernel
theorem dX11_placesOn_5 : decode cX11_placesOn 5 = .ok (.iconst 1, 1) := by decide +kernel
theorem dX11_placesOn_6 : decode cX11_placesOn 6 = .ok (.istore_n 3, 1) := by decide +kernel
theorem dX11_placesOn_7 : decode cX11_placesOn 7 = .ok (.iload_n 3, 1) := by decide +kernel
theorem dX11_placesOn_8 : decode cX11_placesOn 8 = .ok (.aload_n 0, 1) := by decide +kernel
theorem dX11_placesOn_9 : decode cX11_placesOn 9 = .ok (.getfield 169, 3) := by decide +kernel
theorem dX11_placesOn_12 : decode cX11_placesOn 12 = .ok (.if_icmp .gt 105, 3) := by decide +kernel
theorem dX11_placesOn_15 : decode cX11_placesOn 15 = .ok (.aload_n 0, 1) := by decide +kernel
theorem dX11_placesOn_16 : decode cX11_placesOn 16 = .ok (.getfield 26, 3) := by decide +kernel
theorem dX11_placesOn_19 : decode cX11_placesOn 19 = .ok (.iload_n 3, 1) := by decide +kernel
theorem dX11_placesOn_20 : decode cX11_placesOn 20 = .ok (.iaload, 1) := by decide +kernel
theorem dX11_placesOn_21 : decode cX11_placesOn 21 = .ok (.ifCond .ne 90, 3) := by decide +kernel
theorem dX11_placesOn_24 : decode cX11_placesOn 24 = .ok (.aload_n 0, 1) := by decide +kernel
theorem dX11_placesOn_25 : decode cX11_placesOn 25 = .ok (.getfield 20, 3) := by decide +kernel
theorem dX11_placesOn_28 : decode cX11_placesOn 28 = .ok (.iload_n 3, 1) := by decide +kernel
theorem dX11_placesOn_29 : decode cX11_placesOn 29 = .ok (.iaload, 1) := by decide +kernel
theorem dX11_placesOn_30 : decode cX11_placesOn 30 = .ok (.iload_n 1, 1) := by decide +kernel
theorem dX11_placesOn_31 : decode cX11_placesOn 31 = .ok (.if_icmp .ne 80, 3) := by decide +kernel
theorem dX11_placesOn_34 : decode cX11_placesOn 34 = .ok (.aload_n 0, 1) := by decide +kernel
theorem dX11_placesOn_35 : decode cX11_placesOn 35 = .ok (.getfield 17, 3) := by decide +kernel
theorem dX11_placesOn_38 : decode cX11_placesOn 38 = .ok (.iload_n 3, 1) := by decide +kernel
theorem dX11_placesOn_39 : decode cX11_placesOn 39 = .ok (.iaload, 1) := by decide +kernel
theorem dX11_placesOn_40 : decode cX11_placesOn 40 = .ok (.bipush 6, 2) := by decide +kernel
theorem dX11_placesOn_42 : decode cX11_placesOn 42 = .ok (.if_icmp .eq 69, 3) := by decide +kernel
theorem dX11_placesOn_45 : decode cX11_placesOn 45 = .ok (.aload_n 0, 1) := by decide +kernel
theorem dX11_placesOn_46 : decode cX11_placesOn 46 = .ok (.iload_n 3, 1) := by decide +kernel
theorem dX11_placesOn_47 : decode cX11_placesOn 47 = .ok (.iload_n 2, 1) := by decide +kernel
theorem dX11_placesOn_48 : decode cX11_placesOn 48 = .ok (.invokevirtual 293, 3) := by decide +kernel
theorem dX11_placesOn_51 : decode cX11_placesOn 51 = .ok (.ifCond .ne 6, 3) := by decide +kernel
theorem dX11_placesOn_54 : decode cX11_placesOn 54 = .ok (.goto 57, 3) := by decide +kernel
theorem dX11_placesOn_57 : decode cX11_placesOn 57 = .ok (.aload_n 0, 1) := by decide +kernel
theorem dX11_placesOn_58 : decode cX11_placesOn 58 = .ok (.iload_n 3, 1) := by decide +kernel
theorem dX11_placesOn_59 : decode cX11_placesOn 59 = .ok (.iconst 0, 1) := by decide +kernel
theorem dX11_placesOn_60 : decode cX11_placesOn 60 = .ok (.invokevirtual 309, 3) := by decide +kernel
theorem dX11_placesOn_63 : decode cX11_placesOn 63 = .ok (.aload_n 0, 1) := by decide +kernel
theorem dX11_placesOn_64 : decode cX11_placesOn 64 = .ok (.getfield 84, 3) := by decide +kernel
theorem dX11_placesOn_67 : decode cX11_placesOn 67 = .ok (.iload_n 3, 1) := by decide +kernel
theorem dX11_placesOn_68 : decode cX11_placesOn 68 = .ok (.iaload, 1) := by decide +kernel
theorem dX11_placesOn_69 : decode cX11_placesOn 69 = .ok (.istore 4, 2) := by decide +kernel
theorem dX11_placesOn_71 : decode cX11_placesOn 71 = .ok (.iload 4, 2) := by decide +kernel
theorem dX11_placesOn_73 : decode cX11_placesOn 73 = .ok (.ifCond .eq 38, 3) := by decide +kernel
theorem dX11_placesOn_76 : decode cX11_placesOn 76 = .ok (.aload_n 0, 1) := by decide +kernel
theorem dX11_placesOn_77 : decode cX11_placesOn 77 = .ok (.aload_n 0, 1) := by decide +kernel
theorem dX11_placesOn_78 : decode cX11_placesOn 78 = .ok (.getfield 87, 3) := by decide +kernel
theorem dX11_placesOn_81 : decode cX11_placesOn 81 = .ok (.iload_n 3, 1) := by decide +kernel
theorem dX11_placesOn_82 : decode cX11_placesOn 82 = .ok (.iaload, 1) := by decide +kernel
theorem dX11_placesOn_83 : decode cX11_placesOn 83 = .ok (.aload_n 0, 1) := by decide +kernel
theorem dX11_placesOn_84 : decode cX11_placesOn 84 = .ok (.getfield 90, 3) := by decide +kernel
theorem dX11_placesOn_87 : decode cX11_placesOn 87 = .ok (.iload_n 3, 1) := by decide +kernel
theorem dX11_placesOn_88 : decode cX11_placesOn 88 = .ok (.iaload, 1) := by decide +kernel
theorem dX11_placesOn_89 : decode cX11_placesOn 89 = .ok (.invokevirtual 185, 3) := by decide +kernel
theorem dX11_placesOn_92 : decode cX11_placesOn 92 = .ok (.ifCond .eq 19, 3) := by decide +kernel
theorem dX11_placesOn_95 : decode cX11_placesOn 95 = .ok (.aload_n 0, 1) := by decide +kernel
theorem dX11_placesOn_96 : decode cX11_placesOn 96 = .ok (.iload 4, 2) := by decide +kernel
theorem dX11_placesOn_98 : decode cX11_placesOn 98 = .ok (.iload_n 2, 1) := by decide +kernel
theorem dX11_placesOn_99 : decode cX11_placesOn 99 = .ok (.invokevirtual 293, 3) := by decide +kernel
theorem dX11_placesOn_102 : decode cX11_placesOn 102 = .ok (.ifCond .eq 9, 3) := by decide +kernel
theorem dX11_placesOn_105 : decode cX11_placesOn 105 = .ok (.aload_n 0, 1) := by decide +kernel
theorem dX11_placesOn_106 : decode cX11_placesOn 106 = .ok (.iload_n 3, 1) := by decide +kernel
theorem dX11_placesOn_107 : decode cX11_placesOn 107 = .ok (.iconst 1, 1) := by decide +kernel
theorem dX11_placesOn_108 : decode cX11_placesOn 108 = .ok (.invokevirtual 309, 3) := by decide +kernel
theorem dX11_placesOn_111 : decode cX11_placesOn 111 = .ok (.iinc 3 1, 3) := by decide +kernel
theorem dX11_placesOn_114 : decode cX11_placesOn 114 = .ok (.goto (-107), 3) := by decide +kernel
theorem dX11_placesOn_117 : decode cX11_placesOn 117 = .ok (.return_, 1) := by decide +kernel
theorem dX11_isPosted_0 : decode cX11_isPosted 0 = .ok (.aload_n 0, 1) := by decide +kernel
theorem dX11_isPosted_1 : decode cX11_isPosted 1 = .ok (.aload_n 0, 1) := by decide +kernel
theorem dX11_isPosted_2 : decode cX11_isPosted 2 = .ok (.getfield 108, 3) := by decide +kernel
theorem dX11_isPosted_5 : decode cX11_isPosted 5 = .ok (.iload_n 1, 1) := by decide +kernel
theorem dX11_isPosted_6 : decode cX11_isPosted 6 = .ok (.iaload, 1) := by decide +kernel
theorem dX11_isPosted_7 : decode cX11_isPosted 7 = .ok (.aload_n 0, 1) := by decide +kernel
theorem dX11_isPosted_8 : decode cX11_isPosted 8 = .ok (.getfield 111, 3) := by decide +kernel
theorem dX11_isPosted_11 : decode cX11_isPosted 11 = .ok (.iload_n 1, 1) := by decide +kernel
theorem dX11_isPosted_12 : decode cX11_isPosted 12 = .ok (.iaload, 1) := by decide +kernel
theorem dX11_isPosted_13 : decode cX11_isPosted 13 = .ok (.invokevirtual 185, 3) := by decide +kernel
theorem dX11_isPosted_16 : decode cX11_isPosted 16 = .ok (.ifCond .eq 22, 3) := by decide +kernel
theorem dX11_isPosted_19 : decode cX11_isPosted 19 = .ok (.aload_n 0, 1) := by decide +kernel
theorem dX11_isPosted_20 : decode cX11_isPosted 20 = .ok (.aload_n 0, 1) := by decide +kernel
theorem dX11_isPosted_21 : decode cX11_isPosted 21 = .ok (.getfield 114, 3) := by decide +kernel
theorem dX11_isPosted_24 : decode cX11_isPosted 24 = .ok (.iload_n 1, 1) := by decide +kernel
theorem dX11_isPosted_25 : decode cX11_isPosted 25 = .ok (.iaload, 1) := by decide +kernel
theorem dX11_isPosted_26 : decode cX11_isPosted 26 = .ok (.aload_n 0, 1) := by decide +kernel
theorem dX11_isPosted_27 : decode cX11_isPosted 27 = .ok (.getfield 117, 3) := by decide +kernel
theorem dX11_isPosted_30 : decode cX11_isPosted 30 = .ok (.iload_n 1, 1) := by decide +kernel
theorem dX11_isPosted_31 : decode cX11_isPosted 31 = .ok (.iaload, 1) := by decide +kernel
theorem dX11_isPosted_32 : decode cX11_isPosted 32 = .ok (.invokevirtual 185, 3) := by decide +kernel
theorem dX11_isPosted_35 : decode cX11_isPosted 35 = .ok (.ifCond .eq 5, 3) := by decide +kernel
theorem dX11_isPosted_38 : decode cX11_isPosted 38 = .ok (.iconst 0, 1) := by decide +kernel
theorem dX11_isPosted_39 : decode cX11_isPosted 39 = .ok (.ireturn, 1) := by decide +kernel
theorem dX11_isPosted_40 : decode cX11_isPosted 40 = .ok (.aload_n 0, 1) := by decide +kernel
theorem dX11_isPosted_41 : decode cX11_isPosted 41 = .ok (.aload_n 0, 1) := by decide +kernel
theorem dX11_isPosted_42 : decode cX11_isPosted 42 = .ok (.getfield 99, 3) := by decide +kernel
theorem dX11_isPosted_45 : decode cX11_isPosted 45 = .ok (.iload_n 1, 1) := by decide +kernel
theorem dX11_isPosted_46 : decode cX11_isPosted 46 = .ok (.iaload, 1) := by decide +kernel
theorem dX11_isPosted_47 : decode cX11_isPosted 47 = .ok (.iload_n 2, 1) := by decide +kernel
theorem dX11_isPosted_48 : decode cX11_isPosted 48 = .ok (.invokevirtual 293, 3) := by decide +kernel
theorem dX11_isPosted_51 : decode cX11_isPosted 51 = .ok (.ifCond .eq 21, 3) := by decide +kernel
theorem dX11_isPosted_54 : decode cX11_isPosted 54 = .ok (.aload_n 0, 1) := by decide +kernel
theorem dX11_isPosted_55 : decode cX11_isPosted 55 = .ok (.aload_n 0, 1) := by decide +kernel
theorem dX11_isPosted_56 : decode cX11_isPosted 56 = .ok (.getfield 102, 3) := by decide +kernel
theorem dX11_isPosted_59 : decode cX11_isPosted 59 = .ok (.iload_n 1, 1) := by decide +kernel
theorem dX11_isPosted_60 : decode cX11_isPosted 60 = .ok (.iaload, 1) := by decide +kernel
theorem dX11_isPosted_61 : decode cX11_isPosted 61 = .ok (.iload_n 2, 1) := by decide +kernel
theorem dX11_isPosted_62 : decode cX11_isPosted 62 = .ok (.invokevirtual 293, 3) := by decide +kernel
theorem dX11_isPosted_65 : decode cX11_isPosted 65 = .ok (.ifCond .eq 7, 3) := by decide +kernel
theorem dX11_isPosted_68 : decode cX11_isPosted 68 = .ok (.iconst 1, 1) := by decide +kernel
theorem dX11_isPosted_69 : decode cX11_isPosted 69 = .ok (.goto 4, 3) := by decide +kernel
theorem dX11_isPosted_72 : decode cX11_isPosted 72 = .ok (.iconst 0, 1) := by decide +kernel
theorem dX11_isPosted_73 : decode cX11_isPosted 73 = .ok (.ireturn, 1) := by decide +kernel
theorem dX11_standsAt_0 : decode cX11_standsAt 0 = .ok (.iconst 0, 1) := by decide +kernel
theorem dX11_standsAt_1 : decode cX11_standsAt 1 = .ok (.istore_n 2, 1) := by decide +kernel
theorem dX11_standsAt_2 : decode cX11_standsAt 2 = .ok (.iload_n 2, 1) := by decide +kernel
theorem dX11_standsAt_3 : decode cX11_standsAt 3 = .ok (.aload_n 0, 1) := by decide +kernel
theorem dX11_standsAt_4 : decode cX11_standsAt 4 = .ok (.getfield 313, 3) := by decide +kernel
theorem dX11_standsAt_7 : decode cX11_standsAt 7 = .ok (.if_icmp .ge 21, 3) := by decide +kernel
theorem dX11_standsAt_10 : decode cX11_standsAt 10 = .ok (.aload_n 0, 1) := by decide +kernel
theorem dX11_standsAt_11 : decode cX11_standsAt 11 = .ok (.getfield 142, 3) := by decide +kernel
theorem dX11_standsAt_14 : decode cX11_standsAt 14 = .ok (.iload_n 2, 1) := by decide +kernel
theorem dX11_standsAt_15 : decode cX11_standsAt 15 = .ok (.iaload, 1) := by decide +kernel
theorem dX11_standsAt_16 : decode cX11_standsAt 16 = .ok (.iload_n 1, 1) := by decide +kernel
theorem dX11_standsAt_17 : decode cX11_standsAt 17 = .ok (.if_icmp .ne 5, 3) := by decide +kernel
theorem dX11_standsAt_20 : decode cX11_standsAt 20 = .ok (.iload_n 2, 1) := by decide +kernel
theorem dX11_standsAt_21 : decode cX11_standsAt 21 = .ok (.ireturn, 1) := by decide +kernel
theorem dX11_standsAt_22 : decode cX11_standsAt 22 = .ok (.iinc 2 1, 3) := by decide +kernel
theorem dX11_standsAt_25 : decode cX11_standsAt 25 = .ok (.goto (-23), 3) := by decide +kernel
theorem dX11_standsAt_28 : decode cX11_standsAt 28 = .ok (.iconst (-1), 1) := by decide +kernel
theorem dX11_standsAt_29 : decode cX11_standsAt 29 = .ok (.ireturn, 1) := by decide +kernel
theorem dX11_orderOn_0 : decode cX11_orderOn 0 = .ok (.aload_n 0, 1) := by decide +kernel
theorem dX11_orderOn_1 : decode cX11_orderOn 1 = .ok (.iload_n 1, 1) := by decide +kernel
theorem dX11_orderOn_2 : decode cX11_orderOn 2 = .ok (.iload_n 2, 1) := by decide +kernel
theorem dX11_orderOn_3 : decode cX11_orderOn 3 = .ok (.invokevirtual 316, 3) := by decide +kernel
theorem dX11_orderOn_6 : decode cX11_orderOn 6 = .ok (.aload_n 0, 1) := by decide +kernel
theorem dX11_orderOn_7 : decode cX11_orderOn 7 = .ok (.iconst 0, 1) := by decide +kernel
theorem dX11_orderOn_8 : decode cX11_orderOn 8 = .ok (.putfield 313, 3) := by decide +kernel
theorem dX11_orderOn_11 : decode cX11_orderOn 11 = .ok (.iconst 0, 1) := by decide +kernel
theorem dX11_orderOn_12 : decode cX11_orderOn 12 = .ok (.istore_n 3, 1) := by decide +kernel
theorem dX11_orderOn_13 : decode cX11_orderOn 13 = .ok (.iload_n 3, 1) := by decide +kernel
theorem dX11_orderOn_14 : decode cX11_orderOn 14 = .ok (.aload_n 0, 1) := by decide +kernel
theorem dX11_orderOn_15 : decode cX11_orderOn 15 = .ok (.getfield 302, 3) := by decide +kernel
theorem dX11_orderOn_18 : decode cX11_orderOn 18 = .ok (.if_icmp .ge 60, 3) := by decide +kernel
theorem dX11_orderOn_21 : decode cX11_orderOn 21 = .ok (.aload_n 0, 1) := by decide +kernel
theorem dX11_orderOn_22 : decode cX11_orderOn 22 = .ok (.aload_n 0, 1) := by decide +kernel
theorem dX11_orderOn_23 : decode cX11_orderOn 23 = .ok (.getfield 136, 3) := by decide +kernel
theorem dX11_orderOn_26 : decode cX11_orderOn 26 = .ok (.iload_n 3, 1) := by decide +kernel
theorem dX11_orderOn_27 : decode cX11_orderOn 27 = .ok (.iaload, 1) := by decide +kernel
theorem dX11_orderOn_28 : decode cX11_orderOn 28 = .ok (.invokevirtual 319, 3) := by decide +kernel
theorem dX11_orderOn_31 : decode cX11_orderOn 31 = .ok (.iconst (-1), 1) := by decide +kernel
theorem dX11_orderOn_32 : decode cX11_orderOn 32 = .ok (.if_icmp .ne 40, 3) := by decide +kernel
theorem dX11_orderOn_35 : decode cX11_orderOn 35 = .ok (.aload_n 0, 1) := by decide +kernel
theorem dX11_orderOn_36 : decode cX11_orderOn 36 = .ok (.getfield 142, 3) := by decide +kernel
theorem dX11_orderOn_39 : decode cX11_orderOn 39 = .ok (.aload_n 0, 1) := by decide +kernel
theorem dX11_orderOn_40 : decode cX11_orderOn 40 = .ok (.getfield 313, 3) := by decide +kernel
theorem dX11_orderOn_43 : decode cX11_orderOn 43 = .ok (.aload_n 0, 1) := by decide +kernel
theorem dX11_orderOn_44 : decode cX11_orderOn 44 = .ok (.getfield 136, 3) := by decide +kernel
theorem dX11_orderOn_47 : decode cX11_orderOn 47 = .ok (.iload_n 3, 1) := by decide +kernel
theorem dX11_orderOn_48 : decode cX11_orderOn 48 = .ok (.iaload, 1) := by decide +kernel
theorem dX11_orderOn_49 : decode cX11_orderOn 49 = .ok (.iastore, 1) := by decide +kernel
theorem dX11_orderOn_50 : decode cX11_orderOn 50 = .ok (.aload_n 0, 1) := by decide +kernel
theorem dX11_orderOn_51 : decode cX11_orderOn 51 = .ok (.getfield 145, 3) := by decide +kernel
theorem dX11_orderOn_54 : decode cX11_orderOn 54 = .ok (.aload_n 0, 1) := by decide +kernel
theorem dX11_orderOn_55 : decode cX11_orderOn 55 = .ok (.getfield 136, 3) := by decide +kernel
theorem dX11_orderOn_58 : decode cX11_orderOn 58 = .ok (.iload_n 3, 1) := by decide +kernel
theorem dX11_orderOn_59 : decode cX11_orderOn 59 = .ok (.iaload, 1) := by decide +kernel
theorem dX11_orderOn_60 : decode cX11_orderOn 60 = .ok (.iconst 0, 1) := by decide +kernel
theorem dX11_orderOn_61 : decode cX11_orderOn 61 = .ok (.iastore, 1) := by decide +kernel
theorem dX11_orderOn_62 : decode cX11_orderOn 62 = .ok (.aload_n 0, 1) := by decide +kernel
theorem dX11_orderOn_63 : decode cX11_orderOn 63 = .ok (.dup, 1) := by decide +kernel
theorem dX11_orderOn_64 : decode cX11_orderOn 64 = .ok (.getfield 313, 3) := by decide +kernel
theorem dX11_orderOn_67 : decode cX11_orderOn 67 = .ok (.iconst 1, 1) := by decide +kernel
theorem dX11_orderOn_68 : decode cX11_orderOn 68 = .ok (.iadd, 1) := by decide +kernel
theorem dX11_orderOn_69 : decode cX11_orderOn 69 = .ok (.putfield 313, 3) := by decide +kernel
theorem dX11_orderOn_72 : decode cX11_orderOn 72 = .ok (.iinc 3 1, 3) := by decide +kernel
theorem dX11_orderOn_75 : decode cX11_orderOn 75 = .ok (.goto (-62), 3) := by decide +kernel
theorem dX11_orderOn_78 : decode cX11_orderOn 78 = .ok (.iconst 1, 1) := by decide +kernel
theorem dX11_orderOn_79 : decode cX11_orderOn 79 = .ok (.istore_n 3, 1) := by decide +kernel
theorem dX11_orderOn_80 : decode cX11_orderOn 80 = .ok (.iload_n 3, 1) := by decide +kernel
theorem dX11_orderOn_81 : decode cX11_orderOn 81 = .ok (.aload_n 0, 1) := by decide +kernel
theorem dX11_orderOn_82 : decode cX11_orderOn 82 = .ok (.getfield 275, 3) := by decide +kernel
theorem dX11_orderOn_85 : decode cX11_orderOn 85 = .ok (.if_icmp .gt 141, 3) := by decide +kernel
theorem dX11_orderOn_88 : decode cX11_orderOn 88 = .ok (.aload_n 0, 1) := by decide +kernel
theorem dX11_orderOn_89 : decode cX11_orderOn 89 = .ok (.getfield 20, 3) := by decide +kernel
theorem dX11_orderOn_92 : decode cX11_orderOn 92 = .ok (.aload_n 0, 1) := by decide +kernel
theorem dX11_orderOn_93 : decode cX11_orderOn 93 = .ok (.getfield 99, 3) := by decide +kernel
theorem dX11_orderOn_96 : decode cX11_orderOn 96 = .ok (.iload_n 3, 1) := by decide +kernel
theorem dX11_orderOn_97 : decode cX11_orderOn 97 = .ok (.iaload, 1) := by decide +kernel
theorem dX11_orderOn_98 : decode cX11_orderOn 98 = .ok (.iaload, 1) := by decide +kernel
theorem dX11_orderOn_99 : decode cX11_orderOn 99 = .ok (.iload_n 1, 1) := by decide +kernel
theorem dX11_orderOn_100 : decode cX11_orderOn 100 = .ok (.if_icmp .ne 120, 3) := by decide +kernel
theorem dX11_orderOn_103 : decode cX11_orderOn 103 = .ok (.aload_n 0, 1) := by decide +kernel
theorem dX11_orderOn_104 : decode cX11_orderOn 104 = .ok (.iload_n 3, 1) := by decide +kernel
theorem dX11_orderOn_105 : decode cX11_orderOn 105 = .ok (.iload_n 2, 1) := by decide +kernel
theorem dX11_orderOn_106 : decode cX11_orderOn 106 = .ok (.invokevirtual 322, 3) := by decide +kernel
theorem dX11_orderOn_109 : decode cX11_orderOn 109 = .ok (.ifCond .ne 6, 3) := by decide +kernel
theorem dX11_orderOn_112 : decode cX11_orderOn 112 = .ok (.goto 108, 3) := by decide +kernel
theorem dX11_orderOn_115 : decode cX11_orderOn 115 = .ok (.aload_n 0, 1) := by decide +kernel
theorem dX11_orderOn_116 : decode cX11_orderOn 116 = .ok (.aload_n 0, 1) := by decide +kernel
theorem dX11_orderOn_117 : decode cX11_orderOn 117 = .ok (.getfield 23, 3) := by decide +kernel
theorem dX11_orderOn_120 : decode cX11_orderOn 120 = .ok (.aload_n 0, 1) := by decide +kernel
theorem dX11_orderOn_121 : decode cX11_orderOn 121 = .ok (.getfield 99, 3) := by decide +kernel
theorem dX11_orderOn_124 : decode cX11_orderOn 124 = .ok (.iload_n 3, 1) := by decide +kernel
theorem dX11_orderOn_125 : decode cX11_orderOn 125 = .ok (.iaload, 1) := by decide +kernel
theorem dX11_orderOn_126 : decode cX11_orderOn 126 = .ok (.iaload, 1) := by decide +kernel
theorem dX11_orderOn_127 : decode cX11_orderOn 127 = .ok (.invokevirtual 319, 3) := by decide +kernel
theorem dX11_orderOn_130 : decode cX11_orderOn 130 = .ok (.istore 4, 2) := by decide +kernel
theorem dX11_orderOn_132 : decode cX11_orderOn 132 = .ok (.aload_n 0, 1) := by decide +kernel
theorem dX11_orderOn_133 : decode cX11_orderOn 133 = .ok (.aload_n 0, 1) := by decide +kernel
theorem dX11_orderOn_134 : decode cX11_orderOn 134 = .ok (.getfield 23, 3) := by decide +kernel
theorem dX11_orderOn_137 : decode cX11_orderOn 137 = .ok (.aload_n 0, 1) := by decide +kernel
theorem dX11_orderOn_138 : decode cX11_orderOn 138 = .ok (.getfield 102, 3) := by decide +kernel
theorem dX11_orderOn_141 : decode cX11_orderOn 141 = .ok (.iload_n 3, 1) := by decide +kernel
theorem dX11_orderOn_142 : decode cX11_orderOn 142 = .ok (.iaload, 1) := by decide +kernel
theorem dX11_orderOn_143 : decode cX11_orderOn 143 = .ok (.iaload, 1) := by decide +kernel
theorem dX11_orderOn_144 : decode cX11_orderOn 144 = .ok (.invokevirtual 319, 3) := by decide +kernel
theorem dX11_orderOn_147 : decode cX11_orderOn 147 = .ok (.istore 5, 2) := by decide +kernel
theorem dX11_orderOn_149 : decode cX11_orderOn 149 = .ok (.iload 4, 2) := by decide +kernel
theorem dX11_orderOn_151 : decode cX11_orderOn 151 = .ok (.iload 5, 2) := by decide +kernel
theorem dX11_orderOn_153 : decode cX11_orderOn 153 = .ok (.if_icmp .ge 67, 3) := by decide +kernel
theorem dX11_orderOn_156 : decode cX11_orderOn 156 = .ok (.aload_n 0, 1) := by decide +kernel
theorem dX11_orderOn_157 : decode cX11_orderOn 157 = .ok (.getfield 142, 3) := by decide +kernel
theorem dX11_orderOn_160 : decode cX11_orderOn 160 = .ok (.iload 4, 2) := by decide +kernel
theorem dX11_orderOn_162 : decode cX11_orderOn 162 = .ok (.iaload, 1) := by decide +kernel
theorem dX11_orderOn_163 : decode cX11_orderOn 163 = .ok (.istore 6, 2) := by decide +kernel
theorem dX11_orderOn_165 : decode cX11_orderOn 165 = .ok (.aload_n 0, 1) := by decide +kernel
theorem dX11_orderOn_166 : decode cX11_orderOn 166 = .ok (.getfield 142, 3) := by decide +kernel
theorem dX11_orderOn_169 : decode cX11_orderOn 169 = .ok (.iload 4, 2) := by decide +kernel
theorem dX11_orderOn_171 : decode cX11_orderOn 171 = .ok (.aload_n 0, 1) := by decide +kernel
theorem dX11_orderOn_172 : decode cX11_orderOn 172 = .ok (.getfield 142, 3) := by decide +kernel
theorem dX11_orderOn_175 : decode cX11_orderOn 175 = .ok (.iload 5, 2) := by decide +kernel
theorem dX11_orderOn_177 : decode cX11_orderOn 177 = .ok (.iaload, 1) := by decide +kernel
theorem dX11_orderOn_178 : decode cX11_orderOn 178 = .ok (.iastore, 1) := by decide +kernel
theorem dX11_orderOn_179 : decode cX11_orderOn 179 = .ok (.aload_n 0, 1) := by decide +kernel
theorem dX11_orderOn_180 : decode cX11_orderOn 180 = .ok (.getfield 142, 3) := by decide +kernel
theorem dX11_orderOn_183 : decode cX11_orderOn 183 = .ok (.iload 5, 2) := by decide +kernel
theorem dX11_orderOn_185 : decode cX11_orderOn 185 = .ok (.iload 6, 2) := by decide +kernel
theorem dX11_orderOn_187 : decode cX11_orderOn 187 = .ok (.iastore, 1) := by decide +kernel
theorem dX11_orderOn_188 : decode cX11_orderOn 188 = .ok (.aload_n 0, 1) := by decide +kernel
theorem dX11_orderOn_189 : decode cX11_orderOn 189 = .ok (.getfield 145, 3) := by decide +kernel
theorem dX11_orderOn_192 : decode cX11_orderOn 192 = .ok (.aload_n 0, 1) := by decide +kernel
theorem dX11_orderOn_193 : decode cX11_orderOn 193 = .ok (.getfield 142, 3) := by decide +kernel
theorem dX11_orderOn_196 : decode cX11_orderOn 196 = .ok (.iload 4, 2) := by decide +kernel
theorem dX11_orderOn_198 : decode cX11_orderOn 198 = .ok (.iaload, 1) := by decide +kernel
theorem dX11_orderOn_199 : decode cX11_orderOn 199 = .ok (.dup2, 1) := by decide +kernel
theorem dX11_orderOn_200 : decode cX11_orderOn 200 = .ok (.iaload, 1) := by decide +kernel
theorem dX11_orderOn_201 : decode cX11_orderOn 201 = .ok (.iconst 1, 1) := by decide +kernel
theorem dX11_orderOn_202 : decode cX11_orderOn 202 = .ok (.iadd, 1) := by decide +kernel
theorem dX11_orderOn_203 : decode cX11_orderOn 203 = .ok (.iastore, 1) := by decide +kernel
theorem dX11_orderOn_204 : decode cX11_orderOn 204 = .ok (.aload_n 0, 1) := by decide +kernel
theorem dX11_orderOn_205 : decode cX11_orderOn 205 = .ok (.getfield 145, 3) := by decide +kernel
theorem dX11_orderOn_208 : decode cX11_orderOn 208 = .ok (.aload_n 0, 1) := by decide +kernel
theorem dX11_orderOn_209 : decode cX11_orderOn 209 = .ok (.getfield 142, 3) := by decide +kernel
theorem dX11_orderOn_212 : decode cX11_orderOn 212 = .ok (.iload 5, 2) := by decide +kernel
theorem dX11_orderOn_214 : decode cX11_orderOn 214 = .ok (.iaload, 1) := by decide +kernel
theorem dX11_orderOn_215 : decode cX11_orderOn 215 = .ok (.dup2, 1) := by decide +kernel
theorem dX11_orderOn_216 : decode cX11_orderOn 216 = .ok (.iaload, 1) := by decide +kernel
theorem dX11_orderOn_217 : decode cX11_orderOn 217 = .ok (.iconst 1, 1) := by decide +kernel
theorem dX11_orderOn_218 : decode cX11_orderOn 218 = .ok (.iadd, 1) := by decide +kernel
theorem dX11_orderOn_219 : decode cX11_orderOn 219 = .ok (.iastore, 1) := by decide +kernel
theorem dX11_orderOn_220 : decode cX11_orderOn 220 = .ok (.iinc 3 1, 3) := by decide +kernel
theorem dX11_orderOn_223 : decode cX11_orderOn 223 = .ok (.goto (-143), 3) := by decide +kernel
theorem dX11_orderOn_226 : decode cX11_orderOn 226 = .ok (.return_, 1) := by decide +kernel
theorem dX11_many_0 : decode cX11_many 0 = .ok (.aload_n 0, 1) := by decide +kernel
theorem dX11_many_1 : decode cX11_many 1 = .ok (.iload_n 1, 1) := by decide +kernel
theorem dX11_many_2 : decode cX11_many 2 = .ok (.iload_n 2, 1) := by decide +kernel
theorem dX11_many_3 : decode cX11_many 3 = .ok (.invokevirtual 235, 3) := by decide +kernel
theorem dX11_many_6 : decode cX11_many 6 = .ok (.istore_n 3, 1) := by decide +kernel
theorem dX11_many_7 : decode cX11_many 7 = .ok (.iload_n 3, 1) := by decide +kernel
theorem dX11_many_8 : decode cX11_many 8 = .ok (.ifCond .le 9, 3) := by decide +kernel
theorem dX11_many_11 : decode cX11_many 11 = .ok (.aload_n 0, 1) := by decide +kernel
theorem dX11_many_12 : decode cX11_many 12 = .ok (.iload_n 3, 1) := by decide +kernel
theorem dX11_many_13 : decode cX11_many 13 = .ok (.invokevirtual 231, 3) := by decide +kernel
theorem dX11_many_16 : decode cX11_many 16 = .ok (.ireturn, 1) := by decide +kernel
theorem dX11_many_17 : decode cX11_many 17 = .ok (.aload_n 0, 1) := by decide +kernel
theorem dX11_many_18 : decode cX11_many 18 = .ok (.invokevirtual 257, 3) := by decide +kernel
theorem dX11_many_21 : decode cX11_many 21 = .ok (.aload_n 0, 1) := by decide +kernel
theorem dX11_many_22 : decode cX11_many 22 = .ok (.iload_n 1, 1) := by decide +kernel
theorem dX11_many_23 : decode cX11_many 23 = .ok (.iload_n 2, 1) := by decide +kernel
theorem dX11_many_24 : decode cX11_many 24 = .ok (.invokevirtual 325, 3) := by decide +kernel
theorem dX11_many_27 : decode cX11_many 27 = .ok (.aload_n 0, 1) := by decide +kernel
theorem dX11_many_28 : decode cX11_many 28 = .ok (.iconst 0, 1) := by decide +kernel
theorem dX11_many_29 : decode cX11_many 29 = .ok (.putfield 163, 3) := by decide +kernel
theorem dX11_many_32 : decode cX11_many 32 = .ok (.aload_n 0, 1) := by decide +kernel
theorem dX11_many_33 : decode cX11_many 33 = .ok (.getfield 313, 3) := by decide +kernel
theorem dX11_many_36 : decode cX11_many 36 = .ok (.ireturn, 1) := by decide +kernel
theorem dX11_list_0 : decode cX11_list 0 = .ok (.aload_n 0, 1) := by decide +kernel
theorem dX11_list_1 : decode cX11_list 1 = .ok (.iload_n 1, 1) := by decide +kernel
theorem dX11_list_2 : decode cX11_list 2 = .ok (.iload_n 2, 1) := by decide +kernel
theorem dX11_list_3 : decode cX11_list 3 = .ok (.invokevirtual 235, 3) := by decide +kernel
theorem dX11_list_6 : decode cX11_list 6 = .ok (.istore 4, 2) := by decide +kernel
theorem dX11_list_8 : decode cX11_list 8 = .ok (.iload 4, 2) := by decide +kernel
theorem dX11_list_10 : decode cX11_list 10 = .ok (.ifCond .le 10, 3) := by decide +kernel
theorem dX11_list_13 : decode cX11_list 13 = .ok (.aload_n 0, 1) := by decide +kernel
theorem dX11_list_14 : decode cX11_list 14 = .ok (.iload 4, 2) := by decide +kernel
theorem dX11_list_16 : decode cX11_list 16 = .ok (.invokevirtual 231, 3) := by decide +kernel
theorem dX11_list_19 : decode cX11_list 19 = .ok (.ireturn, 1) := by decide +kernel
theorem dX11_list_20 : decode cX11_list 20 = .ok (.aload_n 0, 1) := by decide +kernel
theorem dX11_list_21 : decode cX11_list 21 = .ok (.invokevirtual 257, 3) := by decide +kernel
theorem dX11_list_24 : decode cX11_list 24 = .ok (.aload_n 0, 1) := by decide +kernel
theorem dX11_list_25 : decode cX11_list 25 = .ok (.iload_n 1, 1) := by decide +kernel
theorem dX11_list_26 : decode cX11_list 26 = .ok (.iload_n 2, 1) := by decide +kernel
theorem dX11_list_27 : decode cX11_list 27 = .ok (.invokevirtual 325, 3) := by decide +kernel
theorem dX11_list_30 : decode cX11_list 30 = .ok (.iload_n 3, 1) := by decide +kernel
theorem dX11_list_31 : decode cX11_list 31 = .ok (.ifCond .lt 11, 3) := by decide +kernel
theorem dX11_list_34 : decode cX11_list 34 = .ok (.iload_n 3, 1) := by decide +kernel
theorem dX11_list_35 : decode cX11_list 35 = .ok (.aload_n 0, 1) := by decide +kernel
theorem dX11_list_36 : decode cX11_list 36 = .ok (.getfield 313, 3) := by decide +kernel
theorem dX11_list_39 : decode cX11_list 39 = .ok (.if_icmp .lt 9, 3) := by decide +kernel
theorem dX11_list_42 : decode cX11_list 42 = .ok (.aload_n 0, 1) := by decide +kernel
theorem dX11_list_43 : decode cX11_list 43 = .ok (.iconst 5, 1) := by decide +kernel
theorem dX11_list_44 : decode cX11_list 44 = .ok (.invokevirtual 231, 3) := by decide +kernel
theorem dX11_list_47 : decode cX11_list 47 = .ok (.ireturn, 1) := by decide +kernel
theorem dX11_list_48 : decode cX11_list 48 = .ok (.aload_n 0, 1) := by decide +kernel
theorem dX11_list_49 : decode cX11_list 49 = .ok (.iconst 0, 1) := by decide +kernel
theorem dX11_list_50 : decode cX11_list 50 = .ok (.putfield 163, 3) := by decide +kernel
theorem dX11_list_53 : decode cX11_list 53 = .ok (.aload_n 0, 1) := by decide +kernel
theorem dX11_list_54 : decode cX11_list 54 = .ok (.getfield 142, 3) := by decide +kernel
theorem dX11_list_57 : decode cX11_list 57 = .ok (.iload_n 3, 1) := by decide +kernel
theorem dX11_list_58 : decode cX11_list 58 = .ok (.iaload, 1) := by decide +kernel
theorem dX11_list_59 : decode cX11_list 59 = .ok (.ireturn, 1) := by decide +kernel
theorem dX11_isRanked_0 : decode cX11_isRanked 0 = .ok (.aload_n 0, 1) := by decide +kernel
theorem dX11_isRanked_1 : decode cX11_isRanked 1 = .ok (.iload_n 1, 1) := by decide +kernel
theorem dX11_isRanked_2 : decode cX11_isRanked 2 = .ok (.invokevirtual 224, 3) := by decide +kernel
theorem dX11_isRanked_5 : decode cX11_isRanked 5 = .ok (.ifCond .ne 9, 3) := by decide +kernel
theorem dX11_isRanked_8 : decode cX11_isRanked 8 = .ok (.aload_n 0, 1) := by decide +kernel
theorem dX11_isRanked_9 : decode cX11_isRanked 9 = .ok (.iconst 1, 1) := by decide +kernel
theorem dX11_isRanked_10 : decode cX11_isRanked 10 = .ok (.invokevirtual 238, 3) := by decide +kernel
theorem dX11_isRanked_13 : decode cX11_isRanked 13 = .ok (.ireturn, 1) := by decide +kernel
theorem dX11_isRanked_14 : decode cX11_isRanked 14 = .ok (.aload_n 0, 1) := by decide +kernel
theorem dX11_isRanked_15 : decode cX11_isRanked 15 = .ok (.aload_n 0, 1) := by decide +kernel
theorem dX11_isRanked_16 : decode cX11_isRanked 16 = .ok (.getfield 20, 3) := by decide +kernel
theorem dX11_isRanked_19 : decode cX11_isRanked 19 = .ok (.iload_n 1, 1) := by decide +kernel
theorem dX11_isRanked_20 : decode cX11_isRanked 20 = .ok (.iaload, 1) := by decide +kernel
theorem dX11_isRanked_21 : decode cX11_isRanked 21 = .ok (.iload_n 2, 1) := by decide +kernel
theorem dX11_isRanked_22 : decode cX11_isRanked 22 = .ok (.invokevirtual 235, 3) := by decide +kernel
theorem dX11_isRanked_25 : decode cX11_isRanked 25 = .ok (.istore_n 3, 1) := by decide +kernel
theorem dX11_isRanked_26 : decode cX11_isRanked 26 = .ok (.iload_n 3, 1) := by decide +kernel
theorem dX11_isRanked_27 : decode cX11_isRanked 27 = .ok (.ifCond .le 9, 3) := by decide +kernel
theorem dX11_isRanked_30 : decode cX11_isRanked 30 = .ok (.aload_n 0, 1) := by decide +kernel
theorem dX11_isRanked_31 : decode cX11_isRanked 31 = .ok (.iload_n 3, 1) := by decide +kernel
theorem dX11_isRanked_32 : decode cX11_isRanked 32 = .ok (.invokevirtual 238, 3) := by decide +kernel
theorem dX11_isRanked_35 : decode cX11_isRanked 35 = .ok (.ireturn, 1) := by decide +kernel
theorem dX11_isRanked_36 : decode cX11_isRanked 36 = .ok (.aload_n 0, 1) := by decide +kernel
theorem dX11_isRanked_37 : decode cX11_isRanked 37 = .ok (.invokevirtual 257, 3) := by decide +kernel
theorem dX11_isRanked_40 : decode cX11_isRanked 40 = .ok (.aload_n 0, 1) := by decide +kernel
theorem dX11_isRanked_41 : decode cX11_isRanked 41 = .ok (.getfield 17, 3) := by decide +kernel
theorem dX11_isRanked_44 : decode cX11_isRanked 44 = .ok (.iload_n 1, 1) := by decide +kernel
theorem dX11_isRanked_45 : decode cX11_isRanked 45 = .ok (.iaload, 1) := by decide +kernel
theorem dX11_isRanked_46 : decode cX11_isRanked 46 = .ok (.bipush 6, 2) := by decide +kernel
theorem dX11_isRanked_48 : decode cX11_isRanked 48 = .ok (.if_icmp .eq 12, 3) := by decide +kernel
theorem dX11_isRanked_51 : decode cX11_isRanked 51 = .ok (.aload_n 0, 1) := by decide +kernel
theorem dX11_isRanked_52 : decode cX11_isRanked 52 = .ok (.iload_n 1, 1) := by decide +kernel
theorem dX11_isRanked_53 : decode cX11_isRanked 53 = .ok (.iload_n 2, 1) := by decide +kernel
theorem dX11_isRanked_54 : decode cX11_isRanked 54 = .ok (.invokevirtual 293, 3) := by decide +kernel
theorem dX11_isRanked_57 : decode cX11_isRanked 57 = .ok (.ifCond .ne 10, 3) := by decide +kernel
theorem dX11_isRanked_60 : decode cX11_isRanked 60 = .ok (.aload_n 0, 1) := by decide +kernel
theorem dX11_isRanked_61 : decode cX11_isRanked 61 = .ok (.bipush 6, 2) := by decide +kernel
theorem dX11_isRanked_63 : decode cX11_isRanked 63 = .ok (.invokevirtual 238, 3) := by decide +kernel
theorem dX11_isRanked_66 : decode cX11_isRanked 66 = .ok (.ireturn, 1) := by decide +kernel
theorem dX11_isRanked_67 : decode cX11_isRanked 67 = .ok (.aload_n 0, 1) := by decide +kernel
theorem dX11_isRanked_68 : decode cX11_isRanked 68 = .ok (.aload_n 0, 1) := by decide +kernel
theorem dX11_isRanked_69 : decode cX11_isRanked 69 = .ok (.getfield 20, 3) := by decide +kernel
theorem dX11_isRanked_72 : decode cX11_isRanked 72 = .ok (.iload_n 1, 1) := by decide +kernel
theorem dX11_isRanked_73 : decode cX11_isRanked 73 = .ok (.iaload, 1) := by decide +kernel
theorem dX11_isRanked_74 : decode cX11_isRanked 74 = .ok (.iload_n 2, 1) := by decide +kernel
theorem dX11_isRanked_75 : decode cX11_isRanked 75 = .ok (.invokevirtual 325, 3) := by decide +kernel
theorem dX11_isRanked_78 : decode cX11_isRanked 78 = .ok (.aload_n 0, 1) := by decide +kernel
theorem dX11_isRanked_79 : decode cX11_isRanked 79 = .ok (.iconst 0, 1) := by decide +kernel
theorem dX11_isRanked_80 : decode cX11_isRanked 80 = .ok (.putfield 163, 3) := by decide +kernel
theorem dX11_isRanked_83 : decode cX11_isRanked 83 = .ok (.iconst 1, 1) := by decide +kernel
theorem dX11_isRanked_84 : decode cX11_isRanked 84 = .ok (.ireturn, 1) := by decide +kernel
theorem dX11_rank_0 : decode cX11_rank 0 = .ok (.aload_n 0, 1) := by decide +kernel
theorem dX11_rank_1 : decode cX11_rank 1 = .ok (.iload_n 1, 1) := by decide +kernel
theorem dX11_rank_2 : decode cX11_rank 2 = .ok (.iload_n 2, 1) := by decide +kernel
theorem dX11_rank_3 : decode cX11_rank 3 = .ok (.invokevirtual 328, 3) := by decide +kernel
theorem dX11_rank_6 : decode cX11_rank 6 = .ok (.ifCond .eq 16, 3) := by decide +kernel
theorem dX11_rank_9 : decode cX11_rank 9 = .ok (.aload_n 0, 1) := by decide +kernel
theorem dX11_rank_10 : decode cX11_rank 10 = .ok (.aload_n 0, 1) := by decide +kernel
theorem dX11_rank_11 : decode cX11_rank 11 = .ok (.getfield 23, 3) := by decide +kernel
theorem dX11_rank_14 : decode cX11_rank 14 = .ok (.iload_n 1, 1) := by decide +kernel
theorem dX11_rank_15 : decode cX11_rank 15 = .ok (.iaload, 1) := by decide +kernel
theorem dX11_rank_16 : decode cX11_rank 16 = .ok (.invokevirtual 319, 3) := by decide +kernel
theorem dX11_rank_19 : decode cX11_rank 19 = .ok (.goto 4, 3) := by decide +kernel
theorem dX11_rank_22 : decode cX11_rank 22 = .ok (.iconst (-1), 1) := by decide +kernel
theorem dX11_rank_23 : decode cX11_rank 23 = .ok (.ireturn, 1) := by decide +kernel
theorem dX11_why_0 : decode cX11_why 0 = .ok (.aload_n 0, 1) := by decide +kernel
theorem dX11_why_1 : decode cX11_why 1 = .ok (.iload_n 1, 1) := by decide +kernel
theorem dX11_why_2 : decode cX11_why 2 = .ok (.iload_n 2, 1) := by decide +kernel
theorem dX11_why_3 : decode cX11_why 3 = .ok (.invokevirtual 328, 3) := by decide +kernel
theorem dX11_why_6 : decode cX11_why 6 = .ok (.ifCond .eq 17, 3) := by decide +kernel
theorem dX11_why_9 : decode cX11_why 9 = .ok (.aload_n 0, 1) := by decide +kernel
theorem dX11_why_10 : decode cX11_why 10 = .ok (.getfield 145, 3) := by decide +kernel
theorem dX11_why_13 : decode cX11_why 13 = .ok (.aload_n 0, 1) := by decide +kernel
theorem dX11_why_14 : decode cX11_why 14 = .ok (.getfield 23, 3) := by decide +kernel
theorem dX11_why_17 : decode cX11_why 17 = .ok (.iload_n 1, 1) := by decide +kernel
theorem dX11_why_18 : decode cX11_why 18 = .ok (.iaload, 1) := by decide +kernel
theorem dX11_why_19 : decode cX11_why 19 = .ok (.iaload, 1) := by decide +kernel
theorem dX11_why_20 : decode cX11_why 20 = .ok (.goto 4, 3) := by decide +kernel
theorem dX11_why_23 : decode cX11_why 23 = .ok (.iconst (-1), 1) := by decide +kernel
theorem dX11_why_24 : decode cX11_why 24 = .ok (.ireturn, 1) := by decide +kernel
theorem dX11_as_0 : decode cX11_as 0 = .ok (.aload_n 0, 1) := by decide +kernel
theorem dX11_as_1 : decode cX11_as 1 = .ok (.aload_n 0, 1) := by decide +kernel
theorem dX11_as_2 : decode cX11_as 2 = .ok (.getfield 331, 3) := by decide +kernel
theorem dX11_as_5 : decode cX11_as 5 = .ok (.iload_n 1, 1) := by decide +kernel
theorem dX11_as_6 : decode cX11_as 6 = .ok (.invokevirtual 235, 3) := by decide +kernel
theorem dX11_as_9 : decode cX11_as 9 = .ok (.istore 5, 2) := by decide +kernel
theorem dX11_as_11 : decode cX11_as 11 = .ok (.iload 5, 2) := by decide +kernel
theorem dX11_as_13 : decode cX11_as 13 = .ok (.ifCond .le 10, 3) := by decide +kernel
theorem dX11_as_16 : decode cX11_as 16 = .ok (.aload_n 0, 1) := by decide +kernel
theorem dX11_as_17 : decode cX11_as 17 = .ok (.iload 5, 2) := by decide +kernel
theorem dX11_as_19 : decode cX11_as 19 = .ok (.invokevirtual 231, 3) := by decide +kernel
theorem dX11_as_22 : decode cX11_as 22 = .ok (.ireturn, 1) := by decide +kernel
theorem dX11_as_23 : decode cX11_as 23 = .ok (.iload_n 2, 1) := by decide +kernel
theorem dX11_as_24 : decode cX11_as 24 = .ok (.ifCond .lt 23, 3) := by decide +kernel
theorem dX11_as_27 : decode cX11_as 27 = .ok (.iload_n 2, 1) := by decide +kernel
theorem dX11_as_28 : decode cX11_as 28 = .ok (.aload_n 0, 1) := by decide +kernel
theorem dX11_as_29 : decode cX11_as 29 = .ok (.getfield 166, 3) := by decide +kernel
theorem dX11_as_32 : decode cX11_as 32 = .ok (.if_icmp .gt 15, 3) := by decide +kernel
theorem dX11_as_35 : decode cX11_as 35 = .ok (.iload_n 3, 1) := by decide +kernel
theorem dX11_as_36 : decode cX11_as 36 = .ok (.ifCond .lt 11, 3) := by decide +kernel
theorem dX11_as_39 : decode cX11_as 39 = .ok (.iload_n 3, 1) := by decide +kernel
theorem dX11_as_40 : decode cX11_as 40 = .ok (.aload_n 0, 1) := by decide +kernel
theorem dX11_as_41 : decode cX11_as 41 = .ok (.getfield 166, 3) := by decide +kernel
theorem dX11_as_44 : decode cX11_as 44 = .ok (.if_icmp .le 9, 3) := by decide +kernel
theorem dX11_as_47 : decode cX11_as 47 = .ok (.aload_n 0, 1) := by decide +kernel
theorem dX11_as_48 : decode cX11_as 48 = .ok (.iconst 5, 1) := by decide +kernel
theorem dX11_as_49 : decode cX11_as 49 = .ok (.invokevirtual 231, 3) := by decide +kernel
theorem dX11_as_52 : decode cX11_as 52 = .ok (.ireturn, 1) := by decide +kernel
theorem dX11_as_53 : decode cX11_as 53 = .ok (.aload_n 0, 1) := by decide +kernel
theorem dX11_as_54 : decode cX11_as 54 = .ok (.iload_n 2, 1) := by decide +kernel
theorem dX11_as_55 : decode cX11_as 55 = .ok (.iload_n 3, 1) := by decide +kernel
theorem dX11_as_56 : decode cX11_as 56 = .ok (.invokevirtual 181, 3) := by decide +kernel
theorem dX11_as_59 : decode cX11_as 59 = .ok (.aload_n 0, 1) := by decide +kernel
theorem dX11_as_60 : decode cX11_as 60 = .ok (.aload_n 0, 1) := by decide +kernel
theorem dX11_as_61 : decode cX11_as 61 = .ok (.getfield 331, 3) := by decide +kernel
theorem dX11_as_64 : decode cX11_as 64 = .ok (.iload_n 1, 1) := by decide +kernel
theorem dX11_as_65 : decode cX11_as 65 = .ok (.invokevirtual 325, 3) := by decide +kernel
theorem dX11_as_68 : decode cX11_as 68 = .ok (.iload 4, 2) := by decide +kernel
theorem dX11_as_70 : decode cX11_as 70 = .ok (.ifCond .lt 12, 3) := by decide +kernel
theorem dX11_as_73 : decode cX11_as 73 = .ok (.iload 4, 2) := by decide +kernel
theorem dX11_as_75 : decode cX11_as 75 = .ok (.aload_n 0, 1) := by decide +kernel
theorem dX11_as_76 : decode cX11_as 76 = .ok (.getfield 313, 3) := by decide +kernel
theorem dX11_as_79 : decode cX11_as 79 = .ok (.if_icmp .lt 9, 3) := by decide +kernel
theorem dX11_as_82 : decode cX11_as 82 = .ok (.aload_n 0, 1) := by decide +kernel
theorem dX11_as_83 : decode cX11_as 83 = .ok (.iconst 5, 1) := by decide +kernel
theorem dX11_as_84 : decode cX11_as 84 = .ok (.invokevirtual 231, 3) := by decide +kernel
theorem dX11_as_87 : decode cX11_as 87 = .ok (.ireturn, 1) := by decide +kernel
theorem dX11_as_88 : decode cX11_as 88 = .ok (.aload_n 0, 1) := by decide +kernel
theorem dX11_as_89 : decode cX11_as 89 = .ok (.iconst 0, 1) := by decide +kernel
theorem dX11_as_90 : decode cX11_as 90 = .ok (.putfield 163, 3) := by decide +kernel
theorem dX11_as_93 : decode cX11_as 93 = .ok (.aload_n 0, 1) := by decide +kernel
theorem dX11_as_94 : decode cX11_as 94 = .ok (.getfield 142, 3) := by decide +kernel
theorem dX11_as_97 : decode cX11_as 97 = .ok (.iload 4, 2) := by decide +kernel
theorem dX11_as_99 : decode cX11_as 99 = .ok (.iaload, 1) := by decide +kernel
theorem dX11_as_100 : decode cX11_as 100 = .ok (.ireturn, 1) := by decide +kernel
theorem dX11_choose_0 : decode cX11_choose 0 = .ok (.iload_n 1, 1) := by decide +kernel
theorem dX11_choose_1 : decode cX11_choose 1 = .ok (.ifCond .lt 11, 3) := by decide +kernel
theorem dX11_choose_4 : decode cX11_choose 4 = .ok (.iload_n 1, 1) := by decide +kernel
theorem dX11_choose_5 : decode cX11_choose 5 = .ok (.aload_n 0, 1) := by decide +kernel
theorem dX11_choose_6 : decode cX11_choose 6 = .ok (.getfield 172, 3) := by decide +kernel
theorem dX11_choose_9 : decode cX11_choose 9 = .ok (.if_icmp .lt 9, 3) := by decide +kernel
theorem dX11_choose_12 : decode cX11_choose 12 = .ok (.aload_n 0, 1) := by decide +kernel
theorem dX11_choose_13 : decode cX11_choose 13 = .ok (.iconst 1, 1) := by decide +kernel
theorem dX11_choose_14 : decode cX11_choose 14 = .ok (.invokevirtual 238, 3) := by decide +kernel
theorem dX11_choose_17 : decode cX11_choose 17 = .ok (.ireturn, 1) := by decide +kernel
theorem dX11_choose_18 : decode cX11_choose 18 = .ok (.aload_n 0, 1) := by decide +kernel
theorem dX11_choose_19 : decode cX11_choose 19 = .ok (.iload_n 1, 1) := by decide +kernel
theorem dX11_choose_20 : decode cX11_choose 20 = .ok (.putfield 331, 3) := by decide +kernel
theorem dX11_choose_23 : decode cX11_choose 23 = .ok (.aload_n 0, 1) := by decide +kernel
theorem dX11_choose_24 : decode cX11_choose 24 = .ok (.iconst 0, 1) := by decide +kernel
theorem dX11_choose_25 : decode cX11_choose 25 = .ok (.putfield 163, 3) := by decide +kernel
theorem dX11_choose_28 : decode cX11_choose 28 = .ok (.iconst 1, 1) := by decide +kernel
theorem dX11_choose_29 : decode cX11_choose 29 = .ok (.ireturn, 1) := by decide +kernel
theorem dX11_dueIn_0 : decode cX11_dueIn 0 = .ok (.aload_n 0, 1) := by decide +kernel
theorem dX11_dueIn_1 : decode cX11_dueIn 1 = .ok (.iload_n 1, 1) := by decide +kernel
theorem dX11_dueIn_2 : decode cX11_dueIn 2 = .ok (.invokevirtual 206, 3) := by decide +kernel
theorem dX11_dueIn_5 : decode cX11_dueIn 5 = .ok (.lconst 0, 1) := by decide +kernel
theorem dX11_dueIn_6 : decode cX11_dueIn 6 = .ok (.lstore_n 2, 1) := by decide +kernel
theorem dX11_dueIn_7 : decode cX11_dueIn 7 = .ok (.iconst 0, 1) := by decide +kernel
theorem dX11_dueIn_8 : decode cX11_dueIn 8 = .ok (.istore 4, 2) := by decide +kernel
theorem dX11_dueIn_10 : decode cX11_dueIn 10 = .ok (.iload 4, 2) := by decide +kernel
theorem dX11_dueIn_12 : decode cX11_dueIn 12 = .ok (.aload_n 0, 1) := by decide +kernel
theorem dX11_dueIn_13 : decode cX11_dueIn 13 = .ok (.getfield 199, 3) := by decide +kernel
theorem dX11_dueIn_16 : decode cX11_dueIn 16 = .ok (.if_icmp .ge 24, 3) := by decide +kernel
theorem dX11_dueIn_19 : decode cX11_dueIn 19 = .ok (.lload_n 2, 1) := by decide +kernel
theorem dX11_dueIn_20 : decode cX11_dueIn 20 = .ok (.aload_n 0, 1) := by decide +kernel
theorem dX11_dueIn_21 : decode cX11_dueIn 21 = .ok (.getfield 151, 3) := by decide +kernel
theorem dX11_dueIn_24 : decode cX11_dueIn 24 = .ok (.aload_n 0, 1) := by decide +kernel
theorem dX11_dueIn_25 : decode cX11_dueIn 25 = .ok (.getfield 124, 3) := by decide +kernel
theorem dX11_dueIn_28 : decode cX11_dueIn 28 = .ok (.iload 4, 2) := by decide +kernel
theorem dX11_dueIn_30 : decode cX11_dueIn 30 = .ok (.iaload, 1) := by decide +kernel
theorem dX11_dueIn_31 : decode cX11_dueIn 31 = .ok (.laload, 1) := by decide +kernel
theorem dX11_dueIn_32 : decode cX11_dueIn 32 = .ok (.ladd, 1) := by decide +kernel
theorem dX11_dueIn_33 : decode cX11_dueIn 33 = .ok (.lstore_n 2, 1) := by decide +kernel
theorem dX11_dueIn_34 : decode cX11_dueIn 34 = .ok (.iinc 4 1, 3) := by decide +kernel
theorem dX11_dueIn_37 : decode cX11_dueIn 37 = .ok (.goto (-27), 3) := by decide +kernel
theorem dX11_dueIn_40 : decode cX11_dueIn 40 = .ok (.lload_n 2, 1) := by decide +kernel
theorem dX11_dueIn_41 : decode cX11_dueIn 41 = .ok (.lreturn, 1) := by decide +kernel
theorem dX11_gotBy_0 : decode cX11_gotBy 0 = .ok (.aload_n 0, 1) := by decide +kernel
theorem dX11_gotBy_1 : decode cX11_gotBy 1 = .ok (.iload_n 1, 1) := by decide +kernel
theorem dX11_gotBy_2 : decode cX11_gotBy 2 = .ok (.invokevirtual 206, 3) := by decide +kernel
theorem dX11_gotBy_5 : decode cX11_gotBy 5 = .ok (.lconst 0, 1) := by decide +kernel
theorem dX11_gotBy_6 : decode cX11_gotBy 6 = .ok (.lstore_n 2, 1) := by decide +kernel
theorem dX11_gotBy_7 : decode cX11_gotBy 7 = .ok (.iconst 0, 1) := by decide +kernel
theorem dX11_gotBy_8 : decode cX11_gotBy 8 = .ok (.istore 4, 2) := by decide +kernel
theorem dX11_gotBy_10 : decode cX11_gotBy 10 = .ok (.iload 4, 2) := by decide +kernel
theorem dX11_gotBy_12 : decode cX11_gotBy 12 = .ok (.aload_n 0, 1) := by decide +kernel
theorem dX11_gotBy_13 : decode cX11_gotBy 13 = .ok (.getfield 199, 3) := by decide +kernel
theorem dX11_gotBy_16 : decode cX11_gotBy 16 = .ok (.if_icmp .ge 24, 3) := by decide +kernel
theorem dX11_gotBy_19 : decode cX11_gotBy 19 = .ok (.lload_n 2, 1) := by decide +kernel
theorem dX11_gotBy_20 : decode cX11_gotBy 20 = .ok (.aload_n 0, 1) := by decide +kernel
theorem dX11_gotBy_21 : decode cX11_gotBy 21 = .ok (.getfield 148, 3) := by decide +kernel
theorem dX11_gotBy_24 : decode cX11_gotBy 24 = .ok (.aload_n 0, 1) := by decide +kernel
theorem dX11_gotBy_25 : decode cX11_gotBy 25 = .ok (.getfield 124, 3) := by decide +kernel
theorem dX11_gotBy_28 : decode cX11_gotBy 28 = .ok (.iload 4, 2) := by decide +kernel
theorem dX11_gotBy_30 : decode cX11_gotBy 30 = .ok (.iaload, 1) := by decide +kernel
theorem dX11_gotBy_31 : decode cX11_gotBy 31 = .ok (.laload, 1) := by decide +kernel
theorem dX11_gotBy_32 : decode cX11_gotBy 32 = .ok (.ladd, 1) := by decide +kernel
theorem dX11_gotBy_33 : decode cX11_gotBy 33 = .ok (.lstore_n 2, 1) := by decide +kernel
theorem dX11_gotBy_34 : decode cX11_gotBy 34 = .ok (.iinc 4 1, 3) := by decide +kernel
theorem dX11_gotBy_37 : decode cX11_gotBy 37 = .ok (.goto (-27), 3) := by decide +kernel
theorem dX11_gotBy_40 : decode cX11_gotBy 40 = .ok (.lload_n 2, 1) := by decide +kernel
theorem dX11_gotBy_41 : decode cX11_gotBy 41 = .ok (.lreturn, 1) := by decide +kernel
theorem dX11_gets_0 : decode cX11_gets 0 = .ok (.aload_n 0, 1) := by decide +kernel
theorem dX11_gets_1 : decode cX11_gets 1 = .ok (.iload_n 1, 1) := by decide +kernel
theorem dX11_gets_2 : decode cX11_gets 2 = .ok (.invokevirtual 206, 3) := by decide +kernel
theorem dX11_gets_5 : decode cX11_gets 5 = .ok (.lload_n 2, 1) := by decide +kernel
theorem dX11_gets_6 : decode cX11_gets 6 = .ok (.lstore 4, 2) := by decide +kernel
theorem dX11_gets_8 : decode cX11_gets 8 = .ok (.iconst 0, 1) := by decide +kernel
theorem dX11_gets_9 : decode cX11_gets 9 = .ok (.istore 6, 2) := by decide +kernel
theorem dX11_gets_11 : decode cX11_gets 11 = .ok (.iload 6, 2) := by decide +kernel
theorem dX11_gets_13 : decode cX11_gets 13 = .ok (.aload_n 0, 1) := by decide +kernel
theorem dX11_gets_14 : decode cX11_gets 14 = .ok (.getfield 199, 3) := by decide +kernel
theorem dX11_gets_17 : decode cX11_gets 17 = .ok (.if_icmp .ge 65, 3) := by decide +kernel
theorem dX11_gets_20 : decode cX11_gets 20 = .ok (.lload 4, 2) := by decide +kernel
theorem dX11_gets_22 : decode cX11_gets 22 = .ok (.aload_n 0, 1) := by decide +kernel
theorem dX11_gets_23 : decode cX11_gets 23 = .ok (.getfield 151, 3) := by decide +kernel
theorem dX11_gets_26 : decode cX11_gets 26 = .ok (.aload_n 0, 1) := by decide +kernel
theorem dX11_gets_27 : decode cX11_gets 27 = .ok (.getfield 124, 3) := by decide +kernel
theorem dX11_gets_30 : decode cX11_gets 30 = .ok (.iload 6, 2) := by decide +kernel
theorem dX11_gets_32 : decode cX11_gets 32 = .ok (.iaload, 1) := by decide +kernel
theorem dX11_gets_33 : decode cX11_gets 33 = .ok (.laload, 1) := by decide +kernel
theorem dX11_gets_34 : decode cX11_gets 34 = .ok (.aload_n 0, 1) := by decide +kernel
theorem dX11_gets_35 : decode cX11_gets 35 = .ok (.getfield 148, 3) := by decide +kernel
theorem dX11_gets_38 : decode cX11_gets 38 = .ok (.aload_n 0, 1) := by decide +kernel
theorem dX11_gets_39 : decode cX11_gets 39 = .ok (.getfield 124, 3) := by decide +kernel
theorem dX11_gets_42 : decode cX11_gets 42 = .ok (.iload 6, 2) := by decide +kernel
theorem dX11_gets_44 : decode cX11_gets 44 = .ok (.iaload, 1) := by decide +kernel
theorem dX11_gets_45 : decode cX11_gets 45 = .ok (.laload, 1) := by decide +kernel
theorem dX11_gets_46 : decode cX11_gets 46 = .ok (.lsub, 1) := by decide +kernel
theorem dX11_gets_47 : decode cX11_gets 47 = .ok (.invokestatic 217, 3) := by decide +kernel
theorem dX11_gets_50 : decode cX11_gets 50 = .ok (.lstore 7, 2) := by decide +kernel
theorem dX11_gets_52 : decode cX11_gets 52 = .ok (.aload_n 0, 1) := by decide +kernel
theorem dX11_gets_53 : decode cX11_gets 53 = .ok (.getfield 148, 3) := by decide +kernel
theorem dX11_gets_56 : decode cX11_gets 56 = .ok (.aload_n 0, 1) := by decide +kernel
theorem dX11_gets_57 : decode cX11_gets 57 = .ok (.getfield 124, 3) := by decide +kernel
theorem dX11_gets_60 : decode cX11_gets 60 = .ok (.iload 6, 2) := by decide +kernel
theorem dX11_gets_62 : decode cX11_gets 62 = .ok (.iaload, 1) := by decide +kernel
theorem dX11_gets_63 : decode cX11_gets 63 = .ok (.dup2, 1) := by decide +kernel
theorem dX11_gets_64 : decode cX11_gets 64 = .ok (.laload, 1) := by decide +kernel
theorem dX11_gets_65 : decode cX11_gets 65 = .ok (.lload 7, 2) := by decide +kernel
theorem dX11_gets_67 : decode cX11_gets 67 = .ok (.ladd, 1) := by decide +kernel
theorem dX11_gets_68 : decode cX11_gets 68 = .ok (.lastore, 1) := by decide +kernel
theorem dX11_gets_69 : decode cX11_gets 69 = .ok (.lload 4, 2) := by decide +kernel
theorem dX11_gets_71 : decode cX11_gets 71 = .ok (.lload 7, 2) := by decide +kernel
theorem dX11_gets_73 : decode cX11_gets 73 = .ok (.lsub, 1) := by decide +kernel
theorem dX11_gets_74 : decode cX11_gets 74 = .ok (.lstore 4, 2) := by decide +kernel
theorem dX11_gets_76 : decode cX11_gets 76 = .ok (.iinc 6 1, 3) := by decide +kernel
theorem dX11_gets_79 : decode cX11_gets 79 = .ok (.goto (-68), 3) := by decide +kernel
theorem dX11_gets_82 : decode cX11_gets 82 = .ok (.return_, 1) := by decide +kernel
theorem dX11_gives_0 : decode cX11_gives 0 = .ok (.aload_n 0, 1) := by decide +kernel
theorem dX11_gives_1 : decode cX11_gives 1 = .ok (.iload_n 1, 1) := by decide +kernel
theorem dX11_gives_2 : decode cX11_gives 2 = .ok (.invokevirtual 206, 3) := by decide +kernel
theorem dX11_gives_5 : decode cX11_gives 5 = .ok (.lload_n 2, 1) := by decide +kernel
theorem dX11_gives_6 : decode cX11_gives 6 = .ok (.lstore 4, 2) := by decide +kernel
theorem dX11_gives_8 : decode cX11_gives 8 = .ok (.aload_n 0, 1) := by decide +kernel
theorem dX11_gives_9 : decode cX11_gives 9 = .ok (.getfield 199, 3) := by decide +kernel
theorem dX11_gives_12 : decode cX11_gives 12 = .ok (.iconst 1, 1) := by decide +kernel
theorem dX11_gives_13 : decode cX11_gives 13 = .ok (.isub, 1) := by decide +kernel
theorem dX11_gives_14 : decode cX11_gives 14 = .ok (.istore 6, 2) := by decide +kernel
theorem dX11_gives_16 : decode cX11_gives 16 = .ok (.iload 6, 2) := by decide +kernel
theorem dX11_gives_18 : decode cX11_gives 18 = .ok (.ifCond .lt 52, 3) := by decide +kernel
theorem dX11_gives_21 : decode cX11_gives 21 = .ok (.lload 4, 2) := by decide +kernel
theorem dX11_gives_23 : decode cX11_gives 23 = .ok (.aload_n 0, 1) := by decide +kernel
theorem dX11_gives_24 : decode cX11_gives 24 = .ok (.getfield 148, 3) := by decide +kernel
theorem dX11_gives_27 : decode cX11_gives 27 = .ok (.aload_n 0, 1) := by decide +kernel
theorem dX11_gives_28 : decode cX11_gives 28 = .ok (.getfield 124, 3) := by decide +kernel
theorem dX11_gives_31 : decode cX11_gives 31 = .ok (.iload 6, 2) := by decide +kernel
theorem dX11_gives_33 : decode cX11_gives 33 = .ok (.iaload, 1) := by decide +kernel
theorem dX11_gives_34 : decode cX11_gives 34 = .ok (.laload, 1) := by decide +kernel
theorem dX11_gives_35 : decode cX11_gives 35 = .ok (.invokestatic 217, 3) := by decide +kernel
theorem dX11_gives_38 : decode cX11_gives 38 = .ok (.lstore 7, 2) := by decide +kernel
theorem dX11_gives_40 : decode cX11_gives 40 = .ok (.aload_n 0, 1) := by decide +kernel
theorem dX11_gives_41 : decode cX11_gives 41 = .ok (.getfield 148, 3) := by decide +kernel
theorem dX11_gives_44 : decode cX11_gives 44 = .ok (.aload_n 0, 1) := by decide +kernel
theorem dX11_gives_45 : decode cX11_gives 45 = .ok (.getfield 124, 3) := by decide +kernel
theorem dX11_gives_48 : decode cX11_gives 48 = .ok (.iload 6, 2) := by decide +kernel
theorem dX11_gives_50 : decode cX11_gives 50 = .ok (.iaload, 1) := by decide +kernel
theorem dX11_gives_51 : decode cX11_gives 51 = .ok (.dup2, 1) := by decide +kernel
theorem dX11_gives_52 : decode cX11_gives 52 = .ok (.laload, 1) := by decide +kernel
theorem dX11_gives_53 : decode cX11_gives 53 = .ok (.lload 7, 2) := by decide +kernel
theorem dX11_gives_55 : decode cX11_gives 55 = .ok (.lsub, 1) := by decide +kernel
theorem dX11_gives_56 : decode cX11_gives 56 = .ok (.lastore, 1) := by decide +kernel
theorem dX11_gives_57 : decode cX11_gives 57 = .ok (.lload 4, 2) := by decide +kernel
theorem dX11_gives_59 : decode cX11_gives 59 = .ok (.lload 7, 2) := by decide +kernel
theorem dX11_gives_61 : decode cX11_gives 61 = .ok (.lsub, 1) := by decide +kernel
theorem dX11_gives_62 : decode cX11_gives 62 = .ok (.lstore 4, 2) := by decide +kernel
theorem dX11_gives_64 : decode cX11_gives 64 = .ok (.iinc 6 (-1), 3) := by decide +kernel
theorem dX11_gives_67 : decode cX11_gives 67 = .ok (.goto (-51), 3) := by decide +kernel
theorem dX11_gives_70 : decode cX11_gives 70 = .ok (.return_, 1) := by decide +kernel
theorem dX11_prepare_0 : decode cX11_prepare 0 = .ok (.iconst 1, 1) := by decide +kernel
theorem dX11_prepare_1 : decode cX11_prepare 1 = .ok (.istore_n 2, 1) := by decide +kernel
theorem dX11_prepare_2 : decode cX11_prepare 2 = .ok (.iload_n 2, 1) := by decide +kernel
theorem dX11_prepare_3 : decode cX11_prepare 3 = .ok (.aload_n 0, 1) := by decide +kernel
theorem dX11_prepare_4 : decode cX11_prepare 4 = .ok (.getfield 169, 3) := by decide +kernel
theorem dX11_prepare_7 : decode cX11_prepare 7 = .ok (.if_icmp .gt 30, 3) := by decide +kernel
theorem dX11_prepare_10 : decode cX11_prepare 10 = .ok (.aload_n 0, 1) := by decide +kernel
theorem dX11_prepare_11 : decode cX11_prepare 11 = .ok (.getfield 148, 3) := by decide +kernel
theorem dX11_prepare_14 : decode cX11_prepare 14 = .ok (.iload_n 2, 1) := by decide +kernel
theorem dX11_prepare_15 : decode cX11_prepare 15 = .ok (.lconst 0, 1) := by decide +kernel
theorem dX11_prepare_16 : decode cX11_prepare 16 = .ok (.lastore, 1) := by decide +kernel
theorem dX11_prepare_17 : decode cX11_prepare 17 = .ok (.aload_n 0, 1) := by decide +kernel
theorem dX11_prepare_18 : decode cX11_prepare 18 = .ok (.getfield 151, 3) := by decide +kernel
theorem dX11_prepare_21 : decode cX11_prepare 21 = .ok (.iload_n 2, 1) := by decide +kernel
theorem dX11_prepare_22 : decode cX11_prepare 22 = .ok (.lconst 0, 1) := by decide +kernel
theorem dX11_prepare_23 : decode cX11_prepare 23 = .ok (.lastore, 1) := by decide +kernel
theorem dX11_prepare_24 : decode cX11_prepare 24 = .ok (.aload_n 0, 1) := by decide +kernel
theorem dX11_prepare_25 : decode cX11_prepare 25 = .ok (.getfield 154, 3) := by decide +kernel
theorem dX11_prepare_28 : decode cX11_prepare 28 = .ok (.iload_n 2, 1) := by decide +kernel
theorem dX11_prepare_29 : decode cX11_prepare 29 = .ok (.iconst 0, 1) := by decide +kernel
theorem dX11_prepare_30 : decode cX11_prepare 30 = .ok (.bastore, 1) := by decide +kernel
theorem dX11_prepare_31 : decode cX11_prepare 31 = .ok (.iinc 2 1, 3) := by decide +kernel
theorem dX11_prepare_34 : decode cX11_prepare 34 = .ok (.goto (-32), 3) := by decide +kernel
theorem dX11_prepare_37 : decode cX11_prepare 37 = .ok (.iconst 0, 1) := by decide +kernel
theorem dX11_prepare_38 : decode cX11_prepare 38 = .ok (.istore_n 2, 1) := by decide +kernel
theorem dX11_prepare_39 : decode cX11_prepare 39 = .ok (.iload_n 2, 1) := by decide +kernel
theorem dX11_prepare_40 : decode cX11_prepare 40 = .ok (.aload_n 0, 1) := by decide +kernel
theorem dX11_prepare_41 : decode cX11_prepare 41 = .ok (.getfield 313, 3) := by decide +kernel
theorem dX11_prepare_44 : decode cX11_prepare 44 = .ok (.if_icmp .ge 93, 3) := by decide +kernel
theorem dX11_prepare_47 : decode cX11_prepare 47 = .ok (.aload_n 0, 1) := by decide +kernel
theorem dX11_prepare_48 : decode cX11_prepare 48 = .ok (.aload_n 0, 1) := by decide +kernel
theorem dX11_prepare_49 : decode cX11_prepare 49 = .ok (.getfield 142, 3) := by decide +kernel
theorem dX11_prepare_52 : decode cX11_prepare 52 = .ok (.iload_n 2, 1) := by decide +kernel
theorem dX11_prepare_53 : decode cX11_prepare 53 = .ok (.iaload, 1) := by decide +kernel
theorem dX11_prepare_54 : decode cX11_prepare 54 = .ok (.invokevirtual 229, 3) := by decide +kernel
theorem dX11_prepare_57 : decode cX11_prepare 57 = .ok (.iconst 0, 1) := by decide +kernel
theorem dX11_prepare_58 : decode cX11_prepare 58 = .ok (.istore_n 3, 1) := by decide +kernel
theorem dX11_prepare_59 : decode cX11_prepare 59 = .ok (.iload_n 3, 1) := by decide +kernel
theorem dX11_prepare_60 : decode cX11_prepare 60 = .ok (.aload_n 0, 1) := by decide +kernel
theorem dX11_prepare_61 : decode cX11_prepare 61 = .ok (.getfield 199, 3) := by decide +kernel
theorem dX11_prepare_64 : decode cX11_prepare 64 = .ok (.if_icmp .ge 67, 3) := by decide +kernel
theorem dX11_prepare_67 : decode cX11_prepare 67 = .ok (.aload_n 0, 1) := by decide +kernel
theorem dX11_prepare_68 : decode cX11_prepare 68 = .ok (.getfield 124, 3) := by decide +kernel
theorem dX11_prepare_71 : decode cX11_prepare 71 = .ok (.iload_n 3, 1) := by decide +kernel
theorem dX11_prepare_72 : decode cX11_prepare 72 = .ok (.iaload, 1) := by decide +kernel
theorem dX11_prepare_73 : decode cX11_prepare 73 = .ok (.istore 4, 2) := by decide +kernel
theorem dX11_prepare_75 : decode cX11_prepare 75 = .ok (.aload_n 0, 1) := by decide +kernel
theorem dX11_prepare_76 : decode cX11_prepare 76 = .ok (.getfield 154, 3) := by decide +kernel
theorem dX11_prepare_79 : decode cX11_prepare 79 = .ok (.iload 4, 2) := by decide +kernel
theorem dX11_prepare_81 : decode cX11_prepare 81 = .ok (.aload_n 0, 1) := by decide +kernel
theorem dX11_prepare_82 : decode cX11_prepare 82 = .ok (.iload 4, 2) := by decide +kernel
theorem dX11_prepare_84 : decode cX11_prepare 84 = .ok (.iload_n 1, 1) := by decide +kernel
theorem dX11_prepare_85 : decode cX11_prepare 85 = .ok (.invokevirtual 189, 3) := by decide +kernel
theorem dX11_prepare_88 : decode cX11_prepare 88 = .ok (.ifCond .ne 7, 3) := by decide +kernel
theorem dX11_prepare_91 : decode cX11_prepare 91 = .ok (.iconst 1, 1) := by decide +kernel
theorem dX11_prepare_92 : decode cX11_prepare 92 = .ok (.goto 4, 3) := by decide +kernel
theorem dX11_prepare_95 : decode cX11_prepare 95 = .ok (.iconst 0, 1) := by decide +kernel
theorem dX11_prepare_96 : decode cX11_prepare 96 = .ok (.bastore, 1) := by decide +kernel
theorem dX11_prepare_97 : decode cX11_prepare 97 = .ok (.aload_n 0, 1) := by decide +kernel
theorem dX11_prepare_98 : decode cX11_prepare 98 = .ok (.getfield 151, 3) := by decide +kernel
theorem dX11_prepare_101 : decode cX11_prepare 101 = .ok (.iload 4, 2) := by decide +kernel
theorem dX11_prepare_103 : decode cX11_prepare 103 = .ok (.aload_n 0, 1) := by decide +kernel
theorem dX11_prepare_104 : decode cX11_prepare 104 = .ok (.getfield 154, 3) := by decide +kernel
theorem dX11_prepare_107 : decode cX11_prepare 107 = .ok (.iload 4, 2) := by decide +kernel
theorem dX11_prepare_109 : decode cX11_prepare 109 = .ok (.baload, 1) := by decide +kernel
theorem dX11_prepare_110 : decode cX11_prepare 110 = .ok (.ifCond .eq 13, 3) := by decide +kernel
theorem dX11_prepare_113 : decode cX11_prepare 113 = .ok (.aload_n 0, 1) := by decide +kernel
theorem dX11_prepare_114 : decode cX11_prepare 114 = .ok (.getfield 127, 3) := by decide +kernel
theorem dX11_prepare_117 : decode cX11_prepare 117 = .ok (.iload 4, 2) := by decide +kernel
theorem dX11_prepare_119 : decode cX11_prepare 119 = .ok (.laload, 1) := by decide +kernel
theorem dX11_prepare_120 : decode cX11_prepare 120 = .ok (.goto 4, 3) := by decide +kernel
theorem dX11_prepare_123 : decode cX11_prepare 123 = .ok (.lconst 0, 1) := by decide +kernel
theorem dX11_prepare_124 : decode cX11_prepare 124 = .ok (.lastore, 1) := by decide +kernel
theorem dX11_prepare_125 : decode cX11_prepare 125 = .ok (.iinc 3 1, 3) := by decide +kernel
theorem dX11_prepare_128 : decode cX11_prepare 128 = .ok (.goto (-69), 3) := by decide +kernel
theorem dX11_prepare_131 : decode cX11_prepare 131 = .ok (.iinc 2 1, 3) := by decide +kernel
theorem dX11_prepare_134 : decode cX11_prepare 134 = .ok (.goto (-95), 3) := by decide +kernel
theorem dX11_prepare_137 : decode cX11_prepare 137 = .ok (.return_, 1) := by decide +kernel
theorem dX11_give_0 : decode cX11_give 0 = .ok (.aload_n 0, 1) := by decide +kernel
theorem dX11_give_1 : decode cX11_give 1 = .ok (.invokevirtual 257, 3) := by decide +kernel
theorem dX11_give_4 : decode cX11_give 4 = .ok (.aload_n 0, 1) := by decide +kernel
theorem dX11_give_5 : decode cX11_give 5 = .ok (.iload_n 1, 1) := by decide +kernel
theorem dX11_give_6 : decode cX11_give 6 = .ok (.iload_n 2, 1) := by decide +kernel
theorem dX11_give_7 : decode cX11_give 7 = .ok (.invokevirtual 325, 3) := by decide +kernel
theorem dX11_give_10 : decode cX11_give 10 = .ok (.aload_n 0, 1) := by decide +kernel
theorem dX11_give_11 : decode cX11_give 11 = .ok (.iload_n 2, 1) := by decide +kernel
theorem dX11_give_12 : decode cX11_give 12 = .ok (.invokevirtual 334, 3) := by decide +kernel
theorem dX11_give_15 : decode cX11_give 15 = .ok (.lload_n 3, 1) := by decide +kernel
theorem dX11_give_16 : decode cX11_give 16 = .ok (.lload 5, 2) := by decide +kernel
theorem dX11_give_18 : decode cX11_give 18 = .ok (.lsub, 1) := by decide +kernel
theorem dX11_give_19 : decode cX11_give 19 = .ok (.lstore 7, 2) := by decide +kernel
theorem dX11_give_21 : decode cX11_give 21 = .ok (.iconst 0, 1) := by decide +kernel
theorem dX11_give_22 : decode cX11_give 22 = .ok (.istore 9, 2) := by decide +kernel
theorem dX11_give_24 : decode cX11_give 24 = .ok (.iload 9, 2) := by decide +kernel
theorem dX11_give_26 : decode cX11_give 26 = .ok (.aload_n 0, 1) := by decide +kernel
theorem dX11_give_27 : decode cX11_give 27 = .ok (.getfield 302, 3) := by decide +kernel
theorem dX11_give_30 : decode cX11_give 30 = .ok (.if_icmp .ge 91, 3) := by decide +kernel
theorem dX11_give_33 : decode cX11_give 33 = .ok (.aload_n 0, 1) := by decide +kernel
theorem dX11_give_34 : decode cX11_give 34 = .ok (.getfield 136, 3) := by decide +kernel
theorem dX11_give_37 : decode cX11_give 37 = .ok (.iload 9, 2) := by decide +kernel
theorem dX11_give_39 : decode cX11_give 39 = .ok (.iaload, 1) := by decide +kernel
theorem dX11_give_40 : decode cX11_give 40 = .ok (.istore 10, 2) := by decide +kernel
theorem dX11_give_42 : decode cX11_give 42 = .ok (.aload_n 0, 1) := by decide +kernel
theorem dX11_give_43 : decode cX11_give 43 = .ok (.iload 10, 2) := by decide +kernel
theorem dX11_give_45 : decode cX11_give 45 = .ok (.invokevirtual 337, 3) := by decide +kernel
theorem dX11_give_48 : decode cX11_give 48 = .ok (.aload_n 0, 1) := by decide +kernel
theorem dX11_give_49 : decode cX11_give 49 = .ok (.iload 10, 2) := by decide +kernel
theorem dX11_give_51 : decode cX11_give 51 = .ok (.invokevirtual 340, 3) := by decide +kernel
theorem dX11_give_54 : decode cX11_give 54 = .ok (.lsub, 1) := by decide +kernel
theorem dX11_give_55 : decode cX11_give 55 = .ok (.lstore 11, 2) := by decide +kernel
theorem dX11_give_57 : decode cX11_give 57 = .ok (.aload_n 0, 1) := by decide +kernel
theorem dX11_give_58 : decode cX11_give 58 = .ok (.getfield 139, 3) := by decide +kernel
theorem dX11_give_61 : decode cX11_give 61 = .ok (.iload 9, 2) := by decide +kernel
theorem dX11_give_63 : decode cX11_give 63 = .ok (.baload, 1) := by decide +kernel
theorem dX11_give_64 : decode cX11_give 64 = .ok (.ifCond .eq 23, 3) := by decide +kernel
theorem dX11_give_67 : decode cX11_give 67 = .ok (.lload 11, 2) := by decide +kernel
theorem dX11_give_69 : decode cX11_give 69 = .ok (.aload_n 0, 1) := by decide +kernel
theorem dX11_give_70 : decode cX11_give 70 = .ok (.getfield 32, 3) := by decide +kernel
theorem dX11_give_73 : decode cX11_give 73 = .ok (.aload_n 0, 1) := by decide +kernel
theorem dX11_give_74 : decode cX11_give 74 = .ok (.getfield 84, 3) := by decide +kernel
theorem dX11_give_77 : decode cX11_give 77 = .ok (.iload 10, 2) := by decide +kernel
theorem dX11_give_79 : decode cX11_give 79 = .ok (.iaload, 1) := by decide +kernel
theorem dX11_give_80 : decode cX11_give 80 = .ok (.laload, 1) := by decide +kernel
theorem dX11_give_81 : decode cX11_give 81 = .ok (.invokestatic 217, 3) := by decide +kernel
theorem dX11_give_84 : decode cX11_give 84 = .ok (.goto 5, 3) := by decide +kernel
theorem dX11_give_87 : decode cX11_give 87 = .ok (.lload 11, 2) := by decide +kernel
theorem dX11_give_89 : decode cX11_give 89 = .ok (.lstore 13, 2) := by decide +kernel
theorem dX11_give_91 : decode cX11_give 91 = .ok (.lload 7, 2) := by decide +kernel
theorem dX11_give_93 : decode cX11_give 93 = .ok (.lload 13, 2) := by decide +kernel
theorem dX11_give_95 : decode cX11_give 95 = .ok (.invokestatic 217, 3) := by decide +kernel
theorem dX11_give_98 : decode cX11_give 98 = .ok (.lstore 15, 2) := by decide +kernel
theorem dX11_give_100 : decode cX11_give 100 = .ok (.aload_n 0, 1) := by decide +kernel
theorem dX11_give_101 : decode cX11_give 101 = .ok (.iload 10, 2) := by decide +kernel
theorem dX11_give_103 : decode cX11_give 103 = .ok (.lload 15, 2) := by decide +kernel
theorem dX11_give_105 : decode cX11_give 105 = .ok (.invokevirtual 343, 3) := by decide +kernel
theorem dX11_give_108 : decode cX11_give 108 = .ok (.lload 7, 2) := by decide +kernel
theorem dX11_give_110 : decode cX11_give 110 = .ok (.lload 15, 2) := by decide +kernel
theorem dX11_give_112 : decode cX11_give 112 = .ok (.lsub, 1) := by decide +kernel
theorem dX11_give_113 : decode cX11_give 113 = .ok (.lstore 7, 2) := by decide +kernel
theorem dX11_give_115 : decode cX11_give 115 = .ok (.iinc 9 1, 3) := by decide +kernel
theorem dX11_give_118 : decode cX11_give 118 = .ok (.goto (-94), 3) := by decide +kernel
theorem dX11_give_121 : decode cX11_give 121 = .ok (.iconst 1, 1) := by decide +kernel
theorem dX11_give_122 : decode cX11_give 122 = .ok (.istore 9, 2) := by decide +kernel
theorem dX11_give_124 : decode cX11_give 124 = .ok (.iload 9, 2) := by decide +kernel
theorem dX11_give_126 : decode cX11_give 126 = .ok (.aload_n 0, 1) := by decide +kernel
theorem dX11_give_127 : decode cX11_give 127 = .ok (.getfield 275, 3) := by decide +kernel
theorem dX11_give_130 : decode cX11_give 130 = .ok (.if_icmp .gt 128, 3) := by decide +kernel
theorem dX11_give_133 : decode cX11_give 133 = .ok (.aload_n 0, 1) := by decide +kernel
theorem dX11_give_134 : decode cX11_give 134 = .ok (.getfield 20, 3) := by decide +kernel
theorem dX11_give_137 : decode cX11_give 137 = .ok (.aload_n 0, 1) := by decide +kernel
theorem dX11_give_138 : decode cX11_give 138 = .ok (.getfield 99, 3) := by decide +kernel
theorem dX11_give_141 : decode cX11_give 141 = .ok (.iload 9, 2) := by decide +kernel
theorem dX11_give_143 : decode cX11_give 143 = .ok (.iaload, 1) := by decide +kernel
theorem dX11_give_144 : decode cX11_give 144 = .ok (.iaload, 1) := by decide +kernel
theorem dX11_give_145 : decode cX11_give 145 = .ok (.iload_n 1, 1) := by decide +kernel
theorem dX11_give_146 : decode cX11_give 146 = .ok (.if_icmp .ne 106, 3) := by decide +kernel
theorem dX11_give_149 : decode cX11_give 149 = .ok (.aload_n 0, 1) := by decide +kernel
theorem dX11_give_150 : decode cX11_give 150 = .ok (.iload 9, 2) := by decide +kernel
theorem dX11_give_152 : decode cX11_give 152 = .ok (.iload_n 2, 1) := by decide +kernel
theorem dX11_give_153 : decode cX11_give 153 = .ok (.invokevirtual 322, 3) := by decide +kernel
theorem dX11_give_156 : decode cX11_give 156 = .ok (.ifCond .ne 6, 3) := by decide +kernel
theorem dX11_give_159 : decode cX11_give 159 = .ok (.goto 93, 3) := by decide +kernel
theorem dX11_give_162 : decode cX11_give 162 = .ok (.aload_n 0, 1) := by decide +kernel
theorem dX11_give_163 : decode cX11_give 163 = .ok (.getfield 99, 3) := by decide +kernel
theorem dX11_give_166 : decode cX11_give 166 = .ok (.iload 9, 2) := by decide +kernel
theorem dX11_give_168 : decode cX11_give 168 = .ok (.iaload, 1) := by decide +kernel
theorem dX11_give_169 : decode cX11_give 169 = .ok (.istore 10, 2) := by decide +kernel
theorem dX11_give_171 : decode cX11_give 171 = .ok (.aload_n 0, 1) := by decide +kernel
theorem dX11_give_172 : decode cX11_give 172 = .ok (.getfield 102, 3) := by decide +kernel
theorem dX11_give_175 : decode cX11_give 175 = .ok (.iload 9, 2) := by decide +kernel
theorem dX11_give_177 : decode cX11_give 177 = .ok (.iaload, 1) := by decide +kernel
theorem dX11_give_178 : decode cX11_give 178 = .ok (.istore 11, 2) := by decide +kernel
theorem dX11_give_180 : decode cX11_give 180 = .ok (.aload_n 0, 1) := by decide +kernel
theorem dX11_give_181 : decode cX11_give 181 = .ok (.iload 10, 2) := by decide +kernel
theorem dX11_give_183 : decode cX11_give 183 = .ok (.invokevirtual 340, 3) := by decide +kernel
theorem dX11_give_186 : decode cX11_give 186 = .ok (.aload_n 0, 1) := by decide +kernel
theorem dX11_give_187 : decode cX11_give 187 = .ok (.getfield 105, 3) := by decide +kernel
theorem dX11_give_190 : decode cX11_give 190 = .ok (.iload 9, 2) := by decide +kernel
theorem dX11_give_192 : decode cX11_give 192 = .ok (.laload, 1) := by decide +kernel
theorem dX11_give_193 : decode cX11_give 193 = .ok (.aload_n 0, 1) := by decide +kernel
theorem dX11_give_194 : decode cX11_give 194 = .ok (.iload 11, 2) := by decide +kernel
theorem dX11_give_196 : decode cX11_give 196 = .ok (.invokevirtual 337, 3) := by decide +kernel
theorem dX11_give_199 : decode cX11_give 199 = .ok (.invokestatic 217, 3) := by decide +kernel
theorem dX11_give_202 : decode cX11_give 202 = .ok (.invokestatic 217, 3) := by decide +kernel
theorem dX11_give_205 : decode cX11_give 205 = .ok (.lstore 12, 2) := by decide +kernel
theorem dX11_give_207 : decode cX11_give 207 = .ok (.lload 12, 2) := by decide +kernel
theorem dX11_give_209 : decode cX11_give 209 = .ok (.aload_n 0, 1) := by decide +kernel
theorem dX11_give_210 : decode cX11_give 210 = .ok (.iload 11, 2) := by decide +kernel
theorem dX11_give_212 : decode cX11_give 212 = .ok (.invokevirtual 340, 3) := by decide +kernel
theorem dX11_give_215 : decode cX11_give 215 = .ok (.invokestatic 217, 3) := by decide +kernel
theorem dX11_give_218 : decode cX11_give 218 = .ok (.lstore 14, 2) := by decide +kernel
theorem dX11_give_220 : decode cX11_give 220 = .ok (.aload_n 0, 1) := by decide +kernel
theorem dX11_give_221 : decode cX11_give 221 = .ok (.iload 10, 2) := by decide +kernel
theorem dX11_give_223 : decode cX11_give 223 = .ok (.lload 12, 2) := by decide +kernel
theorem dX11_give_225 : decode cX11_give 225 = .ok (.invokevirtual 347, 3) := by decide +kernel
theorem dX11_give_228 : decode cX11_give 228 = .ok (.aload_n 0, 1) := by decide +kernel
theorem dX11_give_229 : decode cX11_give 229 = .ok (.iload 11, 2) := by decide +kernel
theorem dX11_give_231 : decode cX11_give 231 = .ok (.lload 14, 2) := by decide +kernel
theorem dX11_give_233 : decode cX11_give 233 = .ok (.invokevirtual 347, 3) := by decide +kernel
theorem dX11_give_236 : decode cX11_give 236 = .ok (.aload_n 0, 1) := by decide +kernel
theorem dX11_give_237 : decode cX11_give 237 = .ok (.iload 11, 2) := by decide +kernel
theorem dX11_give_239 : decode cX11_give 239 = .ok (.lload 12, 2) := by decide +kernel
theorem dX11_give_241 : decode cX11_give 241 = .ok (.invokevirtual 343, 3) := by decide +kernel
theorem dX11_give_244 : decode cX11_give 244 = .ok (.aload_n 0, 1) := by decide +kernel
theorem dX11_give_245 : decode cX11_give 245 = .ok (.iload 10, 2) := by decide +kernel
theorem dX11_give_247 : decode cX11_give 247 = .ok (.lload 14, 2) := by decide +kernel
theorem dX11_give_249 : decode cX11_give 249 = .ok (.invokevirtual 343, 3) := by decide +kernel
theorem dX11_give_252 : decode cX11_give 252 = .ok (.iinc 9 1, 3) := by decide +kernel
theorem dX11_give_255 : decode cX11_give 255 = .ok (.goto (-131), 3) := by decide +kernel
theorem dX11_give_258 : decode cX11_give 258 = .ok (.iconst 1, 1) := by decide +kernel
theorem dX11_give_259 : decode cX11_give 259 = .ok (.istore 9, 2) := by decide +kernel
theorem dX11_give_261 : decode cX11_give 261 = .ok (.iload 9, 2) := by decide +kernel
theorem dX11_give_263 : decode cX11_give 263 = .ok (.aload_n 0, 1) := by decide +kernel
theorem dX11_give_264 : decode cX11_give 264 = .ok (.getfield 169, 3) := by decide +kernel
theorem dX11_give_267 : decode cX11_give 267 = .ok (.if_icmp .gt 22, 3) := by decide +kernel
theorem dX11_give_270 : decode cX11_give 270 = .ok (.aload_n 0, 1) := by decide +kernel
theorem dX11_give_271 : decode cX11_give 271 = .ok (.getfield 157, 3) := by decide +kernel
theorem dX11_give_274 : decode cX11_give 274 = .ok (.iload 9, 2) := by decide +kernel
theorem dX11_give_276 : decode cX11_give 276 = .ok (.aload_n 0, 1) := by decide +kernel
theorem dX11_give_277 : decode cX11_give 277 = .ok (.iload 9, 2) := by decide +kernel
theorem dX11_give_279 : decode cX11_give 279 = .ok (.invokevirtual 340, 3) := by decide +kernel
theorem dX11_give_282 : decode cX11_give 282 = .ok (.lastore, 1) := by decide +kernel
theorem dX11_give_283 : decode cX11_give 283 = .ok (.iinc 9 1, 3) := by decide +kernel
theorem dX11_give_286 : decode cX11_give 286 = .ok (.goto (-25), 3) := by decide +kernel
theorem dX11_give_289 : decode cX11_give 289 = .ok (.aload_n 0, 1) := by decide +kernel
theorem dX11_give_290 : decode cX11_give 290 = .ok (.getfield 169, 3) := by decide +kernel
theorem dX11_give_293 : decode cX11_give 293 = .ok (.iconst 1, 1) := by decide +kernel
theorem dX11_give_294 : decode cX11_give 294 = .ok (.iadd, 1) := by decide +kernel
theorem dX11_give_295 : decode cX11_give 295 = .ok (.istore 9, 2) := by decide +kernel
theorem dX11_give_297 : decode cX11_give 297 = .ok (.iload 9, 2) := by decide +kernel
theorem dX11_give_299 : decode cX11_give 299 = .ok (.sipush 301, 3) := by decide +kernel
theorem dX11_give_302 : decode cX11_give 302 = .ok (.if_icmp .ge 17, 3) := by decide +kernel
theorem dX11_give_305 : decode cX11_give 305 = .ok (.aload_n 0, 1) := by decide +kernel
theorem dX11_give_306 : decode cX11_give 306 = .ok (.getfield 157, 3) := by decide +kernel
theorem dX11_give_309 : decode cX11_give 309 = .ok (.iload 9, 2) := by decide +kernel
theorem dX11_give_311 : decode cX11_give 311 = .ok (.lconst 0, 1) := by decide +kernel
theorem dX11_give_312 : decode cX11_give 312 = .ok (.lastore, 1) := by decide +kernel
theorem dX11_give_313 : decode cX11_give 313 = .ok (.iinc 9 1, 3) := by decide +kernel
theorem dX11_give_316 : decode cX11_give 316 = .ok (.goto (-19), 3) := by decide +kernel
theorem dX11_give_319 : decode cX11_give 319 = .ok (.aload_n 0, 1) := by decide +kernel
theorem dX11_give_320 : decode cX11_give 320 = .ok (.lload 7, 2) := by decide +kernel
theorem dX11_give_322 : decode cX11_give 322 = .ok (.putfield 350, 3) := by decide +kernel
theorem dX11_give_325 : decode cX11_give 325 = .ok (.lload 7, 2) := by decide +kernel
theorem dX11_give_327 : decode cX11_give 327 = .ok (.lreturn, 1) := by decide +kernel
theorem dX11_wrongSale_0 : decode cX11_wrongSale 0 = .ok (.aload_n 0, 1) := by decide +kernel
theorem dX11_wrongSale_1 : decode cX11_wrongSale 1 = .ok (.iload_n 1, 1) := by decide +kernel
theorem dX11_wrongSale_2 : decode cX11_wrongSale 2 = .ok (.iload_n 2, 1) := by decide +kernel
theorem dX11_wrongSale_3 : decode cX11_wrongSale 3 = .ok (.invokevirtual 235, 3) := by decide +kernel
theorem dX11_wrongSale_6 : decode cX11_wrongSale 6 = .ok (.istore 7, 2) := by decide +kernel
theorem dX11_wrongSale_8 : decode cX11_wrongSale 8 = .ok (.iload 7, 2) := by decide +kernel
theorem dX11_wrongSale_10 : decode cX11_wrongSale 10 = .ok (.ifCond .le 6, 3) := by decide +kernel
theorem dX11_wrongSale_13 : decode cX11_wrongSale 13 = .ok (.iload 7, 2) := by decide +kernel
theorem dX11_wrongSale_15 : decode cX11_wrongSale 15 = .ok (.ireturn, 1) := by decide +kernel
theorem dX11_wrongSale_16 : decode cX11_wrongSale 16 = .ok (.lload_n 3, 1) := by decide +kernel
theorem dX11_wrongSale_17 : decode cX11_wrongSale 17 = .ok (.lconst 0, 1) := by decide +kernel
theorem dX11_wrongSale_18 : decode cX11_wrongSale 18 = .ok (.lcmp, 1) := by decide +kernel
theorem dX11_wrongSale_19 : decode cX11_wrongSale 19 = .ok (.ifCond .lt 34, 3) := by decide +kernel
theorem dX11_wrongSale_22 : decode cX11_wrongSale 22 = .ok (.lload_n 3, 1) := by decide +kernel
theorem dX11_wrongSale_23 : decode cX11_wrongSale 23 = .ok (.ldc2_w 246, 3) := by decide +kernel
theorem dX11_wrongSale_26 : decode cX11_wrongSale 26 = .ok (.lcmp, 1) := by decide +kernel
theorem dX11_wrongSale_27 : decode cX11_wrongSale 27 = .ok (.ifCond .gt 26, 3) := by decide +kernel
theorem dX11_wrongSale_30 : decode cX11_wrongSale 30 = .ok (.lload 5, 2) := by decide +kernel
theorem dX11_wrongSale_32 : decode cX11_wrongSale 32 = .ok (.lconst 0, 1) := by decide +kernel
theorem dX11_wrongSale_33 : decode cX11_wrongSale 33 = .ok (.lcmp, 1) := by decide +kernel
theorem dX11_wrongSale_34 : decode cX11_wrongSale 34 = .ok (.ifCond .lt 19, 3) := by decide +kernel
theorem dX11_wrongSale_37 : decode cX11_wrongSale 37 = .ok (.lload 5, 2) := by decide +kernel
theorem dX11_wrongSale_39 : decode cX11_wrongSale 39 = .ok (.ldc2_w 246, 3) := by decide +kernel
theorem dX11_wrongSale_42 : decode cX11_wrongSale 42 = .ok (.lcmp, 1) := by decide +kernel
theorem dX11_wrongSale_43 : decode cX11_wrongSale 43 = .ok (.ifCond .gt 10, 3) := by decide +kernel
theorem dX11_wrongSale_46 : decode cX11_wrongSale 46 = .ok (.lload 5, 2) := by decide +kernel
theorem dX11_wrongSale_48 : decode cX11_wrongSale 48 = .ok (.lload_n 3, 1) := by decide +kernel
theorem dX11_wrongSale_49 : decode cX11_wrongSale 49 = .ok (.lcmp, 1) := by decide +kernel
theorem dX11_wrongSale_50 : decode cX11_wrongSale 50 = .ok (.ifCond .le 7, 3) := by decide +kernel
theorem dX11_wrongSale_53 : decode cX11_wrongSale 53 = .ok (.iconst 5, 1) := by decide +kernel
theorem dX11_wrongSale_54 : decode cX11_wrongSale 54 = .ok (.goto 4, 3) := by decide +kernel
theorem dX11_wrongSale_57 : decode cX11_wrongSale 57 = .ok (.iconst 0, 1) := by decide +kernel
theorem dX11_wrongSale_58 : decode cX11_wrongSale 58 = .ok (.ireturn, 1) := by decide +kernel
theorem dX11_sale_0 : decode cX11_sale 0 = .ok (.aload_n 0, 1) := by decide +kernel
theorem dX11_sale_1 : decode cX11_sale 1 = .ok (.iload_n 1, 1) := by decide +kernel
theorem dX11_sale_2 : decode cX11_sale 2 = .ok (.iload_n 2, 1) := by decide +kernel
theorem dX11_sale_3 : decode cX11_sale 3 = .ok (.lload_n 3, 1) := by decide +kernel
theorem dX11_sale_4 : decode cX11_sale 4 = .ok (.lload 5, 2) := by decide +kernel
theorem dX11_sale_6 : decode cX11_sale 6 = .ok (.invokevirtual 354, 3) := by decide +kernel
theorem dX11_sale_9 : decode cX11_sale 9 = .ok (.istore 7, 2) := by decide +kernel
theorem dX11_sale_11 : decode cX11_sale 11 = .ok (.iload 7, 2) := by decide +kernel
theorem dX11_sale_13 : decode cX11_sale 13 = .ok (.ifCond .le 11, 3) := by decide +kernel
theorem dX11_sale_16 : decode cX11_sale 16 = .ok (.aload_n 0, 1) := by decide +kernel
theorem dX11_sale_17 : decode cX11_sale 17 = .ok (.iload 7, 2) := by decide +kernel
theorem dX11_sale_19 : decode cX11_sale 19 = .ok (.invokevirtual 231, 3) := by decide +kernel
theorem dX11_sale_22 : decode cX11_sale 22 = .ok (.i2l, 1) := by decide +kernel
theorem dX11_sale_23 : decode cX11_sale 23 = .ok (.lreturn, 1) := by decide +kernel
theorem dX11_sale_24 : decode cX11_sale 24 = .ok (.aload_n 0, 1) := by decide +kernel
theorem dX11_sale_25 : decode cX11_sale 25 = .ok (.iconst 0, 1) := by decide +kernel
theorem dX11_sale_26 : decode cX11_sale 26 = .ok (.putfield 163, 3) := by decide +kernel
theorem dX11_sale_29 : decode cX11_sale 29 = .ok (.aload_n 0, 1) := by decide +kernel
theorem dX11_sale_30 : decode cX11_sale 30 = .ok (.iload_n 1, 1) := by decide +kernel
theorem dX11_sale_31 : decode cX11_sale 31 = .ok (.iload_n 2, 1) := by decide +kernel
theorem dX11_sale_32 : decode cX11_sale 32 = .ok (.lload_n 3, 1) := by decide +kernel
theorem dX11_sale_33 : decode cX11_sale 33 = .ok (.lload 5, 2) := by decide +kernel
theorem dX11_sale_35 : decode cX11_sale 35 = .ok (.invokevirtual 358, 3) := by decide +kernel
theorem dX11_sale_38 : decode cX11_sale 38 = .ok (.lreturn, 1) := by decide +kernel
theorem dX11_sell_0 : decode cX11_sell 0 = .ok (.aload_n 0, 1) := by decide +kernel
theorem dX11_sell_1 : decode cX11_sell 1 = .ok (.iload_n 1, 1) := by decide +kernel
theorem dX11_sell_2 : decode cX11_sell 2 = .ok (.iload_n 2, 1) := by decide +kernel
theorem dX11_sell_3 : decode cX11_sell 3 = .ok (.lload_n 3, 1) := by decide +kernel
theorem dX11_sell_4 : decode cX11_sell 4 = .ok (.lload 5, 2) := by decide +kernel
theorem dX11_sell_6 : decode cX11_sell 6 = .ok (.invokevirtual 354, 3) := by decide +kernel
theorem dX11_sell_9 : decode cX11_sell 9 = .ok (.istore 7, 2) := by decide +kernel
theorem dX11_sell_11 : decode cX11_sell 11 = .ok (.iload 7, 2) := by decide +kernel
theorem dX11_sell_13 : decode cX11_sell 13 = .ok (.ifCond .le 11, 3) := by decide +kernel
theorem dX11_sell_16 : decode cX11_sell 16 = .ok (.aload_n 0, 1) := by decide +kernel
theorem dX11_sell_17 : decode cX11_sell 17 = .ok (.iload 7, 2) := by decide +kernel
theorem dX11_sell_19 : decode cX11_sell 19 = .ok (.invokevirtual 231, 3) := by decide +kernel
theorem dX11_sell_22 : decode cX11_sell 22 = .ok (.i2l, 1) := by decide +kernel
theorem dX11_sell_23 : decode cX11_sell 23 = .ok (.lreturn, 1) := by decide +kernel
theorem dX11_sell_24 : decode cX11_sell 24 = .ok (.aload_n 0, 1) := by decide +kernel
theorem dX11_sell_25 : decode cX11_sell 25 = .ok (.iload_n 1, 1) := by decide +kernel
theorem dX11_sell_26 : decode cX11_sell 26 = .ok (.iload_n 2, 1) := by decide +kernel
theorem dX11_sell_27 : decode cX11_sell 27 = .ok (.lload_n 3, 1) := by decide +kernel
theorem dX11_sell_28 : decode cX11_sell 28 = .ok (.lload 5, 2) := by decide +kernel
theorem dX11_sell_30 : decode cX11_sell 30 = .ok (.invokevirtual 358, 3) := by decide +kernel
theorem dX11_sell_33 : decode cX11_sell 33 = .ok (.lstore 8, 2) := by decide +kernel
theorem dX11_sell_35 : decode cX11_sell 35 = .ok (.iconst 1, 1) := by decide +kernel
theorem dX11_sell_36 : decode cX11_sell 36 = .ok (.istore 10, 2) := by decide +kernel
theorem dX11_sell_38 : decode cX11_sell 38 = .ok (.iload 10, 2) := by decide +kernel
theorem dX11_sell_40 : decode cX11_sell 40 = .ok (.aload_n 0, 1) := by decide +kernel
theorem dX11_sell_41 : decode cX11_sell 41 = .ok (.getfield 169, 3) := by decide +kernel
theorem dX11_sell_44 : decode cX11_sell 44 = .ok (.if_icmp .gt 148, 3) := by decide +kernel
theorem dX11_sell_47 : decode cX11_sell 47 = .ok (.aload_n 0, 1) := by decide +kernel
theorem dX11_sell_48 : decode cX11_sell 48 = .ok (.getfield 154, 3) := by decide +kernel
theorem dX11_sell_51 : decode cX11_sell 51 = .ok (.iload 10, 2) := by decide +kernel
theorem dX11_sell_53 : decode cX11_sell 53 = .ok (.baload, 1) := by decide +kernel
theorem dX11_sell_54 : decode cX11_sell 54 = .ok (.ifCond .ne 6, 3) := by decide +kernel
theorem dX11_sell_57 : decode cX11_sell 57 = .ok (.goto 129, 3) := by decide +kernel
theorem dX11_sell_60 : decode cX11_sell 60 = .ok (.aload_n 0, 1) := by decide +kernel
theorem dX11_sell_61 : decode cX11_sell 61 = .ok (.getfield 151, 3) := by decide +kernel
theorem dX11_sell_64 : decode cX11_sell 64 = .ok (.iload 10, 2) := by decide +kernel
theorem dX11_sell_66 : decode cX11_sell 66 = .ok (.laload, 1) := by decide +kernel
theorem dX11_sell_67 : decode cX11_sell 67 = .ok (.aload_n 0, 1) := by decide +kernel
theorem dX11_sell_68 : decode cX11_sell 68 = .ok (.getfield 148, 3) := by decide +kernel
theorem dX11_sell_71 : decode cX11_sell 71 = .ok (.iload 10, 2) := by decide +kernel
theorem dX11_sell_73 : decode cX11_sell 73 = .ok (.laload, 1) := by decide +kernel
theorem dX11_sell_74 : decode cX11_sell 74 = .ok (.lsub, 1) := by decide +kernel
theorem dX11_sell_75 : decode cX11_sell 75 = .ok (.lstore 11, 2) := by decide +kernel
theorem dX11_sell_77 : decode cX11_sell 77 = .ok (.aload_n 0, 1) := by decide +kernel
theorem dX11_sell_78 : decode cX11_sell 78 = .ok (.getfield 23, 3) := by decide +kernel
theorem dX11_sell_81 : decode cX11_sell 81 = .ok (.iload 10, 2) := by decide +kernel
theorem dX11_sell_83 : decode cX11_sell 83 = .ok (.iaload, 1) := by decide +kernel
theorem dX11_sell_84 : decode cX11_sell 84 = .ok (.istore 13, 2) := by decide +kernel
theorem dX11_sell_86 : decode cX11_sell 86 = .ok (.aload_n 0, 1) := by decide +kernel
theorem dX11_sell_87 : decode cX11_sell 87 = .ok (.getfield 32, 3) := by decide +kernel
theorem dX11_sell_90 : decode cX11_sell 90 = .ok (.iload 10, 2) := by decide +kernel
theorem dX11_sell_92 : decode cX11_sell 92 = .ok (.aload_n 0, 1) := by decide +kernel
theorem dX11_sell_93 : decode cX11_sell 93 = .ok (.getfield 17, 3) := by decide +kernel
theorem dX11_sell_96 : decode cX11_sell 96 = .ok (.iload 10, 2) := by decide +kernel
theorem dX11_sell_98 : decode cX11_sell 98 = .ok (.iaload, 1) := by decide +kernel
theorem dX11_sell_99 : decode cX11_sell 99 = .ok (.iconst 4, 1) := by decide +kernel
theorem dX11_sell_100 : decode cX11_sell 100 = .ok (.if_icmp .ne 8, 3) := by decide +kernel
theorem dX11_sell_103 : decode cX11_sell 103 = .ok (.lload 11, 2) := by decide +kernel
theorem dX11_sell_105 : decode cX11_sell 105 = .ok (.goto 15, 3) := by decide +kernel
theorem dX11_sell_108 : decode cX11_sell 108 = .ok (.aload_n 0, 1) := by decide +kernel
theorem dX11_sell_109 : decode cX11_sell 109 = .ok (.getfield 32, 3) := by decide +kernel
theorem dX11_sell_112 : decode cX11_sell 112 = .ok (.iload 10, 2) := by decide +kernel
theorem dX11_sell_114 : decode cX11_sell 114 = .ok (.laload, 1) := by decide +kernel
theorem dX11_sell_115 : decode cX11_sell 115 = .ok (.lload 11, 2) := by decide +kernel
theorem dX11_sell_117 : decode cX11_sell 117 = .ok (.invokestatic 217, 3) := by decide +kernel
theorem dX11_sell_120 : decode cX11_sell 120 = .ok (.lastore, 1) := by decide +kernel
theorem dX11_sell_121 : decode cX11_sell 121 = .ok (.aload_n 0, 1) := by decide +kernel
theorem dX11_sell_122 : decode cX11_sell 122 = .ok (.getfield 63, 3) := by decide +kernel
theorem dX11_sell_125 : decode cX11_sell 125 = .ok (.iload 13, 2) := by decide +kernel
theorem dX11_sell_127 : decode cX11_sell 127 = .ok (.aload_n 0, 1) := by decide +kernel
theorem dX11_sell_128 : decode cX11_sell 128 = .ok (.getfield 63, 3) := by decide +kernel
theorem dX11_sell_131 : decode cX11_sell 131 = .ok (.iload 13, 2) := by decide +kernel
theorem dX11_sell_133 : decode cX11_sell 133 = .ok (.baload, 1) := by decide +kernel
theorem dX11_sell_134 : decode cX11_sell 134 = .ok (.ifCond .ne 14, 3) := by decide +kernel
theorem dX11_sell_137 : decode cX11_sell 137 = .ok (.aload_n 0, 1) := by decide +kernel
theorem dX11_sell_138 : decode cX11_sell 138 = .ok (.getfield 17, 3) := by decide +kernel
theorem dX11_sell_141 : decode cX11_sell 141 = .ok (.iload 10, 2) := by decide +kernel
theorem dX11_sell_143 : decode cX11_sell 143 = .ok (.iaload, 1) := by decide +kernel
theorem dX11_sell_144 : decode cX11_sell 144 = .ok (.iconst 4, 1) := by decide +kernel
theorem dX11_sell_145 : decode cX11_sell 145 = .ok (.if_icmp .ne 7, 3) := by decide +kernel
theorem dX11_sell_148 : decode cX11_sell 148 = .ok (.iconst 1, 1) := by decide +kernel
theorem dX11_sell_149 : decode cX11_sell 149 = .ok (.goto 4, 3) := by decide +kernel
theorem dX11_sell_152 : decode cX11_sell 152 = .ok (.iconst 0, 1) := by decide +kernel
theorem dX11_sell_153 : decode cX11_sell 153 = .ok (.bastore, 1) := by decide +kernel
theorem dX11_sell_154 : decode cX11_sell 154 = .ok (.aload_n 0, 1) := by decide +kernel
theorem dX11_sell_155 : decode cX11_sell 155 = .ok (.getfield 93, 3) := by decide +kernel
theorem dX11_sell_158 : decode cX11_sell 158 = .ok (.bipush 60, 2) := by decide +kernel
theorem dX11_sell_160 : decode cX11_sell 160 = .ok (.iload 10, 2) := by decide +kernel
theorem dX11_sell_162 : decode cX11_sell 162 = .ok (.imul, 1) := by decide +kernel
theorem dX11_sell_163 : decode cX11_sell 163 = .ok (.iload_n 2, 1) := by decide +kernel
theorem dX11_sell_164 : decode cX11_sell 164 = .ok (.iadd, 1) := by decide +kernel
theorem dX11_sell_165 : decode cX11_sell 165 = .ok (.aload_n 0, 1) := by decide +kernel
theorem dX11_sell_166 : decode cX11_sell 166 = .ok (.getfield 166, 3) := by decide +kernel
theorem dX11_sell_169 : decode cX11_sell 169 = .ok (.iastore, 1) := by decide +kernel
theorem dX11_sell_170 : decode cX11_sell 170 = .ok (.aload_n 0, 1) := by decide +kernel
theorem dX11_sell_171 : decode cX11_sell 171 = .ok (.getfield 96, 3) := by decide +kernel
theorem dX11_sell_174 : decode cX11_sell 174 = .ok (.bipush 60, 2) := by decide +kernel
theorem dX11_sell_176 : decode cX11_sell 176 = .ok (.iload 10, 2) := by decide +kernel
theorem dX11_sell_178 : decode cX11_sell 178 = .ok (.imul, 1) := by decide +kernel
theorem dX11_sell_179 : decode cX11_sell 179 = .ok (.iload_n 2, 1) := by decide +kernel
theorem dX11_sell_180 : decode cX11_sell 180 = .ok (.iadd, 1) := by decide +kernel
theorem dX11_sell_181 : decode cX11_sell 181 = .ok (.aload_n 0, 1) := by decide +kernel
theorem dX11_sell_182 : decode cX11_sell 182 = .ok (.getfield 166, 3) := by decide +kernel
theorem dX11_sell_185 : decode cX11_sell 185 = .ok (.iastore, 1) := by decide +kernel
theorem dX11_sell_186 : decode cX11_sell 186 = .ok (.iinc 10 1, 3) := by decide +kernel
theorem dX11_sell_189 : decode cX11_sell 189 = .ok (.goto (-151), 3) := by decide +kernel
theorem dX11_sell_192 : decode cX11_sell 192 = .ok (.iconst 0, 1) := by decide +kernel
theorem dX11_sell_193 : decode cX11_sell 193 = .ok (.istore 10, 2) := by decide +kernel
theorem dX11_sell_195 : decode cX11_sell 195 = .ok (.iload 10, 2) := by decide +kernel
theorem dX11_sell_197 : decode cX11_sell 197 = .ok (.aload_n 0, 1) := by decide +kernel
theorem dX11_sell_198 : decode cX11_sell 198 = .ok (.getfield 313, 3) := by decide +kernel
theorem dX11_sell_201 : decode cX11_sell 201 = .ok (.if_icmp .ge 25, 3) := by decide +kernel
theorem dX11_sell_204 : decode cX11_sell 204 = .ok (.aload_n 0, 1) := by decide +kernel
theorem dX11_sell_205 : decode cX11_sell 205 = .ok (.getfield 60, 3) := by decide +kernel
theorem dX11_sell_208 : decode cX11_sell 208 = .ok (.aload_n 0, 1) := by decide +kernel
theorem dX11_sell_209 : decode cX11_sell 209 = .ok (.getfield 142, 3) := by decide +kernel
theorem dX11_sell_212 : decode cX11_sell 212 = .ok (.iload 10, 2) := by decide +kernel
theorem dX11_sell_214 : decode cX11_sell 214 = .ok (.iaload, 1) := by decide +kernel
theorem dX11_sell_215 : decode cX11_sell 215 = .ok (.aload_n 0, 1) := by decide +kernel
theorem dX11_sell_216 : decode cX11_sell 216 = .ok (.getfield 166, 3) := by decide +kernel
theorem dX11_sell_219 : decode cX11_sell 219 = .ok (.iastore, 1) := by decide +kernel
theorem dX11_sell_220 : decode cX11_sell 220 = .ok (.iinc 10 1, 3) := by decide +kernel
theorem dX11_sell_223 : decode cX11_sell 223 = .ok (.goto (-28), 3) := by decide +kernel
theorem dX11_sell_226 : decode cX11_sell 226 = .ok (.aload_n 0, 1) := by decide +kernel
theorem dX11_sell_227 : decode cX11_sell 227 = .ok (.dup, 1) := by decide +kernel
theorem dX11_sell_228 : decode cX11_sell 228 = .ok (.getfield 362, 3) := by decide +kernel
theorem dX11_sell_231 : decode cX11_sell 231 = .ok (.iconst 1, 1) := by decide +kernel
theorem dX11_sell_232 : decode cX11_sell 232 = .ok (.iadd, 1) := by decide +kernel
theorem dX11_sell_233 : decode cX11_sell 233 = .ok (.putfield 362, 3) := by decide +kernel
theorem dX11_sell_236 : decode cX11_sell 236 = .ok (.aload_n 0, 1) := by decide +kernel
theorem dX11_sell_237 : decode cX11_sell 237 = .ok (.iconst 0, 1) := by decide +kernel
theorem dX11_sell_238 : decode cX11_sell 238 = .ok (.putfield 163, 3) := by decide +kernel
theorem dX11_sell_241 : decode cX11_sell 241 = .ok (.lload 8, 2) := by decide +kernel
theorem dX11_sell_243 : decode cX11_sell 243 = .ok (.lreturn, 1) := by decide +kernel
theorem dX11_share_0 : decode cX11_share 0 = .ok (.aload_n 0, 1) := by decide +kernel
theorem dX11_share_1 : decode cX11_share 1 = .ok (.iload_n 1, 1) := by decide +kernel
theorem dX11_share_2 : decode cX11_share 2 = .ok (.invokevirtual 224, 3) := by decide +kernel
theorem dX11_share_5 : decode cX11_share 5 = .ok (.ifCond .eq 12, 3) := by decide +kernel
theorem dX11_share_8 : decode cX11_share 8 = .ok (.aload_n 0, 1) := by decide +kernel
theorem dX11_share_9 : decode cX11_share 9 = .ok (.getfield 157, 3) := by decide +kernel
theorem dX11_share_12 : decode cX11_share 12 = .ok (.iload_n 1, 1) := by decide +kernel
theorem dX11_share_13 : decode cX11_share 13 = .ok (.laload, 1) := by decide +kernel
theorem dX11_share_14 : decode cX11_share 14 = .ok (.goto 4, 3) := by decide +kernel
theorem dX11_share_17 : decode cX11_share 17 = .ok (.lconst 0, 1) := by decide +kernel
theorem dX11_share_18 : decode cX11_share 18 = .ok (.lreturn, 1) := by decide +kernel
theorem dX11_tell_0 : decode cX11_tell 0 = .ok (.aload_n 0, 1) := by decide +kernel
theorem dX11_tell_1 : decode cX11_tell 1 = .ok (.iload_n 1, 1) := by decide +kernel
theorem dX11_tell_2 : decode cX11_tell 2 = .ok (.invokevirtual 224, 3) := by decide +kernel
theorem dX11_tell_5 : decode cX11_tell 5 = .ok (.ifCond .ne 9, 3) := by decide +kernel
theorem dX11_tell_8 : decode cX11_tell 8 = .ok (.aload_n 0, 1) := by decide +kernel
theorem dX11_tell_9 : decode cX11_tell 9 = .ok (.iconst 1, 1) := by decide +kernel
theorem dX11_tell_10 : decode cX11_tell 10 = .ok (.invokevirtual 238, 3) := by decide +kernel
theorem dX11_tell_13 : decode cX11_tell 13 = .ok (.ireturn, 1) := by decide +kernel
theorem dX11_tell_14 : decode cX11_tell 14 = .ok (.lload_n 2, 1) := by decide +kernel
theorem dX11_tell_15 : decode cX11_tell 15 = .ok (.lconst 0, 1) := by decide +kernel
theorem dX11_tell_16 : decode cX11_tell 16 = .ok (.lcmp, 1) := by decide +kernel
theorem dX11_tell_17 : decode cX11_tell 17 = .ok (.ifCond .ge 9, 3) := by decide +kernel
theorem dX11_tell_20 : decode cX11_tell 20 = .ok (.aload_n 0, 1) := by decide +kernel
theorem dX11_tell_21 : decode cX11_tell 21 = .ok (.iconst 5, 1) := by decide +kernel
theorem dX11_tell_22 : decode cX11_tell 22 = .ok (.invokevirtual 238, 3) := by decide +kernel
theorem dX11_tell_25 : decode cX11_tell 25 = .ok (.ireturn, 1) := by decide +kernel
theorem dX11_tell_26 : decode cX11_tell 26 = .ok (.aload_n 0, 1) := by decide +kernel
theorem dX11_tell_27 : decode cX11_tell 27 = .ok (.getfield 160, 3) := by decide +kernel
theorem dX11_tell_30 : decode cX11_tell 30 = .ok (.iload_n 1, 1) := by decide +kernel
theorem dX11_tell_31 : decode cX11_tell 31 = .ok (.lload_n 2, 1) := by decide +kernel
theorem dX11_tell_32 : decode cX11_tell 32 = .ok (.lastore, 1) := by decide +kernel
theorem dX11_tell_33 : decode cX11_tell 33 = .ok (.aload_n 0, 1) := by decide +kernel
theorem dX11_tell_34 : decode cX11_tell 34 = .ok (.iconst 0, 1) := by decide +kernel
theorem dX11_tell_35 : decode cX11_tell 35 = .ok (.putfield 163, 3) := by decide +kernel
theorem dX11_tell_38 : decode cX11_tell 38 = .ok (.iconst 1, 1) := by decide +kernel
theorem dX11_tell_39 : decode cX11_tell 39 = .ok (.ireturn, 1) := by decide +kernel
theorem dX11_check_0 : decode cX11_check 0 = .ok (.iconst 0, 1) := by decide +kernel
theorem dX11_check_1 : decode cX11_check 1 = .ok (.istore_n 3, 1) := by decide +kernel
theorem dX11_check_2 : decode cX11_check 2 = .ok (.aload_n 0, 1) := by decide +kernel
theorem dX11_check_3 : decode cX11_check 3 = .ok (.getfield 169, 3) := by decide +kernel
theorem dX11_check_6 : decode cX11_check 6 = .ok (.istore 4, 2) := by decide +kernel
theorem dX11_check_8 : decode cX11_check 8 = .ok (.iload 4, 2) := by decide +kernel
theorem dX11_check_10 : decode cX11_check 10 = .ok (.ifCond .le 48, 3) := by decide +kernel
theorem dX11_check_13 : decode cX11_check 13 = .ok (.aload_n 0, 1) := by decide +kernel
theorem dX11_check_14 : decode cX11_check 14 = .ok (.getfield 26, 3) := by decide +kernel
theorem dX11_check_17 : decode cX11_check 17 = .ok (.iload 4, 2) := by decide +kernel
theorem dX11_check_19 : decode cX11_check 19 = .ok (.iaload, 1) := by decide +kernel
theorem dX11_check_20 : decode cX11_check 20 = .ok (.ifCond .ne 24, 3) := by decide +kernel
theorem dX11_check_23 : decode cX11_check 23 = .ok (.aload_n 0, 1) := by decide +kernel
theorem dX11_check_24 : decode cX11_check 24 = .ok (.getfield 160, 3) := by decide +kernel
theorem dX11_check_27 : decode cX11_check 27 = .ok (.iload 4, 2) := by decide +kernel
theorem dX11_check_29 : decode cX11_check 29 = .ok (.laload, 1) := by decide +kernel
theorem dX11_check_30 : decode cX11_check 30 = .ok (.aload_n 0, 1) := by decide +kernel
theorem dX11_check_31 : decode cX11_check 31 = .ok (.getfield 157, 3) := by decide +kernel
theorem dX11_check_34 : decode cX11_check 34 = .ok (.iload 4, 2) := by decide +kernel
theorem dX11_check_36 : decode cX11_check 36 = .ok (.laload, 1) := by decide +kernel
theorem dX11_check_37 : decode cX11_check 37 = .ok (.lcmp, 1) := by decide +kernel
theorem dX11_check_38 : decode cX11_check 38 = .ok (.ifCond .eq 6, 3) := by decide +kernel
theorem dX11_check_41 : decode cX11_check 41 = .ok (.iload 4, 2) := by decide +kernel
theorem dX11_check_43 : decode cX11_check 43 = .ok (.istore_n 3, 1) := by decide +kernel
theorem dX11_check_44 : decode cX11_check 44 = .ok (.aload_n 0, 1) := by decide +kernel
theorem dX11_check_45 : decode cX11_check 45 = .ok (.getfield 160, 3) := by decide +kernel
theorem dX11_check_48 : decode cX11_check 48 = .ok (.iload 4, 2) := by decide +kernel
theorem dX11_check_50 : decode cX11_check 50 = .ok (.lconst 0, 1) := by decide +kernel
theorem dX11_check_51 : decode cX11_check 51 = .ok (.lastore, 1) := by decide +kernel
theorem dX11_check_52 : decode cX11_check 52 = .ok (.iinc 4 (-1), 3) := by decide +kernel
theorem dX11_check_55 : decode cX11_check 55 = .ok (.goto (-47), 3) := by decide +kernel
theorem dX11_check_58 : decode cX11_check 58 = .ok (.aload_n 0, 1) := by decide +kernel
theorem dX11_check_59 : decode cX11_check 59 = .ok (.iconst 0, 1) := by decide +kernel
theorem dX11_check_60 : decode cX11_check 60 = .ok (.putfield 163, 3) := by decide +kernel
theorem dX11_check_63 : decode cX11_check 63 = .ok (.iload_n 3, 1) := by decide +kernel
theorem dX11_check_64 : decode cX11_check 64 = .ok (.ifCond .eq 7, 3) := by decide +kernel
theorem dX11_check_67 : decode cX11_check 67 = .ok (.iload_n 3, 1) := by decide +kernel
theorem dX11_check_68 : decode cX11_check 68 = .ok (.goto 17, 3) := by decide +kernel
theorem dX11_check_71 : decode cX11_check 71 = .ok (.lload_n 1, 1) := by decide +kernel
theorem dX11_check_72 : decode cX11_check 72 = .ok (.aload_n 0, 1) := by decide +kernel
theorem dX11_check_73 : decode cX11_check 73 = .ok (.getfield 350, 3) := by decide +kernel
theorem dX11_check_76 : decode cX11_check 76 = .ok (.lcmp, 1) := by decide +kernel
theorem dX11_check_77 : decode cX11_check 77 = .ok (.ifCond .ne 7, 3) := by decide +kernel
theorem dX11_check_80 : decode cX11_check 80 = .ok (.iconst 0, 1) := by decide +kernel
theorem dX11_check_81 : decode cX11_check 81 = .ok (.goto 4, 3) := by decide +kernel
theorem dX11_check_84 : decode cX11_check 84 = .ok (.iconst (-1), 1) := by decide +kernel
theorem dX11_check_85 : decode cX11_check 85 = .ok (.ireturn, 1) := by decide +kernel
theorem dX11_kind_0 : decode cX11_kind 0 = .ok (.aload_n 0, 1) := by decide +kernel
theorem dX11_kind_1 : decode cX11_kind 1 = .ok (.iload_n 1, 1) := by decide +kernel
theorem dX11_kind_2 : decode cX11_kind 2 = .ok (.invokevirtual 224, 3) := by decide +kernel
theorem dX11_kind_5 : decode cX11_kind 5 = .ok (.ifCond .ne 5, 3) := by decide +kernel
theorem dX11_kind_8 : decode cX11_kind 8 = .ok (.iconst (-1), 1) := by decide +kernel
theorem dX11_kind_9 : decode cX11_kind 9 = .ok (.ireturn, 1) := by decide +kernel
theorem dX11_kind_10 : decode cX11_kind 10 = .ok (.aload_n 0, 1) := by decide +kernel
theorem dX11_kind_11 : decode cX11_kind 11 = .ok (.getfield 23, 3) := by decide +kernel
theorem dX11_kind_14 : decode cX11_kind 14 = .ok (.iload_n 1, 1) := by decide +kernel
theorem dX11_kind_15 : decode cX11_kind 15 = .ok (.iaload, 1) := by decide +kernel
theorem dX11_kind_16 : decode cX11_kind 16 = .ok (.istore_n 3, 1) := by decide +kernel
theorem dX11_kind_17 : decode cX11_kind 17 = .ok (.iload_n 2, 1) := by decide +kernel
theorem dX11_kind_18 : decode cX11_kind 18 = .ok (.tableswitch 141 0 9 #[54, 61, 68, 70, 77, 84, 98, 105, 112, 127], 54) := by decide +kernel
theorem dX11_kind_72 : decode cX11_kind 72 = .ok (.aload_n 0, 1) := by decide +kernel
theorem dX11_kind_73 : decode cX11_kind 73 = .ok (.getfield 17, 3) := by decide +kernel
theorem dX11_kind_76 : decode cX11_kind 76 = .ok (.iload_n 1, 1) := by decide +kernel
theorem dX11_kind_77 : decode cX11_kind 77 = .ok (.iaload, 1) := by decide +kernel
theorem dX11_kind_78 : decode cX11_kind 78 = .ok (.ireturn, 1) := by decide +kernel
theorem dX11_kind_79 : decode cX11_kind 79 = .ok (.aload_n 0, 1) := by decide +kernel
theorem dX11_kind_80 : decode cX11_kind 80 = .ok (.getfield 20, 3) := by decide +kernel
theorem dX11_kind_83 : decode cX11_kind 83 = .ok (.iload_n 1, 1) := by decide +kernel
theorem dX11_kind_84 : decode cX11_kind 84 = .ok (.iaload, 1) := by decide +kernel
theorem dX11_kind_85 : decode cX11_kind 85 = .ok (.ireturn, 1) := by decide +kernel
theorem dX11_kind_86 : decode cX11_kind 86 = .ok (.iload_n 3, 1) := by decide +kernel
theorem dX11_kind_87 : decode cX11_kind 87 = .ok (.ireturn, 1) := by decide +kernel
theorem dX11_kind_88 : decode cX11_kind 88 = .ok (.aload_n 0, 1) := by decide +kernel
theorem dX11_kind_89 : decode cX11_kind 89 = .ok (.getfield 26, 3) := by decide +kernel
theorem dX11_kind_92 : decode cX11_kind 92 = .ok (.iload_n 1, 1) := by decide +kernel
theorem dX11_kind_93 : decode cX11_kind 93 = .ok (.iaload, 1) := by decide +kernel
theorem dX11_kind_94 : decode cX11_kind 94 = .ok (.ireturn, 1) := by decide +kernel
theorem dX11_kind_95 : decode cX11_kind 95 = .ok (.aload_n 0, 1) := by decide +kernel
theorem dX11_kind_96 : decode cX11_kind 96 = .ok (.getfield 29, 3) := by decide +kernel
theorem dX11_kind_99 : decode cX11_kind 99 = .ok (.iload_n 1, 1) := by decide +kernel
theorem dX11_kind_100 : decode cX11_kind 100 = .ok (.iaload, 1) := by decide +kernel
theorem dX11_kind_101 : decode cX11_kind 101 = .ok (.ireturn, 1) := by decide +kernel
theorem dX11_kind_102 : decode cX11_kind 102 = .ok (.aload_n 0, 1) := by decide +kernel
theorem dX11_kind_103 : decode cX11_kind 103 = .ok (.iload_n 1, 1) := by decide +kernel
theorem dX11_kind_104 : decode cX11_kind 104 = .ok (.invokevirtual 260, 3) := by decide +kernel
theorem dX11_kind_107 : decode cX11_kind 107 = .ok (.ifCond .eq 7, 3) := by decide +kernel
theorem dX11_kind_110 : decode cX11_kind 110 = .ok (.iconst 1, 1) := by decide +kernel
theorem dX11_kind_111 : decode cX11_kind 111 = .ok (.goto 4, 3) := by decide +kernel
theorem dX11_kind_114 : decode cX11_kind 114 = .ok (.iconst 0, 1) := by decide +kernel
theorem dX11_kind_115 : decode cX11_kind 115 = .ok (.ireturn, 1) := by decide +kernel
theorem dX11_kind_116 : decode cX11_kind 116 = .ok (.aload_n 0, 1) := by decide +kernel
theorem dX11_kind_117 : decode cX11_kind 117 = .ok (.getfield 48, 3) := by decide +kernel
theorem dX11_kind_120 : decode cX11_kind 120 = .ok (.iload_n 3, 1) := by decide +kernel
theorem dX11_kind_121 : decode cX11_kind 121 = .ok (.iaload, 1) := by decide +kernel
theorem dX11_kind_122 : decode cX11_kind 122 = .ok (.ireturn, 1) := by decide +kernel
theorem dX11_kind_123 : decode cX11_kind 123 = .ok (.aload_n 0, 1) := by decide +kernel
theorem dX11_kind_124 : decode cX11_kind 124 = .ok (.getfield 51, 3) := by decide +kernel
theorem dX11_kind_127 : decode cX11_kind 127 = .ok (.iload_n 3, 1) := by decide +kernel
theorem dX11_kind_128 : decode cX11_kind 128 = .ok (.iaload, 1) := by decide +kernel
theorem dX11_kind_129 : decode cX11_kind 129 = .ok (.ireturn, 1) := by decide +kernel
theorem dX11_kind_130 : decode cX11_kind 130 = .ok (.aload_n 0, 1) := by decide +kernel
theorem dX11_kind_131 : decode cX11_kind 131 = .ok (.getfield 36, 3) := by decide +kernel
theorem dX11_kind_134 : decode cX11_kind 134 = .ok (.iload_n 1, 1) := by decide +kernel
theorem dX11_kind_135 : decode cX11_kind 135 = .ok (.iaload, 1) := by decide +kernel
theorem dX11_kind_136 : decode cX11_kind 136 = .ok (.ifCond .eq 7, 3) := by decide +kernel
theorem dX11_kind_139 : decode cX11_kind 139 = .ok (.iconst 2, 1) := by decide +kernel
theorem dX11_kind_140 : decode cX11_kind 140 = .ok (.goto 4, 3) := by decide +kernel
theorem dX11_kind_143 : decode cX11_kind 143 = .ok (.iconst 0, 1) := by decide +kernel
theorem dX11_kind_144 : decode cX11_kind 144 = .ok (.ireturn, 1) := by decide +kernel
theorem dX11_kind_145 : decode cX11_kind 145 = .ok (.aload_n 0, 1) := by decide +kernel
theorem dX11_kind_146 : decode cX11_kind 146 = .ok (.getfield 81, 3) := by decide +kernel
theorem dX11_kind_149 : decode cX11_kind 149 = .ok (.iload_n 1, 1) := by decide +kernel
theorem dX11_kind_150 : decode cX11_kind 150 = .ok (.iaload, 1) := by decide +kernel
theorem dX11_kind_151 : decode cX11_kind 151 = .ok (.aload_n 0, 1) := by decide +kernel
theorem dX11_kind_152 : decode cX11_kind 152 = .ok (.getfield 84, 3) := by decide +kernel
theorem dX11_kind_155 : decode cX11_kind 155 = .ok (.iload_n 1, 1) := by decide +kernel
theorem dX11_kind_156 : decode cX11_kind 156 = .ok (.iaload, 1) := by decide +kernel
theorem dX11_kind_157 : decode cX11_kind 157 = .ok (.iadd, 1) := by decide +kernel
theorem dX11_kind_158 : decode cX11_kind 158 = .ok (.ireturn, 1) := by decide +kernel
theorem dX11_kind_159 : decode cX11_kind 159 = .ok (.iconst (-1), 1) := by decide +kernel
theorem dX11_kind_160 : decode cX11_kind 160 = .ok (.ireturn, 1) := by decide +kernel
theorem dX11_sum_0 : decode cX11_sum 0 = .ok (.aload_n 0, 1) := by decide +kernel
theorem dX11_sum_1 : decode cX11_sum 1 = .ok (.iload_n 1, 1) := by decide +kernel
theorem dX11_sum_2 : decode cX11_sum 2 = .ok (.invokevirtual 224, 3) := by decide +kernel
theorem dX11_sum_5 : decode cX11_sum 5 = .ok (.ifCond .eq 11, 3) := by decide +kernel
theorem dX11_sum_8 : decode cX11_sum 8 = .ok (.aload_n 0, 1) := by decide +kernel
theorem dX11_sum_9 : decode cX11_sum 9 = .ok (.iload_n 1, 1) := by decide +kernel
theorem dX11_sum_10 : decode cX11_sum 10 = .ok (.invokevirtual 263, 3) := by decide +kernel
theorem dX11_sum_13 : decode cX11_sum 13 = .ok (.goto 6, 3) := by decide +kernel
theorem dX11_sum_16 : decode cX11_sum 16 = .ok (.ldc2_w 227, 3) := by decide +kernel
theorem dX11_sum_19 : decode cX11_sum 19 = .ok (.lreturn, 1) := by decide +kernel
theorem dX11_parcels_0 : decode cX11_parcels 0 = .ok (.lconst 0, 1) := by decide +kernel
theorem dX11_parcels_1 : decode cX11_parcels 1 = .ok (.lstore_n 2, 1) := by decide +kernel
theorem dX11_parcels_2 : decode cX11_parcels 2 = .ok (.aload_n 0, 1) := by decide +kernel
theorem dX11_parcels_3 : decode cX11_parcels 3 = .ok (.invokevirtual 257, 3) := by decide +kernel
theorem dX11_parcels_6 : decode cX11_parcels 6 = .ok (.iconst 0, 1) := by decide +kernel
theorem dX11_parcels_7 : decode cX11_parcels 7 = .ok (.istore 4, 2) := by decide +kernel
theorem dX11_parcels_9 : decode cX11_parcels 9 = .ok (.aload_n 0, 1) := by decide +kernel
theorem dX11_parcels_10 : decode cX11_parcels 10 = .ok (.iload_n 1, 1) := by decide +kernel
theorem dX11_parcels_11 : decode cX11_parcels 11 = .ok (.invokevirtual 224, 3) := by decide +kernel
theorem dX11_parcels_14 : decode cX11_parcels 14 = .ok (.ifCond .eq 46, 3) := by decide +kernel
theorem dX11_parcels_17 : decode cX11_parcels 17 = .ok (.iload 4, 2) := by decide +kernel
theorem dX11_parcels_19 : decode cX11_parcels 19 = .ok (.aload_n 0, 1) := by decide +kernel
theorem dX11_parcels_20 : decode cX11_parcels 20 = .ok (.getfield 7, 3) := by decide +kernel
theorem dX11_parcels_23 : decode cX11_parcels 23 = .ok (.aload_n 0, 1) := by decide +kernel
theorem dX11_parcels_24 : decode cX11_parcels 24 = .ok (.getfield 20, 3) := by decide +kernel
theorem dX11_parcels_27 : decode cX11_parcels 27 = .ok (.iload_n 1, 1) := by decide +kernel
theorem dX11_parcels_28 : decode cX11_parcels 28 = .ok (.iaload, 1) := by decide +kernel
theorem dX11_parcels_29 : decode cX11_parcels 29 = .ok (.iaload, 1) := by decide +kernel
theorem dX11_parcels_30 : decode cX11_parcels 30 = .ok (.if_icmp .ge 30, 3) := by decide +kernel
theorem dX11_parcels_33 : decode cX11_parcels 33 = .ok (.lload_n 2, 1) := by decide +kernel
theorem dX11_parcels_34 : decode cX11_parcels 34 = .ok (.aload_n 0, 1) := by decide +kernel
theorem dX11_parcels_35 : decode cX11_parcels 35 = .ok (.iload_n 1, 1) := by decide +kernel
theorem dX11_parcels_36 : decode cX11_parcels 36 = .ok (.iload 4, 2) := by decide +kernel
theorem dX11_parcels_38 : decode cX11_parcels 38 = .ok (.invokevirtual 293, 3) := by decide +kernel
theorem dX11_parcels_41 : decode cX11_parcels 41 = .ok (.ifCond .eq 10, 3) := by decide +kernel
theorem dX11_parcels_44 : decode cX11_parcels 44 = .ok (.lconst 1, 1) := by decide +kernel
theorem dX11_parcels_45 : decode cX11_parcels 45 = .ok (.iload 4, 2) := by decide +kernel
theorem dX11_parcels_47 : decode cX11_parcels 47 = .ok (.lshl, 1) := by decide +kernel
theorem dX11_parcels_48 : decode cX11_parcels 48 = .ok (.goto 4, 3) := by decide +kernel
theorem dX11_parcels_51 : decode cX11_parcels 51 = .ok (.lconst 0, 1) := by decide +kernel
theorem dX11_parcels_52 : decode cX11_parcels 52 = .ok (.lor, 1) := by decide +kernel
theorem dX11_parcels_53 : decode cX11_parcels 53 = .ok (.lstore_n 2, 1) := by decide +kernel
theorem dX11_parcels_54 : decode cX11_parcels 54 = .ok (.iinc 4 1, 3) := by decide +kernel
theorem dX11_parcels_57 : decode cX11_parcels 57 = .ok (.goto (-48), 3) := by decide +kernel
theorem dX11_parcels_60 : decode cX11_parcels 60 = .ok (.lload_n 2, 1) := by decide +kernel
theorem dX11_parcels_61 : decode cX11_parcels 61 = .ok (.lreturn, 1) := by decide +kernel
theorem dX11_status_0 : decode cX11_status 0 = .ok (.aload_n 0, 1) := by decide +kernel
theorem dX11_status_1 : decode cX11_status 1 = .ok (.getfield 163, 3) := by decide +kernel
theorem dX11_status_4 : decode cX11_status 4 = .ok (.ireturn, 1) := by decide +kernel
theorem dX11_count_0 : decode cX11_count 0 = .ok (.iload_n 1, 1) := by decide +kernel
theorem dX11_count_1 : decode cX11_count 1 = .ok (.tableswitch 78 0 6 #[43, 48, 53, 58, 63, 68, 73], 43) := by decide +kernel
theorem dX11_count_44 : decode cX11_count 44 = .ok (.aload_n 0, 1) := by decide +kernel
theorem dX11_count_45 : decode cX11_count 45 = .ok (.getfield 166, 3) := by decide +kernel
theorem dX11_count_48 : decode cX11_count 48 = .ok (.ireturn, 1) := by decide +kernel
theorem dX11_count_49 : decode cX11_count 49 = .ok (.aload_n 0, 1) := by decide +kernel
theorem dX11_count_50 : decode cX11_count 50 = .ok (.getfield 172, 3) := by decide +kernel
theorem dX11_count_53 : decode cX11_count 53 = .ok (.ireturn, 1) := by decide +kernel
theorem dX11_count_54 : decode cX11_count 54 = .ok (.aload_n 0, 1) := by decide +kernel
theorem dX11_count_55 : decode cX11_count 55 = .ok (.getfield 169, 3) := by decide +kernel
theorem dX11_count_58 : decode cX11_count 58 = .ok (.ireturn, 1) := by decide +kernel
theorem dX11_count_59 : decode cX11_count 59 = .ok (.aload_n 0, 1) := by decide +kernel
theorem dX11_count_60 : decode cX11_count 60 = .ok (.getfield 275, 3) := by decide +kernel
theorem dX11_count_63 : decode cX11_count 63 = .ok (.ireturn, 1) := by decide +kernel
theorem dX11_count_64 : decode cX11_count 64 = .ok (.aload_n 0, 1) := by decide +kernel
theorem dX11_count_65 : decode cX11_count 65 = .ok (.invokevirtual 252, 3) := by decide +kernel
theorem dX11_count_68 : decode cX11_count 68 = .ok (.ireturn, 1) := by decide +kernel
theorem dX11_count_69 : decode cX11_count 69 = .ok (.aload_n 0, 1) := by decide +kernel
theorem dX11_count_70 : decode cX11_count 70 = .ok (.getfield 362, 3) := by decide +kernel
theorem dX11_count_73 : decode cX11_count 73 = .ok (.ireturn, 1) := by decide +kernel
theorem dX11_count_74 : decode cX11_count 74 = .ok (.aload_n 0, 1) := by decide +kernel
theorem dX11_count_75 : decode cX11_count 75 = .ok (.getfield 290, 3) := by decide +kernel
theorem dX11_count_78 : decode cX11_count 78 = .ok (.ireturn, 1) := by decide +kernel
theorem dX11_count_79 : decode cX11_count 79 = .ok (.iconst (-1), 1) := by decide +kernel
theorem dX11_count_80 : decode cX11_count 80 = .ok (.ireturn, 1) := by decide +kernel
