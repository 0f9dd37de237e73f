abbrev mL_law : Mt := (yL_law, cL_law, 4, some .boolean, 7, 175)
theorem sn_lawret {G : GG} {pc : Nat} {L : LL} {H : Hp} (hd : decode code pc = .ok (.ireturn, 1)) : Sn G TL mL_law pc L [.int 1] H := by
  intro p l e R s m args below meth cd hp locs ls X hP hH hS hl hL
  obtain ⟨hx, hb, -, hret, hlk, -, -, -, -, -, -, -, -, -, hR, b, hb2⟩ := id X
  subst hR
  subst hb2
  refine va_forget (fun q hq => hS.2.2 q hq) ?_
  exact lw_ret hx hb hret hlk hd
theorem mlL_13 : Cond.methodLink RL 13 yX9_write ∈ gW := gW_at 216 (by decide +kernel)
theorem mlL_17 : Cond.methodLink RL 17 yX10_write ∈ gW := gW_at 737 (by decide +kernel)
theorem mlL_18 : Cond.methodLink RL 18 yX9_wipe ∈ gW := gW_at 224 (by decide +kernel)
theorem mlL_22 : Cond.methodLink RL 22 yX10_wipe ∈ gW := gW_at 745 (by decide +kernel)
theorem mlL_23 : Cond.methodLink RL 23 yX9_fault ∈ gW := gW_at 228 (by decide +kernel)
theorem mlL_26 : Cond.methodLink RL 26 yX10_fault ∈ gW := gW_at 749 (by decide +kernel)
theorem mlL_27 : Cond.methodLink RL 27 yX9_surface ∈ gW := gW_at 243 (by decide +kernel)
theorem mlL_30 : Cond.methodLink RL 30 yX10_surface ∈ gW := gW_at 758 (by decide +kernel)
theorem mlL_31 : Cond.methodLink RL 31 yX9_about ∈ gW := gW_at 282 (by decide +kernel)
theorem mlL_34 : Cond.methodLink RL 34 yX10_about ∈ gW := gW_at 781 (by decide +kernel)
theorem mlL_35 : Cond.methodLink RL 35 yX9_go ∈ gW := gW_at 371 (by decide +kernel)
theorem mlL_39 : Cond.methodLink RL 39 yX10_go ∈ gW := gW_at 837 (by decide +kernel)
theorem mlL_40 : Cond.methodLink RL 40 yX9_walk ∈ gW := gW_at 383 (by decide +kernel)
theorem mlL_43 : Cond.methodLink RL 43 yX10_walk ∈ gW := gW_at 846 (by decide +kernel)
theorem mlL_44 : Cond.methodLink RL 44 yX9_square ∈ gW := gW_at 395 (by decide +kernel)
theorem mlL_47 : Cond.methodLink RL 47 yX10_square ∈ gW := gW_at 857 (by decide +kernel)
theorem mlL_48 : Cond.methodLink RL 48 yX9_name ∈ gW := gW_at 414 (by decide +kernel)
theorem mlL_52 : Cond.methodLink RL 52 yX10_name ∈ gW := gW_at 867 (by decide +kernel)
theorem mlL_53 : Cond.methodLink RL 53 yX9_shear ∈ gW := gW_at 437 (by decide +kernel)
theorem mlL_56 : Cond.methodLink RL 56 yX10_shear ∈ gW := gW_at 886 (by decide +kernel)
theorem mlL_57 : Cond.methodLink RL 57 yX9_trade ∈ gW := gW_at 453 (by decide +kernel)
theorem mlL_60 : Cond.methodLink RL 60 yX10_trade ∈ gW := gW_at 915 (by decide +kernel)
theorem mlL_61 : Cond.methodLink RL 61 yX9_undo ∈ gW := gW_at 461 (by decide +kernel)
theorem mlL_64 : Cond.methodLink RL 64 yX10_undo ∈ gW := gW_at 926 (by decide +kernel)
theorem mlL_65 : Cond.methodLink RL 65 yX9_orbit ∈ gW := gW_at 473 (by decide +kernel)
theorem mlL_68 : Cond.methodLink RL 68 yX10_orbit ∈ gW := gW_at 930 (by decide +kernel)
theorem mlL_69 : Cond.methodLink RL 69 yX9_alike ∈ gW := gW_at 507 (by decide +kernel)
theorem mlL_73 : Cond.methodLink RL 73 yX10_alike ∈ gW := gW_at 954 (by decide +kernel)
theorem mlL_76 : Cond.methodLink RL 76 yX9_judge ∈ gW := gW_at 512 (by decide +kernel)
theorem mlL_80 : Cond.methodLink RL 80 yX10_judge ∈ gW := gW_at 958 (by decide +kernel)
theorem mlL_81 : Cond.methodLink RL 81 yX9_share ∈ gW := gW_at 537 (by decide +kernel)
theorem mlL_85 : Cond.methodLink RL 85 yX10_share ∈ gW := gW_at 973 (by decide +kernel)
theorem mlL_86 : Cond.methodLink RL 86 yX9_see ∈ gW := gW_at 566 (by decide +kernel)
theorem mlL_89 : Cond.methodLink RL 89 yX10_see ∈ gW := gW_at 995 (by decide +kernel)
theorem mlL_90 : Cond.methodLink RL 90 yX9_unsee ∈ gW := gW_at 574 (by decide +kernel)
theorem mlL_93 : Cond.methodLink RL 93 yX10_unsee ∈ gW := gW_at 999 (by decide +kernel)
theorem mlL_94 : Cond.methodLink RL 94 yX9_which ∈ gW := gW_at 578 (by decide +kernel)
theorem mlL_97 : Cond.methodLink RL 97 yX10_which ∈ gW := gW_at 1003 (by decide +kernel)
theorem mlL_98 : Cond.methodLink RL 98 yX9_opens ∈ gW := gW_at 594 (by decide +kernel)
theorem mlL_101 : Cond.methodLink RL 101 yX10_opens ∈ gW := gW_at 1007 (by decide +kernel)
theorem mlL_102 : Cond.methodLink RL 102 yX9_seed ∈ gW := gW_at 610 (by decide +kernel)
theorem mlL_106 : Cond.methodLink RL 106 yX10_seed ∈ gW := gW_at 1011 (by decide +kernel)
theorem mlL_107 : Cond.methodLink RL 107 yX9_drawn ∈ gW := gW_at 614 (by decide +kernel)
theorem mlL_110 : Cond.methodLink RL 110 yX10_drawn ∈ gW := gW_at 1015 (by decide +kernel)
theorem mlL_111 : Cond.methodLink RL 111 yX9_keep ∈ gW := gW_at 631 (by decide +kernel)
theorem mlL_114 : Cond.methodLink RL 114 yX10_keep ∈ gW := gW_at 1022 (by decide +kernel)
theorem mlL_115 : Cond.methodLink RL 115 yX9_again ∈ gW := gW_at 643 (by decide +kernel)
theorem mlL_118 : Cond.methodLink RL 118 yX10_again ∈ gW := gW_at 1026 (by decide +kernel)
theorem kcL_74 : Cond.constantLong RL 74 (4294967295) ∈ gW := gW_at 1030 (by decide +kernel)
theorem kL_law_18_0 : decB cL_law 18 [(.iload_n 3, .null), (.aload_n 0, .null)] = true := by decide +kernel
theorem kL_law_18_1 : decB cL_law 21 [(.iconst 4, .int 4), (.isub, .null)] = true := by decide +kernel
theorem kL_law_18_2 : decB cL_law 856 [(.iconst 1, .int 1)] = true := by decide +kernel
theorem kL_law_18_3 : decB cL_law 26 [(.aload_n 0, .null), (.iload_n 3, .null)] = true := by decide +kernel
theorem kL_law_18_4 : decB cL_law 29 [(.bipush 31, .int 31), (.iand, .null)] = true := by decide +kernel
theorem kL_law_18_5 : decB cL_law 144 [(.aload_n 1, .null), (.aload_n 0, .null), (.iload_n 3, .null), (.iconst 1, .int 1), (.iadd, .null)] = true := by decide +kernel
theorem kL_law_18_6 : decB cL_law 153 [(.aload_n 2, .null), (.aload_n 0, .null), (.iload_n 3, .null), (.iconst 1, .int 1), (.iadd, .null)] = true := by decide +kernel
theorem kL_law_18_7 : decB cL_law 850 [(.iinc 3 4, .int 4), (.goto (-835), .retAddr 18)] = true := by decide +kernel
theorem kL_law_18_8 : decB cL_law 165 [(.iconst 0, .int 0)] = true := by decide +kernel
theorem kL_law_18_9 : decB cL_law 167 [(.aload_n 1, .null)] = true := by decide +kernel
theorem kL_law_18_10 : decB cL_law 171 [(.aload_n 2, .null)] = true := by decide +kernel
theorem kL_law_18_11 : decB cL_law 850 [(.iinc 3 4, .int 4), (.goto (-835), .retAddr 18)] = true := by decide +kernel
theorem kL_law_18_12 : decB cL_law 178 [(.iconst 0, .int 0)] = true := by decide +kernel
theorem kL_law_18_13 : decB cL_law 180 [(.aload_n 1, .null)] = true := by decide +kernel
theorem kL_law_18_14 : decB cL_law 184 [(.aload_n 2, .null)] = true := by decide +kernel
theorem kL_law_18_15 : decB cL_law 850 [(.iinc 3 4, .int 4), (.goto (-835), .retAddr 18)] = true := by decide +kernel
theorem kL_law_18_16 : decB cL_law 191 [(.iconst 0, .int 0)] = true := by decide +kernel
theorem kL_law_18_17 : decB cL_law 193 [(.aload_n 1, .null)] = true := by decide +kernel
theorem kL_law_18_18 : decB cL_law 197 [(.aload_n 2, .null)] = true := by decide +kernel
theorem kL_law_18_19 : decB cL_law 850 [(.iinc 3 4, .int 4), (.goto (-835), .retAddr 18)] = true := by decide +kernel
theorem kL_law_18_20 : decB cL_law 204 [(.iconst 0, .int 0)] = true := by decide +kernel
theorem kL_law_18_21 : decB cL_law 206 [(.aload_n 1, .null), (.aload_n 0, .null), (.iload_n 3, .null), (.iconst 1, .int 1), (.iadd, .null)] = true := by decide +kernel
theorem kL_law_18_22 : decB cL_law 215 [(.aload_n 2, .null), (.aload_n 0, .null), (.iload_n 3, .null), (.iconst 1, .int 1), (.iadd, .null)] = true := by decide +kernel
theorem kL_law_18_23 : decB cL_law 850 [(.iinc 3 4, .int 4), (.goto (-835), .retAddr 18)] = true := by decide +kernel
theorem kL_law_18_24 : decB cL_law 227 [(.iconst 0, .int 0)] = true := by decide +kernel
theorem kL_law_18_25 : decB cL_law 229 [(.aload_n 1, .null), (.aload_n 0, .null), (.iload_n 3, .null), (.iconst 1, .int 1), (.iadd, .null)] = true := by decide +kernel
theorem kL_law_18_26 : decB cL_law 235 [(.aload_n 0, .null), (.iload_n 3, .null), (.iconst 2, .int 2), (.iadd, .null)] = true := by decide +kernel
theorem kL_law_18_27 : decB cL_law 243 [(.aload_n 2, .null), (.aload_n 0, .null), (.iload_n 3, .null), (.iconst 1, .int 1), (.iadd, .null)] = true := by decide +kernel
theorem kL_law_18_28 : decB cL_law 249 [(.aload_n 0, .null), (.iload_n 3, .null), (.iconst 2, .int 2), (.iadd, .null)] = true := by decide +kernel
theorem kL_law_18_29 : decB cL_law 850 [(.iinc 3 4, .int 4), (.goto (-835), .retAddr 18)] = true := by decide +kernel
theorem kL_law_18_30 : decB cL_law 260 [(.iconst 0, .int 0)] = true := by decide +kernel
theorem kL_law_18_31 : decB cL_law 262 [(.aload_n 1, .null), (.aload_n 0, .null), (.iload_n 3, .null), (.iconst 1, .int 1), (.iadd, .null)] = true := by decide +kernel
theorem kL_law_18_32 : decB cL_law 268 [(.aload_n 0, .null), (.iload_n 3, .null), (.iconst 2, .int 2), (.iadd, .null)] = true := by decide +kernel
theorem kL_law_18_33 : decB cL_law 276 [(.aload_n 2, .null), (.aload_n 0, .null), (.iload_n 3, .null), (.iconst 1, .int 1), (.iadd, .null)] = true := by decide +kernel
theorem kL_law_18_34 : decB cL_law 282 [(.aload_n 0, .null), (.iload_n 3, .null), (.iconst 2, .int 2), (.iadd, .null)] = true := by decide +kernel
theorem kL_law_18_35 : decB cL_law 850 [(.iinc 3 4, .int 4), (.goto (-835), .retAddr 18)] = true := by decide +kernel
theorem kL_law_18_36 : decB cL_law 293 [(.iconst 0, .int 0)] = true := by decide +kernel
theorem kL_law_18_37 : decB cL_law 295 [(.aload_n 1, .null), (.aload_n 0, .null), (.iload_n 3, .null), (.iconst 1, .int 1), (.iadd, .null)] = true := by decide +kernel
theorem kL_law_18_38 : decB cL_law 301 [(.aload_n 0, .null), (.iload_n 3, .null), (.iconst 2, .int 2), (.iadd, .null)] = true := by decide +kernel
theorem kL_law_18_39 : decB cL_law 309 [(.aload_n 2, .null), (.aload_n 0, .null), (.iload_n 3, .null), (.iconst 1, .int 1), (.iadd, .null)] = true := by decide +kernel
theorem kL_law_18_40 : decB cL_law 315 [(.aload_n 0, .null), (.iload_n 3, .null), (.iconst 2, .int 2), (.iadd, .null)] = true := by decide +kernel
theorem kL_law_18_41 : decB cL_law 850 [(.iinc 3 4, .int 4), (.goto (-835), .retAddr 18)] = true := by decide +kernel
theorem kL_law_18_42 : decB cL_law 326 [(.iconst 0, .int 0)] = true := by decide +kernel
theorem kL_law_18_43 : decB cL_law 328 [(.aload_n 1, .null), (.aload_n 0, .null), (.iload_n 3, .null), (.iconst 1, .int 1), (.iadd, .null)] = true := by decide +kernel
theorem kL_law_18_44 : decB cL_law 334 [(.aload_n 0, .null), (.iload_n 3, .null), (.iconst 2, .int 2), (.iadd, .null)] = true := by decide +kernel
theorem kL_law_18_45 : decB cL_law 342 [(.aload_n 2, .null), (.aload_n 0, .null), (.iload_n 3, .null), (.iconst 1, .int 1), (.iadd, .null)] = true := by decide +kernel
theorem kL_law_18_46 : decB cL_law 348 [(.aload_n 0, .null), (.iload_n 3, .null), (.iconst 2, .int 2), (.iadd, .null)] = true := by decide +kernel
theorem kL_law_18_47 : decB cL_law 356 [(.lcmp, .null)] = true := by decide +kernel
theorem kL_law_18_48 : decB cL_law 850 [(.iinc 3 4, .int 4), (.goto (-835), .retAddr 18)] = true := by decide +kernel
theorem kL_law_18_49 : decB cL_law 360 [(.iconst 0, .int 0)] = true := by decide +kernel
theorem kL_law_18_50 : decB cL_law 362 [(.aload_n 1, .null), (.aload_n 0, .null), (.iload_n 3, .null), (.iconst 1, .int 1), (.iadd, .null)] = true := by decide +kernel
theorem kL_law_18_51 : decB cL_law 371 [(.aload_n 2, .null), (.aload_n 0, .null), (.iload_n 3, .null), (.iconst 1, .int 1), (.iadd, .null)] = true := by decide +kernel
theorem kL_law_18_52 : decB cL_law 850 [(.iinc 3 4, .int 4), (.goto (-835), .retAddr 18)] = true := by decide +kernel
theorem kL_law_18_53 : decB cL_law 383 [(.iconst 0, .int 0)] = true := by decide +kernel
theorem kL_law_18_54 : decB cL_law 385 [(.aload_n 1, .null), (.aload_n 0, .null), (.iload_n 3, .null), (.iconst 1, .int 1), (.iadd, .null)] = true := by decide +kernel
theorem kL_law_18_55 : decB cL_law 391 [(.aload_n 0, .null), (.iload_n 3, .null), (.iconst 2, .int 2), (.iadd, .null)] = true := by decide +kernel
theorem kL_law_18_56 : decB cL_law 399 [(.aload_n 2, .null), (.aload_n 0, .null), (.iload_n 3, .null), (.iconst 1, .int 1), (.iadd, .null)] = true := by decide +kernel
theorem kL_law_18_57 : decB cL_law 405 [(.aload_n 0, .null), (.iload_n 3, .null), (.iconst 2, .int 2), (.iadd, .null)] = true := by decide +kernel
theorem kL_law_18_58 : decB cL_law 850 [(.iinc 3 4, .int 4), (.goto (-835), .retAddr 18)] = true := by decide +kernel
theorem kL_law_18_59 : decB cL_law 416 [(.iconst 0, .int 0)] = true := by decide +kernel
theorem kL_law_18_60 : decB cL_law 418 [(.aload_n 1, .null)] = true := by decide +kernel
theorem kL_law_18_61 : decB cL_law 422 [(.aload_n 2, .null)] = true := by decide +kernel
theorem kL_law_18_62 : decB cL_law 850 [(.iinc 3 4, .int 4), (.goto (-835), .retAddr 18)] = true := by decide +kernel
theorem kL_law_18_63 : decB cL_law 429 [(.iconst 0, .int 0)] = true := by decide +kernel
theorem kL_law_18_64 : decB cL_law 431 [(.aload_n 1, .null), (.aload_n 0, .null), (.iload_n 3, .null), (.iconst 1, .int 1), (.iadd, .null)] = true := by decide +kernel
theorem kL_law_18_65 : decB cL_law 437 [(.aload_n 0, .null), (.iload_n 3, .null), (.iconst 2, .int 2), (.iadd, .null)] = true := by decide +kernel
theorem kL_law_18_66 : decB cL_law 445 [(.aload_n 2, .null), (.aload_n 0, .null), (.iload_n 3, .null), (.iconst 1, .int 1), (.iadd, .null)] = true := by decide +kernel
theorem kL_law_18_67 : decB cL_law 451 [(.aload_n 0, .null), (.iload_n 3, .null), (.iconst 2, .int 2), (.iadd, .null)] = true := by decide +kernel
theorem kL_law_18_68 : decB cL_law 850 [(.iinc 3 4, .int 4), (.goto (-835), .retAddr 18)] = true := by decide +kernel
theorem kL_law_18_69 : decB cL_law 462 [(.iconst 0, .int 0)] = true := by decide +kernel
theorem kL_law_18_70 : decB cL_law 464 [(.aload_n 1, .null), (.aload_n 0, .null), (.iload_n 3, .null), (.iconst 1, .int 1), (.iadd, .null)] = true := by decide +kernel
theorem kL_law_18_71 : decB cL_law 470 [(.aload_n 0, .null), (.iload_n 3, .null), (.iconst 2, .int 2), (.iadd, .null)] = true := by decide +kernel
theorem kL_law_18_72 : decB cL_law 475 [(.aload_n 0, .null), (.iload_n 3, .null), (.iconst 3, .int 3), (.iadd, .null)] = true := by decide +kernel
theorem kL_law_18_73 : decB cL_law 483 [(.aload_n 2, .null), (.aload_n 0, .null), (.iload_n 3, .null), (.iconst 1, .int 1), (.iadd, .null)] = true := by decide +kernel
theorem kL_law_18_74 : decB cL_law 489 [(.aload_n 0, .null), (.iload_n 3, .null), (.iconst 2, .int 2), (.iadd, .null)] = true := by decide +kernel
theorem kL_law_18_75 : decB cL_law 494 [(.aload_n 0, .null), (.iload_n 3, .null), (.iconst 3, .int 3), (.iadd, .null)] = true := by decide +kernel
theorem kL_law_18_76 : decB cL_law 850 [(.iinc 3 4, .int 4), (.goto (-835), .retAddr 18)] = true := by decide +kernel
theorem kL_law_18_77 : decB cL_law 505 [(.iconst 0, .int 0)] = true := by decide +kernel
theorem kL_law_18_78 : decB cL_law 507 [(.aload_n 1, .null), (.aload_n 0, .null), (.iload_n 3, .null), (.iconst 1, .int 1), (.iadd, .null)] = true := by decide +kernel
theorem kL_law_18_79 : decB cL_law 513 [(.aload_n 0, .null), (.iload_n 3, .null), (.iconst 2, .int 2), (.iadd, .null)] = true := by decide +kernel
theorem kL_law_18_80 : decB cL_law 518 [(.i2l, .null), (.bipush 32, .int 32), (.lshl, .null), (.aload_n 0, .null), (.iload_n 3, .null), (.iconst 3, .int 3), (.iadd, .null)] = true := by decide +kernel
theorem kL_law_18_81 : decB cL_law 527 [(.i2l, .null)] = true := by decide +kernel
theorem kL_law_18_82 : decB cL_law 531 [(.land, .null), (.lor, .null)] = true := by decide +kernel
theorem kL_law_18_83 : decB cL_law 536 [(.aload_n 2, .null), (.aload_n 0, .null), (.iload_n 3, .null), (.iconst 1, .int 1), (.iadd, .null)] = true := by decide +kernel
theorem kL_law_18_84 : decB cL_law 542 [(.aload_n 0, .null), (.iload_n 3, .null), (.iconst 2, .int 2), (.iadd, .null)] = true := by decide +kernel
theorem kL_law_18_85 : decB cL_law 547 [(.i2l, .null), (.bipush 32, .int 32), (.lshl, .null), (.aload_n 0, .null), (.iload_n 3, .null), (.iconst 3, .int 3), (.iadd, .null)] = true := by decide +kernel
theorem kL_law_18_86 : decB cL_law 556 [(.i2l, .null)] = true := by decide +kernel
theorem kL_law_18_87 : decB cL_law 560 [(.land, .null), (.lor, .null)] = true := by decide +kernel
theorem kL_law_18_88 : decB cL_law 850 [(.iinc 3 4, .int 4), (.goto (-835), .retAddr 18)] = true := by decide +kernel
theorem kL_law_18_89 : decB cL_law 568 [(.iconst 0, .int 0)] = true := by decide +kernel
theorem kL_law_18_90 : decB cL_law 570 [(.aload_n 1, .null), (.aload_n 0, .null), (.iload_n 3, .null), (.iconst 1, .int 1), (.iadd, .null)] = true := by decide +kernel
theorem kL_law_18_91 : decB cL_law 576 [(.aload_n 0, .null), (.iload_n 3, .null), (.iconst 2, .int 2), (.iadd, .null)] = true := by decide +kernel
theorem kL_law_18_92 : decB cL_law 588 [(.iconst 0, .int 0)] = true := by decide +kernel
theorem kL_law_18_93 : decB cL_law 584 [(.iconst 1, .int 1), (.goto 4, .retAddr 589)] = true := by decide +kernel
theorem kL_law_18_94 : decB cL_law 619 [(.aload_n 1, .null), (.aload_n 0, .null), (.iload_n 3, .null), (.iconst 1, .int 1), (.iadd, .null)] = true := by decide +kernel
theorem kL_law_18_95 : decB cL_law 625 [(.aload_n 0, .null), (.iload_n 3, .null), (.iconst 2, .int 2), (.iadd, .null)] = true := by decide +kernel
theorem kL_law_18_96 : decB cL_law 633 [(.aload_n 2, .null), (.aload_n 0, .null), (.iload_n 3, .null), (.iconst 1, .int 1), (.iadd, .null)] = true := by decide +kernel
theorem kL_law_18_97 : decB cL_law 639 [(.aload_n 0, .null), (.iload_n 3, .null), (.iconst 2, .int 2), (.iadd, .null)] = true := by decide +kernel
theorem kL_law_18_98 : decB cL_law 850 [(.iinc 3 4, .int 4), (.goto (-835), .retAddr 18)] = true := by decide +kernel
theorem kL_law_18_99 : decB cL_law 650 [(.iconst 0, .int 0)] = true := by decide +kernel
theorem kL_law_18_100 : decB cL_law 652 [(.aload_n 1, .null)] = true := by decide +kernel
theorem kL_law_18_101 : decB cL_law 656 [(.aload_n 2, .null)] = true := by decide +kernel
theorem kL_law_18_102 : decB cL_law 850 [(.iinc 3 4, .int 4), (.goto (-835), .retAddr 18)] = true := by decide +kernel
theorem kL_law_18_103 : decB cL_law 663 [(.iconst 0, .int 0)] = true := by decide +kernel
theorem kL_law_18_104 : decB cL_law 665 [(.aload_n 1, .null)] = true := by decide +kernel
theorem kL_law_18_105 : decB cL_law 669 [(.aload_n 2, .null)] = true := by decide +kernel
theorem kL_law_18_106 : decB cL_law 850 [(.iinc 3 4, .int 4), (.goto (-835), .retAddr 18)] = true := by decide +kernel
theorem kL_law_18_107 : decB cL_law 676 [(.iconst 0, .int 0)] = true := by decide +kernel
theorem kL_law_18_108 : decB cL_law 678 [(.aload_n 1, .null), (.aload_n 0, .null), (.iload_n 3, .null), (.iconst 1, .int 1), (.iadd, .null)] = true := by decide +kernel
theorem kL_law_18_109 : decB cL_law 684 [(.aload_n 0, .null), (.iload_n 3, .null), (.iconst 2, .int 2), (.iadd, .null)] = true := by decide +kernel
theorem kL_law_18_110 : decB cL_law 696 [(.iconst 0, .int 0)] = true := by decide +kernel
theorem kL_law_18_111 : decB cL_law 692 [(.iconst 1, .int 1), (.goto 4, .retAddr 697)] = true := by decide +kernel
theorem kL_law_18_112 : decB cL_law 727 [(.aload_n 1, .null), (.aload_n 0, .null), (.iload_n 3, .null), (.iconst 1, .int 1), (.iadd, .null)] = true := by decide +kernel
theorem kL_law_18_113 : decB cL_law 733 [(.i2l, .null), (.bipush 32, .int 32), (.lshl, .null), (.aload_n 0, .null), (.iload_n 3, .null), (.iconst 2, .int 2), (.iadd, .null)] = true := by decide +kernel
theorem kL_law_18_114 : decB cL_law 742 [(.i2l, .null)] = true := by decide +kernel
theorem kL_law_18_115 : decB cL_law 746 [(.land, .null), (.lor, .null)] = true := by decide +kernel
theorem kL_law_18_116 : decB cL_law 751 [(.aload_n 2, .null), (.aload_n 0, .null), (.iload_n 3, .null), (.iconst 1, .int 1), (.iadd, .null)] = true := by decide +kernel
theorem kL_law_18_117 : decB cL_law 757 [(.i2l, .null), (.bipush 32, .int 32), (.lshl, .null), (.aload_n 0, .null), (.iload_n 3, .null), (.iconst 2, .int 2), (.iadd, .null)] = true := by decide +kernel
theorem kL_law_18_118 : decB cL_law 766 [(.i2l, .null)] = true := by decide +kernel
theorem kL_law_18_119 : decB cL_law 770 [(.land, .null), (.lor, .null)] = true := by decide +kernel
theorem kL_law_18_120 : decB cL_law 775 [(.lcmp, .null)] = true := by decide +kernel
theorem kL_law_18_121 : decB cL_law 850 [(.iinc 3 4, .int 4), (.goto (-835), .retAddr 18)] = true := by decide +kernel
theorem kL_law_18_122 : decB cL_law 779 [(.iconst 0, .int 0)] = true := by decide +kernel
theorem kL_law_18_123 : decB cL_law 781 [(.aload_n 1, .null), (.aload_n 0, .null), (.iload_n 3, .null), (.iconst 1, .int 1), (.iadd, .null)] = true := by decide +kernel
theorem kL_law_18_124 : decB cL_law 790 [(.aload_n 2, .null), (.aload_n 0, .null), (.iload_n 3, .null), (.iconst 1, .int 1), (.iadd, .null)] = true := by decide +kernel
theorem kL_law_18_125 : decB cL_law 850 [(.iinc 3 4, .int 4), (.goto (-835), .retAddr 18)] = true := by decide +kernel
theorem kL_law_18_126 : decB cL_law 802 [(.iconst 0, .int 0)] = true := by decide +kernel
theorem kL_law_18_127 : decB cL_law 804 [(.aload_n 1, .null), (.aload_n 0, .null), (.iload_n 3, .null), (.iconst 1, .int 1), (.iadd, .null)] = true := by decide +kernel
theorem kL_law_18_128 : decB cL_law 813 [(.aload_n 2, .null), (.aload_n 0, .null), (.iload_n 3, .null), (.iconst 1, .int 1), (.iadd, .null)] = true := by decide +kernel
theorem kL_law_18_129 : decB cL_law 850 [(.iinc 3 4, .int 4), (.goto (-835), .retAddr 18)] = true := by decide +kernel
theorem kL_law_18_130 : decB cL_law 825 [(.iconst 0, .int 0)] = true := by decide +kernel
theorem kL_law_18_131 : decB cL_law 827 [(.aload_n 1, .null), (.aload_n 0, .null), (.iload_n 3, .null), (.iconst 1, .int 1), (.iadd, .null)] = true := by decide +kernel
theorem kL_law_18_132 : decB cL_law 836 [(.aload_n 2, .null), (.aload_n 0, .null), (.iload_n 3, .null), (.iconst 1, .int 1), (.iadd, .null)] = true := by decide +kernel
theorem kL_law_18_133 : decB cL_law 850 [(.iinc 3 4, .int 4), (.goto (-835), .retAddr 18)] = true := by decide +kernel
theorem kL_law_18_134 : decB cL_law 848 [(.iconst 0, .int 0)] = true := by decide +kernel
theorem kL_law_18_135 : decB cL_law 850 [(.iinc 3 4, .int 4), (.goto (-835), .retAddr 18)] = true := by decide +kernel
theorem kL_law_589_0 : decB cL_law 592 [(.aload_n 2, .null), (.aload_n 0, .null), (.iload_n 3, .null), (.iconst 1, .int 1), (.iadd, .null)] = true := by decide +kernel
theorem kL_law_589_1 : decB cL_law 598 [(.aload_n 0, .null), (.iload_n 3, .null), (.iconst 2, .int 2), (.iadd, .null)] = true := by decide +kernel
theorem kL_law_589_2 : decB cL_law 610 [(.iconst 0, .int 0)] = true := by decide +kernel
theorem kL_law_589_3 : decB cL_law 606 [(.iconst 1, .int 1), (.goto 4, .retAddr 611)] = true := by decide +kernel
theorem kL_law_611_0 : decB cL_law 850 [(.iinc 3 4, .int 4), (.goto (-835), .retAddr 18)] = true := by decide +kernel
theorem kL_law_611_1 : decB cL_law 617 [(.iconst 0, .int 0)] = true := by decide +kernel
theorem kL_law_697_0 : decB cL_law 700 [(.aload_n 2, .null), (.aload_n 0, .null), (.iload_n 3, .null), (.iconst 1, .int 1), (.iadd, .null)] = true := by decide +kernel
theorem kL_law_697_1 : decB cL_law 706 [(.aload_n 0, .null), (.iload_n 3, .null), (.iconst 2, .int 2), (.iadd, .null)] = true := by decide +kernel
theorem kL_law_697_2 : decB cL_law 718 [(.iconst 0, .int 0)] = true := by decide +kernel
theorem kL_law_697_3 : decB cL_law 714 [(.iconst 1, .int 1), (.goto 4, .retAddr 719)] = true := by decide +kernel
theorem kL_law_719_0 : decB cL_law 850 [(.iinc 3 4, .int 4), (.goto (-835), .retAddr 18)] = true := by decide +kernel
theorem kL_law_719_1 : decB cL_law 725 [(.iconst 0, .int 0)] = true := by decide +kernel
theorem dL_law_20 : decode cL_law 20 = .ok (.arraylength, 1) := by decide +kernel
theorem dL_law_23 : decode cL_law 23 = .ok (.if_icmp .gt 833, 3) := by decide +kernel
theorem dL_law_28 : decode cL_law 28 = .ok (.iaload, 1) := by decide +kernel
theorem dL_law_32 : decode cL_law 32 = .ok (.tableswitch 818 0 23 #[112, 135, 148, 161, 174, 197, 230, 263, 296, 330, 353, 386, 399, 432, 475, 538, 587, 620, 633, 646, 695, 749, 772, 795], 112) := by decide +kernel
theorem dL_law_149 : decode cL_law 149 = .ok (.iaload, 1) := by decide +kernel
theorem dL_law_150 : decode cL_law 150 = .ok (.invokevirtual 13, 3) := by decide +kernel
theorem dL_law_158 : decode cL_law 158 = .ok (.iaload, 1) := by decide +kernel
theorem dL_law_159 : decode cL_law 159 = .ok (.invokevirtual 17, 3) := by decide +kernel
theorem dL_law_162 : decode cL_law 162 = .ok (.if_icmp .eq 688, 3) := by decide +kernel
theorem dL_law_166 : decode cL_law 166 = .ok (.ireturn, 1) := by decide +kernel
theorem dL_law_168 : decode cL_law 168 = .ok (.invokevirtual 18, 3) := by decide +kernel
theorem dL_law_172 : decode cL_law 172 = .ok (.invokevirtual 22, 3) := by decide +kernel
theorem dL_law_175 : decode cL_law 175 = .ok (.if_icmp .eq 675, 3) := by decide +kernel
theorem dL_law_179 : decode cL_law 179 = .ok (.ireturn, 1) := by decide +kernel
theorem dL_law_181 : decode cL_law 181 = .ok (.invokevirtual 23, 3) := by decide +kernel
theorem dL_law_185 : decode cL_law 185 = .ok (.invokevirtual 26, 3) := by decide +kernel
theorem dL_law_188 : decode cL_law 188 = .ok (.if_icmp .eq 662, 3) := by decide +kernel
theorem dL_law_192 : decode cL_law 192 = .ok (.ireturn, 1) := by decide +kernel
theorem dL_law_194 : decode cL_law 194 = .ok (.invokevirtual 27, 3) := by decide +kernel
theorem dL_law_198 : decode cL_law 198 = .ok (.invokevirtual 30, 3) := by decide +kernel
theorem dL_law_201 : decode cL_law 201 = .ok (.if_icmp .eq 649, 3) := by decide +kernel
theorem dL_law_205 : decode cL_law 205 = .ok (.ireturn, 1) := by decide +kernel
theorem dL_law_211 : decode cL_law 211 = .ok (.iaload, 1) := by decide +kernel
theorem dL_law_212 : decode cL_law 212 = .ok (.invokevirtual 31, 3) := by decide +kernel
theorem dL_law_220 : decode cL_law 220 = .ok (.iaload, 1) := by decide +kernel
theorem dL_law_221 : decode cL_law 221 = .ok (.invokevirtual 34, 3) := by decide +kernel
theorem dL_law_224 : decode cL_law 224 = .ok (.if_icmp .eq 626, 3) := by decide +kernel
theorem dL_law_228 : decode cL_law 228 = .ok (.ireturn, 1) := by decide +kernel
theorem dL_law_234 : decode cL_law 234 = .ok (.iaload, 1) := by decide +kernel
theorem dL_law_239 : decode cL_law 239 = .ok (.iaload, 1) := by decide +kernel
theorem dL_law_240 : decode cL_law 240 = .ok (.invokevirtual 35, 3) := by decide +kernel
theorem dL_law_248 : decode cL_law 248 = .ok (.iaload, 1) := by decide +kernel
theorem dL_law_253 : decode cL_law 253 = .ok (.iaload, 1) := by decide +kernel
theorem dL_law_254 : decode cL_law 254 = .ok (.invokevirtual 39, 3) := by decide +kernel
theorem dL_law_257 : decode cL_law 257 = .ok (.if_icmp .eq 593, 3) := by decide +kernel
theorem dL_law_261 : decode cL_law 261 = .ok (.ireturn, 1) := by decide +kernel
theorem dL_law_267 : decode cL_law 267 = .ok (.iaload, 1) := by decide +kernel
theorem dL_law_272 : decode cL_law 272 = .ok (.iaload, 1) := by decide +kernel
theorem dL_law_273 : decode cL_law 273 = .ok (.invokevirtual 40, 3) := by decide +kernel
theorem dL_law_281 : decode cL_law 281 = .ok (.iaload, 1) := by decide +kernel
theorem dL_law_286 : decode cL_law 286 = .ok (.iaload, 1) := by decide +kernel
theorem dL_law_287 : decode cL_law 287 = .ok (.invokevirtual 43, 3) := by decide +kernel
theorem dL_law_290 : decode cL_law 290 = .ok (.if_icmp .eq 560, 3) := by decide +kernel
theorem dL_law_294 : decode cL_law 294 = .ok (.ireturn, 1) := by decide +kernel
theorem dL_law_300 : decode cL_law 300 = .ok (.iaload, 1) := by decide +kernel
theorem dL_law_305 : decode cL_law 305 = .ok (.iaload, 1) := by decide +kernel
theorem dL_law_306 : decode cL_law 306 = .ok (.invokevirtual 44, 3) := by decide +kernel
theorem dL_law_314 : decode cL_law 314 = .ok (.iaload, 1) := by decide +kernel
theorem dL_law_319 : decode cL_law 319 = .ok (.iaload, 1) := by decide +kernel
theorem dL_law_320 : decode cL_law 320 = .ok (.invokevirtual 47, 3) := by decide +kernel
theorem dL_law_323 : decode cL_law 323 = .ok (.if_icmp .eq 527, 3) := by decide +kernel
theorem dL_law_327 : decode cL_law 327 = .ok (.ireturn, 1) := by decide +kernel
theorem dL_law_333 : decode cL_law 333 = .ok (.iaload, 1) := by decide +kernel
theorem dL_law_338 : decode cL_law 338 = .ok (.iaload, 1) := by decide +kernel
theorem dL_law_339 : decode cL_law 339 = .ok (.invokevirtual 48, 3) := by decide +kernel
theorem dL_law_347 : decode cL_law 347 = .ok (.iaload, 1) := by decide +kernel
theorem dL_law_352 : decode cL_law 352 = .ok (.iaload, 1) := by decide +kernel
theorem dL_law_353 : decode cL_law 353 = .ok (.invokevirtual 52, 3) := by decide +kernel
theorem dL_law_357 : decode cL_law 357 = .ok (.ifCond .eq 493, 3) := by decide +kernel
theorem dL_law_361 : decode cL_law 361 = .ok (.ireturn, 1) := by decide +kernel
theorem dL_law_367 : decode cL_law 367 = .ok (.iaload, 1) := by decide +kernel
theorem dL_law_368 : decode cL_law 368 = .ok (.invokevirtual 53, 3) := by decide +kernel
theorem dL_law_376 : decode cL_law 376 = .ok (.iaload, 1) := by decide +kernel
theorem dL_law_377 : decode cL_law 377 = .ok (.invokevirtual 56, 3) := by decide +kernel
theorem dL_law_380 : decode cL_law 380 = .ok (.if_icmp .eq 470, 3) := by decide +kernel
theorem dL_law_384 : decode cL_law 384 = .ok (.ireturn, 1) := by decide +kernel
theorem dL_law_390 : decode cL_law 390 = .ok (.iaload, 1) := by decide +kernel
theorem dL_law_395 : decode cL_law 395 = .ok (.iaload, 1) := by decide +kernel
theorem dL_law_396 : decode cL_law 396 = .ok (.invokevirtual 57, 3) := by decide +kernel
theorem dL_law_404 : decode cL_law 404 = .ok (.iaload, 1) := by decide +kernel
theorem dL_law_409 : decode cL_law 409 = .ok (.iaload, 1) := by decide +kernel
theorem dL_law_410 : decode cL_law 410 = .ok (.invokevirtual 60, 3) := by decide +kernel
theorem dL_law_413 : decode cL_law 413 = .ok (.if_icmp .eq 437, 3) := by decide +kernel
theorem dL_law_417 : decode cL_law 417 = .ok (.ireturn, 1) := by decide +kernel
theorem dL_law_419 : decode cL_law 419 = .ok (.invokevirtual 61, 3) := by decide +kernel
theorem dL_law_423 : decode cL_law 423 = .ok (.invokevirtual 64, 3) := by decide +kernel
theorem dL_law_426 : decode cL_law 426 = .ok (.if_icmp .eq 424, 3) := by decide +kernel
theorem dL_law_430 : decode cL_law 430 = .ok (.ireturn, 1) := by decide +kernel
theorem dL_law_436 : decode cL_law 436 = .ok (.iaload, 1) := by decide +kernel
theorem dL_law_441 : decode cL_law 441 = .ok (.iaload, 1) := by decide +kernel
theorem dL_law_442 : decode cL_law 442 = .ok (.invokevirtual 65, 3) := by decide +kernel
theorem dL_law_450 : decode cL_law 450 = .ok (.iaload, 1) := by decide +kernel
theorem dL_law_455 : decode cL_law 455 = .ok (.iaload, 1) := by decide +kernel
theorem dL_law_456 : decode cL_law 456 = .ok (.invokevirtual 68, 3) := by decide +kernel
theorem dL_law_459 : decode cL_law 459 = .ok (.if_icmp .eq 391, 3) := by decide +kernel
theorem dL_law_463 : decode cL_law 463 = .ok (.ireturn, 1) := by decide +kernel
theorem dL_law_469 : decode cL_law 469 = .ok (.iaload, 1) := by decide +kernel
theorem dL_law_474 : decode cL_law 474 = .ok (.iaload, 1) := by decide +kernel
theorem dL_law_479 : decode cL_law 479 = .ok (.iaload, 1) := by decide +kernel
theorem dL_law_480 : decode cL_law 480 = .ok (.invokevirtual 69, 3) := by decide +kernel
theorem dL_law_488 : decode cL_law 488 = .ok (.iaload, 1) := by decide +kernel
theorem dL_law_493 : decode cL_law 493 = .ok (.iaload, 1) := by decide +kernel
theorem dL_law_498 : decode cL_law 498 = .ok (.iaload, 1) := by decide +kernel
theorem dL_law_499 : decode cL_law 499 = .ok (.invokevirtual 73, 3) := by decide +kernel
theorem dL_law_502 : decode cL_law 502 = .ok (.if_icmp .eq 348, 3) := by decide +kernel
theorem dL_law_506 : decode cL_law 506 = .ok (.ireturn, 1) := by decide +kernel
theorem dL_law_512 : decode cL_law 512 = .ok (.iaload, 1) := by decide +kernel
theorem dL_law_517 : decode cL_law 517 = .ok (.iaload, 1) := by decide +kernel
theorem dL_law_526 : decode cL_law 526 = .ok (.iaload, 1) := by decide +kernel
theorem dL_law_528 : decode cL_law 528 = .ok (.ldc2_w 74, 3) := by decide +kernel
theorem dL_law_533 : decode cL_law 533 = .ok (.invokevirtual 76, 3) := by decide +kernel
theorem dL_law_541 : decode cL_law 541 = .ok (.iaload, 1) := by decide +kernel
theorem dL_law_546 : decode cL_law 546 = .ok (.iaload, 1) := by decide +kernel
theorem dL_law_555 : decode cL_law 555 = .ok (.iaload, 1) := by decide +kernel
theorem dL_law_557 : decode cL_law 557 = .ok (.ldc2_w 74, 3) := by decide +kernel
theorem dL_law_562 : decode cL_law 562 = .ok (.invokevirtual 80, 3) := by decide +kernel
theorem dL_law_565 : decode cL_law 565 = .ok (.if_icmp .eq 285, 3) := by decide +kernel
theorem dL_law_569 : decode cL_law 569 = .ok (.ireturn, 1) := by decide +kernel
theorem dL_law_575 : decode cL_law 575 = .ok (.iaload, 1) := by decide +kernel
theorem dL_law_580 : decode cL_law 580 = .ok (.iaload, 1) := by decide +kernel
theorem dL_law_581 : decode cL_law 581 = .ok (.ifCond .eq 7, 3) := by decide +kernel
theorem dL_law_589 : decode cL_law 589 = .ok (.invokevirtual 81, 3) := by decide +kernel
theorem dL_law_597 : decode cL_law 597 = .ok (.iaload, 1) := by decide +kernel
theorem dL_law_602 : decode cL_law 602 = .ok (.iaload, 1) := by decide +kernel
theorem dL_law_603 : decode cL_law 603 = .ok (.ifCond .eq 7, 3) := by decide +kernel
theorem dL_law_611 : decode cL_law 611 = .ok (.invokevirtual 85, 3) := by decide +kernel
theorem dL_law_614 : decode cL_law 614 = .ok (.if_icmp .eq 236, 3) := by decide +kernel
theorem dL_law_618 : decode cL_law 618 = .ok (.ireturn, 1) := by decide +kernel
theorem dL_law_624 : decode cL_law 624 = .ok (.iaload, 1) := by decide +kernel
theorem dL_law_629 : decode cL_law 629 = .ok (.iaload, 1) := by decide +kernel
theorem dL_law_630 : decode cL_law 630 = .ok (.invokevirtual 86, 3) := by decide +kernel
theorem dL_law_638 : decode cL_law 638 = .ok (.iaload, 1) := by decide +kernel
theorem dL_law_643 : decode cL_law 643 = .ok (.iaload, 1) := by decide +kernel
theorem dL_law_644 : decode cL_law 644 = .ok (.invokevirtual 89, 3) := by decide +kernel
theorem dL_law_647 : decode cL_law 647 = .ok (.if_icmp .eq 203, 3) := by decide +kernel
theorem dL_law_651 : decode cL_law 651 = .ok (.ireturn, 1) := by decide +kernel
theorem dL_law_653 : decode cL_law 653 = .ok (.invokevirtual 90, 3) := by decide +kernel
theorem dL_law_657 : decode cL_law 657 = .ok (.invokevirtual 93, 3) := by decide +kernel
theorem dL_law_660 : decode cL_law 660 = .ok (.if_icmp .eq 190, 3) := by decide +kernel
theorem dL_law_664 : decode cL_law 664 = .ok (.ireturn, 1) := by decide +kernel
theorem dL_law_666 : decode cL_law 666 = .ok (.invokevirtual 94, 3) := by decide +kernel
theorem dL_law_670 : decode cL_law 670 = .ok (.invokevirtual 97, 3) := by decide +kernel
theorem dL_law_673 : decode cL_law 673 = .ok (.if_icmp .eq 177, 3) := by decide +kernel
theorem dL_law_677 : decode cL_law 677 = .ok (.ireturn, 1) := by decide +kernel
theorem dL_law_683 : decode cL_law 683 = .ok (.iaload, 1) := by decide +kernel
theorem dL_law_688 : decode cL_law 688 = .ok (.iaload, 1) := by decide +kernel
theorem dL_law_689 : decode cL_law 689 = .ok (.ifCond .eq 7, 3) := by decide +kernel
theorem dL_law_697 : decode cL_law 697 = .ok (.invokevirtual 98, 3) := by decide +kernel
theorem dL_law_705 : decode cL_law 705 = .ok (.iaload, 1) := by decide +kernel
theorem dL_law_710 : decode cL_law 710 = .ok (.iaload, 1) := by decide +kernel
theorem dL_law_711 : decode cL_law 711 = .ok (.ifCond .eq 7, 3) := by decide +kernel
theorem dL_law_719 : decode cL_law 719 = .ok (.invokevirtual 101, 3) := by decide +kernel
theorem dL_law_722 : decode cL_law 722 = .ok (.if_icmp .eq 128, 3) := by decide +kernel
theorem dL_law_726 : decode cL_law 726 = .ok (.ireturn, 1) := by decide +kernel
theorem dL_law_732 : decode cL_law 732 = .ok (.iaload, 1) := by decide +kernel
theorem dL_law_741 : decode cL_law 741 = .ok (.iaload, 1) := by decide +kernel
theorem dL_law_743 : decode cL_law 743 = .ok (.ldc2_w 74, 3) := by decide +kernel
theorem dL_law_748 : decode cL_law 748 = .ok (.invokevirtual 102, 3) := by decide +kernel
theorem dL_law_756 : decode cL_law 756 = .ok (.iaload, 1) := by decide +kernel
theorem dL_law_765 : decode cL_law 765 = .ok (.iaload, 1) := by decide +kernel
theorem dL_law_767 : decode cL_law 767 = .ok (.ldc2_w 74, 3) := by decide +kernel
theorem dL_law_772 : decode cL_law 772 = .ok (.invokevirtual 106, 3) := by decide +kernel
theorem dL_law_776 : decode cL_law 776 = .ok (.ifCond .eq 74, 3) := by decide +kernel
theorem dL_law_780 : decode cL_law 780 = .ok (.ireturn, 1) := by decide +kernel
theorem dL_law_786 : decode cL_law 786 = .ok (.iaload, 1) := by decide +kernel
theorem dL_law_787 : decode cL_law 787 = .ok (.invokevirtual 107, 3) := by decide +kernel
theorem dL_law_795 : decode cL_law 795 = .ok (.iaload, 1) := by decide +kernel
theorem dL_law_796 : decode cL_law 796 = .ok (.invokevirtual 110, 3) := by decide +kernel
theorem dL_law_799 : decode cL_law 799 = .ok (.if_icmp .eq 51, 3) := by decide +kernel
theorem dL_law_803 : decode cL_law 803 = .ok (.ireturn, 1) := by decide +kernel
theorem dL_law_809 : decode cL_law 809 = .ok (.iaload, 1) := by decide +kernel
theorem dL_law_810 : decode cL_law 810 = .ok (.invokevirtual 111, 3) := by decide +kernel
theorem dL_law_818 : decode cL_law 818 = .ok (.iaload, 1) := by decide +kernel
theorem dL_law_819 : decode cL_law 819 = .ok (.invokevirtual 114, 3) := by decide +kernel
theorem dL_law_822 : decode cL_law 822 = .ok (.if_icmp .eq 28, 3) := by decide +kernel
theorem dL_law_826 : decode cL_law 826 = .ok (.ireturn, 1) := by decide +kernel
theorem dL_law_832 : decode cL_law 832 = .ok (.iaload, 1) := by decide +kernel
theorem dL_law_833 : decode cL_law 833 = .ok (.invokevirtual 115, 3) := by decide +kernel
theorem dL_law_841 : decode cL_law 841 = .ok (.iaload, 1) := by decide +kernel
theorem dL_law_842 : decode cL_law 842 = .ok (.invokevirtual 118, 3) := by decide +kernel
theorem dL_law_845 : decode cL_law 845 = .ok (.if_icmp .eq 5, 3) := by decide +kernel
theorem dL_law_849 : decode cL_law 849 = .ok (.ireturn, 1) := by decide +kernel
theorem dL_law_857 : decode cL_law 857 = .ok (.ireturn, 1) := by decide +kernel
def fL_law_611 (G : GG) (K18 : Int32 → Hp → Option (Int32 × Hp)) (a3 : Int32) (s0 : Int32) (s1 : Nat) (s2 : Int32) (s3 : Int32) (H : Hp) : Option (Int32 × Hp) :=
  gp (isO H s1 9 = true) (
    bd2 (FX10_share s1 s2 s3 H) fun x1 H2 =>
    if (s0 = x1 : Prop) then
      K18 (a3 + 4) H2
    else
      some (0, H2)
    )
set_option maxHeartbeats 4000000 in
set_option maxRecDepth 100000 in
theorem tfL_law_611 {G : GG} {H' : Hp} {K18 : Int32 → Hp → Option (Int32 × Hp)} (hK18 : ∀ (a3 : Int32) (H : Hp), K18 a3 H = some (1, H') → Sn G TL mL_law 18 [some (.ref 1001), some (.ref 0), some (.ref 22), some (.int a3)] [] H) {a3 : Int32} {s0 : Int32} {s1 : Nat} {s2 : Int32} {s3 : Int32} {H : Hp} (h : fL_law_611 G K18 a3 s0 s1 s2 s3 H = some (1, H')) : Sn G TL mL_law 611 [some (.ref 1001), some (.ref 0), some (.ref 22), some (.int a3)] [.int s3, .int s2, .ref s1, .int s0] H := by
  unfold fL_law_611 at h
  obtain ⟨ho, h⟩ := gp_inv h
  obtain ⟨fs, ho⟩ := isO_inv ho
  obtain ⟨x1, H2, hx1, h⟩ := bd2_inv h
  refine sn_callv (av := [.int s2, .int s3]) (st := [.int s0]) (M2 := mX10_share) dL_law_611 msX10_share mlL_85 rfl rfl rfl rfl rfl ho (sX10_share hx1) ?_
  refine sn_icmp_eq (tgt := 850) dL_law_614 (by decide) (fun c => ?_) (fun c => ?_)
  · rw [if_pos c] at h
    refine sn_blk _ kL_law_611_0 (pc' := 18) (L' := [some (.ref 1001), some (.ref 0), some (.ref 22), some (.int (a3 + 4))]) (st' := []) rfl rfl ?_
    exact hK18 _ _ h
  · rw [if_neg c] at h
    refine sn_blk _ kL_law_611_1 (pc' := 618) (L' := [some (.ref 1001), some (.ref 0), some (.ref 22), some (.int a3)]) (st' := [.int 0]) rfl rfl ?_
    exact absurd h law_no
def fL_law_589 (G : GG) (K18 : Int32 → Hp → Option (Int32 × Hp)) (a3 : Int32) (s0 : Nat) (s1 : Int32) (s2 : Int32) (H : Hp) : Option (Int32 × Hp) :=
  gp (isO H s0 8 = true) (
    bd2 (FX9_share s0 s1 s2 H) fun x1 H2 =>
    gp (¬ ((a3 + 1) < 0 ∨ G.2.2.2.1 ≤ Int32.toNatClampNeg (a3 + 1))) (
      gp (¬ ((a3 + 2) < 0 ∨ G.2.2.2.1 ≤ Int32.toNatClampNeg (a3 + 2))) (
        if ((G.2.2.2.2 (Int32.toNatClampNeg (a3 + 2))) = 0 : Prop) then
          fL_law_611 G K18 a3 x1 22 (G.2.2.2.2 (Int32.toNatClampNeg (a3 + 1))) 0 H2
        else
          fL_law_611 G K18 a3 x1 22 (G.2.2.2.2 (Int32.toNatClampNeg (a3 + 1))) 1 H2
        )
      )
    )
set_option maxHeartbeats 4000000 in
set_option maxRecDepth 100000 in
theorem tfL_law_589 {G : GG} {H' : Hp} {K18 : Int32 → Hp → Option (Int32 × Hp)} (hK18 : ∀ (a3 : Int32) (H : Hp), K18 a3 H = some (1, H') → Sn G TL mL_law 18 [some (.ref 1001), some (.ref 0), some (.ref 22), some (.int a3)] [] H) {a3 : Int32} {s0 : Nat} {s1 : Int32} {s2 : Int32} {H : Hp} (h : fL_law_589 G K18 a3 s0 s1 s2 H = some (1, H')) : Sn G TL mL_law 589 [some (.ref 1001), some (.ref 0), some (.ref 22), some (.int a3)] [.int s2, .int s1, .ref s0] H := by
  unfold fL_law_589 at h
  obtain ⟨ho, h⟩ := gp_inv h
  obtain ⟨fs, ho⟩ := isO_inv ho
  obtain ⟨x1, H2, hx1, h⟩ := bd2_inv h
  refine sn_callv (av := [.int s1, .int s2]) (st := []) (M2 := mX9_share) dL_law_589 msX9_share mlL_81 rfl rfl rfl rfl rfl ho (sX9_share hx1) ?_
  refine sn_blk _ kL_law_589_0 (pc' := 597) (L' := [some (.ref 1001), some (.ref 0), some (.ref 22), some (.int a3)]) (st' := [.int (a3 + 1), .ref 1001, .ref 22, .int x1]) rfl rfl ?_
  obtain ⟨hi, h⟩ := gp_inv h
  refine sn_scrld dL_law_597 hi ?_
  refine sn_blk _ kL_law_589_1 (pc' := 602) (L' := [some (.ref 1001), some (.ref 0), some (.ref 22), some (.int a3)]) (st' := [.int (a3 + 2), .ref 1001, .int (G.2.2.2.2 (Int32.toNatClampNeg (a3 + 1))), .ref 22, .int x1]) rfl rfl ?_
  obtain ⟨hi, h⟩ := gp_inv h
  refine sn_scrld dL_law_602 hi ?_
  refine sn_if_eq (tgt := 610) dL_law_603 (by decide) (fun c => ?_) (fun c => ?_)
  · rw [if_pos c] at h
    refine sn_blk _ kL_law_589_2 (pc' := 611) (L' := [some (.ref 1001), some (.ref 0), some (.ref 22), some (.int a3)]) (st' := [.int 0, .int (G.2.2.2.2 (Int32.toNatClampNeg (a3 + 1))), .ref 22, .int x1]) rfl rfl ?_
    exact tfL_law_611 hK18 h
  · rw [if_neg c] at h
    refine sn_blk _ kL_law_589_3 (pc' := 611) (L' := [some (.ref 1001), some (.ref 0), some (.ref 22), some (.int a3)]) (st' := [.int 1, .int (G.2.2.2.2 (Int32.toNatClampNeg (a3 + 1))), .ref 22, .int x1]) rfl rfl ?_
    exact tfL_law_611 hK18 h
def fL_law_719 (G : GG) (K18 : Int32 → Hp → Option (Int32 × Hp)) (a3 : Int32) (s0 : Int32) (s1 : Nat) (s2 : Int32) (s3 : Int32) (H : Hp) : Option (Int32 × Hp) :=
  gp (isO H s1 9 = true) (
    bd2 (FX10_opens s1 s2 s3 H) fun x1 H2 =>
    if (s0 = x1 : Prop) then
      K18 (a3 + 4) H2
    else
      some (0, H2)
    )
set_option maxHeartbeats 4000000 in
set_option maxRecDepth 100000 in
theorem tfL_law_719 {G : GG} {H' : Hp} {K18 : Int32 → Hp → Option (Int32 × Hp)} (hK18 : ∀ (a3 : Int32) (H : Hp), K18 a3 H = some (1, H') → Sn G TL mL_law 18 [some (.ref 1001), some (.ref 0), some (.ref 22), some (.int a3)] [] H) {a3 : Int32} {s0 : Int32} {s1 : Nat} {s2 : Int32} {s3 : Int32} {H : Hp} (h : fL_law_719 G K18 a3 s0 s1 s2 s3 H = some (1, H')) : Sn G TL mL_law 719 [some (.ref 1001), some (.ref 0), some (.ref 22), some (.int a3)] [.int s3, .int s2, .ref s1, .int s0] H := by
  unfold fL_law_719 at h
  obtain ⟨ho, h⟩ := gp_inv h
  obtain ⟨fs, ho⟩ := isO_inv ho
  obtain ⟨x1, H2, hx1, h⟩ := bd2_inv h
  refine sn_callv (av := [.int s2, .int s3]) (st := [.int s0]) (M2 := mX10_opens) dL_law_719 msX10_opens mlL_101 rfl rfl rfl rfl rfl ho (sX10_opens hx1) ?_
  refine sn_icmp_eq (tgt := 850) dL_law_722 (by decide) (fun c => ?_) (fun c => ?_)
  · rw [if_pos c] at h
    refine sn_blk _ kL_law_719_0 (pc' := 18) (L' := [some (.ref 1001), some (.ref 0), some (.ref 22), some (.int (a3 + 4))]) (st' := []) rfl rfl ?_
    exact hK18 _ _ h
  · rw [if_neg c] at h
    refine sn_blk _ kL_law_719_1 (pc' := 726) (L' := [some (.ref 1001), some (.ref 0), some (.ref 22), some (.int a3)]) (st' := [.int 0]) rfl rfl ?_
    exact absurd h law_no
def fL_law_697 (G : GG) (K18 : Int32 → Hp → Option (Int32 × Hp)) (a3 : Int32) (s0 : Nat) (s1 : Int32) (s2 : Int32) (H : Hp) : Option (Int32 × Hp) :=
  gp (isO H s0 8 = true) (
    bd2 (FX9_opens s0 s1 s2 H) fun x1 H2 =>
    gp (¬ ((a3 + 1) < 0 ∨ G.2.2.2.1 ≤ Int32.toNatClampNeg (a3 + 1))) (
      gp (¬ ((a3 + 2) < 0 ∨ G.2.2.2.1 ≤ Int32.toNatClampNeg (a3 + 2))) (
        if ((G.2.2.2.2 (Int32.toNatClampNeg (a3 + 2))) = 0 : Prop) then
          fL_law_719 G K18 a3 x1 22 (G.2.2.2.2 (Int32.toNatClampNeg (a3 + 1))) 0 H2
        else
          fL_law_719 G K18 a3 x1 22 (G.2.2.2.2 (Int32.toNatClampNeg (a3 + 1))) 1 H2
        )
      )
    )
set_option maxHeartbeats 4000000 in
set_option maxRecDepth 100000 in
theorem tfL_law_697 {G : GG} {H' : Hp} {K18 : Int32 → Hp → Option (Int32 × Hp)} (hK18 : ∀ (a3 : Int32) (H : Hp), K18 a3 H = some (1, H') → Sn G TL mL_law 18 [some (.ref 1001), some (.ref 0), some (.ref 22), some (.int a3)] [] H) {a3 : Int32} {s0 : Nat} {s1 : Int32} {s2 : Int32} {H : Hp} (h : fL_law_697 G K18 a3 s0 s1 s2 H = some (1, H')) : Sn G TL mL_law 697 [some (.ref 1001), some (.ref 0), some (.ref 22), some (.int a3)] [.int s2, .int s1, .ref s0] H := by
  unfold fL_law_697 at h
  obtain ⟨ho, h⟩ := gp_inv h
  obtain ⟨fs, ho⟩ := isO_inv ho
  obtain ⟨x1, H2, hx1, h⟩ := bd2_inv h
  refine sn_callv (av := [.int s1, .int s2]) (st := []) (M2 := mX9_opens) dL_law_697 msX9_opens mlL_98 rfl rfl rfl rfl rfl ho (sX9_opens hx1) ?_
  refine sn_blk _ kL_law_697_0 (pc' := 705) (L' := [some (.ref 1001), some (.ref 0), some (.ref 22), some (.int a3)]) (st' := [.int (a3 + 1), .ref 1001, .ref 22, .int x1]) rfl rfl ?_
  obtain ⟨hi, h⟩ := gp_inv h
  refine sn_scrld dL_law_705 hi ?_
  refine sn_blk _ kL_law_697_1 (pc' := 710) (L' := [some (.ref 1001), some (.ref 0), some (.ref 22), some (.int a3)]) (st' := [.int (a3 + 2), .ref 1001, .int (G.2.2.2.2 (Int32.toNatClampNeg (a3 + 1))), .ref 22, .int x1]) rfl rfl ?_
  obtain ⟨hi, h⟩ := gp_inv h
  refine sn_scrld dL_law_710 hi ?_
  refine sn_if_eq (tgt := 718) dL_law_711 (by decide) (fun c => ?_) (fun c => ?_)
  · rw [if_pos c] at h
    refine sn_blk _ kL_law_697_2 (pc' := 719) (L' := [some (.ref 1001), some (.ref 0), some (.ref 22), some (.int a3)]) (st' := [.int 0, .int (G.2.2.2.2 (Int32.toNatClampNeg (a3 + 1))), .ref 22, .int x1]) rfl rfl ?_
    exact tfL_law_719 hK18 h
  · rw [if_neg c] at h
    refine sn_blk _ kL_law_697_3 (pc' := 719) (L' := [some (.ref 1001), some (.ref 0), some (.ref 22), some (.int a3)]) (st' := [.int 1, .int (G.2.2.2.2 (Int32.toNatClampNeg (a3 + 1))), .ref 22, .int x1]) rfl rfl ?_
    exact tfL_law_719 hK18 h
def bL_law_18 (G : GG) (K18 : Int32 → Hp → Option (Int32 × Hp)) (a3 : Int32) (H : Hp) : Option (Int32 × Hp) :=
  if (((Int32.ofNat G.2.2.2.1) - 4) < a3 : Prop) then
    some (1, H)
  else
    gp (¬ (a3 < 0 ∨ G.2.2.2.1 ≤ Int32.toNatClampNeg a3)) (
      if ((G.2.2.2.2 (Int32.toNatClampNeg a3)) &&& 31) = (0 : Int32) then
        gp (¬ ((a3 + 1) < 0 ∨ G.2.2.2.1 ≤ Int32.toNatClampNeg (a3 + 1))) (
          gp (isO H 0 8 = true) (
            bd2 (FX9_write 0 (G.2.2.2.2 (Int32.toNatClampNeg (a3 + 1))) H) fun x1 H2 =>
            gp (¬ ((a3 + 1) < 0 ∨ G.2.2.2.1 ≤ Int32.toNatClampNeg (a3 + 1))) (
              gp (isO H2 22 9 = true) (
                bd2 (FX10_write 22 (G.2.2.2.2 (Int32.toNatClampNeg (a3 + 1))) H2) fun x3 H4 =>
                if (x1 = x3 : Prop) then
                  K18 (a3 + 4) H4
                else
                  some (0, H4)
                )
              )
            )
          )
      else
        if ((G.2.2.2.2 (Int32.toNatClampNeg a3)) &&& 31) = (1 : Int32) then
          gp (isO H 0 8 = true) (
            bd2 (FX9_wipe 0  H) fun x5 H6 =>
            gp (isO H6 22 9 = true) (
              bd2 (FX10_wipe 22  H6) fun x7 H8 =>
              if (x5 = x7 : Prop) then
                K18 (a3 + 4) H8
              else
                some (0, H8)
              )
            )
        else
          if ((G.2.2.2.2 (Int32.toNatClampNeg a3)) &&& 31) = (2 : Int32) then
            gp (isO H 0 8 = true) (
              bd2 (FX9_fault 0  H) fun x9 H10 =>
              gp (isO H10 22 9 = true) (
                bd2 (FX10_fault 22  H10) fun x11 H12 =>
                if (x9 = x11 : Prop) then
                  K18 (a3 + 4) H12
                else
                  some (0, H12)
                )
              )
          else
            if ((G.2.2.2.2 (Int32.toNatClampNeg a3)) &&& 31) = (3 : Int32) then
              gp (isO H 0 8 = true) (
                bd2 (FX9_surface 0  H) fun x13 H14 =>
                gp (isO H14 22 9 = true) (
                  bd2 (FX10_surface 22  H14) fun x15 H16 =>
                  if (x13 = x15 : Prop) then
                    K18 (a3 + 4) H16
                  else
                    some (0, H16)
                  )
                )
            else
              if ((G.2.2.2.2 (Int32.toNatClampNeg a3)) &&& 31) = (4 : Int32) then
                gp (¬ ((a3 + 1) < 0 ∨ G.2.2.2.1 ≤ Int32.toNatClampNeg (a3 + 1))) (
                  gp (isO H 0 8 = true) (
                    bd2 (FX9_about 0 (G.2.2.2.2 (Int32.toNatClampNeg (a3 + 1))) H) fun x17 H18 =>
                    gp (¬ ((a3 + 1) < 0 ∨ G.2.2.2.1 ≤ Int32.toNatClampNeg (a3 + 1))) (
                      gp (isO H18 22 9 = true) (
                        bd2 (FX10_about 22 (G.2.2.2.2 (Int32.toNatClampNeg (a3 + 1))) H18) fun x19 H20 =>
                        if (x17 = x19 : Prop) then
                          K18 (a3 + 4) H20
                        else
                          some (0, H20)
                        )
                      )
                    )
                  )
              else
                if ((G.2.2.2.2 (Int32.toNatClampNeg a3)) &&& 31) = (5 : Int32) then
                  gp (¬ ((a3 + 1) < 0 ∨ G.2.2.2.1 ≤ Int32.toNatClampNeg (a3 + 1))) (
                    gp (¬ ((a3 + 2) < 0 ∨ G.2.2.2.1 ≤ Int32.toNatClampNeg (a3 + 2))) (
                      gp (isO H 0 8 = true) (
                        bd2 (FX9_go 0 (G.2.2.2.2 (Int32.toNatClampNeg (a3 + 1))) (G.2.2.2.2 (Int32.toNatClampNeg (a3 + 2))) H) fun x21 H22 =>
                        gp (¬ ((a3 + 1) < 0 ∨ G.2.2.2.1 ≤ Int32.toNatClampNeg (a3 + 1))) (
                          gp (¬ ((a3 + 2) < 0 ∨ G.2.2.2.1 ≤ Int32.toNatClampNeg (a3 + 2))) (
                            gp (isO H22 22 9 = true) (
                              bd2 (FX10_go 22 (G.2.2.2.2 (Int32.toNatClampNeg (a3 + 1))) (G.2.2.2.2 (Int32.toNatClampNeg (a3 + 2))) H22) fun x23 H24 =>
                              if (x21 = x23 : Prop) then
                                K18 (a3 + 4) H24
                              else
                                some (0, H24)
                              )
                            )
                          )
                        )
                      )
                    )
                else
                  if ((G.2.2.2.2 (Int32.toNatClampNeg a3)) &&& 31) = (6 : Int32) then
                    gp (¬ ((a3 + 1) < 0 ∨ G.2.2.2.1 ≤ Int32.toNatClampNeg (a3 + 1))) (
                      gp (¬ ((a3 + 2) < 0 ∨ G.2.2.2.1 ≤ Int32.toNatClampNeg (a3 + 2))) (
                        gp (isO H 0 8 = true) (
                          bd2 (FX9_walk 0 (G.2.2.2.2 (Int32.toNatClampNeg (a3 + 1))) (G.2.2.2.2 (Int32.toNatClampNeg (a3 + 2))) H) fun x25 H26 =>
                          gp (¬ ((a3 + 1) < 0 ∨ G.2.2.2.1 ≤ Int32.toNatClampNeg (a3 + 1))) (
                            gp (¬ ((a3 + 2) < 0 ∨ G.2.2.2.1 ≤ Int32.toNatClampNeg (a3 + 2))) (
                              gp (isO H26 22 9 = true) (
                                bd2 (FX10_walk 22 (G.2.2.2.2 (Int32.toNatClampNeg (a3 + 1))) (G.2.2.2.2 (Int32.toNatClampNeg (a3 + 2))) H26) fun x27 H28 =>
                                if (x25 = x27 : Prop) then
                                  K18 (a3 + 4) H28
                                else
                                  some (0, H28)
                                )
                              )
                            )
                          )
                        )
                      )
                  else
                    if ((G.2.2.2.2 (Int32.toNatClampNeg a3)) &&& 31) = (7 : Int32) then
                      gp (¬ ((a3 + 1) < 0 ∨ G.2.2.2.1 ≤ Int32.toNatClampNeg (a3 + 1))) (
                        gp (¬ ((a3 + 2) < 0 ∨ G.2.2.2.1 ≤ Int32.toNatClampNeg (a3 + 2))) (
                          gp (isO H 0 8 = true) (
                            bd2 (FX9_square 0 (G.2.2.2.2 (Int32.toNatClampNeg (a3 + 1))) (G.2.2.2.2 (Int32.toNatClampNeg (a3 + 2))) H) fun x29 H30 =>
                            gp (¬ ((a3 + 1) < 0 ∨ G.2.2.2.1 ≤ Int32.toNatClampNeg (a3 + 1))) (
                              gp (¬ ((a3 + 2) < 0 ∨ G.2.2.2.1 ≤ Int32.toNatClampNeg (a3 + 2))) (
                                gp (isO H30 22 9 = true) (
                                  bd2 (FX10_square 22 (G.2.2.2.2 (Int32.toNatClampNeg (a3 + 1))) (G.2.2.2.2 (Int32.toNatClampNeg (a3 + 2))) H30) fun x31 H32 =>
                                  if (x29 = x31 : Prop) then
                                    K18 (a3 + 4) H32
                                  else
                                    some (0, H32)
                                  )
                                )
                              )
                            )
                          )
                        )
                    else
                      if ((G.2.2.2.2 (Int32.toNatClampNeg a3)) &&& 31) = (8 : Int32) then
                        gp (¬ ((a3 + 1) < 0 ∨ G.2.2.2.1 ≤ Int32.toNatClampNeg (a3 + 1))) (
                          gp (¬ ((a3 + 2) < 0 ∨ G.2.2.2.1 ≤ Int32.toNatClampNeg (a3 + 2))) (
                            gp (isO H 0 8 = true) (
                              bd2 (FX9_name 0 (G.2.2.2.2 (Int32.toNatClampNeg (a3 + 1))) (G.2.2.2.2 (Int32.toNatClampNeg (a3 + 2))) H) fun x33 H34 =>
                              gp (¬ ((a3 + 1) < 0 ∨ G.2.2.2.1 ≤ Int32.toNatClampNeg (a3 + 1))) (
                                gp (¬ ((a3 + 2) < 0 ∨ G.2.2.2.1 ≤ Int32.toNatClampNeg (a3 + 2))) (
                                  gp (isO H34 22 9 = true) (
                                    bd2 (FX10_name 22 (G.2.2.2.2 (Int32.toNatClampNeg (a3 + 1))) (G.2.2.2.2 (Int32.toNatClampNeg (a3 + 2))) H34) fun x35 H36 =>
                                    if ((lg_cmp x33 x35) = 0 : Prop) then
                                      K18 (a3 + 4) H36
                                    else
                                      some (0, H36)
                                    )
                                  )
                                )
                              )
                            )
                          )
                      else
                        if ((G.2.2.2.2 (Int32.toNatClampNeg a3)) &&& 31) = (9 : Int32) then
                          gp (¬ ((a3 + 1) < 0 ∨ G.2.2.2.1 ≤ Int32.toNatClampNeg (a3 + 1))) (
                            gp (isO H 0 8 = true) (
                              bd2 (FX9_shear 0 (G.2.2.2.2 (Int32.toNatClampNeg (a3 + 1))) H) fun x37 H38 =>
                              gp (¬ ((a3 + 1) < 0 ∨ G.2.2.2.1 ≤ Int32.toNatClampNeg (a3 + 1))) (
                                gp (isO H38 22 9 = true) (
                                  bd2 (FX10_shear 22 (G.2.2.2.2 (Int32.toNatClampNeg (a3 + 1))) H38) fun x39 H40 =>
                                  if (x37 = x39 : Prop) then
                                    K18 (a3 + 4) H40
                                  else
                                    some (0, H40)
                                  )
                                )
                              )
                            )
                        else
                          if ((G.2.2.2.2 (Int32.toNatClampNeg a3)) &&& 31) = (10 : Int32) then
                            gp (¬ ((a3 + 1) < 0 ∨ G.2.2.2.1 ≤ Int32.toNatClampNeg (a3 + 1))) (
                              gp (¬ ((a3 + 2) < 0 ∨ G.2.2.2.1 ≤ Int32.toNatClampNeg (a3 + 2))) (
                                gp (isO H 0 8 = true) (
                                  bd2 (FX9_trade 0 (G.2.2.2.2 (Int32.toNatClampNeg (a3 + 1))) (G.2.2.2.2 (Int32.toNatClampNeg (a3 + 2))) H) fun x41 H42 =>
                                  gp (¬ ((a3 + 1) < 0 ∨ G.2.2.2.1 ≤ Int32.toNatClampNeg (a3 + 1))) (
                                    gp (¬ ((a3 + 2) < 0 ∨ G.2.2.2.1 ≤ Int32.toNatClampNeg (a3 + 2))) (
                                      gp (isO H42 22 9 = true) (
                                        bd2 (FX10_trade 22 (G.2.2.2.2 (Int32.toNatClampNeg (a3 + 1))) (G.2.2.2.2 (Int32.toNatClampNeg (a3 + 2))) H42) fun x43 H44 =>
                                        if (x41 = x43 : Prop) then
                                          K18 (a3 + 4) H44
                                        else
                                          some (0, H44)
                                        )
                                      )
                                    )
                                  )
                                )
                              )
                          else
                            if ((G.2.2.2.2 (Int32.toNatClampNeg a3)) &&& 31) = (11 : Int32) then
                              gp (isO H 0 8 = true) (
                                bd2 (FX9_undo 0  H) fun x45 H46 =>
                                gp (isO H46 22 9 = true) (
                                  bd2 (FX10_undo 22  H46) fun x47 H48 =>
                                  if (x45 = x47 : Prop) then
                                    K18 (a3 + 4) H48
                                  else
                                    some (0, H48)
                                  )
                                )
                            else
                              if ((G.2.2.2.2 (Int32.toNatClampNeg a3)) &&& 31) = (12 : Int32) then
                                gp (¬ ((a3 + 1) < 0 ∨ G.2.2.2.1 ≤ Int32.toNatClampNeg (a3 + 1))) (
                                  gp (¬ ((a3 + 2) < 0 ∨ G.2.2.2.1 ≤ Int32.toNatClampNeg (a3 + 2))) (
                                    gp (isO H 0 8 = true) (
                                      bd2 (FX9_orbit 0 (G.2.2.2.2 (Int32.toNatClampNeg (a3 + 1))) (G.2.2.2.2 (Int32.toNatClampNeg (a3 + 2))) H) fun x49 H50 =>
                                      gp (¬ ((a3 + 1) < 0 ∨ G.2.2.2.1 ≤ Int32.toNatClampNeg (a3 + 1))) (
                                        gp (¬ ((a3 + 2) < 0 ∨ G.2.2.2.1 ≤ Int32.toNatClampNeg (a3 + 2))) (
                                          gp (isO H50 22 9 = true) (
                                            bd2 (FX10_orbit 22 (G.2.2.2.2 (Int32.toNatClampNeg (a3 + 1))) (G.2.2.2.2 (Int32.toNatClampNeg (a3 + 2))) H50) fun x51 H52 =>
                                            if (x49 = x51 : Prop) then
                                              K18 (a3 + 4) H52
                                            else
                                              some (0, H52)
                                            )
                                          )
                                        )
                                      )
                                    )
                                  )
                              else
                                if ((G.2.2.2.2 (Int32.toNatClampNeg a3)) &&& 31) = (13 : Int32) then
                                  gp (¬ ((a3 + 1) < 0 ∨ G.2.2.2.1 ≤ Int32.toNatClampNeg (a3 + 1))) (
                                    gp (¬ ((a3 + 2) < 0 ∨ G.2.2.2.1 ≤ Int32.toNatClampNeg (a3 + 2))) (
                                      gp (¬ ((a3 + 3) < 0 ∨ G.2.2.2.1 ≤ Int32.toNatClampNeg (a3 + 3))) (
                                        gp (isO H 0 8 = true) (
                                          bd2 (FX9_alike 0 (G.2.2.2.2 (Int32.toNatClampNeg (a3 + 1))) (G.2.2.2.2 (Int32.toNatClampNeg (a3 + 2))) (G.2.2.2.2 (Int32.toNatClampNeg (a3 + 3))) H) fun x53 H54 =>
                                          gp (¬ ((a3 + 1) < 0 ∨ G.2.2.2.1 ≤ Int32.toNatClampNeg (a3 + 1))) (
                                            gp (¬ ((a3 + 2) < 0 ∨ G.2.2.2.1 ≤ Int32.toNatClampNeg (a3 + 2))) (
                                              gp (¬ ((a3 + 3) < 0 ∨ G.2.2.2.1 ≤ Int32.toNatClampNeg (a3 + 3))) (
                                                gp (isO H54 22 9 = true) (
                                                  bd2 (FX10_alike 22 (G.2.2.2.2 (Int32.toNatClampNeg (a3 + 1))) (G.2.2.2.2 (Int32.toNatClampNeg (a3 + 2))) (G.2.2.2.2 (Int32.toNatClampNeg (a3 + 3))) H54) fun x55 H56 =>
                                                  if (x53 = x55 : Prop) then
                                                    K18 (a3 + 4) H56
                                                  else
                                                    some (0, H56)
                                                  )
                                                )
                                              )
                                            )
                                          )
                                        )
                                      )
                                    )
                                else
                                  if ((G.2.2.2.2 (Int32.toNatClampNeg a3)) &&& 31) = (14 : Int32) then
                                    gp (¬ ((a3 + 1) < 0 ∨ G.2.2.2.1 ≤ Int32.toNatClampNeg (a3 + 1))) (
                                      gp (¬ ((a3 + 2) < 0 ∨ G.2.2.2.1 ≤ Int32.toNatClampNeg (a3 + 2))) (
                                        gp (¬ ((a3 + 3) < 0 ∨ G.2.2.2.1 ≤ Int32.toNatClampNeg (a3 + 3))) (
                                          gp (isO H 0 8 = true) (
                                            bd2 (FX9_judge 0 (G.2.2.2.2 (Int32.toNatClampNeg (a3 + 1))) (((Int32.toInt64 (G.2.2.2.2 (Int32.toNatClampNeg (a3 + 2)))) <<< (Int32.toInt64 32 &&& 63)) ||| ((Int32.toInt64 (G.2.2.2.2 (Int32.toNatClampNeg (a3 + 3)))) &&& 4294967295)) H) fun x57 H58 =>
                                            gp (¬ ((a3 + 1) < 0 ∨ G.2.2.2.1 ≤ Int32.toNatClampNeg (a3 + 1))) (
                                              gp (¬ ((a3 + 2) < 0 ∨ G.2.2.2.1 ≤ Int32.toNatClampNeg (a3 + 2))) (
                                                gp (¬ ((a3 + 3) < 0 ∨ G.2.2.2.1 ≤ Int32.toNatClampNeg (a3 + 3))) (
                                                  gp (isO H58 22 9 = true) (
                                                    bd2 (FX10_judge 22 (G.2.2.2.2 (Int32.toNatClampNeg (a3 + 1))) (((Int32.toInt64 (G.2.2.2.2 (Int32.toNatClampNeg (a3 + 2)))) <<< (Int32.toInt64 32 &&& 63)) ||| ((Int32.toInt64 (G.2.2.2.2 (Int32.toNatClampNeg (a3 + 3)))) &&& 4294967295)) H58) fun x59 H60 =>
                                                    if (x57 = x59 : Prop) then
                                                      K18 (a3 + 4) H60
                                                    else
                                                      some (0, H60)
                                                    )
                                                  )
                                                )
                                              )
                                            )
                                          )
                                        )
                                      )
                                  else
                                    if ((G.2.2.2.2 (Int32.toNatClampNeg a3)) &&& 31) = (15 : Int32) then
                                      gp (¬ ((a3 + 1) < 0 ∨ G.2.2.2.1 ≤ Int32.toNatClampNeg (a3 + 1))) (
                                        gp (¬ ((a3 + 2) < 0 ∨ G.2.2.2.1 ≤ Int32.toNatClampNeg (a3 + 2))) (
                                          if ((G.2.2.2.2 (Int32.toNatClampNeg (a3 + 2))) = 0 : Prop) then
                                            fL_law_589 G K18 a3 0 (G.2.2.2.2 (Int32.toNatClampNeg (a3 + 1))) 0 H
                                          else
                                            fL_law_589 G K18 a3 0 (G.2.2.2.2 (Int32.toNatClampNeg (a3 + 1))) 1 H
                                          )
                                        )
                                    else
                                      if ((G.2.2.2.2 (Int32.toNatClampNeg a3)) &&& 31) = (16 : Int32) then
                                        gp (¬ ((a3 + 1) < 0 ∨ G.2.2.2.1 ≤ Int32.toNatClampNeg (a3 + 1))) (
                                          gp (¬ ((a3 + 2) < 0 ∨ G.2.2.2.1 ≤ Int32.toNatClampNeg (a3 + 2))) (
                                            gp (isO H 0 8 = true) (
                                              bd2 (FX9_see 0 (G.2.2.2.2 (Int32.toNatClampNeg (a3 + 1))) (G.2.2.2.2 (Int32.toNatClampNeg (a3 + 2))) H) fun x61 H62 =>
                                              gp (¬ ((a3 + 1) < 0 ∨ G.2.2.2.1 ≤ Int32.toNatClampNeg (a3 + 1))) (
                                                gp (¬ ((a3 + 2) < 0 ∨ G.2.2.2.1 ≤ Int32.toNatClampNeg (a3 + 2))) (
                                                  gp (isO H62 22 9 = true) (
                                                    bd2 (FX10_see 22 (G.2.2.2.2 (Int32.toNatClampNeg (a3 + 1))) (G.2.2.2.2 (Int32.toNatClampNeg (a3 + 2))) H62) fun x63 H64 =>
                                                    if (x61 = x63 : Prop) then
                                                      K18 (a3 + 4) H64
                                                    else
                                                      some (0, H64)
                                                    )
                                                  )
                                                )
                                              )
                                            )
                                          )
                                      else
                                        if ((G.2.2.2.2 (Int32.toNatClampNeg a3)) &&& 31) = (17 : Int32) then
                                          gp (isO H 0 8 = true) (
                                            bd2 (FX9_unsee 0  H) fun x65 H66 =>
                                            gp (isO H66 22 9 = true) (
                                              bd2 (FX10_unsee 22  H66) fun x67 H68 =>
                                              if (x65 = x67 : Prop) then
                                                K18 (a3 + 4) H68
                                              else
                                                some (0, H68)
                                              )
                                            )
                                        else
                                          if ((G.2.2.2.2 (Int32.toNatClampNeg a3)) &&& 31) = (18 : Int32) then
                                            gp (isO H 0 8 = true) (
                                              bd2 (FX9_which 0  H) fun x69 H70 =>
                                              gp (isO H70 22 9 = true) (
                                                bd2 (FX10_which 22  H70) fun x71 H72 =>
                                                if (x69 = x71 : Prop) then
                                                  K18 (a3 + 4) H72
                                                else
                                                  some (0, H72)
                                                )
                                              )
                                          else
                                            if ((G.2.2.2.2 (Int32.toNatClampNeg a3)) &&& 31) = (19 : Int32) then
                                              gp (¬ ((a3 + 1) < 0 ∨ G.2.2.2.1 ≤ Int32.toNatClampNeg (a3 + 1))) (
                                                gp (¬ ((a3 + 2) < 0 ∨ G.2.2.2.1 ≤ Int32.toNatClampNeg (a3 + 2))) (
                                                  if ((G.2.2.2.2 (Int32.toNatClampNeg (a3 + 2))) = 0 : Prop) then
                                                    fL_law_697 G K18 a3 0 (G.2.2.2.2 (Int32.toNatClampNeg (a3 + 1))) 0 H
                                                  else
                                                    fL_law_697 G K18 a3 0 (G.2.2.2.2 (Int32.toNatClampNeg (a3 + 1))) 1 H
                                                  )
                                                )
                                            else
                                              if ((G.2.2.2.2 (Int32.toNatClampNeg a3)) &&& 31) = (20 : Int32) then
                                                gp (¬ ((a3 + 1) < 0 ∨ G.2.2.2.1 ≤ Int32.toNatClampNeg (a3 + 1))) (
                                                  gp (¬ ((a3 + 2) < 0 ∨ G.2.2.2.1 ≤ Int32.toNatClampNeg (a3 + 2))) (
                                                    gp (isO H 0 8 = true) (
                                                      bd2 (FX9_seed 0 (((Int32.toInt64 (G.2.2.2.2 (Int32.toNatClampNeg (a3 + 1)))) <<< (Int32.toInt64 32 &&& 63)) ||| ((Int32.toInt64 (G.2.2.2.2 (Int32.toNatClampNeg (a3 + 2)))) &&& 4294967295)) H) fun x73 H74 =>
                                                      gp (¬ ((a3 + 1) < 0 ∨ G.2.2.2.1 ≤ Int32.toNatClampNeg (a3 + 1))) (
                                                        gp (¬ ((a3 + 2) < 0 ∨ G.2.2.2.1 ≤ Int32.toNatClampNeg (a3 + 2))) (
                                                          gp (isO H74 22 9 = true) (
                                                            bd2 (FX10_seed 22 (((Int32.toInt64 (G.2.2.2.2 (Int32.toNatClampNeg (a3 + 1)))) <<< (Int32.toInt64 32 &&& 63)) ||| ((Int32.toInt64 (G.2.2.2.2 (Int32.toNatClampNeg (a3 + 2)))) &&& 4294967295)) H74) fun x75 H76 =>
                                                            if ((lg_cmp x73 x75) = 0 : Prop) then
                                                              K18 (a3 + 4) H76
                                                            else
                                                              some (0, H76)
                                                            )
                                                          )
                                                        )
                                                      )
                                                    )
                                                  )
                                              else
                                                if ((G.2.2.2.2 (Int32.toNatClampNeg a3)) &&& 31) = (21 : Int32) then
                                                  gp (¬ ((a3 + 1) < 0 ∨ G.2.2.2.1 ≤ Int32.toNatClampNeg (a3 + 1))) (
                                                    gp (isO H 0 8 = true) (
                                                      bd2 (FX9_drawn 0 (G.2.2.2.2 (Int32.toNatClampNeg (a3 + 1))) H) fun x77 H78 =>
                                                      gp (¬ ((a3 + 1) < 0 ∨ G.2.2.2.1 ≤ Int32.toNatClampNeg (a3 + 1))) (
                                                        gp (isO H78 22 9 = true) (
                                                          bd2 (FX10_drawn 22 (G.2.2.2.2 (Int32.toNatClampNeg (a3 + 1))) H78) fun x79 H80 =>
                                                          if (x77 = x79 : Prop) then
                                                            K18 (a3 + 4) H80
                                                          else
                                                            some (0, H80)
                                                          )
                                                        )
                                                      )
                                                    )
                                                else
                                                  if ((G.2.2.2.2 (Int32.toNatClampNeg a3)) &&& 31) = (22 : Int32) then
                                                    gp (¬ ((a3 + 1) < 0 ∨ G.2.2.2.1 ≤ Int32.toNatClampNeg (a3 + 1))) (
                                                      gp (isO H 0 8 = true) (
                                                        bd2 (FX9_keep 0 (G.2.2.2.2 (Int32.toNatClampNeg (a3 + 1))) H) fun x81 H82 =>
                                                        gp (¬ ((a3 + 1) < 0 ∨ G.2.2.2.1 ≤ Int32.toNatClampNeg (a3 + 1))) (
                                                          gp (isO H82 22 9 = true) (
                                                            bd2 (FX10_keep 22 (G.2.2.2.2 (Int32.toNatClampNeg (a3 + 1))) H82) fun x83 H84 =>
                                                            if (x81 = x83 : Prop) then
                                                              K18 (a3 + 4) H84
                                                            else
                                                              some (0, H84)
                                                            )
                                                          )
                                                        )
                                                      )
                                                  else
                                                    if ((G.2.2.2.2 (Int32.toNatClampNeg a3)) &&& 31) = (23 : Int32) then
                                                      gp (¬ ((a3 + 1) < 0 ∨ G.2.2.2.1 ≤ Int32.toNatClampNeg (a3 + 1))) (
                                                        gp (isO H 0 8 = true) (
                                                          bd2 (FX9_again 0 (G.2.2.2.2 (Int32.toNatClampNeg (a3 + 1))) H) fun x85 H86 =>
                                                          gp (¬ ((a3 + 1) < 0 ∨ G.2.2.2.1 ≤ Int32.toNatClampNeg (a3 + 1))) (
                                                            gp (isO H86 22 9 = true) (
                                                              bd2 (FX10_again 22 (G.2.2.2.2 (Int32.toNatClampNeg (a3 + 1))) H86) fun x87 H88 =>
                                                              if (x85 = x87 : Prop) then
                                                                K18 (a3 + 4) H88
                                                              else
                                                                some (0, H88)
                                                              )
                                                            )
                                                          )
                                                        )
                                                    else
                                                      K18 (a3 + 4) H
      )
set_option maxHeartbeats 4000000 in
set_option maxRecDepth 100000 in
theorem tbL_law_18 {G : GG} {H' : Hp} {K18 : Int32 → Hp → Option (Int32 × Hp)} (hK18 : ∀ (a3 : Int32) (H : Hp), K18 a3 H = some (1, H') → Sn G TL mL_law 18 [some (.ref 1001), some (.ref 0), some (.ref 22), some (.int a3)] [] H) {a3 : Int32} {H : Hp} (h : bL_law_18 G K18 a3 H = some (1, H')) : Sn G TL mL_law 18 [some (.ref 1001), some (.ref 0), some (.ref 22), some (.int a3)] [] H := by
  unfold bL_law_18 at h
  refine sn_blk _ kL_law_18_0 (pc' := 20) (L' := [some (.ref 1001), some (.ref 0), some (.ref 22), some (.int a3)]) (st' := [.ref 1001, .int a3]) rfl rfl ?_
  refine sn_scrlen dL_law_20 ?_
  refine sn_blk _ kL_law_18_1 (pc' := 23) (L' := [some (.ref 1001), some (.ref 0), some (.ref 22), some (.int a3)]) (st' := [.int ((Int32.ofNat G.2.2.2.1) - 4), .int a3]) rfl rfl ?_
  refine sn_icmp_gt (tgt := 856) dL_law_23 (by decide) (fun c => ?_) (fun c => ?_)
  · rw [if_pos c] at h
    refine sn_blk _ kL_law_18_2 (pc' := 857) (L' := [some (.ref 1001), some (.ref 0), some (.ref 22), some (.int a3)]) (st' := [.int 1]) rfl rfl ?_
    exact sn_lawret dL_law_857
  · rw [if_neg c] at h
    refine sn_blk _ kL_law_18_3 (pc' := 28) (L' := [some (.ref 1001), some (.ref 0), some (.ref 22), some (.int a3)]) (st' := [.int a3, .ref 1001]) rfl rfl ?_
    obtain ⟨hi, h⟩ := gp_inv h
    refine sn_scrld dL_law_28 hi ?_
    refine sn_blk _ kL_law_18_4 (pc' := 32) (L' := [some (.ref 1001), some (.ref 0), some (.ref 22), some (.int a3)]) (st' := [.int ((G.2.2.2.2 (Int32.toNatClampNeg a3)) &&& 31)]) rfl rfl ?_
    by_cases c32_0 : ((G.2.2.2.2 (Int32.toNatClampNeg a3)) &&& 31) = (0 : Int32)
    · rw [if_pos c32_0] at h
      refine sn_tblIn (off := 112) (tgt := 144) dL_law_32 (by rw [c32_0]; decide) (by rw [c32_0]; decide) (by rw [c32_0]; decide +kernel) (by decide) ?_
      refine sn_blk _ kL_law_18_5 (pc' := 149) (L' := [some (.ref 1001), some (.ref 0), some (.ref 22), some (.int a3)]) (st' := [.int (a3 + 1), .ref 1001, .ref 0]) rfl rfl ?_
      obtain ⟨hi, h⟩ := gp_inv h
      refine sn_scrld dL_law_149 hi ?_
      obtain ⟨ho, h⟩ := gp_inv h
      obtain ⟨fs, ho⟩ := isO_inv ho
      obtain ⟨x1, H2, hx1, h⟩ := bd2_inv h
      refine sn_callv (av := [.int (G.2.2.2.2 (Int32.toNatClampNeg (a3 + 1)))]) (st := []) (M2 := mX9_write) dL_law_150 msX9_write mlL_13 rfl rfl rfl rfl rfl ho (sX9_write hx1) ?_
      refine sn_blk _ kL_law_18_6 (pc' := 158) (L' := [some (.ref 1001), some (.ref 0), some (.ref 22), some (.int a3)]) (st' := [.int (a3 + 1), .ref 1001, .ref 22, .int x1]) rfl rfl ?_
      obtain ⟨hi, h⟩ := gp_inv h
      refine sn_scrld dL_law_158 hi ?_
      obtain ⟨ho, h⟩ := gp_inv h
      obtain ⟨fs, ho⟩ := isO_inv ho
      obtain ⟨x3, H4, hx3, h⟩ := bd2_inv h
      refine sn_callv (av := [.int (G.2.2.2.2 (Int32.toNatClampNeg (a3 + 1)))]) (st := [.int x1]) (M2 := mX10_write) dL_law_159 msX10_write mlL_17 rfl rfl rfl rfl rfl ho (sX10_write hx3) ?_
      refine sn_icmp_eq (tgt := 850) dL_law_162 (by decide) (fun c => ?_) (fun c => ?_)
      · rw [if_pos c] at h
        refine sn_blk _ kL_law_18_7 (pc' := 18) (L' := [some (.ref 1001), some (.ref 0), some (.ref 22), some (.int (a3 + 4))]) (st' := []) rfl rfl ?_
        exact hK18 _ _ h
      · rw [if_neg c] at h
        refine sn_blk _ kL_law_18_8 (pc' := 166) (L' := [some (.ref 1001), some (.ref 0), some (.ref 22), some (.int a3)]) (st' := [.int 0]) rfl rfl ?_
        exact absurd h law_no
    · rw [if_neg c32_0] at h
      by_cases c32_1 : ((G.2.2.2.2 (Int32.toNatClampNeg a3)) &&& 31) = (1 : Int32)
      · rw [if_pos c32_1] at h
        refine sn_tblIn (off := 135) (tgt := 167) dL_law_32 (by rw [c32_1]; decide) (by rw [c32_1]; decide) (by rw [c32_1]; decide +kernel) (by decide) ?_
        refine sn_blk _ kL_law_18_9 (pc' := 168) (L' := [some (.ref 1001), some (.ref 0), some (.ref 22), some (.int a3)]) (st' := [.ref 0]) rfl rfl ?_
        obtain ⟨ho, h⟩ := gp_inv h
        obtain ⟨fs, ho⟩ := isO_inv ho
        obtain ⟨x5, H6, hx5, h⟩ := bd2_inv h
        refine sn_callv (av := []) (st := []) (M2 := mX9_wipe) dL_law_168 msX9_wipe mlL_18 rfl rfl rfl rfl rfl ho (sX9_wipe hx5) ?_
        refine sn_blk _ kL_law_18_10 (pc' := 172) (L' := [some (.ref 1001), some (.ref 0), some (.ref 22), some (.int a3)]) (st' := [.ref 22, .int x5]) rfl rfl ?_
        obtain ⟨ho, h⟩ := gp_inv h
        obtain ⟨fs, ho⟩ := isO_inv ho
        obtain ⟨x7, H8, hx7, h⟩ := bd2_inv h
        refine sn_callv (av := []) (st := [.int x5]) (M2 := mX10_wipe) dL_law_172 msX10_wipe mlL_22 rfl rfl rfl rfl rfl ho (sX10_wipe hx7) ?_
        refine sn_icmp_eq (tgt := 850) dL_law_175 (by decide) (fun c => ?_) (fun c => ?_)
        · rw [if_pos c] at h
          refine sn_blk _ kL_law_18_11 (pc' := 18) (L' := [some (.ref 1001), some (.ref 0), some (.ref 22), some (.int (a3 + 4))]) (st' := []) rfl rfl ?_
          exact hK18 _ _ h
        · rw [if_neg c] at h
          refine sn_blk _ kL_law_18_12 (pc' := 179) (L' := [some (.ref 1001), some (.ref 0), some (.ref 22), some (.int a3)]) (st' := [.int 0]) rfl rfl ?_
          exact absurd h law_no
      · rw [if_neg c32_1] at h
        by_cases c32_2 : ((G.2.2.2.2 (Int32.toNatClampNeg a3)) &&& 31) = (2 : Int32)
        · rw [if_pos c32_2] at h
          refine sn_tblIn (off := 148) (tgt := 180) dL_law_32 (by rw [c32_2]; decide) (by rw [c32_2]; decide) (by rw [c32_2]; decide +kernel) (by decide) ?_
          refine sn_blk _ kL_law_18_13 (pc' := 181) (L' := [some (.ref 1001), some (.ref 0), some (.ref 22), some (.int a3)]) (st' := [.ref 0]) rfl rfl ?_
          obtain ⟨ho, h⟩ := gp_inv h
          obtain ⟨fs, ho⟩ := isO_inv ho
          obtain ⟨x9, H10, hx9, h⟩ := bd2_inv h
          refine sn_callv (av := []) (st := []) (M2 := mX9_fault) dL_law_181 msX9_fault mlL_23 rfl rfl rfl rfl rfl ho (sX9_fault hx9) ?_
          refine sn_blk _ kL_law_18_14 (pc' := 185) (L' := [some (.ref 1001), some (.ref 0), some (.ref 22), some (.int a3)]) (st' := [.ref 22, .int x9]) rfl rfl ?_
          obtain ⟨ho, h⟩ := gp_inv h
          obtain ⟨fs, ho⟩ := isO_inv ho
          obtain ⟨x11, H12, hx11, h⟩ := bd2_inv h
          refine sn_callv (av := []) (st := [.int x9]) (M2 := mX10_fault) dL_law_185 msX10_fault mlL_26 rfl rfl rfl rfl rfl ho (sX10_fault hx11) ?_
          refine sn_icmp_eq (tgt := 850) dL_law_188 (by decide) (fun c => ?_) (fun c => ?_)
          · rw [if_pos c] at h
            refine sn_blk _ kL_law_18_15 (pc' := 18) (L' := [some (.ref 1001), some (.ref 0), some (.ref 22), some (.int (a3 + 4))]) (st' := []) rfl rfl ?_
            exact hK18 _ _ h
          · rw [if_neg c] at h
            refine sn_blk _ kL_law_18_16 (pc' := 192) (L' := [some (.ref 1001), some (.ref 0), some (.ref 22), some (.int a3)]) (st' := [.int 0]) rfl rfl ?_
            exact absurd h law_no
        · rw [if_neg c32_2] at h
          by_cases c32_3 : ((G.2.2.2.2 (Int32.toNatClampNeg a3)) &&& 31) = (3 : Int32)
          · rw [if_pos c32_3] at h
            refine sn_tblIn (off := 161) (tgt := 193) dL_law_32 (by rw [c32_3]; decide) (by rw [c32_3]; decide) (by rw [c32_3]; decide +kernel) (by decide) ?_
            refine sn_blk _ kL_law_18_17 (pc' := 194) (L' := [some (.ref 1001), some (.ref 0), some (.ref 22), some (.int a3)]) (st' := [.ref 0]) rfl rfl ?_
            obtain ⟨ho, h⟩ := gp_inv h
            obtain ⟨fs, ho⟩ := isO_inv ho
            obtain ⟨x13, H14, hx13, h⟩ := bd2_inv h
            refine sn_callv (av := []) (st := []) (M2 := mX9_surface) dL_law_194 msX9_surface mlL_27 rfl rfl rfl rfl rfl ho (sX9_surface hx13) ?_
            refine sn_blk _ kL_law_18_18 (pc' := 198) (L' := [some (.ref 1001), some (.ref 0), some (.ref 22), some (.int a3)]) (st' := [.ref 22, .int x13]) rfl rfl ?_
            obtain ⟨ho, h⟩ := gp_inv h
            obtain ⟨fs, ho⟩ := isO_inv ho
            obtain ⟨x15, H16, hx15, h⟩ := bd2_inv h
            refine sn_callv (av := []) (st := [.int x13]) (M2 := mX10_surface) dL_law_198 msX10_surface mlL_30 rfl rfl rfl rfl rfl ho (sX10_surface hx15) ?_
            refine sn_icmp_eq (tgt := 850) dL_law_201 (by decide) (fun c => ?_) (fun c => ?_)
            · rw [if_pos c] at h
              refine sn_blk _ kL_law_18_19 (pc' := 18) (L' := [some (.ref 1001), some (.ref 0), some (.ref 22), some (.int (a3 + 4))]) (st' := []) rfl rfl ?_
              exact hK18 _ _ h
            · rw [if_neg c] at h
              refine sn_blk _ kL_law_18_20 (pc' := 205) (L' := [some (.ref 1001), some (.ref 0), some (.ref 22), some (.int a3)]) (st' := [.int 0]) rfl rfl ?_
              exact absurd h law_no
          · rw [if_neg c32_3] at h
            by_cases c32_4 : ((G.2.2.2.2 (Int32.toNatClampNeg a3)) &&& 31) = (4 : Int32)
            · rw [if_pos c32_4] at h
              refine sn_tblIn (off := 174) (tgt := 206) dL_law_32 (by rw [c32_4]; decide) (by rw [c32_4]; decide) (by rw [c32_4]; decide +kernel) (by decide) ?_
              refine sn_blk _ kL_law_18_21 (pc' := 211) (L' := [some (.ref 1001), some (.ref 0), some (.ref 22), some (.int a3)]) (st' := [.int (a3 + 1), .ref 1001, .ref 0]) rfl rfl ?_
              obtain ⟨hi, h⟩ := gp_inv h
              refine sn_scrld dL_law_211 hi ?_
              obtain ⟨ho, h⟩ := gp_inv h
              obtain ⟨fs, ho⟩ := isO_inv ho
              obtain ⟨x17, H18, hx17, h⟩ := bd2_inv h
              refine sn_callv (av := [.int (G.2.2.2.2 (Int32.toNatClampNeg (a3 + 1)))]) (st := []) (M2 := mX9_about) dL_law_212 msX9_about mlL_31 rfl rfl rfl rfl rfl ho (sX9_about hx17) ?_
              refine sn_blk _ kL_law_18_22 (pc' := 220) (L' := [some (.ref 1001), some (.ref 0), some (.ref 22), some (.int a3)]) (st' := [.int (a3 + 1), .ref 1001, .ref 22, .int x17]) rfl rfl ?_
              obtain ⟨hi, h⟩ := gp_inv h
              refine sn_scrld dL_law_220 hi ?_
              obtain ⟨ho, h⟩ := gp_inv h
              obtain ⟨fs, ho⟩ := isO_inv ho
              obtain ⟨x19, H20, hx19, h⟩ := bd2_inv h
              refine sn_callv (av := [.int (G.2.2.2.2 (Int32.toNatClampNeg (a3 + 1)))]) (st := [.int x17]) (M2 := mX10_about) dL_law_221 msX10_about mlL_34 rfl rfl rfl rfl rfl ho (sX10_about hx19) ?_
              refine sn_icmp_eq (tgt := 850) dL_law_224 (by decide) (fun c => ?_) (fun c => ?_)
              · rw [if_pos c] at h
                refine sn_blk _ kL_law_18_23 (pc' := 18) (L' := [some (.ref 1001), some (.ref 0), some (.ref 22), some (.int (a3 + 4))]) (st' := []) rfl rfl ?_
                exact hK18 _ _ h
              · rw [if_neg c] at h
                refine sn_blk _ kL_law_18_24 (pc' := 228) (L' := [some (.ref 1001), some (.ref 0), some (.ref 22), some (.int a3)]) (st' := [.int 0]) rfl rfl ?_
                exact absurd h law_no
            · rw [if_neg c32_4] at h
              by_cases c32_5 : ((G.2.2.2.2 (Int32.toNatClampNeg a3)) &&& 31) = (5 : Int32)
              · rw [if_pos c32_5] at h
                refine sn_tblIn (off := 197) (tgt := 229) dL_law_32 (by rw [c32_5]; decide) (by rw [c32_5]; decide) (by rw [c32_5]; decide +kernel) (by decide) ?_
                refine sn_blk _ kL_law_18_25 (pc' := 234) (L' := [some (.ref 1001), some (.ref 0), some (.ref 22), some (.int a3)]) (st' := [.int (a3 + 1), .ref 1001, .ref 0]) rfl rfl ?_
                obtain ⟨hi, h⟩ := gp_inv h
                refine sn_scrld dL_law_234 hi ?_
                refine sn_blk _ kL_law_18_26 (pc' := 239) (L' := [some (.ref 1001), some (.ref 0), some (.ref 22), some (.int a3)]) (st' := [.int (a3 + 2), .ref 1001, .int (G.2.2.2.2 (Int32.toNatClampNeg (a3 + 1))), .ref 0]) rfl rfl ?_
                obtain ⟨hi, h⟩ := gp_inv h
                refine sn_scrld dL_law_239 hi ?_
                obtain ⟨ho, h⟩ := gp_inv h
                obtain ⟨fs, ho⟩ := isO_inv ho
                obtain ⟨x21, H22, hx21, h⟩ := bd2_inv h
                refine sn_callv (av := [.int (G.2.2.2.2 (Int32.toNatClampNeg (a3 + 1))), .int (G.2.2.2.2 (Int32.toNatClampNeg (a3 + 2)))]) (st := []) (M2 := mX9_go) dL_law_240 msX9_go mlL_35 rfl rfl rfl rfl rfl ho (sX9_go hx21) ?_
                refine sn_blk _ kL_law_18_27 (pc' := 248) (L' := [some (.ref 1001), some (.ref 0), some (.ref 22), some (.int a3)]) (st' := [.int (a3 + 1), .ref 1001, .ref 22, .int x21]) rfl rfl ?_
                obtain ⟨hi, h⟩ := gp_inv h
                refine sn_scrld dL_law_248 hi ?_
                refine sn_blk _ kL_law_18_28 (pc' := 253) (L' := [some (.ref 1001), some (.ref 0), some (.ref 22), some (.int a3)]) (st' := [.int (a3 + 2), .ref 1001, .int (G.2.2.2.2 (Int32.toNatClampNeg (a3 + 1))), .ref 22, .int x21]) rfl rfl ?_
                obtain ⟨hi, h⟩ := gp_inv h
                refine sn_scrld dL_law_253 hi ?_
                obtain ⟨ho, h⟩ := gp_inv h
                obtain ⟨fs, ho⟩ := isO_inv ho
                obtain ⟨x23, H24, hx23, h⟩ := bd2_inv h
                refine sn_callv (av := [.int (G.2.2.2.2 (Int32.toNatClampNeg (a3 + 1))), .int (G.2.2.2.2 (Int32.toNatClampNeg (a3 + 2)))]) (st := [.int x21]) (M2 := mX10_go) dL_law_254 msX10_go mlL_39 rfl rfl rfl rfl rfl ho (sX10_go hx23) ?_
                refine sn_icmp_eq (tgt := 850) dL_law_257 (by decide) (fun c => ?_) (fun c => ?_)
                · rw [if_pos c] at h
                  refine sn_blk _ kL_law_18_29 (pc' := 18) (L' := [some (.ref 1001), some (.ref 0), some (.ref 22), some (.int (a3 + 4))]) (st' := []) rfl rfl ?_
                  exact hK18 _ _ h
                · rw [if_neg c] at h
                  refine sn_blk _ kL_law_18_30 (pc' := 261) (L' := [some (.ref 1001), some (.ref 0), some (.ref 22), some (.int a3)]) (st' := [.int 0]) rfl rfl ?_
                  exact absurd h law_no
              · rw [if_neg c32_5] at h
                by_cases c32_6 : ((G.2.2.2.2 (Int32.toNatClampNeg a3)) &&& 31) = (6 : Int32)
                · rw [if_pos c32_6] at h
                  refine sn_tblIn (off := 230) (tgt := 262) dL_law_32 (by rw [c32_6]; decide) (by rw [c32_6]; decide) (by rw [c32_6]; decide +kernel) (by decide) ?_
                  refine sn_blk _ kL_law_18_31 (pc' := 267) (L' := [some (.ref 1001), some (.ref 0), some (.ref 22), some (.int a3)]) (st' := [.int (a3 + 1), .ref 1001, .ref 0]) rfl rfl ?_
                  obtain ⟨hi, h⟩ := gp_inv h
                  refine sn_scrld dL_law_267 hi ?_
                  refine sn_blk _ kL_law_18_32 (pc' := 272) (L' := [some (.ref 1001), some (.ref 0), some (.ref 22), some (.int a3)]) (st' := [.int (a3 + 2), .ref 1001, .int (G.2.2.2.2 (Int32.toNatClampNeg (a3 + 1))), .ref 0]) rfl rfl ?_
                  obtain ⟨hi, h⟩ := gp_inv h
                  refine sn_scrld dL_law_272 hi ?_
                  obtain ⟨ho, h⟩ := gp_inv h
                  obtain ⟨fs, ho⟩ := isO_inv ho
                  obtain ⟨x25, H26, hx25, h⟩ := bd2_inv h
                  refine sn_callv (av := [.int (G.2.2.2.2 (Int32.toNatClampNeg (a3 + 1))), .int (G.2.2.2.2 (Int32.toNatClampNeg (a3 + 2)))]) (st := []) (M2 := mX9_walk) dL_law_273 msX9_walk mlL_40 rfl rfl rfl rfl rfl ho (sX9_walk hx25) ?_
                  refine sn_blk _ kL_law_18_33 (pc' := 281) (L' := [some (.ref 1001), some (.ref 0), some (.ref 22), some (.int a3)]) (st' := [.int (a3 + 1), .ref 1001, .ref 22, .int x25]) rfl rfl ?_
                  obtain ⟨hi, h⟩ := gp_inv h
                  refine sn_scrld dL_law_281 hi ?_
                  refine sn_blk _ kL_law_18_34 (pc' := 286) (L' := [some (.ref 1001), some (.ref 0), some (.ref 22), some (.int a3)]) (st' := [.int (a3 + 2), .ref 1001, .int (G.2.2.2.2 (Int32.toNatClampNeg (a3 + 1))), .ref 22, .int x25]) rfl rfl ?_
                  obtain ⟨hi, h⟩ := gp_inv h
                  refine sn_scrld dL_law_286 hi ?_
                  obtain ⟨ho, h⟩ := gp_inv h
                  obtain ⟨fs, ho⟩ := isO_inv ho
                  obtain ⟨x27, H28, hx27, h⟩ := bd2_inv h
                  refine sn_callv (av := [.int (G.2.2.2.2 (Int32.toNatClampNeg (a3 + 1))), .int (G.2.2.2.2 (Int32.toNatClampNeg (a3 + 2)))]) (st := [.int x25]) (M2 := mX10_walk) dL_law_287 msX10_walk mlL_43 rfl rfl rfl rfl rfl ho (sX10_walk hx27) ?_
                  refine sn_icmp_eq (tgt := 850) dL_law_290 (by decide) (fun c => ?_) (fun c => ?_)
                  · rw [if_pos c] at h
                    refine sn_blk _ kL_law_18_35 (pc' := 18) (L' := [some (.ref 1001), some (.ref 0), some (.ref 22), some (.int (a3 + 4))]) (st' := []) rfl rfl ?_
                    exact hK18 _ _ h
                  · rw [if_neg c] at h
                    refine sn_blk _ kL_law_18_36 (pc' := 294) (L' := [some (.ref 1001), some (.ref 0), some (.ref 22), some (.int a3)]) (st' := [.int 0]) rfl rfl ?_
                    exact absurd h law_no
                · rw [if_neg c32_6] at h
                  by_cases c32_7 : ((G.2.2.2.2 (Int32.toNatClampNeg a3)) &&& 31) = (7 : Int32)
                  · rw [if_pos c32_7] at h
                    refine sn_tblIn (off := 263) (tgt := 295) dL_law_32 (by rw [c32_7]; decide) (by rw [c32_7]; decide) (by rw [c32_7]; decide +kernel) (by decide) ?_
                    refine sn_blk _ kL_law_18_37 (pc' := 300) (L' := [some (.ref 1001), some (.ref 0), some (.ref 22), some (.int a3)]) (st' := [.int (a3 + 1), .ref 1001, .ref 0]) rfl rfl ?_
                    obtain ⟨hi, h⟩ := gp_inv h
                    refine sn_scrld dL_law_300 hi ?_
                    refine sn_blk _ kL_law_18_38 (pc' := 305) (L' := [some (.ref 1001), some (.ref 0), some (.ref 22), some (.int a3)]) (st' := [.int (a3 + 2), .ref 1001, .int (G.2.2.2.2 (Int32.toNatClampNeg (a3 + 1))), .ref 0]) rfl rfl ?_
                    obtain ⟨hi, h⟩ := gp_inv h
                    refine sn_scrld dL_law_305 hi ?_
                    obtain ⟨ho, h⟩ := gp_inv h
                    obtain ⟨fs, ho⟩ := isO_inv ho
                    obtain ⟨x29, H30, hx29, h⟩ := bd2_inv h
                    refine sn_callv (av := [.int (G.2.2.2.2 (Int32.toNatClampNeg (a3 + 1))), .int (G.2.2.2.2 (Int32.toNatClampNeg (a3 + 2)))]) (st := []) (M2 := mX9_square) dL_law_306 msX9_square mlL_44 rfl rfl rfl rfl rfl ho (sX9_square hx29) ?_
                    refine sn_blk _ kL_law_18_39 (pc' := 314) (L' := [some (.ref 1001), some (.ref 0), some (.ref 22), some (.int a3)]) (st' := [.int (a3 + 1), .ref 1001, .ref 22, .int x29]) rfl rfl ?_
                    obtain ⟨hi, h⟩ := gp_inv h
                    refine sn_scrld dL_law_314 hi ?_
                    refine sn_blk _ kL_law_18_40 (pc' := 319) (L' := [some (.ref 1001), some (.ref 0), some (.ref 22), some (.int a3)]) (st' := [.int (a3 + 2), .ref 1001, .int (G.2.2.2.2 (Int32.toNatClampNeg (a3 + 1))), .ref 22, .int x29]) rfl rfl ?_
                    obtain ⟨hi, h⟩ := gp_inv h
                    refine sn_scrld dL_law_319 hi ?_
                    obtain ⟨ho, h⟩ := gp_inv h
                    obtain ⟨fs, ho⟩ := isO_inv ho
                    obtain ⟨x31, H32, hx31, h⟩ := bd2_inv h
                    refine sn_callv (av := [.int (G.2.2.2.2 (Int32.toNatClampNeg (a3 + 1))), .int (G.2.2.2.2 (Int32.toNatClampNeg (a3 + 2)))]) (st := [.int x29]) (M2 := mX10_square) dL_law_320 msX10_square mlL_47 rfl rfl rfl rfl rfl ho (sX10_square hx31) ?_
                    refine sn_icmp_eq (tgt := 850) dL_law_323 (by decide) (fun c => ?_) (fun c => ?_)
                    · rw [if_pos c] at h
                      refine sn_blk _ kL_law_18_41 (pc' := 18) (L' := [some (.ref 1001), some (.ref 0), some (.ref 22), some (.int (a3 + 4))]) (st' := []) rfl rfl ?_
                      exact hK18 _ _ h
                    · rw [if_neg c] at h
                      refine sn_blk _ kL_law_18_42 (pc' := 327) (L' := [some (.ref 1001), some (.ref 0), some (.ref 22), some (.int a3)]) (st' := [.int 0]) rfl rfl ?_
                      exact absurd h law_no
                  · rw [if_neg c32_7] at h
                    by_cases c32_8 : ((G.2.2.2.2 (Int32.toNatClampNeg a3)) &&& 31) = (8 : Int32)
                    · rw [if_pos c32_8] at h
                      refine sn_tblIn (off := 296) (tgt := 328) dL_law_32 (by rw [c32_8]; decide) (by rw [c32_8]; decide) (by rw [c32_8]; decide +kernel) (by decide) ?_
                      refine sn_blk _ kL_law_18_43 (pc' := 333) (L' := [some (.ref 1001), some (.ref 0), some (.ref 22), some (.int a3)]) (st' := [.int (a3 + 1), .ref 1001, .ref 0]) rfl rfl ?_
                      obtain ⟨hi, h⟩ := gp_inv h
                      refine sn_scrld dL_law_333 hi ?_
                      refine sn_blk _ kL_law_18_44 (pc' := 338) (L' := [some (.ref 1001), some (.ref 0), some (.ref 22), some (.int a3)]) (st' := [.int (a3 + 2), .ref 1001, .int (G.2.2.2.2 (Int32.toNatClampNeg (a3 + 1))), .ref 0]) rfl rfl ?_
                      obtain ⟨hi, h⟩ := gp_inv h
                      refine sn_scrld dL_law_338 hi ?_
                      obtain ⟨ho, h⟩ := gp_inv h
                      obtain ⟨fs, ho⟩ := isO_inv ho
                      obtain ⟨x33, H34, hx33, h⟩ := bd2_inv h
                      refine sn_callv (av := [.int (G.2.2.2.2 (Int32.toNatClampNeg (a3 + 1))), .int (G.2.2.2.2 (Int32.toNatClampNeg (a3 + 2)))]) (st := []) (M2 := mX9_name) dL_law_339 msX9_name mlL_48 rfl rfl rfl rfl rfl ho (sX9_name hx33) ?_
                      refine sn_blk _ kL_law_18_45 (pc' := 347) (L' := [some (.ref 1001), some (.ref 0), some (.ref 22), some (.int a3)]) (st' := [.int (a3 + 1), .ref 1001, .ref 22, .long x33]) rfl rfl ?_
                      obtain ⟨hi, h⟩ := gp_inv h
                      refine sn_scrld dL_law_347 hi ?_
                      refine sn_blk _ kL_law_18_46 (pc' := 352) (L' := [some (.ref 1001), some (.ref 0), some (.ref 22), some (.int a3)]) (st' := [.int (a3 + 2), .ref 1001, .int (G.2.2.2.2 (Int32.toNatClampNeg (a3 + 1))), .ref 22, .long x33]) rfl rfl ?_
                      obtain ⟨hi, h⟩ := gp_inv h
                      refine sn_scrld dL_law_352 hi ?_
                      obtain ⟨ho, h⟩ := gp_inv h
                      obtain ⟨fs, ho⟩ := isO_inv ho
                      obtain ⟨x35, H36, hx35, h⟩ := bd2_inv h
                      refine sn_callv (av := [.int (G.2.2.2.2 (Int32.toNatClampNeg (a3 + 1))), .int (G.2.2.2.2 (Int32.toNatClampNeg (a3 + 2)))]) (st := [.long x33]) (M2 := mX10_name) dL_law_353 msX10_name mlL_52 rfl rfl rfl rfl rfl ho (sX10_name hx35) ?_
                      refine sn_blk _ kL_law_18_47 (pc' := 357) (L' := [some (.ref 1001), some (.ref 0), some (.ref 22), some (.int a3)]) (st' := [.int (lg_cmp x33 x35)]) rfl rfl ?_
                      refine sn_if_eq (tgt := 850) dL_law_357 (by decide) (fun c => ?_) (fun c => ?_)
                      · rw [if_pos c] at h
                        refine sn_blk _ kL_law_18_48 (pc' := 18) (L' := [some (.ref 1001), some (.ref 0), some (.ref 22), some (.int (a3 + 4))]) (st' := []) rfl rfl ?_
                        exact hK18 _ _ h
                      · rw [if_neg c] at h
                        refine sn_blk _ kL_law_18_49 (pc' := 361) (L' := [some (.ref 1001), some (.ref 0), some (.ref 22), some (.int a3)]) (st' := [.int 0]) rfl rfl ?_
                        exact absurd h law_no
                    · rw [if_neg c32_8] at h
                      by_cases c32_9 : ((G.2.2.2.2 (Int32.toNatClampNeg a3)) &&& 31) = (9 : Int32)
                      · rw [if_pos c32_9] at h
                        refine sn_tblIn (off := 330) (tgt := 362) dL_law_32 (by rw [c32_9]; decide) (by rw [c32_9]; decide) (by rw [c32_9]; decide +kernel) (by decide) ?_
                        refine sn_blk _ kL_law_18_50 (pc' := 367) (L' := [some (.ref 1001), some (.ref 0), some (.ref 22), some (.int a3)]) (st' := [.int (a3 + 1), .ref 1001, .ref 0]) rfl rfl ?_
                        obtain ⟨hi, h⟩ := gp_inv h
                        refine sn_scrld dL_law_367 hi ?_
                        obtain ⟨ho, h⟩ := gp_inv h
                        obtain ⟨fs, ho⟩ := isO_inv ho
                        obtain ⟨x37, H38, hx37, h⟩ := bd2_inv h
                        refine sn_callv (av := [.int (G.2.2.2.2 (Int32.toNatClampNeg (a3 + 1)))]) (st := []) (M2 := mX9_shear) dL_law_368 msX9_shear mlL_53 rfl rfl rfl rfl rfl ho (sX9_shear hx37) ?_
                        refine sn_blk _ kL_law_18_51 (pc' := 376) (L' := [some (.ref 1001), some (.ref 0), some (.ref 22), some (.int a3)]) (st' := [.int (a3 + 1), .ref 1001, .ref 22, .int x37]) rfl rfl ?_
                        obtain ⟨hi, h⟩ := gp_inv h
                        refine sn_scrld dL_law_376 hi ?_
                        obtain ⟨ho, h⟩ := gp_inv h
                        obtain ⟨fs, ho⟩ := isO_inv ho
                        obtain ⟨x39, H40, hx39, h⟩ := bd2_inv h
                        refine sn_callv (av := [.int (G.2.2.2.2 (Int32.toNatClampNeg (a3 + 1)))]) (st := [.int x37]) (M2 := mX10_shear) dL_law_377 msX10_shear mlL_56 rfl rfl rfl rfl rfl ho (sX10_shear hx39) ?_
                        refine sn_icmp_eq (tgt := 850) dL_law_380 (by decide) (fun c => ?_) (fun c => ?_)
                        · rw [if_pos c] at h
                          refine sn_blk _ kL_law_18_52 (pc' := 18) (L' := [some (.ref 1001), some (.ref 0), some (.ref 22), some (.int (a3 + 4))]) (st' := []) rfl rfl ?_
                          exact hK18 _ _ h
                        · rw [if_neg c] at h
                          refine sn_blk _ kL_law_18_53 (pc' := 384) (L' := [some (.ref 1001), some (.ref 0), some (.ref 22), some (.int a3)]) (st' := [.int 0]) rfl rfl ?_
                          exact absurd h law_no
                      · rw [if_neg c32_9] at h
                        by_cases c32_10 : ((G.2.2.2.2 (Int32.toNatClampNeg a3)) &&& 31) = (10 : Int32)
                        · rw [if_pos c32_10] at h
                          refine sn_tblIn (off := 353) (tgt := 385) dL_law_32 (by rw [c32_10]; decide) (by rw [c32_10]; decide) (by rw [c32_10]; decide +kernel) (by decide) ?_
                          refine sn_blk _ kL_law_18_54 (pc' := 390) (L' := [some (.ref 1001), some (.ref 0), some (.ref 22), some (.int a3)]) (st' := [.int (a3 + 1), .ref 1001, .ref 0]) rfl rfl ?_
                          obtain ⟨hi, h⟩ := gp_inv h
                          refine sn_scrld dL_law_390 hi ?_
                          refine sn_blk _ kL_law_18_55 (pc' := 395) (L' := [some (.ref 1001), some (.ref 0), some (.ref 22), some (.int a3)]) (st' := [.int (a3 + 2), .ref 1001, .int (G.2.2.2.2 (Int32.toNatClampNeg (a3 + 1))), .ref 0]) rfl rfl ?_
                          obtain ⟨hi, h⟩ := gp_inv h
                          refine sn_scrld dL_law_395 hi ?_
                          obtain ⟨ho, h⟩ := gp_inv h
                          obtain ⟨fs, ho⟩ := isO_inv ho
                          obtain ⟨x41, H42, hx41, h⟩ := bd2_inv h
                          refine sn_callv (av := [.int (G.2.2.2.2 (Int32.toNatClampNeg (a3 + 1))), .int (G.2.2.2.2 (Int32.toNatClampNeg (a3 + 2)))]) (st := []) (M2 := mX9_trade) dL_law_396 msX9_trade mlL_57 rfl rfl rfl rfl rfl ho (sX9_trade hx41) ?_
                          refine sn_blk _ kL_law_18_56 (pc' := 404) (L' := [some (.ref 1001), some (.ref 0), some (.ref 22), some (.int a3)]) (st' := [.int (a3 + 1), .ref 1001, .ref 22, .int x41]) rfl rfl ?_
                          obtain ⟨hi, h⟩ := gp_inv h
                          refine sn_scrld dL_law_404 hi ?_
                          refine sn_blk _ kL_law_18_57 (pc' := 409) (L' := [some (.ref 1001), some (.ref 0), some (.ref 22), some (.int a3)]) (st' := [.int (a3 + 2), .ref 1001, .int (G.2.2.2.2 (Int32.toNatClampNeg (a3 + 1))), .ref 22, .int x41]) rfl rfl ?_
                          obtain ⟨hi, h⟩ := gp_inv h
                          refine sn_scrld dL_law_409 hi ?_
                          obtain ⟨ho, h⟩ := gp_inv h
                          obtain ⟨fs, ho⟩ := isO_inv ho
                          obtain ⟨x43, H44, hx43, h⟩ := bd2_inv h
                          refine sn_callv (av := [.int (G.2.2.2.2 (Int32.toNatClampNeg (a3 + 1))), .int (G.2.2.2.2 (Int32.toNatClampNeg (a3 + 2)))]) (st := [.int x41]) (M2 := mX10_trade) dL_law_410 msX10_trade mlL_60 rfl rfl rfl rfl rfl ho (sX10_trade hx43) ?_
                          refine sn_icmp_eq (tgt := 850) dL_law_413 (by decide) (fun c => ?_) (fun c => ?_)
                          · rw [if_pos c] at h
                            refine sn_blk _ kL_law_18_58 (pc' := 18) (L' := [some (.ref 1001), some (.ref 0), some (.ref 22), some (.int (a3 + 4))]) (st' := []) rfl rfl ?_
                            exact hK18 _ _ h
                          · rw [if_neg c] at h
                            refine sn_blk _ kL_law_18_59 (pc' := 417) (L' := [some (.ref 1001), some (.ref 0), some (.ref 22), some (.int a3)]) (st' := [.int 0]) rfl rfl ?_
                            exact absurd h law_no
                        · rw [if_neg c32_10] at h
                          by_cases c32_11 : ((G.2.2.2.2 (Int32.toNatClampNeg a3)) &&& 31) = (11 : Int32)
                          · rw [if_pos c32_11] at h
                            refine sn_tblIn (off := 386) (tgt := 418) dL_law_32 (by rw [c32_11]; decide) (by rw [c32_11]; decide) (by rw [c32_11]; decide +kernel) (by decide) ?_
                            refine sn_blk _ kL_law_18_60 (pc' := 419) (L' := [some (.ref 1001), some (.ref 0), some (.ref 22), some (.int a3)]) (st' := [.ref 0]) rfl rfl ?_
                            obtain ⟨ho, h⟩ := gp_inv h
                            obtain ⟨fs, ho⟩ := isO_inv ho
                            obtain ⟨x45, H46, hx45, h⟩ := bd2_inv h
                            refine sn_callv (av := []) (st := []) (M2 := mX9_undo) dL_law_419 msX9_undo mlL_61 rfl rfl rfl rfl rfl ho (sX9_undo hx45) ?_
                            refine sn_blk _ kL_law_18_61 (pc' := 423) (L' := [some (.ref 1001), some (.ref 0), some (.ref 22), some (.int a3)]) (st' := [.ref 22, .int x45]) rfl rfl ?_
                            obtain ⟨ho, h⟩ := gp_inv h
                            obtain ⟨fs, ho⟩ := isO_inv ho
                            obtain ⟨x47, H48, hx47, h⟩ := bd2_inv h
                            refine sn_callv (av := []) (st := [.int x45]) (M2 := mX10_undo) dL_law_423 msX10_undo mlL_64 rfl rfl rfl rfl rfl ho (sX10_undo hx47) ?_
                            refine sn_icmp_eq (tgt := 850) dL_law_426 (by decide) (fun c => ?_) (fun c => ?_)
                            · rw [if_pos c] at h
                              refine sn_blk _ kL_law_18_62 (pc' := 18) (L' := [some (.ref 1001), some (.ref 0), some (.ref 22), some (.int (a3 + 4))]) (st' := []) rfl rfl ?_
                              exact hK18 _ _ h
                            · rw [if_neg c] at h
                              refine sn_blk _ kL_law_18_63 (pc' := 430) (L' := [some (.ref 1001), some (.ref 0), some (.ref 22), some (.int a3)]) (st' := [.int 0]) rfl rfl ?_
                              exact absurd h law_no
                          · rw [if_neg c32_11] at h
                            by_cases c32_12 : ((G.2.2.2.2 (Int32.toNatClampNeg a3)) &&& 31) = (12 : Int32)
                            · rw [if_pos c32_12] at h
                              refine sn_tblIn (off := 399) (tgt := 431) dL_law_32 (by rw [c32_12]; decide) (by rw [c32_12]; decide) (by rw [c32_12]; decide +kernel) (by decide) ?_
                              refine sn_blk _ kL_law_18_64 (pc' := 436) (L' := [some (.ref 1001), some (.ref 0), some (.ref 22), some (.int a3)]) (st' := [.int (a3 + 1), .ref 1001, .ref 0]) rfl rfl ?_
                              obtain ⟨hi, h⟩ := gp_inv h
                              refine sn_scrld dL_law_436 hi ?_
                              refine sn_blk _ kL_law_18_65 (pc' := 441) (L' := [some (.ref 1001), some (.ref 0), some (.ref 22), some (.int a3)]) (st' := [.int (a3 + 2), .ref 1001, .int (G.2.2.2.2 (Int32.toNatClampNeg (a3 + 1))), .ref 0]) rfl rfl ?_
                              obtain ⟨hi, h⟩ := gp_inv h
                              refine sn_scrld dL_law_441 hi ?_
                              obtain ⟨ho, h⟩ := gp_inv h
                              obtain ⟨fs, ho⟩ := isO_inv ho
                              obtain ⟨x49, H50, hx49, h⟩ := bd2_inv h
                              refine sn_callv (av := [.int (G.2.2.2.2 (Int32.toNatClampNeg (a3 + 1))), .int (G.2.2.2.2 (Int32.toNatClampNeg (a3 + 2)))]) (st := []) (M2 := mX9_orbit) dL_law_442 msX9_orbit mlL_65 rfl rfl rfl rfl rfl ho (sX9_orbit hx49) ?_
                              refine sn_blk _ kL_law_18_66 (pc' := 450) (L' := [some (.ref 1001), some (.ref 0), some (.ref 22), some (.int a3)]) (st' := [.int (a3 + 1), .ref 1001, .ref 22, .int x49]) rfl rfl ?_
                              obtain ⟨hi, h⟩ := gp_inv h
                              refine sn_scrld dL_law_450 hi ?_
                              refine sn_blk _ kL_law_18_67 (pc' := 455) (L' := [some (.ref 1001), some (.ref 0), some (.ref 22), some (.int a3)]) (st' := [.int (a3 + 2), .ref 1001, .int (G.2.2.2.2 (Int32.toNatClampNeg (a3 + 1))), .ref 22, .int x49]) rfl rfl ?_
                              obtain ⟨hi, h⟩ := gp_inv h
                              refine sn_scrld dL_law_455 hi ?_
                              obtain ⟨ho, h⟩ := gp_inv h
                              obtain ⟨fs, ho⟩ := isO_inv ho
                              obtain ⟨x51, H52, hx51, h⟩ := bd2_inv h
                              refine sn_callv (av := [.int (G.2.2.2.2 (Int32.toNatClampNeg (a3 + 1))), .int (G.2.2.2.2 (Int32.toNatClampNeg (a3 + 2)))]) (st := [.int x49]) (M2 := mX10_orbit) dL_law_456 msX10_orbit mlL_68 rfl rfl rfl rfl rfl ho (sX10_orbit hx51) ?_
                              refine sn_icmp_eq (tgt := 850) dL_law_459 (by decide) (fun c => ?_) (fun c => ?_)
                              · rw [if_pos c] at h
                                refine sn_blk _ kL_law_18_68 (pc' := 18) (L' := [some (.ref 1001), some (.ref 0), some (.ref 22), some (.int (a3 + 4))]) (st' := []) rfl rfl ?_
                                exact hK18 _ _ h
                              · rw [if_neg c] at h
                                refine sn_blk _ kL_law_18_69 (pc' := 463) (L' := [some (.ref 1001), some (.ref 0), some (.ref 22), some (.int a3)]) (st' := [.int 0]) rfl rfl ?_
                                exact absurd h law_no
                            · rw [if_neg c32_12] at h
                              by_cases c32_13 : ((G.2.2.2.2 (Int32.toNatClampNeg a3)) &&& 31) = (13 : Int32)
                              · rw [if_pos c32_13] at h
                                refine sn_tblIn (off := 432) (tgt := 464) dL_law_32 (by rw [c32_13]; decide) (by rw [c32_13]; decide) (by rw [c32_13]; decide +kernel) (by decide) ?_
                                refine sn_blk _ kL_law_18_70 (pc' := 469) (L' := [some (.ref 1001), some (.ref 0), some (.ref 22), some (.int a3)]) (st' := [.int (a3 + 1), .ref 1001, .ref 0]) rfl rfl ?_
                                obtain ⟨hi, h⟩ := gp_inv h
                                refine sn_scrld dL_law_469 hi ?_
                                refine sn_blk _ kL_law_18_71 (pc' := 474) (L' := [some (.ref 1001), some (.ref 0), some (.ref 22), some (.int a3)]) (st' := [.int (a3 + 2), .ref 1001, .int (G.2.2.2.2 (Int32.toNatClampNeg (a3 + 1))), .ref 0]) rfl rfl ?_
                                obtain ⟨hi, h⟩ := gp_inv h
                                refine sn_scrld dL_law_474 hi ?_
                                refine sn_blk _ kL_law_18_72 (pc' := 479) (L' := [some (.ref 1001), some (.ref 0), some (.ref 22), some (.int a3)]) (st' := [.int (a3 + 3), .ref 1001, .int (G.2.2.2.2 (Int32.toNatClampNeg (a3 + 2))), .int (G.2.2.2.2 (Int32.toNatClampNeg (a3 + 1))), .ref 0]) rfl rfl ?_
                                obtain ⟨hi, h⟩ := gp_inv h
                                refine sn_scrld dL_law_479 hi ?_
                                obtain ⟨ho, h⟩ := gp_inv h
                                obtain ⟨fs, ho⟩ := isO_inv ho
                                obtain ⟨x53, H54, hx53, h⟩ := bd2_inv h
                                refine sn_callv (av := [.int (G.2.2.2.2 (Int32.toNatClampNeg (a3 + 1))), .int (G.2.2.2.2 (Int32.toNatClampNeg (a3 + 2))), .int (G.2.2.2.2 (Int32.toNatClampNeg (a3 + 3)))]) (st := []) (M2 := mX9_alike) dL_law_480 msX9_alike mlL_69 rfl rfl rfl rfl rfl ho (sX9_alike hx53) ?_
                                refine sn_blk _ kL_law_18_73 (pc' := 488) (L' := [some (.ref 1001), some (.ref 0), some (.ref 22), some (.int a3)]) (st' := [.int (a3 + 1), .ref 1001, .ref 22, .int x53]) rfl rfl ?_
                                obtain ⟨hi, h⟩ := gp_inv h
                                refine sn_scrld dL_law_488 hi ?_
                                refine sn_blk _ kL_law_18_74 (pc' := 493) (L' := [some (.ref 1001), some (.ref 0), some (.ref 22), some (.int a3)]) (st' := [.int (a3 + 2), .ref 1001, .int (G.2.2.2.2 (Int32.toNatClampNeg (a3 + 1))), .ref 22, .int x53]) rfl rfl ?_
                                obtain ⟨hi, h⟩ := gp_inv h
                                refine sn_scrld dL_law_493 hi ?_
                                refine sn_blk _ kL_law_18_75 (pc' := 498) (L' := [some (.ref 1001), some (.ref 0), some (.ref 22), some (.int a3)]) (st' := [.int (a3 + 3), .ref 1001, .int (G.2.2.2.2 (Int32.toNatClampNeg (a3 + 2))), .int (G.2.2.2.2 (Int32.toNatClampNeg (a3 + 1))), .ref 22, .int x53]) rfl rfl ?_
                                obtain ⟨hi, h⟩ := gp_inv h
                                refine sn_scrld dL_law_498 hi ?_
                                obtain ⟨ho, h⟩ := gp_inv h
                                obtain ⟨fs, ho⟩ := isO_inv ho
                                obtain ⟨x55, H56, hx55, h⟩ := bd2_inv h
                                refine sn_callv (av := [.int (G.2.2.2.2 (Int32.toNatClampNeg (a3 + 1))), .int (G.2.2.2.2 (Int32.toNatClampNeg (a3 + 2))), .int (G.2.2.2.2 (Int32.toNatClampNeg (a3 + 3)))]) (st := [.int x53]) (M2 := mX10_alike) dL_law_499 msX10_alike mlL_73 rfl rfl rfl rfl rfl ho (sX10_alike hx55) ?_
                                refine sn_icmp_eq (tgt := 850) dL_law_502 (by decide) (fun c => ?_) (fun c => ?_)
                                · rw [if_pos c] at h
                                  refine sn_blk _ kL_law_18_76 (pc' := 18) (L' := [some (.ref 1001), some (.ref 0), some (.ref 22), some (.int (a3 + 4))]) (st' := []) rfl rfl ?_
                                  exact hK18 _ _ h
                                · rw [if_neg c] at h
                                  refine sn_blk _ kL_law_18_77 (pc' := 506) (L' := [some (.ref 1001), some (.ref 0), some (.ref 22), some (.int a3)]) (st' := [.int 0]) rfl rfl ?_
                                  exact absurd h law_no
                              · rw [if_neg c32_13] at h
                                by_cases c32_14 : ((G.2.2.2.2 (Int32.toNatClampNeg a3)) &&& 31) = (14 : Int32)
                                · rw [if_pos c32_14] at h
                                  refine sn_tblIn (off := 475) (tgt := 507) dL_law_32 (by rw [c32_14]; decide) (by rw [c32_14]; decide) (by rw [c32_14]; decide +kernel) (by decide) ?_
                                  refine sn_blk _ kL_law_18_78 (pc' := 512) (L' := [some (.ref 1001), some (.ref 0), some (.ref 22), some (.int a3)]) (st' := [.int (a3 + 1), .ref 1001, .ref 0]) rfl rfl ?_
                                  obtain ⟨hi, h⟩ := gp_inv h
                                  refine sn_scrld dL_law_512 hi ?_
                                  refine sn_blk _ kL_law_18_79 (pc' := 517) (L' := [some (.ref 1001), some (.ref 0), some (.ref 22), some (.int a3)]) (st' := [.int (a3 + 2), .ref 1001, .int (G.2.2.2.2 (Int32.toNatClampNeg (a3 + 1))), .ref 0]) rfl rfl ?_
                                  obtain ⟨hi, h⟩ := gp_inv h
                                  refine sn_scrld dL_law_517 hi ?_
                                  refine sn_blk _ kL_law_18_80 (pc' := 526) (L' := [some (.ref 1001), some (.ref 0), some (.ref 22), some (.int a3)]) (st' := [.int (a3 + 3), .ref 1001, .long ((Int32.toInt64 (G.2.2.2.2 (Int32.toNatClampNeg (a3 + 2)))) <<< (Int32.toInt64 32 &&& 63)), .int (G.2.2.2.2 (Int32.toNatClampNeg (a3 + 1))), .ref 0]) rfl rfl ?_
                                  obtain ⟨hi, h⟩ := gp_inv h
                                  refine sn_scrld dL_law_526 hi ?_
                                  refine sn_blk _ kL_law_18_81 (pc' := 528) (L' := [some (.ref 1001), some (.ref 0), some (.ref 22), some (.int a3)]) (st' := [.long (Int32.toInt64 (G.2.2.2.2 (Int32.toNatClampNeg (a3 + 3)))), .long ((Int32.toInt64 (G.2.2.2.2 (Int32.toNatClampNeg (a3 + 2)))) <<< (Int32.toInt64 32 &&& 63)), .int (G.2.2.2.2 (Int32.toNatClampNeg (a3 + 1))), .ref 0]) rfl rfl ?_
                                  refine sn_ldc2 dL_law_528 kcL_74 ?_
                                  refine sn_blk _ kL_law_18_82 (pc' := 533) (L' := [some (.ref 1001), some (.ref 0), some (.ref 22), some (.int a3)]) (st' := [.long (((Int32.toInt64 (G.2.2.2.2 (Int32.toNatClampNeg (a3 + 2)))) <<< (Int32.toInt64 32 &&& 63)) ||| ((Int32.toInt64 (G.2.2.2.2 (Int32.toNatClampNeg (a3 + 3)))) &&& 4294967295)), .int (G.2.2.2.2 (Int32.toNatClampNeg (a3 + 1))), .ref 0]) rfl rfl ?_
                                  obtain ⟨ho, h⟩ := gp_inv h
                                  obtain ⟨fs, ho⟩ := isO_inv ho
                                  obtain ⟨x57, H58, hx57, h⟩ := bd2_inv h
                                  refine sn_callv (av := [.int (G.2.2.2.2 (Int32.toNatClampNeg (a3 + 1))), .long (((Int32.toInt64 (G.2.2.2.2 (Int32.toNatClampNeg (a3 + 2)))) <<< (Int32.toInt64 32 &&& 63)) ||| ((Int32.toInt64 (G.2.2.2.2 (Int32.toNatClampNeg (a3 + 3)))) &&& 4294967295))]) (st := []) (M2 := mX9_judge) dL_law_533 msX9_judge mlL_76 rfl rfl rfl rfl rfl ho (sX9_judge hx57) ?_
                                  refine sn_blk _ kL_law_18_83 (pc' := 541) (L' := [some (.ref 1001), some (.ref 0), some (.ref 22), some (.int a3)]) (st' := [.int (a3 + 1), .ref 1001, .ref 22, .int x57]) rfl rfl ?_
                                  obtain ⟨hi, h⟩ := gp_inv h
                                  refine sn_scrld dL_law_541 hi ?_
                                  refine sn_blk _ kL_law_18_84 (pc' := 546) (L' := [some (.ref 1001), some (.ref 0), some (.ref 22), some (.int a3)]) (st' := [.int (a3 + 2), .ref 1001, .int (G.2.2.2.2 (Int32.toNatClampNeg (a3 + 1))), .ref 22, .int x57]) rfl rfl ?_
                                  obtain ⟨hi, h⟩ := gp_inv h
                                  refine sn_scrld dL_law_546 hi ?_
                                  refine sn_blk _ kL_law_18_85 (pc' := 555) (L' := [some (.ref 1001), some (.ref 0), some (.ref 22), some (.int a3)]) (st' := [.int (a3 + 3), .ref 1001, .long ((Int32.toInt64 (G.2.2.2.2 (Int32.toNatClampNeg (a3 + 2)))) <<< (Int32.toInt64 32 &&& 63)), .int (G.2.2.2.2 (Int32.toNatClampNeg (a3 + 1))), .ref 22, .int x57]) rfl rfl ?_
                                  obtain ⟨hi, h⟩ := gp_inv h
                                  refine sn_scrld dL_law_555 hi ?_
                                  refine sn_blk _ kL_law_18_86 (pc' := 557) (L' := [some (.ref 1001), some (.ref 0), some (.ref 22), some (.int a3)]) (st' := [.long (Int32.toInt64 (G.2.2.2.2 (Int32.toNatClampNeg (a3 + 3)))), .long ((Int32.toInt64 (G.2.2.2.2 (Int32.toNatClampNeg (a3 + 2)))) <<< (Int32.toInt64 32 &&& 63)), .int (G.2.2.2.2 (Int32.toNatClampNeg (a3 + 1))), .ref 22, .int x57]) rfl rfl ?_
                                  refine sn_ldc2 dL_law_557 kcL_74 ?_
                                  refine sn_blk _ kL_law_18_87 (pc' := 562) (L' := [some (.ref 1001), some (.ref 0), some (.ref 22), some (.int a3)]) (st' := [.long (((Int32.toInt64 (G.2.2.2.2 (Int32.toNatClampNeg (a3 + 2)))) <<< (Int32.toInt64 32 &&& 63)) ||| ((Int32.toInt64 (G.2.2.2.2 (Int32.toNatClampNeg (a3 + 3)))) &&& 4294967295)), .int (G.2.2.2.2 (Int32.toNatClampNeg (a3 + 1))), .ref 22, .int x57]) rfl rfl ?_
                                  obtain ⟨ho, h⟩ := gp_inv h
                                  obtain ⟨fs, ho⟩ := isO_inv ho
                                  obtain ⟨x59, H60, hx59, h⟩ := bd2_inv h
                                  refine sn_callv (av := [.int (G.2.2.2.2 (Int32.toNatClampNeg (a3 + 1))), .long (((Int32.toInt64 (G.2.2.2.2 (Int32.toNatClampNeg (a3 + 2)))) <<< (Int32.toInt64 32 &&& 63)) ||| ((Int32.toInt64 (G.2.2.2.2 (Int32.toNatClampNeg (a3 + 3)))) &&& 4294967295))]) (st := [.int x57]) (M2 := mX10_judge) dL_law_562 msX10_judge mlL_80 rfl rfl rfl rfl rfl ho (sX10_judge hx59) ?_
                                  refine sn_icmp_eq (tgt := 850) dL_law_565 (by decide) (fun c => ?_) (fun c => ?_)
                                  · rw [if_pos c] at h
                                    refine sn_blk _ kL_law_18_88 (pc' := 18) (L' := [some (.ref 1001), some (.ref 0), some (.ref 22), some (.int (a3 + 4))]) (st' := []) rfl rfl ?_
                                    exact hK18 _ _ h
                                  · rw [if_neg c] at h
                                    refine sn_blk _ kL_law_18_89 (pc' := 569) (L' := [some (.ref 1001), some (.ref 0), some (.ref 22), some (.int a3)]) (st' := [.int 0]) rfl rfl ?_
                                    exact absurd h law_no
                                · rw [if_neg c32_14] at h
                                  by_cases c32_15 : ((G.2.2.2.2 (Int32.toNatClampNeg a3)) &&& 31) = (15 : Int32)
                                  · rw [if_pos c32_15] at h
                                    refine sn_tblIn (off := 538) (tgt := 570) dL_law_32 (by rw [c32_15]; decide) (by rw [c32_15]; decide) (by rw [c32_15]; decide +kernel) (by decide) ?_
                                    refine sn_blk _ kL_law_18_90 (pc' := 575) (L' := [some (.ref 1001), some (.ref 0), some (.ref 22), some (.int a3)]) (st' := [.int (a3 + 1), .ref 1001, .ref 0]) rfl rfl ?_
                                    obtain ⟨hi, h⟩ := gp_inv h
                                    refine sn_scrld dL_law_575 hi ?_
                                    refine sn_blk _ kL_law_18_91 (pc' := 580) (L' := [some (.ref 1001), some (.ref 0), some (.ref 22), some (.int a3)]) (st' := [.int (a3 + 2), .ref 1001, .int (G.2.2.2.2 (Int32.toNatClampNeg (a3 + 1))), .ref 0]) rfl rfl ?_
                                    obtain ⟨hi, h⟩ := gp_inv h
                                    refine sn_scrld dL_law_580 hi ?_
                                    refine sn_if_eq (tgt := 588) dL_law_581 (by decide) (fun c => ?_) (fun c => ?_)
                                    · rw [if_pos c] at h
                                      refine sn_blk _ kL_law_18_92 (pc' := 589) (L' := [some (.ref 1001), some (.ref 0), some (.ref 22), some (.int a3)]) (st' := [.int 0, .int (G.2.2.2.2 (Int32.toNatClampNeg (a3 + 1))), .ref 0]) rfl rfl ?_
                                      exact tfL_law_589 hK18 h
                                    · rw [if_neg c] at h
                                      refine sn_blk _ kL_law_18_93 (pc' := 589) (L' := [some (.ref 1001), some (.ref 0), some (.ref 22), some (.int a3)]) (st' := [.int 1, .int (G.2.2.2.2 (Int32.toNatClampNeg (a3 + 1))), .ref 0]) rfl rfl ?_
                                      exact tfL_law_589 hK18 h
                                  · rw [if_neg c32_15] at h
                                    by_cases c32_16 : ((G.2.2.2.2 (Int32.toNatClampNeg a3)) &&& 31) = (16 : Int32)
                                    · rw [if_pos c32_16] at h
                                      refine sn_tblIn (off := 587) (tgt := 619) dL_law_32 (by rw [c32_16]; decide) (by rw [c32_16]; decide) (by rw [c32_16]; decide +kernel) (by decide) ?_
                                      refine sn_blk _ kL_law_18_94 (pc' := 624) (L' := [some (.ref 1001), some (.ref 0), some (.ref 22), some (.int a3)]) (st' := [.int (a3 + 1), .ref 1001, .ref 0]) rfl rfl ?_
                                      obtain ⟨hi, h⟩ := gp_inv h
                                      refine sn_scrld dL_law_624 hi ?_
                                      refine sn_blk _ kL_law_18_95 (pc' := 629) (L' := [some (.ref 1001), some (.ref 0), some (.ref 22), some (.int a3)]) (st' := [.int (a3 + 2), .ref 1001, .int (G.2.2.2.2 (Int32.toNatClampNeg (a3 + 1))), .ref 0]) rfl rfl ?_
                                      obtain ⟨hi, h⟩ := gp_inv h
                                      refine sn_scrld dL_law_629 hi ?_
                                      obtain ⟨ho, h⟩ := gp_inv h
                                      obtain ⟨fs, ho⟩ := isO_inv ho
                                      obtain ⟨x61, H62, hx61, h⟩ := bd2_inv h
                                      refine sn_callv (av := [.int (G.2.2.2.2 (Int32.toNatClampNeg (a3 + 1))), .int (G.2.2.2.2 (Int32.toNatClampNeg (a3 + 2)))]) (st := []) (M2 := mX9_see) dL_law_630 msX9_see mlL_86 rfl rfl rfl rfl rfl ho (sX9_see hx61) ?_
                                      refine sn_blk _ kL_law_18_96 (pc' := 638) (L' := [some (.ref 1001), some (.ref 0), some (.ref 22), some (.int a3)]) (st' := [.int (a3 + 1), .ref 1001, .ref 22, .int x61]) rfl rfl ?_
                                      obtain ⟨hi, h⟩ := gp_inv h
                                      refine sn_scrld dL_law_638 hi ?_
                                      refine sn_blk _ kL_law_18_97 (pc' := 643) (L' := [some (.ref 1001), some (.ref 0), some (.ref 22), some (.int a3)]) (st' := [.int (a3 + 2), .ref 1001, .int (G.2.2.2.2 (Int32.toNatClampNeg (a3 + 1))), .ref 22, .int x61]) rfl rfl ?_
                                      obtain ⟨hi, h⟩ := gp_inv h
                                      refine sn_scrld dL_law_643 hi ?_
                                      obtain ⟨ho, h⟩ := gp_inv h
                                      obtain ⟨fs, ho⟩ := isO_inv ho
                                      obtain ⟨x63, H64, hx63, h⟩ := bd2_inv h
                                      refine sn_callv (av := [.int (G.2.2.2.2 (Int32.toNatClampNeg (a3 + 1))), .int (G.2.2.2.2 (Int32.toNatClampNeg (a3 + 2)))]) (st := [.int x61]) (M2 := mX10_see) dL_law_644 msX10_see mlL_89 rfl rfl rfl rfl rfl ho (sX10_see hx63) ?_
                                      refine sn_icmp_eq (tgt := 850) dL_law_647 (by decide) (fun c => ?_) (fun c => ?_)
                                      · rw [if_pos c] at h
                                        refine sn_blk _ kL_law_18_98 (pc' := 18) (L' := [some (.ref 1001), some (.ref 0), some (.ref 22), some (.int (a3 + 4))]) (st' := []) rfl rfl ?_
                                        exact hK18 _ _ h
                                      · rw [if_neg c] at h
                                        refine sn_blk _ kL_law_18_99 (pc' := 651) (L' := [some (.ref 1001), some (.ref 0), some (.ref 22), some (.int a3)]) (st' := [.int 0]) rfl rfl ?_
                                        exact absurd h law_no
                                    · rw [if_neg c32_16] at h
                                      by_cases c32_17 : ((G.2.2.2.2 (Int32.toNatClampNeg a3)) &&& 31) = (17 : Int32)
                                      · rw [if_pos c32_17] at h
                                        refine sn_tblIn (off := 620) (tgt := 652) dL_law_32 (by rw [c32_17]; decide) (by rw [c32_17]; decide) (by rw [c32_17]; decide +kernel) (by decide) ?_
                                        refine sn_blk _ kL_law_18_100 (pc' := 653) (L' := [some (.ref 1001), some (.ref 0), some (.ref 22), some (.int a3)]) (st' := [.ref 0]) rfl rfl ?_
                                        obtain ⟨ho, h⟩ := gp_inv h
                                        obtain ⟨fs, ho⟩ := isO_inv ho
                                        obtain ⟨x65, H66, hx65, h⟩ := bd2_inv h
                                        refine sn_callv (av := []) (st := []) (M2 := mX9_unsee) dL_law_653 msX9_unsee mlL_90 rfl rfl rfl rfl rfl ho (sX9_unsee hx65) ?_
                                        refine sn_blk _ kL_law_18_101 (pc' := 657) (L' := [some (.ref 1001), some (.ref 0), some (.ref 22), some (.int a3)]) (st' := [.ref 22, .int x65]) rfl rfl ?_
                                        obtain ⟨ho, h⟩ := gp_inv h
                                        obtain ⟨fs, ho⟩ := isO_inv ho
                                        obtain ⟨x67, H68, hx67, h⟩ := bd2_inv h
                                        refine sn_callv (av := []) (st := [.int x65]) (M2 := mX10_unsee) dL_law_657 msX10_unsee mlL_93 rfl rfl rfl rfl rfl ho (sX10_unsee hx67) ?_
                                        refine sn_icmp_eq (tgt := 850) dL_law_660 (by decide) (fun c => ?_) (fun c => ?_)
                                        · rw [if_pos c] at h
                                          refine sn_blk _ kL_law_18_102 (pc' := 18) (L' := [some (.ref 1001), some (.ref 0), some (.ref 22), some (.int (a3 + 4))]) (st' := []) rfl rfl ?_
                                          exact hK18 _ _ h
                                        · rw [if_neg c] at h
                                          refine sn_blk _ kL_law_18_103 (pc' := 664) (L' := [some (.ref 1001), some (.ref 0), some (.ref 22), some (.int a3)]) (st' := [.int 0]) rfl rfl ?_
                                          exact absurd h law_no
                                      · rw [if_neg c32_17] at h
                                        by_cases c32_18 : ((G.2.2.2.2 (Int32.toNatClampNeg a3)) &&& 31) = (18 : Int32)
                                        · rw [if_pos c32_18] at h
                                          refine sn_tblIn (off := 633) (tgt := 665) dL_law_32 (by rw [c32_18]; decide) (by rw [c32_18]; decide) (by rw [c32_18]; decide +kernel) (by decide) ?_
                                          refine sn_blk _ kL_law_18_104 (pc' := 666) (L' := [some (.ref 1001), some (.ref 0), some (.ref 22), some (.int a3)]) (st' := [.ref 0]) rfl rfl ?_
                                          obtain ⟨ho, h⟩ := gp_inv h
                                          obtain ⟨fs, ho⟩ := isO_inv ho
                                          obtain ⟨x69, H70, hx69, h⟩ := bd2_inv h
                                          refine sn_callv (av := []) (st := []) (M2 := mX9_which) dL_law_666 msX9_which mlL_94 rfl rfl rfl rfl rfl ho (sX9_which hx69) ?_
                                          refine sn_blk _ kL_law_18_105 (pc' := 670) (L' := [some (.ref 1001), some (.ref 0), some (.ref 22), some (.int a3)]) (st' := [.ref 22, .int x69]) rfl rfl ?_
                                          obtain ⟨ho, h⟩ := gp_inv h
                                          obtain ⟨fs, ho⟩ := isO_inv ho
                                          obtain ⟨x71, H72, hx71, h⟩ := bd2_inv h
                                          refine sn_callv (av := []) (st := [.int x69]) (M2 := mX10_which) dL_law_670 msX10_which mlL_97 rfl rfl rfl rfl rfl ho (sX10_which hx71) ?_
                                          refine sn_icmp_eq (tgt := 850) dL_law_673 (by decide) (fun c => ?_) (fun c => ?_)
                                          · rw [if_pos c] at h
                                            refine sn_blk _ kL_law_18_106 (pc' := 18) (L' := [some (.ref 1001), some (.ref 0), some (.ref 22), some (.int (a3 + 4))]) (st' := []) rfl rfl ?_
                                            exact hK18 _ _ h
                                          · rw [if_neg c] at h
                                            refine sn_blk _ kL_law_18_107 (pc' := 677) (L' := [some (.ref 1001), some (.ref 0), some (.ref 22), some (.int a3)]) (st' := [.int 0]) rfl rfl ?_
                                            exact absurd h law_no
                                        · rw [if_neg c32_18] at h
                                          by_cases c32_19 : ((G.2.2.2.2 (Int32.toNatClampNeg a3)) &&& 31) = (19 : Int32)
                                          · rw [if_pos c32_19] at h
                                            refine sn_tblIn (off := 646) (tgt := 678) dL_law_32 (by rw [c32_19]; decide) (by rw [c32_19]; decide) (by rw [c32_19]; decide +kernel) (by decide) ?_
                                            refine sn_blk _ kL_law_18_108 (pc' := 683) (L' := [some (.ref 1001), some (.ref 0), some (.ref 22), some (.int a3)]) (st' := [.int (a3 + 1), .ref 1001, .ref 0]) rfl rfl ?_
                                            obtain ⟨hi, h⟩ := gp_inv h
                                            refine sn_scrld dL_law_683 hi ?_
                                            refine sn_blk _ kL_law_18_109 (pc' := 688) (L' := [some (.ref 1001), some (.ref 0), some (.ref 22), some (.int a3)]) (st' := [.int (a3 + 2), .ref 1001, .int (G.2.2.2.2 (Int32.toNatClampNeg (a3 + 1))), .ref 0]) rfl rfl ?_
                                            obtain ⟨hi, h⟩ := gp_inv h
                                            refine sn_scrld dL_law_688 hi ?_
                                            refine sn_if_eq (tgt := 696) dL_law_689 (by decide) (fun c => ?_) (fun c => ?_)
                                            · rw [if_pos c] at h
                                              refine sn_blk _ kL_law_18_110 (pc' := 697) (L' := [some (.ref 1001), some (.ref 0), some (.ref 22), some (.int a3)]) (st' := [.int 0, .int (G.2.2.2.2 (Int32.toNatClampNeg (a3 + 1))), .ref 0]) rfl rfl ?_
                                              exact tfL_law_697 hK18 h
                                            · rw [if_neg c] at h
                                              refine sn_blk _ kL_law_18_111 (pc' := 697) (L' := [some (.ref 1001), some (.ref 0), some (.ref 22), some (.int a3)]) (st' := [.int 1, .int (G.2.2.2.2 (Int32.toNatClampNeg (a3 + 1))), .ref 0]) rfl rfl ?_
                                              exact tfL_law_697 hK18 h
                                          · rw [if_neg c32_19] at h
                                            by_cases c32_20 : ((G.2.2.2.2 (Int32.toNatClampNeg a3)) &&& 31) = (20 : Int32)
                                            · rw [if_pos c32_20] at h
                                              refine sn_tblIn (off := 695) (tgt := 727) dL_law_32 (by rw [c32_20]; decide) (by rw [c32_20]; decide) (by rw [c32_20]; decide +kernel) (by decide) ?_
                                              refine sn_blk _ kL_law_18_112 (pc' := 732) (L' := [some (.ref 1001), some (.ref 0), some (.ref 22), some (.int a3)]) (st' := [.int (a3 + 1), .ref 1001, .ref 0]) rfl rfl ?_
                                              obtain ⟨hi, h⟩ := gp_inv h
                                              refine sn_scrld dL_law_732 hi ?_
                                              refine sn_blk _ kL_law_18_113 (pc' := 741) (L' := [some (.ref 1001), some (.ref 0), some (.ref 22), some (.int a3)]) (st' := [.int (a3 + 2), .ref 1001, .long ((Int32.toInt64 (G.2.2.2.2 (Int32.toNatClampNeg (a3 + 1)))) <<< (Int32.toInt64 32 &&& 63)), .ref 0]) rfl rfl ?_
                                              obtain ⟨hi, h⟩ := gp_inv h
                                              refine sn_scrld dL_law_741 hi ?_
                                              refine sn_blk _ kL_law_18_114 (pc' := 743) (L' := [some (.ref 1001), some (.ref 0), some (.ref 22), some (.int a3)]) (st' := [.long (Int32.toInt64 (G.2.2.2.2 (Int32.toNatClampNeg (a3 + 2)))), .long ((Int32.toInt64 (G.2.2.2.2 (Int32.toNatClampNeg (a3 + 1)))) <<< (Int32.toInt64 32 &&& 63)), .ref 0]) rfl rfl ?_
                                              refine sn_ldc2 dL_law_743 kcL_74 ?_
                                              refine sn_blk _ kL_law_18_115 (pc' := 748) (L' := [some (.ref 1001), some (.ref 0), some (.ref 22), some (.int a3)]) (st' := [.long (((Int32.toInt64 (G.2.2.2.2 (Int32.toNatClampNeg (a3 + 1)))) <<< (Int32.toInt64 32 &&& 63)) ||| ((Int32.toInt64 (G.2.2.2.2 (Int32.toNatClampNeg (a3 + 2)))) &&& 4294967295)), .ref 0]) rfl rfl ?_
                                              obtain ⟨ho, h⟩ := gp_inv h
                                              obtain ⟨fs, ho⟩ := isO_inv ho
                                              obtain ⟨x73, H74, hx73, h⟩ := bd2_inv h
                                              refine sn_callv (av := [.long (((Int32.toInt64 (G.2.2.2.2 (Int32.toNatClampNeg (a3 + 1)))) <<< (Int32.toInt64 32 &&& 63)) ||| ((Int32.toInt64 (G.2.2.2.2 (Int32.toNatClampNeg (a3 + 2)))) &&& 4294967295))]) (st := []) (M2 := mX9_seed) dL_law_748 msX9_seed mlL_102 rfl rfl rfl rfl rfl ho (sX9_seed hx73) ?_
                                              refine sn_blk _ kL_law_18_116 (pc' := 756) (L' := [some (.ref 1001), some (.ref 0), some (.ref 22), some (.int a3)]) (st' := [.int (a3 + 1), .ref 1001, .ref 22, .long x73]) rfl rfl ?_
                                              obtain ⟨hi, h⟩ := gp_inv h
                                              refine sn_scrld dL_law_756 hi ?_
                                              refine sn_blk _ kL_law_18_117 (pc' := 765) (L' := [some (.ref 1001), some (.ref 0), some (.ref 22), some (.int a3)]) (st' := [.int (a3 + 2), .ref 1001, .long ((Int32.toInt64 (G.2.2.2.2 (Int32.toNatClampNeg (a3 + 1)))) <<< (Int32.toInt64 32 &&& 63)), .ref 22, .long x73]) rfl rfl ?_
                                              obtain ⟨hi, h⟩ := gp_inv h
                                              refine sn_scrld dL_law_765 hi ?_
                                              refine sn_blk _ kL_law_18_118 (pc' := 767) (L' := [some (.ref 1001), some (.ref 0), some (.ref 22), some (.int a3)]) (st' := [.long (Int32.toInt64 (G.2.2.2.2 (Int32.toNatClampNeg (a3 + 2)))), .long ((Int32.toInt64 (G.2.2.2.2 (Int32.toNatClampNeg (a3 + 1)))) <<< (Int32.toInt64 32 &&& 63)), .ref 22, .long x73]) rfl rfl ?_
                                              refine sn_ldc2 dL_law_767 kcL_74 ?_
                                              refine sn_blk _ kL_law_18_119 (pc' := 772) (L' := [some (.ref 1001), some (.ref 0), some (.ref 22), some (.int a3)]) (st' := [.long (((Int32.toInt64 (G.2.2.2.2 (Int32.toNatClampNeg (a3 + 1)))) <<< (Int32.toInt64 32 &&& 63)) ||| ((Int32.toInt64 (G.2.2.2.2 (Int32.toNatClampNeg (a3 + 2)))) &&& 4294967295)), .ref 22, .long x73]) rfl rfl ?_
                                              obtain ⟨ho, h⟩ := gp_inv h
                                              obtain ⟨fs, ho⟩ := isO_inv ho
                                              obtain ⟨x75, H76, hx75, h⟩ := bd2_inv h
                                              refine sn_callv (av := [.long (((Int32.toInt64 (G.2.2.2.2 (Int32.toNatClampNeg (a3 + 1)))) <<< (Int32.toInt64 32 &&& 63)) ||| ((Int32.toInt64 (G.2.2.2.2 (Int32.toNatClampNeg (a3 + 2)))) &&& 4294967295))]) (st := [.long x73]) (M2 := mX10_seed) dL_law_772 msX10_seed mlL_106 rfl rfl rfl rfl rfl ho (sX10_seed hx75) ?_
                                              refine sn_blk _ kL_law_18_120 (pc' := 776) (L' := [some (.ref 1001), some (.ref 0), some (.ref 22), some (.int a3)]) (st' := [.int (lg_cmp x73 x75)]) rfl rfl ?_
                                              refine sn_if_eq (tgt := 850) dL_law_776 (by decide) (fun c => ?_) (fun c => ?_)
                                              · rw [if_pos c] at h
                                                refine sn_blk _ kL_law_18_121 (pc' := 18) (L' := [some (.ref 1001), some (.ref 0), some (.ref 22), some (.int (a3 + 4))]) (st' := []) rfl rfl ?_
                                                exact hK18 _ _ h
                                              · rw [if_neg c] at h
                                                refine sn_blk _ kL_law_18_122 (pc' := 780) (L' := [some (.ref 1001), some (.ref 0), some (.ref 22), some (.int a3)]) (st' := [.int 0]) rfl rfl ?_
                                                exact absurd h law_no
                                            · rw [if_neg c32_20] at h
                                              by_cases c32_21 : ((G.2.2.2.2 (Int32.toNatClampNeg a3)) &&& 31) = (21 : Int32)
                                              · rw [if_pos c32_21] at h
                                                refine sn_tblIn (off := 749) (tgt := 781) dL_law_32 (by rw [c32_21]; decide) (by rw [c32_21]; decide) (by rw [c32_21]; decide +kernel) (by decide) ?_
                                                refine sn_blk _ kL_law_18_123 (pc' := 786) (L' := [some (.ref 1001), some (.ref 0), some (.ref 22), some (.int a3)]) (st' := [.int (a3 + 1), .ref 1001, .ref 0]) rfl rfl ?_
                                                obtain ⟨hi, h⟩ := gp_inv h
                                                refine sn_scrld dL_law_786 hi ?_
                                                obtain ⟨ho, h⟩ := gp_inv h
                                                obtain ⟨fs, ho⟩ := isO_inv ho
                                                obtain ⟨x77, H78, hx77, h⟩ := bd2_inv h
                                                refine sn_callv (av := [.int (G.2.2.2.2 (Int32.toNatClampNeg (a3 + 1)))]) (st := []) (M2 := mX9_drawn) dL_law_787 msX9_drawn mlL_107 rfl rfl rfl rfl rfl ho (sX9_drawn hx77) ?_
                                                refine sn_blk _ kL_law_18_124 (pc' := 795) (L' := [some (.ref 1001), some (.ref 0), some (.ref 22), some (.int a3)]) (st' := [.int (a3 + 1), .ref 1001, .ref 22, .int x77]) rfl rfl ?_
                                                obtain ⟨hi, h⟩ := gp_inv h
                                                refine sn_scrld dL_law_795 hi ?_
                                                obtain ⟨ho, h⟩ := gp_inv h
                                                obtain ⟨fs, ho⟩ := isO_inv ho
                                                obtain ⟨x79, H80, hx79, h⟩ := bd2_inv h
                                                refine sn_callv (av := [.int (G.2.2.2.2 (Int32.toNatClampNeg (a3 + 1)))]) (st := [.int x77]) (M2 := mX10_drawn) dL_law_796 msX10_drawn mlL_110 rfl rfl rfl rfl rfl ho (sX10_drawn hx79) ?_
                                                refine sn_icmp_eq (tgt := 850) dL_law_799 (by decide) (fun c => ?_) (fun c => ?_)
                                                · rw [if_pos c] at h
                                                  refine sn_blk _ kL_law_18_125 (pc' := 18) (L' := [some (.ref 1001), some (.ref 0), some (.ref 22), some (.int (a3 + 4))]) (st' := []) rfl rfl ?_
                                                  exact hK18 _ _ h
                                                · rw [if_neg c] at h
                                                  refine sn_blk _ kL_law_18_126 (pc' := 803) (L' := [some (.ref 1001), some (.ref 0), some (.ref 22), some (.int a3)]) (st' := [.int 0]) rfl rfl ?_
                                                  exact absurd h law_no
                                              · rw [if_neg c32_21] at h
                                                by_cases c32_22 : ((G.2.2.2.2 (Int32.toNatClampNeg a3)) &&& 31) = (22 : Int32)
                                                · rw [if_pos c32_22] at h
                                                  refine sn_tblIn (off := 772) (tgt := 804) dL_law_32 (by rw [c32_22]; decide) (by rw [c32_22]; decide) (by rw [c32_22]; decide +kernel) (by decide) ?_
                                                  refine sn_blk _ kL_law_18_127 (pc' := 809) (L' := [some (.ref 1001), some (.ref 0), some (.ref 22), some (.int a3)]) (st' := [.int (a3 + 1), .ref 1001, .ref 0]) rfl rfl ?_
                                                  obtain ⟨hi, h⟩ := gp_inv h
                                                  refine sn_scrld dL_law_809 hi ?_
                                                  obtain ⟨ho, h⟩ := gp_inv h
                                                  obtain ⟨fs, ho⟩ := isO_inv ho
                                                  obtain ⟨x81, H82, hx81, h⟩ := bd2_inv h
                                                  refine sn_callv (av := [.int (G.2.2.2.2 (Int32.toNatClampNeg (a3 + 1)))]) (st := []) (M2 := mX9_keep) dL_law_810 msX9_keep mlL_111 rfl rfl rfl rfl rfl ho (sX9_keep hx81) ?_
                                                  refine sn_blk _ kL_law_18_128 (pc' := 818) (L' := [some (.ref 1001), some (.ref 0), some (.ref 22), some (.int a3)]) (st' := [.int (a3 + 1), .ref 1001, .ref 22, .int x81]) rfl rfl ?_
                                                  obtain ⟨hi, h⟩ := gp_inv h
                                                  refine sn_scrld dL_law_818 hi ?_
                                                  obtain ⟨ho, h⟩ := gp_inv h
                                                  obtain ⟨fs, ho⟩ := isO_inv ho
                                                  obtain ⟨x83, H84, hx83, h⟩ := bd2_inv h
                                                  refine sn_callv (av := [.int (G.2.2.2.2 (Int32.toNatClampNeg (a3 + 1)))]) (st := [.int x81]) (M2 := mX10_keep) dL_law_819 msX10_keep mlL_114 rfl rfl rfl rfl rfl ho (sX10_keep hx83) ?_
                                                  refine sn_icmp_eq (tgt := 850) dL_law_822 (by decide) (fun c => ?_) (fun c => ?_)
                                                  · rw [if_pos c] at h
                                                    refine sn_blk _ kL_law_18_129 (pc' := 18) (L' := [some (.ref 1001), some (.ref 0), some (.ref 22), some (.int (a3 + 4))]) (st' := []) rfl rfl ?_
                                                    exact hK18 _ _ h
                                                  · rw [if_neg c] at h
                                                    refine sn_blk _ kL_law_18_130 (pc' := 826) (L' := [some (.ref 1001), some (.ref 0), some (.ref 22), some (.int a3)]) (st' := [.int 0]) rfl rfl ?_
                                                    exact absurd h law_no
                                                · rw [if_neg c32_22] at h
                                                  by_cases c32_23 : ((G.2.2.2.2 (Int32.toNatClampNeg a3)) &&& 31) = (23 : Int32)
                                                  · rw [if_pos c32_23] at h
                                                    refine sn_tblIn (off := 795) (tgt := 827) dL_law_32 (by rw [c32_23]; decide) (by rw [c32_23]; decide) (by rw [c32_23]; decide +kernel) (by decide) ?_
                                                    refine sn_blk _ kL_law_18_131 (pc' := 832) (L' := [some (.ref 1001), some (.ref 0), some (.ref 22), some (.int a3)]) (st' := [.int (a3 + 1), .ref 1001, .ref 0]) rfl rfl ?_
                                                    obtain ⟨hi, h⟩ := gp_inv h
                                                    refine sn_scrld dL_law_832 hi ?_
                                                    obtain ⟨ho, h⟩ := gp_inv h
                                                    obtain ⟨fs, ho⟩ := isO_inv ho
                                                    obtain ⟨x85, H86, hx85, h⟩ := bd2_inv h
                                                    refine sn_callv (av := [.int (G.2.2.2.2 (Int32.toNatClampNeg (a3 + 1)))]) (st := []) (M2 := mX9_again) dL_law_833 msX9_again mlL_115 rfl rfl rfl rfl rfl ho (sX9_again hx85) ?_
                                                    refine sn_blk _ kL_law_18_132 (pc' := 841) (L' := [some (.ref 1001), some (.ref 0), some (.ref 22), some (.int a3)]) (st' := [.int (a3 + 1), .ref 1001, .ref 22, .int x85]) rfl rfl ?_
                                                    obtain ⟨hi, h⟩ := gp_inv h
                                                    refine sn_scrld dL_law_841 hi ?_
                                                    obtain ⟨ho, h⟩ := gp_inv h
                                                    obtain ⟨fs, ho⟩ := isO_inv ho
                                                    obtain ⟨x87, H88, hx87, h⟩ := bd2_inv h
                                                    refine sn_callv (av := [.int (G.2.2.2.2 (Int32.toNatClampNeg (a3 + 1)))]) (st := [.int x85]) (M2 := mX10_again) dL_law_842 msX10_again mlL_118 rfl rfl rfl rfl rfl ho (sX10_again hx87) ?_
                                                    refine sn_icmp_eq (tgt := 850) dL_law_845 (by decide) (fun c => ?_) (fun c => ?_)
                                                    · rw [if_pos c] at h
                                                      refine sn_blk _ kL_law_18_133 (pc' := 18) (L' := [some (.ref 1001), some (.ref 0), some (.ref 22), some (.int (a3 + 4))]) (st' := []) rfl rfl ?_
                                                      exact hK18 _ _ h
                                                    · rw [if_neg c] at h
                                                      refine sn_blk _ kL_law_18_134 (pc' := 849) (L' := [some (.ref 1001), some (.ref 0), some (.ref 22), some (.int a3)]) (st' := [.int 0]) rfl rfl ?_
                                                      exact absurd h law_no
                                                  · rw [if_neg c32_23] at h
                                                    refine sn_tblOut (tgt := 850) dL_law_32 (sw_out (fun k h1 h2 e => ?_)) (by decide) ?_
                                                    · rcases (show k = 0 ∨ k = 1 ∨ k = 2 ∨ k = 3 ∨ k = 4 ∨ k = 5 ∨ k = 6 ∨ k = 7 ∨ k = 8 ∨ k = 9 ∨ k = 10 ∨ k = 11 ∨ k = 12 ∨ k = 13 ∨ k = 14 ∨ k = 15 ∨ k = 16 ∨ k = 17 ∨ k = 18 ∨ k = 19 ∨ k = 20 ∨ k = 21 ∨ k = 22 ∨ k = 23 by omega) with rfl | rfl | rfl | rfl | rfl | rfl | rfl | rfl | rfl | rfl | rfl | rfl | rfl | rfl | rfl | rfl | rfl | rfl | rfl | rfl | rfl | rfl | rfl | rfl
                                                      · exact c32_0 (Int32.toInt_inj.mp e)
                                                      · exact c32_1 (Int32.toInt_inj.mp e)
                                                      · exact c32_2 (Int32.toInt_inj.mp e)
                                                      · exact c32_3 (Int32.toInt_inj.mp e)
                                                      · exact c32_4 (Int32.toInt_inj.mp e)
                                                      · exact c32_5 (Int32.toInt_inj.mp e)
                                                      · exact c32_6 (Int32.toInt_inj.mp e)
                                                      · exact c32_7 (Int32.toInt_inj.mp e)
                                                      · exact c32_8 (Int32.toInt_inj.mp e)
                                                      · exact c32_9 (Int32.toInt_inj.mp e)
                                                      · exact c32_10 (Int32.toInt_inj.mp e)
                                                      · exact c32_11 (Int32.toInt_inj.mp e)
                                                      · exact c32_12 (Int32.toInt_inj.mp e)
                                                      · exact c32_13 (Int32.toInt_inj.mp e)
                                                      · exact c32_14 (Int32.toInt_inj.mp e)
                                                      · exact c32_15 (Int32.toInt_inj.mp e)
                                                      · exact c32_16 (Int32.toInt_inj.mp e)
                                                      · exact c32_17 (Int32.toInt_inj.mp e)
                                                      · exact c32_18 (Int32.toInt_inj.mp e)
                                                      · exact c32_19 (Int32.toInt_inj.mp e)
                                                      · exact c32_20 (Int32.toInt_inj.mp e)
                                                      · exact c32_21 (Int32.toInt_inj.mp e)
                                                      · exact c32_22 (Int32.toInt_inj.mp e)
                                                      · exact c32_23 (Int32.toInt_inj.mp e)
                                                    · refine sn_blk _ kL_law_18_135 (pc' := 18) (L' := [some (.ref 1001), some (.ref 0), some (.ref 22), some (.int (a3 + 4))]) (st' := []) rfl rfl ?_
                                                      exact hK18 _ _ h
def fL_law_18 (G : GG) : Nat → Int32 → Hp → Option (Int32 × Hp)
  | 0, _, _ => none
  | d + 1, a3, H => bL_law_18 G (fL_law_18 G d) a3 H
theorem tfL_law_18 {G : GG} {H' : Hp} : ∀ (d : Nat) {a3 : Int32} {H : Hp}, fL_law_18 G d a3 H = some (1, H') → Sn G TL mL_law 18 [some (.ref 1001), some (.ref 0), some (.ref 22), some (.int a3)] [] H := by
  intro d
  induction d with
  | zero => intro a3 H h; cases h
  | succ d ih => intro a3 H h; exact tbL_law_18 (fun a3 H h => ih h) h
