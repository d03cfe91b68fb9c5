theorem dX0_init_0 : decode cX0_init 0 = .ok (.aload_n 0, 1) := by decide +kernel
theorem dX0_init_1 : decode cX0_init 1 = .ok (.invokespecial 3, 3) := by decide +kernel
theorem dX0_init_4 : decode cX0_init 4 = .ok (.aload_n 0, 1) := by decide +kernel
theorem dX0_init_5 : decode cX0_init 5 = .ok (.iconst 0, 1) := by decide +kernel
theorem dX0_init_6 : decode cX0_init 6 = .ok (.putfield 9, 3) := by decide +kernel
theorem dX0_init_9 : decode cX0_init 9 = .ok (.aload_n 0, 1) := by decide +kernel
theorem dX0_init_10 : decode cX0_init 10 = .ok (.bipush 8, 2) := by decide +kernel
theorem dX0_init_12 : decode cX0_init 12 = .ok (.newarray .int, 2) := by decide +kernel
theorem dX0_init_14 : decode cX0_init 14 = .ok (.putfield 15, 3) := by decide +kernel
theorem dX0_init_17 : decode cX0_init 17 = .ok (.aload_n 0, 1) := by decide +kernel
theorem dX0_init_18 : decode cX0_init 18 = .ok (.aload_n 1, 1) := by decide +kernel
theorem dX0_init_19 : decode cX0_init 19 = .ok (.putfield 19, 3) := by decide +kernel
theorem dX0_init_22 : decode cX0_init 22 = .ok (.aload_n 0, 1) := by decide +kernel
theorem dX0_init_23 : decode cX0_init 23 = .ok (.iload_n 2, 1) := by decide +kernel
theorem dX0_init_24 : decode cX0_init 24 = .ok (.putfield 23, 3) := by decide +kernel
theorem dX0_init_27 : decode cX0_init 27 = .ok (.iconst 0, 1) := by decide +kernel
theorem dX0_init_28 : decode cX0_init 28 = .ok (.istore_n 3, 1) := by decide +kernel
theorem dX0_init_29 : decode cX0_init 29 = .ok (.iload_n 3, 1) := by decide +kernel
theorem dX0_init_30 : decode cX0_init 30 = .ok (.aload_n 0, 1) := by decide +kernel
theorem dX0_init_31 : decode cX0_init 31 = .ok (.getfield 15, 3) := by decide +kernel
theorem dX0_init_34 : decode cX0_init 34 = .ok (.arraylength, 1) := by decide +kernel
theorem dX0_init_35 : decode cX0_init 35 = .ok (.if_icmp .ge 16, 3) := by decide +kernel
theorem dX0_init_38 : decode cX0_init 38 = .ok (.aload_n 0, 1) := by decide +kernel
theorem dX0_init_39 : decode cX0_init 39 = .ok (.getfield 15, 3) := by decide +kernel
theorem dX0_init_42 : decode cX0_init 42 = .ok (.iload_n 3, 1) := by decide +kernel
theorem dX0_init_43 : decode cX0_init 43 = .ok (.iconst (-1), 1) := by decide +kernel
theorem dX0_init_44 : decode cX0_init 44 = .ok (.iastore, 1) := by decide +kernel
theorem dX0_init_45 : decode cX0_init 45 = .ok (.iinc 3 1, 3) := by decide +kernel
theorem dX0_init_48 : decode cX0_init 48 = .ok (.goto (-19), 3) := by decide +kernel
theorem dX0_init_51 : decode cX0_init 51 = .ok (.return_, 1) := by decide +kernel
set_option maxRecDepth 20000 in
theorem ggX0_ceilingWhileOpen_X4_hasBit : GoodIn wsX0_ceilingWhileOpen wsX4_hasBit := goodIn_r _ [4] (by decide +kernel) (by decide +kernel)
set_option maxRecDepth 20000 in
theorem gX0_ceilingWhileOpen_X4_hasBit_n29 : GoodIn wsX0_ceilingWhileOpen (wsX4_hasBit) := ggX0_ceilingWhileOpen_X4_hasBit
theorem dX0_ceilingWhileOpen_0 : decode cX0_ceilingWhileOpen 0 = .ok (.iconst 4, 1) := by decide +kernel
theorem dX0_ceilingWhileOpen_1 : decode cX0_ceilingWhileOpen 1 = .ok (.aload_n 0, 1) := by decide +kernel
theorem dX0_ceilingWhileOpen_2 : decode cX0_ceilingWhileOpen 2 = .ok (.getfield 26, 3) := by decide +kernel
theorem dX0_ceilingWhileOpen_5 : decode cX0_ceilingWhileOpen 5 = .ok (.iconst 1, 1) := by decide +kernel
theorem dX0_ceilingWhileOpen_6 : decode cX0_ceilingWhileOpen 6 = .ok (.invokestatic 29, 3) := by decide +kernel
theorem dX0_ceilingWhileOpen_9 : decode cX0_ceilingWhileOpen 9 = .ok (.ifCond .eq 7, 3) := by decide +kernel
theorem dX0_ceilingWhileOpen_12 : decode cX0_ceilingWhileOpen 12 = .ok (.iconst 2, 1) := by decide +kernel
theorem dX0_ceilingWhileOpen_13 : decode cX0_ceilingWhileOpen 13 = .ok (.goto 4, 3) := by decide +kernel
theorem dX0_ceilingWhileOpen_16 : decode cX0_ceilingWhileOpen 16 = .ok (.iconst 0, 1) := by decide +kernel
theorem dX0_ceilingWhileOpen_17 : decode cX0_ceilingWhileOpen 17 = .ok (.iadd, 1) := by decide +kernel
theorem dX0_ceilingWhileOpen_18 : decode cX0_ceilingWhileOpen 18 = .ok (.aload_n 0, 1) := by decide +kernel
theorem dX0_ceilingWhileOpen_19 : decode cX0_ceilingWhileOpen 19 = .ok (.getfield 26, 3) := by decide +kernel
theorem dX0_ceilingWhileOpen_22 : decode cX0_ceilingWhileOpen 22 = .ok (.iconst 2, 1) := by decide +kernel
theorem dX0_ceilingWhileOpen_23 : decode cX0_ceilingWhileOpen 23 = .ok (.invokestatic 29, 3) := by decide +kernel
theorem dX0_ceilingWhileOpen_26 : decode cX0_ceilingWhileOpen 26 = .ok (.ifCond .eq 7, 3) := by decide +kernel
theorem dX0_ceilingWhileOpen_29 : decode cX0_ceilingWhileOpen 29 = .ok (.iconst 4, 1) := by decide +kernel
theorem dX0_ceilingWhileOpen_30 : decode cX0_ceilingWhileOpen 30 = .ok (.goto 4, 3) := by decide +kernel
theorem dX0_ceilingWhileOpen_33 : decode cX0_ceilingWhileOpen 33 = .ok (.iconst 0, 1) := by decide +kernel
theorem dX0_ceilingWhileOpen_34 : decode cX0_ceilingWhileOpen 34 = .ok (.iadd, 1) := by decide +kernel
theorem dX0_ceilingWhileOpen_35 : decode cX0_ceilingWhileOpen 35 = .ok (.ireturn, 1) := by decide +kernel
set_option maxRecDepth 20000 in
theorem ggX0_daysLeft_X0_ceilingWhileOpen : GoodIn wsX0_daysLeft wsX0_ceilingWhileOpen := goodIn_r _ [8, 9, 10, 11, 12, 13, 14, 15, 16, 17, 18, 19, 20, 21, 22, 23, 24, 25, 26] (by decide +kernel) (by decide +kernel)
set_option maxRecDepth 20000 in
theorem gX0_daysLeft_X0_ceilingWhileOpen : GoodIn wsX0_daysLeft (wsV RX0 36 RX0 yX0_ceilingWhileOpen wsX0_ceilingWhileOpen) := goodIn_app (goodIn_of _ (by decide +kernel)) ggX0_daysLeft_X0_ceilingWhileOpen
theorem dX0_daysLeft_0 : decode cX0_daysLeft 0 = .ok (.aload_n 0, 1) := by decide +kernel
theorem dX0_daysLeft_1 : decode cX0_daysLeft 1 = .ok (.getfield 9, 3) := by decide +kernel
theorem dX0_daysLeft_4 : decode cX0_daysLeft 4 = .ok (.iconst 2, 1) := by decide +kernel
theorem dX0_daysLeft_5 : decode cX0_daysLeft 5 = .ok (.if_icmp .ne 13, 3) := by decide +kernel
theorem dX0_daysLeft_8 : decode cX0_daysLeft 8 = .ok (.bipush 60, 2) := by decide +kernel
theorem dX0_daysLeft_10 : decode cX0_daysLeft 10 = .ok (.aload_n 0, 1) := by decide +kernel
theorem dX0_daysLeft_11 : decode cX0_daysLeft 11 = .ok (.getfield 33, 3) := by decide +kernel
theorem dX0_daysLeft_14 : decode cX0_daysLeft 14 = .ok (.isub, 1) := by decide +kernel
theorem dX0_daysLeft_15 : decode cX0_daysLeft 15 = .ok (.goto 12, 3) := by decide +kernel
theorem dX0_daysLeft_18 : decode cX0_daysLeft 18 = .ok (.aload_n 0, 1) := by decide +kernel
theorem dX0_daysLeft_19 : decode cX0_daysLeft 19 = .ok (.invokevirtual 36, 3) := by decide +kernel
theorem dX0_daysLeft_22 : decode cX0_daysLeft 22 = .ok (.aload_n 0, 1) := by decide +kernel
theorem dX0_daysLeft_23 : decode cX0_daysLeft 23 = .ok (.getfield 40, 3) := by decide +kernel
theorem dX0_daysLeft_26 : decode cX0_daysLeft 26 = .ok (.isub, 1) := by decide +kernel
theorem dX0_daysLeft_27 : decode cX0_daysLeft 27 = .ok (.ireturn, 1) := by decide +kernel
set_option maxRecDepth 20000 in
theorem ggX0_isReleasedAfter_X0_daysLeft : GoodIn wsX0_isReleasedAfter wsX0_daysLeft := goodIn_r _ [13, 5, 6, 7, 14, 15, 16, 12, 17, 18, 19, 20, 21, 22, 23, 24, 25, 26, 27, 28, 29, 30, 31, 32, 33, 34, 35] (by decide +kernel) (by decide +kernel)
set_option maxRecDepth 20000 in
theorem gX0_isReleasedAfter_X0_daysLeft : GoodIn wsX0_isReleasedAfter (wsV RX0 43 RX0 yX0_daysLeft wsX0_daysLeft) := goodIn_app (goodIn_of _ (by decide +kernel)) ggX0_isReleasedAfter_X0_daysLeft
theorem dX0_isReleasedAfter_0 : decode cX0_isReleasedAfter 0 = .ok (.aload_n 0, 1) := by decide +kernel
theorem dX0_isReleasedAfter_1 : decode cX0_isReleasedAfter 1 = .ok (.invokevirtual 43, 3) := by decide +kernel
theorem dX0_isReleasedAfter_4 : decode cX0_isReleasedAfter 4 = .ok (.istore_n 2, 1) := by decide +kernel
theorem dX0_isReleasedAfter_5 : decode cX0_isReleasedAfter 5 = .ok (.iload_n 1, 1) := by decide +kernel
theorem dX0_isReleasedAfter_6 : decode cX0_isReleasedAfter 6 = .ok (.iload_n 2, 1) := by decide +kernel
theorem dX0_isReleasedAfter_7 : decode cX0_isReleasedAfter 7 = .ok (.invokestatic 46, 3) := by decide +kernel
theorem dX0_isReleasedAfter_10 : decode cX0_isReleasedAfter 10 = .ok (.istore_n 3, 1) := by decide +kernel
theorem dX0_isReleasedAfter_11 : decode cX0_isReleasedAfter 11 = .ok (.aload_n 0, 1) := by decide +kernel
theorem dX0_isReleasedAfter_12 : decode cX0_isReleasedAfter 12 = .ok (.getfield 9, 3) := by decide +kernel
theorem dX0_isReleasedAfter_15 : decode cX0_isReleasedAfter 15 = .ok (.iconst 2, 1) := by decide +kernel
theorem dX0_isReleasedAfter_16 : decode cX0_isReleasedAfter 16 = .ok (.if_icmp .ne 16, 3) := by decide +kernel
theorem dX0_isReleasedAfter_19 : decode cX0_isReleasedAfter 19 = .ok (.aload_n 0, 1) := by decide +kernel
theorem dX0_isReleasedAfter_20 : decode cX0_isReleasedAfter 20 = .ok (.dup, 1) := by decide +kernel
theorem dX0_isReleasedAfter_21 : decode cX0_isReleasedAfter 21 = .ok (.getfield 33, 3) := by decide +kernel
theorem dX0_isReleasedAfter_24 : decode cX0_isReleasedAfter 24 = .ok (.iload_n 3, 1) := by decide +kernel
theorem dX0_isReleasedAfter_25 : decode cX0_isReleasedAfter 25 = .ok (.iadd, 1) := by decide +kernel
theorem dX0_isReleasedAfter_26 : decode cX0_isReleasedAfter 26 = .ok (.putfield 33, 3) := by decide +kernel
theorem dX0_isReleasedAfter_29 : decode cX0_isReleasedAfter 29 = .ok (.goto 13, 3) := by decide +kernel
theorem dX0_isReleasedAfter_32 : decode cX0_isReleasedAfter 32 = .ok (.aload_n 0, 1) := by decide +kernel
theorem dX0_isReleasedAfter_33 : decode cX0_isReleasedAfter 33 = .ok (.dup, 1) := by decide +kernel
theorem dX0_isReleasedAfter_34 : decode cX0_isReleasedAfter 34 = .ok (.getfield 40, 3) := by decide +kernel
theorem dX0_isReleasedAfter_37 : decode cX0_isReleasedAfter 37 = .ok (.iload_n 3, 1) := by decide +kernel
theorem dX0_isReleasedAfter_38 : decode cX0_isReleasedAfter 38 = .ok (.iadd, 1) := by decide +kernel
theorem dX0_isReleasedAfter_39 : decode cX0_isReleasedAfter 39 = .ok (.putfield 40, 3) := by decide +kernel
theorem dX0_isReleasedAfter_42 : decode cX0_isReleasedAfter 42 = .ok (.aload_n 0, 1) := by decide +kernel
theorem dX0_isReleasedAfter_43 : decode cX0_isReleasedAfter 43 = .ok (.iload_n 3, 1) := by decide +kernel
theorem dX0_isReleasedAfter_44 : decode cX0_isReleasedAfter 44 = .ok (.iload_n 2, 1) := by decide +kernel
theorem dX0_isReleasedAfter_45 : decode cX0_isReleasedAfter 45 = .ok (.if_icmp .ge 7, 3) := by decide +kernel
theorem dX0_isReleasedAfter_48 : decode cX0_isReleasedAfter 48 = .ok (.iconst 1, 1) := by decide +kernel
theorem dX0_isReleasedAfter_49 : decode cX0_isReleasedAfter 49 = .ok (.goto 4, 3) := by decide +kernel
theorem dX0_isReleasedAfter_52 : decode cX0_isReleasedAfter 52 = .ok (.iconst 0, 1) := by decide +kernel
theorem dX0_isReleasedAfter_53 : decode cX0_isReleasedAfter 53 = .ok (.putfield 52, 3) := by decide +kernel
theorem dX0_isReleasedAfter_56 : decode cX0_isReleasedAfter 56 = .ok (.aload_n 0, 1) := by decide +kernel
theorem dX0_isReleasedAfter_57 : decode cX0_isReleasedAfter 57 = .ok (.getfield 52, 3) := by decide +kernel
theorem dX0_isReleasedAfter_60 : decode cX0_isReleasedAfter 60 = .ok (.ifCond .ne 7, 3) := by decide +kernel
theorem dX0_isReleasedAfter_63 : decode cX0_isReleasedAfter 63 = .ok (.iconst 1, 1) := by decide +kernel
theorem dX0_isReleasedAfter_64 : decode cX0_isReleasedAfter 64 = .ok (.goto 4, 3) := by decide +kernel
theorem dX0_isReleasedAfter_67 : decode cX0_isReleasedAfter 67 = .ok (.iconst 0, 1) := by decide +kernel
theorem dX0_isReleasedAfter_68 : decode cX0_isReleasedAfter 68 = .ok (.ireturn, 1) := by decide +kernel
theorem dX0_hadAnswered_0 : decode cX0_hadAnswered 0 = .ok (.iload_n 1, 1) := by decide +kernel
theorem dX0_hadAnswered_1 : decode cX0_hadAnswered 1 = .ok (.ifCond .lt 12, 3) := by decide +kernel
theorem dX0_hadAnswered_4 : decode cX0_hadAnswered 4 = .ok (.iload_n 1, 1) := by decide +kernel
theorem dX0_hadAnswered_5 : decode cX0_hadAnswered 5 = .ok (.aload_n 0, 1) := by decide +kernel
theorem dX0_hadAnswered_6 : decode cX0_hadAnswered 6 = .ok (.getfield 15, 3) := by decide +kernel
theorem dX0_hadAnswered_9 : decode cX0_hadAnswered 9 = .ok (.arraylength, 1) := by decide +kernel
theorem dX0_hadAnswered_10 : decode cX0_hadAnswered 10 = .ok (.if_icmp .lt 5, 3) := by decide +kernel
theorem dX0_hadAnswered_13 : decode cX0_hadAnswered 13 = .ok (.iconst 0, 1) := by decide +kernel
theorem dX0_hadAnswered_14 : decode cX0_hadAnswered 14 = .ok (.ireturn, 1) := by decide +kernel
theorem dX0_hadAnswered_15 : decode cX0_hadAnswered 15 = .ok (.aload_n 0, 1) := by decide +kernel
theorem dX0_hadAnswered_16 : decode cX0_hadAnswered 16 = .ok (.getfield 15, 3) := by decide +kernel
theorem dX0_hadAnswered_19 : decode cX0_hadAnswered 19 = .ok (.iload_n 1, 1) := by decide +kernel
theorem dX0_hadAnswered_20 : decode cX0_hadAnswered 20 = .ok (.iaload, 1) := by decide +kernel
theorem dX0_hadAnswered_21 : decode cX0_hadAnswered 21 = .ok (.iconst (-1), 1) := by decide +kernel
theorem dX0_hadAnswered_22 : decode cX0_hadAnswered 22 = .ok (.if_icmp .eq 17, 3) := by decide +kernel
theorem dX0_hadAnswered_25 : decode cX0_hadAnswered 25 = .ok (.aload_n 0, 1) := by decide +kernel
theorem dX0_hadAnswered_26 : decode cX0_hadAnswered 26 = .ok (.getfield 15, 3) := by decide +kernel
theorem dX0_hadAnswered_29 : decode cX0_hadAnswered 29 = .ok (.iload_n 1, 1) := by decide +kernel
theorem dX0_hadAnswered_30 : decode cX0_hadAnswered 30 = .ok (.iaload, 1) := by decide +kernel
theorem dX0_hadAnswered_31 : decode cX0_hadAnswered 31 = .ok (.iload_n 2, 1) := by decide +kernel
theorem dX0_hadAnswered_32 : decode cX0_hadAnswered 32 = .ok (.if_icmp .gt 7, 3) := by decide +kernel
theorem dX0_hadAnswered_35 : decode cX0_hadAnswered 35 = .ok (.iconst 1, 1) := by decide +kernel
theorem dX0_hadAnswered_36 : decode cX0_hadAnswered 36 = .ok (.goto 4, 3) := by decide +kernel
theorem dX0_hadAnswered_39 : decode cX0_hadAnswered 39 = .ok (.iconst 0, 1) := by decide +kernel
theorem dX0_hadAnswered_40 : decode cX0_hadAnswered 40 = .ok (.ireturn, 1) := by decide +kernel
set_option maxRecDepth 20000 in
theorem ggX0_answerCharges_X4_hasBit : GoodIn wsX0_answerCharges wsX4_hasBit := goodIn_r _ [9] (by decide +kernel) (by decide +kernel)
set_option maxRecDepth 20000 in
theorem gX0_answerCharges_X4_hasBit_n29 : GoodIn wsX0_answerCharges (wsX4_hasBit) := ggX0_answerCharges_X4_hasBit
theorem dX0_answerCharges_0 : decode cX0_answerCharges 0 = .ok (.iconst 0, 1) := by decide +kernel
theorem dX0_answerCharges_1 : decode cX0_answerCharges 1 = .ok (.istore_n 3, 1) := by decide +kernel
theorem dX0_answerCharges_2 : decode cX0_answerCharges 2 = .ok (.iload_n 3, 1) := by decide +kernel
theorem dX0_answerCharges_3 : decode cX0_answerCharges 3 = .ok (.aload_n 0, 1) := by decide +kernel
theorem dX0_answerCharges_4 : decode cX0_answerCharges 4 = .ok (.getfield 15, 3) := by decide +kernel
theorem dX0_answerCharges_7 : decode cX0_answerCharges 7 = .ok (.arraylength, 1) := by decide +kernel
theorem dX0_answerCharges_8 : decode cX0_answerCharges 8 = .ok (.if_icmp .ge 37, 3) := by decide +kernel
theorem dX0_answerCharges_11 : decode cX0_answerCharges 11 = .ok (.aload_n 0, 1) := by decide +kernel
theorem dX0_answerCharges_12 : decode cX0_answerCharges 12 = .ok (.getfield 56, 3) := by decide +kernel
theorem dX0_answerCharges_15 : decode cX0_answerCharges 15 = .ok (.iload_n 3, 1) := by decide +kernel
theorem dX0_answerCharges_16 : decode cX0_answerCharges 16 = .ok (.invokestatic 29, 3) := by decide +kernel
theorem dX0_answerCharges_19 : decode cX0_answerCharges 19 = .ok (.ifCond .eq 20, 3) := by decide +kernel
theorem dX0_answerCharges_22 : decode cX0_answerCharges 22 = .ok (.aload_n 0, 1) := by decide +kernel
theorem dX0_answerCharges_23 : decode cX0_answerCharges 23 = .ok (.getfield 15, 3) := by decide +kernel
theorem dX0_answerCharges_26 : decode cX0_answerCharges 26 = .ok (.iload_n 3, 1) := by decide +kernel
theorem dX0_answerCharges_27 : decode cX0_answerCharges 27 = .ok (.iaload, 1) := by decide +kernel
theorem dX0_answerCharges_28 : decode cX0_answerCharges 28 = .ok (.iconst (-1), 1) := by decide +kernel
theorem dX0_answerCharges_29 : decode cX0_answerCharges 29 = .ok (.if_icmp .ne 10, 3) := by decide +kernel
theorem dX0_answerCharges_32 : decode cX0_answerCharges 32 = .ok (.aload_n 0, 1) := by decide +kernel
theorem dX0_answerCharges_33 : decode cX0_answerCharges 33 = .ok (.getfield 15, 3) := by decide +kernel
theorem dX0_answerCharges_36 : decode cX0_answerCharges 36 = .ok (.iload_n 3, 1) := by decide +kernel
theorem dX0_answerCharges_37 : decode cX0_answerCharges 37 = .ok (.iload_n 2, 1) := by decide +kernel
theorem dX0_answerCharges_38 : decode cX0_answerCharges 38 = .ok (.iastore, 1) := by decide +kernel
theorem dX0_answerCharges_39 : decode cX0_answerCharges 39 = .ok (.iinc 3 1, 3) := by decide +kernel
theorem dX0_answerCharges_42 : decode cX0_answerCharges 42 = .ok (.goto (-40), 3) := by decide +kernel
theorem dX0_answerCharges_45 : decode cX0_answerCharges 45 = .ok (.aload_n 0, 1) := by decide +kernel
theorem dX0_answerCharges_46 : decode cX0_answerCharges 46 = .ok (.dup, 1) := by decide +kernel
theorem dX0_answerCharges_47 : decode cX0_answerCharges 47 = .ok (.getfield 59, 3) := by decide +kernel
theorem dX0_answerCharges_50 : decode cX0_answerCharges 50 = .ok (.iload_n 1, 1) := by decide +kernel
theorem dX0_answerCharges_51 : decode cX0_answerCharges 51 = .ok (.ior, 1) := by decide +kernel
theorem dX0_answerCharges_52 : decode cX0_answerCharges 52 = .ok (.putfield 59, 3) := by decide +kernel
theorem dX0_answerCharges_55 : decode cX0_answerCharges 55 = .ok (.aload_n 0, 1) := by decide +kernel
theorem dX0_answerCharges_56 : decode cX0_answerCharges 56 = .ok (.iconst 0, 1) := by decide +kernel
theorem dX0_answerCharges_57 : decode cX0_answerCharges 57 = .ok (.putfield 56, 3) := by decide +kernel
theorem dX0_answerCharges_60 : decode cX0_answerCharges 60 = .ok (.aload_n 0, 1) := by decide +kernel
theorem dX0_answerCharges_61 : decode cX0_answerCharges 61 = .ok (.iconst 0, 1) := by decide +kernel
theorem dX0_answerCharges_62 : decode cX0_answerCharges 62 = .ok (.putfield 33, 3) := by decide +kernel
theorem dX0_answerCharges_65 : decode cX0_answerCharges 65 = .ok (.aload_n 0, 1) := by decide +kernel
theorem dX0_answerCharges_66 : decode cX0_answerCharges 66 = .ok (.iconst 0, 1) := by decide +kernel
theorem dX0_answerCharges_67 : decode cX0_answerCharges 67 = .ok (.putfield 52, 3) := by decide +kernel
theorem dX0_answerCharges_70 : decode cX0_answerCharges 70 = .ok (.aload_n 0, 1) := by decide +kernel
theorem dX0_answerCharges_71 : decode cX0_answerCharges 71 = .ok (.iconst 0, 1) := by decide +kernel
theorem dX0_answerCharges_72 : decode cX0_answerCharges 72 = .ok (.putfield 9, 3) := by decide +kernel
theorem dX0_answerCharges_75 : decode cX0_answerCharges 75 = .ok (.return_, 1) := by decide +kernel
theorem dX1_init_0 : decode cX1_init 0 = .ok (.aload_n 0, 1) := by decide +kernel
theorem dX1_init_1 : decode cX1_init 1 = .ok (.invokespecial 3, 3) := by decide +kernel
theorem dX1_init_4 : decode cX1_init 4 = .ok (.aload_n 0, 1) := by decide +kernel
theorem dX1_init_5 : decode cX1_init 5 = .ok (.bipush 8, 2) := by decide +kernel
theorem dX1_init_7 : decode cX1_init 7 = .ok (.anewarray 9, 3) := by decide +kernel
theorem dX1_init_10 : decode cX1_init 10 = .ok (.putfield 11, 3) := by decide +kernel
theorem dX1_init_13 : decode cX1_init 13 = .ok (.aload_n 0, 1) := by decide +kernel
theorem dX1_init_14 : decode cX1_init 14 = .ok (.iload_n 1, 1) := by decide +kernel
theorem dX1_init_15 : decode cX1_init 15 = .ok (.putfield 17, 3) := by decide +kernel
theorem dX1_init_18 : decode cX1_init 18 = .ok (.aload_n 0, 1) := by decide +kernel
theorem dX1_init_19 : decode cX1_init 19 = .ok (.iload_n 2, 1) := by decide +kernel
theorem dX1_init_20 : decode cX1_init 20 = .ok (.putfield 21, 3) := by decide +kernel
theorem dX1_init_23 : decode cX1_init 23 = .ok (.aload_n 0, 1) := by decide +kernel
theorem dX1_init_24 : decode cX1_init 24 = .ok (.iload_n 3, 1) := by decide +kernel
theorem dX1_init_25 : decode cX1_init 25 = .ok (.putfield 24, 3) := by decide +kernel
theorem dX1_init_28 : decode cX1_init 28 = .ok (.aload_n 0, 1) := by decide +kernel
theorem dX1_init_29 : decode cX1_init 29 = .ok (.iload 4, 2) := by decide +kernel
theorem dX1_init_31 : decode cX1_init 31 = .ok (.putfield 27, 3) := by decide +kernel
theorem dX1_init_34 : decode cX1_init 34 = .ok (.return_, 1) := by decide +kernel
theorem dX1_hasAll_0 : decode cX1_hasAll 0 = .ok (.iload_n 1, 1) := by decide +kernel
theorem dX1_hasAll_1 : decode cX1_hasAll 1 = .ok (.ifCond .eq 18, 3) := by decide +kernel
theorem dX1_hasAll_4 : decode cX1_hasAll 4 = .ok (.iload_n 1, 1) := by decide +kernel
theorem dX1_hasAll_5 : decode cX1_hasAll 5 = .ok (.aload_n 0, 1) := by decide +kernel
theorem dX1_hasAll_6 : decode cX1_hasAll 6 = .ok (.getfield 24, 3) := by decide +kernel
theorem dX1_hasAll_9 : decode cX1_hasAll 9 = .ok (.iconst (-1), 1) := by decide +kernel
theorem dX1_hasAll_10 : decode cX1_hasAll 10 = .ok (.ixor, 1) := by decide +kernel
theorem dX1_hasAll_11 : decode cX1_hasAll 11 = .ok (.iand, 1) := by decide +kernel
theorem dX1_hasAll_12 : decode cX1_hasAll 12 = .ok (.ifCond .ne 7, 3) := by decide +kernel
theorem dX1_hasAll_15 : decode cX1_hasAll 15 = .ok (.iconst 1, 1) := by decide +kernel
theorem dX1_hasAll_16 : decode cX1_hasAll 16 = .ok (.goto 4, 3) := by decide +kernel
theorem dX1_hasAll_19 : decode cX1_hasAll 19 = .ok (.iconst 0, 1) := by decide +kernel
theorem dX1_hasAll_20 : decode cX1_hasAll 20 = .ok (.ireturn, 1) := by decide +kernel
theorem dX1_rowOf_0 : decode cX1_rowOf 0 = .ok (.iload_n 1, 1) := by decide +kernel
theorem dX1_rowOf_1 : decode cX1_rowOf 1 = .ok (.ifCond .lt 12, 3) := by decide +kernel
theorem dX1_rowOf_4 : decode cX1_rowOf 4 = .ok (.iload_n 1, 1) := by decide +kernel
theorem dX1_rowOf_5 : decode cX1_rowOf 5 = .ok (.aload_n 0, 1) := by decide +kernel
theorem dX1_rowOf_6 : decode cX1_rowOf 6 = .ok (.getfield 11, 3) := by decide +kernel
theorem dX1_rowOf_9 : decode cX1_rowOf 9 = .ok (.arraylength, 1) := by decide +kernel
theorem dX1_rowOf_10 : decode cX1_rowOf 10 = .ok (.if_icmp .lt 7, 3) := by decide +kernel
theorem dX1_rowOf_13 : decode cX1_rowOf 13 = .ok (.aconst_null, 1) := by decide +kernel
theorem dX1_rowOf_14 : decode cX1_rowOf 14 = .ok (.goto 9, 3) := by decide +kernel
theorem dX1_rowOf_17 : decode cX1_rowOf 17 = .ok (.aload_n 0, 1) := by decide +kernel
theorem dX1_rowOf_18 : decode cX1_rowOf 18 = .ok (.getfield 11, 3) := by decide +kernel
theorem dX1_rowOf_21 : decode cX1_rowOf 21 = .ok (.iload_n 1, 1) := by decide +kernel
theorem dX1_rowOf_22 : decode cX1_rowOf 22 = .ok (.aaload, 1) := by decide +kernel
theorem dX1_rowOf_23 : decode cX1_rowOf 23 = .ok (.areturn, 1) := by decide +kernel
set_option maxRecDepth 20000 in
theorem ggX1_passInCustody_X0_isReleasedAfter : GoodIn wsX1_passInCustody wsX0_isReleasedAfter := goodIn_r _ [7, 8, 9, 10, 11, 12, 13, 14, 15, 16, 17, 18, 6, 19, 20, 21, 22, 23, 24, 25, 26, 27, 33, 34, 35, 36, 37, 38, 39, 40, 41, 42, 43, 44, 45, 46] (by decide +kernel) (by decide +kernel)
set_option maxRecDepth 20000 in
theorem gX1_passInCustody_X0_isReleasedAfter : GoodIn wsX1_passInCustody (wsV RX1 34 RX0 yX0_isReleasedAfter wsX0_isReleasedAfter) := goodIn_app (goodIn_of _ (by decide +kernel)) ggX1_passInCustody_X0_isReleasedAfter
theorem dX1_passInCustody_0 : decode cX1_passInCustody 0 = .ok (.iconst 0, 1) := by decide +kernel
theorem dX1_passInCustody_1 : decode cX1_passInCustody 1 = .ok (.istore_n 2, 1) := by decide +kernel
theorem dX1_passInCustody_2 : decode cX1_passInCustody 2 = .ok (.aload_n 0, 1) := by decide +kernel
theorem dX1_passInCustody_3 : decode cX1_passInCustody 3 = .ok (.getfield 11, 3) := by decide +kernel
theorem dX1_passInCustody_6 : decode cX1_passInCustody 6 = .ok (.astore_n 3, 1) := by decide +kernel
theorem dX1_passInCustody_7 : decode cX1_passInCustody 7 = .ok (.aload_n 3, 1) := by decide +kernel
theorem dX1_passInCustody_8 : decode cX1_passInCustody 8 = .ok (.arraylength, 1) := by decide +kernel
theorem dX1_passInCustody_9 : decode cX1_passInCustody 9 = .ok (.istore 4, 2) := by decide +kernel
theorem dX1_passInCustody_11 : decode cX1_passInCustody 11 = .ok (.iconst 0, 1) := by decide +kernel
theorem dX1_passInCustody_12 : decode cX1_passInCustody 12 = .ok (.istore 5, 2) := by decide +kernel
theorem dX1_passInCustody_14 : decode cX1_passInCustody 14 = .ok (.iload 5, 2) := by decide +kernel
theorem dX1_passInCustody_16 : decode cX1_passInCustody 16 = .ok (.iload 4, 2) := by decide +kernel
theorem dX1_passInCustody_18 : decode cX1_passInCustody 18 = .ok (.if_icmp .ge 40, 3) := by decide +kernel
theorem dX1_passInCustody_21 : decode cX1_passInCustody 21 = .ok (.aload_n 3, 1) := by decide +kernel
theorem dX1_passInCustody_22 : decode cX1_passInCustody 22 = .ok (.iload 5, 2) := by decide +kernel
theorem dX1_passInCustody_24 : decode cX1_passInCustody 24 = .ok (.aaload, 1) := by decide +kernel
theorem dX1_passInCustody_25 : decode cX1_passInCustody 25 = .ok (.astore 6, 2) := by decide +kernel
theorem dX1_passInCustody_27 : decode cX1_passInCustody 27 = .ok (.aload 6, 2) := by decide +kernel
theorem dX1_passInCustody_29 : decode cX1_passInCustody 29 = .ok (.ifnull 23, 3) := by decide +kernel
theorem dX1_passInCustody_32 : decode cX1_passInCustody 32 = .ok (.aload 6, 2) := by decide +kernel
theorem dX1_passInCustody_34 : decode cX1_passInCustody 34 = .ok (.getfield 30, 3) := by decide +kernel
theorem dX1_passInCustody_37 : decode cX1_passInCustody 37 = .ok (.ifCond .eq 15, 3) := by decide +kernel
theorem dX1_passInCustody_40 : decode cX1_passInCustody 40 = .ok (.aload 6, 2) := by decide +kernel
theorem dX1_passInCustody_42 : decode cX1_passInCustody 42 = .ok (.iload_n 1, 1) := by decide +kernel
theorem dX1_passInCustody_43 : decode cX1_passInCustody 43 = .ok (.invokevirtual 34, 3) := by decide +kernel
theorem dX1_passInCustody_46 : decode cX1_passInCustody 46 = .ok (.ifCond .eq 6, 3) := by decide +kernel
theorem dX1_passInCustody_49 : decode cX1_passInCustody 49 = .ok (.iinc 2 1, 3) := by decide +kernel
theorem dX1_passInCustody_52 : decode cX1_passInCustody 52 = .ok (.iinc 5 1, 3) := by decide +kernel
theorem dX1_passInCustody_55 : decode cX1_passInCustody 55 = .ok (.goto (-41), 3) := by decide +kernel
theorem dX1_passInCustody_58 : decode cX1_passInCustody 58 = .ok (.iload_n 2, 1) := by decide +kernel
theorem dX1_passInCustody_59 : decode cX1_passInCustody 59 = .ok (.ireturn, 1) := by decide +kernel
theorem dX2_init_0 : decode cX2_init 0 = .ok (.aload_n 0, 1) := by decide +kernel
theorem dX2_init_1 : decode cX2_init 1 = .ok (.invokespecial 3, 3) := by decide +kernel
theorem dX2_init_4 : decode cX2_init 4 = .ok (.aload_n 0, 1) := by decide +kernel
theorem dX2_init_5 : decode cX2_init 5 = .ok (.iconst (-1), 1) := by decide +kernel
theorem dX2_init_6 : decode cX2_init 6 = .ok (.putfield 9, 3) := by decide +kernel
theorem dX2_init_9 : decode cX2_init 9 = .ok (.aload_n 0, 1) := by decide +kernel
theorem dX2_init_10 : decode cX2_init 10 = .ok (.iload_n 1, 1) := by decide +kernel
theorem dX2_init_11 : decode cX2_init 11 = .ok (.putfield 15, 3) := by decide +kernel
theorem dX2_init_14 : decode cX2_init 14 = .ok (.aload_n 0, 1) := by decide +kernel
theorem dX2_init_15 : decode cX2_init 15 = .ok (.iload_n 2, 1) := by decide +kernel
theorem dX2_init_16 : decode cX2_init 16 = .ok (.putfield 18, 3) := by decide +kernel
theorem dX2_init_19 : decode cX2_init 19 = .ok (.aload_n 0, 1) := by decide +kernel
theorem dX2_init_20 : decode cX2_init 20 = .ok (.iload_n 3, 1) := by decide +kernel
theorem dX2_init_21 : decode cX2_init 21 = .ok (.putfield 21, 3) := by decide +kernel
theorem dX2_init_24 : decode cX2_init 24 = .ok (.aload_n 0, 1) := by decide +kernel
theorem dX2_init_25 : decode cX2_init 25 = .ok (.iload 4, 2) := by decide +kernel
theorem dX2_init_27 : decode cX2_init 27 = .ok (.putfield 24, 3) := by decide +kernel
theorem dX2_init_30 : decode cX2_init 30 = .ok (.aload_n 0, 1) := by decide +kernel
theorem dX2_init_31 : decode cX2_init 31 = .ok (.iload 5, 2) := by decide +kernel
theorem dX2_init_33 : decode cX2_init 33 = .ok (.putfield 27, 3) := by decide +kernel
theorem dX2_init_36 : decode cX2_init 36 = .ok (.aload_n 0, 1) := by decide +kernel
theorem dX2_init_37 : decode cX2_init 37 = .ok (.iload 6, 2) := by decide +kernel
theorem dX2_init_39 : decode cX2_init 39 = .ok (.putfield 30, 3) := by decide +kernel
theorem dX2_init_42 : decode cX2_init 42 = .ok (.aload_n 0, 1) := by decide +kernel
theorem dX2_init_43 : decode cX2_init 43 = .ok (.iload 7, 2) := by decide +kernel
theorem dX2_init_45 : decode cX2_init 45 = .ok (.putfield 34, 3) := by decide +kernel
theorem dX2_init_48 : decode cX2_init 48 = .ok (.return_, 1) := by decide +kernel
set_option maxRecDepth 20000 in
theorem ggX2_isAgainst_X4_hasBit : GoodIn wsX2_isAgainst wsX4_hasBit := goodIn_r _ [4] (by decide +kernel) (by decide +kernel)
set_option maxRecDepth 20000 in
theorem gX2_isAgainst_X4_hasBit_n37 : GoodIn wsX2_isAgainst (wsX4_hasBit) := ggX2_isAgainst_X4_hasBit
theorem dX2_isAgainst_0 : decode cX2_isAgainst 0 = .ok (.aload_n 0, 1) := by decide +kernel
theorem dX2_isAgainst_1 : decode cX2_isAgainst 1 = .ok (.getfield 24, 3) := by decide +kernel
theorem dX2_isAgainst_4 : decode cX2_isAgainst 4 = .ok (.iload_n 1, 1) := by decide +kernel
theorem dX2_isAgainst_5 : decode cX2_isAgainst 5 = .ok (.invokestatic 37, 3) := by decide +kernel
theorem dX2_isAgainst_8 : decode cX2_isAgainst 8 = .ok (.ireturn, 1) := by decide +kernel
set_option maxRecDepth 20000 in
theorem ggX2_wasShownTo_X4_hasBit : GoodIn wsX2_wasShownTo wsX4_hasBit := goodIn_r _ [4] (by decide +kernel) (by decide +kernel)
set_option maxRecDepth 20000 in
theorem gX2_wasShownTo_X4_hasBit_n37 : GoodIn wsX2_wasShownTo (wsX4_hasBit) := ggX2_wasShownTo_X4_hasBit
theorem dX2_wasShownTo_0 : decode cX2_wasShownTo 0 = .ok (.aload_n 0, 1) := by decide +kernel
theorem dX2_wasShownTo_1 : decode cX2_wasShownTo 1 = .ok (.getfield 41, 3) := by decide +kernel
theorem dX2_wasShownTo_4 : decode cX2_wasShownTo 4 = .ok (.iload_n 1, 1) := by decide +kernel
theorem dX2_wasShownTo_5 : decode cX2_wasShownTo 5 = .ok (.invokestatic 37, 3) := by decide +kernel
theorem dX2_wasShownTo_8 : decode cX2_wasShownTo 8 = .ok (.ireturn, 1) := by decide +kernel
theorem dX2_countsOn_0 : decode cX2_countsOn 0 = .ok (.aload_n 0, 1) := by decide +kernel
theorem dX2_countsOn_1 : decode cX2_countsOn 1 = .ok (.getfield 9, 3) := by decide +kernel
theorem dX2_countsOn_4 : decode cX2_countsOn 4 = .ok (.iconst (-1), 1) := by decide +kernel
theorem dX2_countsOn_5 : decode cX2_countsOn 5 = .ok (.if_icmp .eq 15, 3) := by decide +kernel
theorem dX2_countsOn_8 : decode cX2_countsOn 8 = .ok (.aload_n 0, 1) := by decide +kernel
theorem dX2_countsOn_9 : decode cX2_countsOn 9 = .ok (.getfield 9, 3) := by decide +kernel
theorem dX2_countsOn_12 : decode cX2_countsOn 12 = .ok (.iload_n 1, 1) := by decide +kernel
theorem dX2_countsOn_13 : decode cX2_countsOn 13 = .ok (.if_icmp .gt 7, 3) := by decide +kernel
theorem dX2_countsOn_16 : decode cX2_countsOn 16 = .ok (.iconst 1, 1) := by decide +kernel
theorem dX2_countsOn_17 : decode cX2_countsOn 17 = .ok (.goto 4, 3) := by decide +kernel
theorem dX2_countsOn_20 : decode cX2_countsOn 20 = .ok (.iconst 0, 1) := by decide +kernel
theorem dX2_countsOn_21 : decode cX2_countsOn 21 = .ok (.istore_n 2, 1) := by decide +kernel
theorem dX2_countsOn_22 : decode cX2_countsOn 22 = .ok (.aload_n 0, 1) := by decide +kernel
theorem dX2_countsOn_23 : decode cX2_countsOn 23 = .ok (.getfield 34, 3) := by decide +kernel
theorem dX2_countsOn_26 : decode cX2_countsOn 26 = .ok (.iload_n 1, 1) := by decide +kernel
theorem dX2_countsOn_27 : decode cX2_countsOn 27 = .ok (.if_icmp .gt 18, 3) := by decide +kernel
theorem dX2_countsOn_30 : decode cX2_countsOn 30 = .ok (.aload_n 0, 1) := by decide +kernel
theorem dX2_countsOn_31 : decode cX2_countsOn 31 = .ok (.getfield 27, 3) := by decide +kernel
theorem dX2_countsOn_34 : decode cX2_countsOn 34 = .ok (.ifCond .eq 7, 3) := by decide +kernel
theorem dX2_countsOn_37 : decode cX2_countsOn 37 = .ok (.iload_n 2, 1) := by decide +kernel
theorem dX2_countsOn_38 : decode cX2_countsOn 38 = .ok (.ifCond .eq 7, 3) := by decide +kernel
theorem dX2_countsOn_41 : decode cX2_countsOn 41 = .ok (.iconst 1, 1) := by decide +kernel
theorem dX2_countsOn_42 : decode cX2_countsOn 42 = .ok (.goto 4, 3) := by decide +kernel
theorem dX2_countsOn_45 : decode cX2_countsOn 45 = .ok (.iconst 0, 1) := by decide +kernel
theorem dX2_countsOn_46 : decode cX2_countsOn 46 = .ok (.ireturn, 1) := by decide +kernel
set_option maxRecDepth 20000 in
theorem ggX2_isLackedBy_X2_isAgainst : GoodIn wsX2_isLackedBy wsX2_isAgainst := goodIn_r _ [7, 8, 9, 10, 11, 17, 18, 19, 20, 21, 22, 23, 24, 25, 26] (by decide +kernel) (by decide +kernel)
set_option maxRecDepth 20000 in
theorem gX2_isLackedBy_X2_isAgainst : GoodIn wsX2_isLackedBy (wsV RX2 44 RX2 yX2_isAgainst wsX2_isAgainst) := goodIn_app (goodIn_of _ (by decide +kernel)) ggX2_isLackedBy_X2_isAgainst
set_option maxRecDepth 20000 in
theorem ggX2_isLackedBy_X2_wasShownTo : GoodIn wsX2_isLackedBy wsX2_wasShownTo := goodIn_r _ [15, 16, 9, 10, 11, 17, 18, 19, 20, 21, 22, 23, 24, 25, 26] (by decide +kernel) (by decide +kernel)
set_option maxRecDepth 20000 in
theorem gX2_isLackedBy_X2_wasShownTo : GoodIn wsX2_isLackedBy (wsV RX2 48 RX2 yX2_wasShownTo wsX2_wasShownTo) := goodIn_app (goodIn_of _ (by decide +kernel)) ggX2_isLackedBy_X2_wasShownTo
theorem dX2_isLackedBy_0 : decode cX2_isLackedBy 0 = .ok (.aload_n 0, 1) := by decide +kernel
theorem dX2_isLackedBy_1 : decode cX2_isLackedBy 1 = .ok (.getfield 21, 3) := by decide +kernel
theorem dX2_isLackedBy_4 : decode cX2_isLackedBy 4 = .ok (.ifCond .ge 30, 3) := by decide +kernel
theorem dX2_isLackedBy_7 : decode cX2_isLackedBy 7 = .ok (.aload_n 0, 1) := by decide +kernel
theorem dX2_isLackedBy_8 : decode cX2_isLackedBy 8 = .ok (.iload_n 1, 1) := by decide +kernel
theorem dX2_isLackedBy_9 : decode cX2_isLackedBy 9 = .ok (.invokevirtual 44, 3) := by decide +kernel
theorem dX2_isLackedBy_12 : decode cX2_isLackedBy 12 = .ok (.ifCond .eq 22, 3) := by decide +kernel
theorem dX2_isLackedBy_15 : decode cX2_isLackedBy 15 = .ok (.aload_n 0, 1) := by decide +kernel
theorem dX2_isLackedBy_16 : decode cX2_isLackedBy 16 = .ok (.iload_n 1, 1) := by decide +kernel
theorem dX2_isLackedBy_17 : decode cX2_isLackedBy 17 = .ok (.invokevirtual 48, 3) := by decide +kernel
theorem dX2_isLackedBy_20 : decode cX2_isLackedBy 20 = .ok (.ifCond .ne 14, 3) := by decide +kernel
theorem dX2_isLackedBy_23 : decode cX2_isLackedBy 23 = .ok (.aload_n 0, 1) := by decide +kernel
theorem dX2_isLackedBy_24 : decode cX2_isLackedBy 24 = .ok (.getfield 51, 3) := by decide +kernel
theorem dX2_isLackedBy_27 : decode cX2_isLackedBy 27 = .ok (.ifCond .ne 7, 3) := by decide +kernel
theorem dX2_isLackedBy_30 : decode cX2_isLackedBy 30 = .ok (.iconst 1, 1) := by decide +kernel
theorem dX2_isLackedBy_31 : decode cX2_isLackedBy 31 = .ok (.goto 4, 3) := by decide +kernel
theorem dX2_isLackedBy_34 : decode cX2_isLackedBy 34 = .ok (.iconst 0, 1) := by decide +kernel
theorem dX2_isLackedBy_35 : decode cX2_isLackedBy 35 = .ok (.ireturn, 1) := by decide +kernel
theorem dX3_init_0 : decode cX3_init 0 = .ok (.aload_n 0, 1) := by decide +kernel
theorem dX3_init_1 : decode cX3_init 1 = .ok (.invokespecial 1, 3) := by decide +kernel
theorem dX3_init_4 : decode cX3_init 4 = .ok (.aload_n 0, 1) := by decide +kernel
theorem dX3_init_5 : decode cX3_init 5 = .ok (.iload_n 1, 1) := by decide +kernel
theorem dX3_init_6 : decode cX3_init 6 = .ok (.putfield 7, 3) := by decide +kernel
theorem dX3_init_9 : decode cX3_init 9 = .ok (.aload_n 0, 1) := by decide +kernel
theorem dX3_init_10 : decode cX3_init 10 = .ok (.iload_n 2, 1) := by decide +kernel
theorem dX3_init_11 : decode cX3_init 11 = .ok (.putfield 13, 3) := by decide +kernel
theorem dX3_init_14 : decode cX3_init 14 = .ok (.aload_n 0, 1) := by decide +kernel
theorem dX3_init_15 : decode cX3_init 15 = .ok (.iload_n 3, 1) := by decide +kernel
theorem dX3_init_16 : decode cX3_init 16 = .ok (.putfield 16, 3) := by decide +kernel
theorem dX3_init_19 : decode cX3_init 19 = .ok (.return_, 1) := by decide +kernel
set_option maxRecDepth 20000 in
theorem ggX3_excludes_X4_hasBit : GoodIn wsX3_excludes wsX4_hasBit := goodIn_r _ [4] (by decide +kernel) (by decide +kernel)
set_option maxRecDepth 20000 in
theorem gX3_excludes_X4_hasBit_n22 : GoodIn wsX3_excludes (wsX4_hasBit) := ggX3_excludes_X4_hasBit
theorem dX3_excludes_0 : decode cX3_excludes 0 = .ok (.aload_n 0, 1) := by decide +kernel
theorem dX3_excludes_1 : decode cX3_excludes 1 = .ok (.getfield 19, 3) := by decide +kernel
theorem dX3_excludes_4 : decode cX3_excludes 4 = .ok (.iload_n 1, 1) := by decide +kernel
theorem dX3_excludes_5 : decode cX3_excludes 5 = .ok (.invokestatic 22, 3) := by decide +kernel
theorem dX3_excludes_8 : decode cX3_excludes 8 = .ok (.ireturn, 1) := by decide +kernel
theorem dX3_nestsIn_0 : decode cX3_nestsIn 0 = .ok (.aload_n 0, 1) := by decide +kernel
theorem dX3_nestsIn_1 : decode cX3_nestsIn 1 = .ok (.getfield 7, 3) := by decide +kernel
theorem dX3_nestsIn_4 : decode cX3_nestsIn 4 = .ok (.aload_n 1, 1) := by decide +kernel
theorem dX3_nestsIn_5 : decode cX3_nestsIn 5 = .ok (.getfield 7, 3) := by decide +kernel
theorem dX3_nestsIn_8 : decode cX3_nestsIn 8 = .ok (.if_icmp .eq 21, 3) := by decide +kernel
theorem dX3_nestsIn_11 : decode cX3_nestsIn 11 = .ok (.aload_n 0, 1) := by decide +kernel
theorem dX3_nestsIn_12 : decode cX3_nestsIn 12 = .ok (.getfield 7, 3) := by decide +kernel
theorem dX3_nestsIn_15 : decode cX3_nestsIn 15 = .ok (.aload_n 1, 1) := by decide +kernel
theorem dX3_nestsIn_16 : decode cX3_nestsIn 16 = .ok (.getfield 7, 3) := by decide +kernel
theorem dX3_nestsIn_19 : decode cX3_nestsIn 19 = .ok (.iconst (-1), 1) := by decide +kernel
theorem dX3_nestsIn_20 : decode cX3_nestsIn 20 = .ok (.ixor, 1) := by decide +kernel
theorem dX3_nestsIn_21 : decode cX3_nestsIn 21 = .ok (.iand, 1) := by decide +kernel
theorem dX3_nestsIn_22 : decode cX3_nestsIn 22 = .ok (.ifCond .ne 7, 3) := by decide +kernel
theorem dX3_nestsIn_25 : decode cX3_nestsIn 25 = .ok (.iconst 1, 1) := by decide +kernel
theorem dX3_nestsIn_26 : decode cX3_nestsIn 26 = .ok (.goto 4, 3) := by decide +kernel
theorem dX3_nestsIn_29 : decode cX3_nestsIn 29 = .ok (.iconst 0, 1) := by decide +kernel
theorem dX3_nestsIn_30 : decode cX3_nestsIn 30 = .ok (.ireturn, 1) := by decide +kernel
set_option maxRecDepth 20000 in
theorem ggX3_isAkinTo_X3_nestsIn : GoodIn wsX3_isAkinTo wsX3_nestsIn := goodIn_r _ [6, 1, 7, 8, 9, 10] (by decide +kernel) (by decide +kernel)
set_option maxRecDepth 20000 in
theorem gX3_isAkinTo_X3_nestsIn : GoodIn wsX3_isAkinTo (wsV RX3 28 RX3 yX3_nestsIn wsX3_nestsIn) := goodIn_app (goodIn_of _ (by decide +kernel)) ggX3_isAkinTo_X3_nestsIn
theorem dX3_isAkinTo_0 : decode cX3_isAkinTo 0 = .ok (.aload_n 0, 1) := by decide +kernel
theorem dX3_isAkinTo_1 : decode cX3_isAkinTo 1 = .ok (.getfield 7, 3) := by decide +kernel
theorem dX3_isAkinTo_4 : decode cX3_isAkinTo 4 = .ok (.aload_n 1, 1) := by decide +kernel
theorem dX3_isAkinTo_5 : decode cX3_isAkinTo 5 = .ok (.getfield 7, 3) := by decide +kernel
theorem dX3_isAkinTo_8 : decode cX3_isAkinTo 8 = .ok (.if_icmp .eq 19, 3) := by decide +kernel
theorem dX3_isAkinTo_11 : decode cX3_isAkinTo 11 = .ok (.aload_n 0, 1) := by decide +kernel
theorem dX3_isAkinTo_12 : decode cX3_isAkinTo 12 = .ok (.aload_n 1, 1) := by decide +kernel
theorem dX3_isAkinTo_13 : decode cX3_isAkinTo 13 = .ok (.invokevirtual 28, 3) := by decide +kernel
theorem dX3_isAkinTo_16 : decode cX3_isAkinTo 16 = .ok (.ifCond .ne 11, 3) := by decide +kernel
theorem dX3_isAkinTo_19 : decode cX3_isAkinTo 19 = .ok (.aload_n 1, 1) := by decide +kernel
theorem dX3_isAkinTo_20 : decode cX3_isAkinTo 20 = .ok (.aload_n 0, 1) := by decide +kernel
theorem dX3_isAkinTo_21 : decode cX3_isAkinTo 21 = .ok (.invokevirtual 28, 3) := by decide +kernel
theorem dX3_isAkinTo_24 : decode cX3_isAkinTo 24 = .ok (.ifCond .eq 7, 3) := by decide +kernel
theorem dX3_isAkinTo_27 : decode cX3_isAkinTo 27 = .ok (.iconst 1, 1) := by decide +kernel
theorem dX3_isAkinTo_28 : decode cX3_isAkinTo 28 = .ok (.goto 4, 3) := by decide +kernel
theorem dX3_isAkinTo_31 : decode cX3_isAkinTo 31 = .ok (.iconst 0, 1) := by decide +kernel
theorem dX3_isAkinTo_32 : decode cX3_isAkinTo 32 = .ok (.ireturn, 1) := by decide +kernel
theorem dX4_init_0 : decode cX4_init 0 = .ok (.aload_n 0, 1) := by decide +kernel
theorem dX4_init_1 : decode cX4_init 1 = .ok (.invokespecial 1, 3) := by decide +kernel
theorem dX4_init_4 : decode cX4_init 4 = .ok (.aload_n 0, 1) := by decide +kernel
theorem dX4_init_5 : decode cX4_init 5 = .ok (.bipush 8, 2) := by decide +kernel
theorem dX4_init_7 : decode cX4_init 7 = .ok (.anewarray 9, 3) := by decide +kernel
theorem dX4_init_10 : decode cX4_init 10 = .ok (.putfield 11, 3) := by decide +kernel
theorem dX4_init_13 : decode cX4_init 13 = .ok (.aload_n 0, 1) := by decide +kernel
theorem dX4_init_14 : decode cX4_init 14 = .ok (.bipush 6, 2) := by decide +kernel
theorem dX4_init_16 : decode cX4_init 16 = .ok (.anewarray 15, 3) := by decide +kernel
theorem dX4_init_19 : decode cX4_init 19 = .ok (.putfield 17, 3) := by decide +kernel
theorem dX4_init_22 : decode cX4_init 22 = .ok (.aload_n 0, 1) := by decide +kernel
theorem dX4_init_23 : decode cX4_init 23 = .ok (.bipush 40, 2) := by decide +kernel
theorem dX4_init_25 : decode cX4_init 25 = .ok (.anewarray 21, 3) := by decide +kernel
theorem dX4_init_28 : decode cX4_init 28 = .ok (.putfield 23, 3) := by decide +kernel
theorem dX4_init_31 : decode cX4_init 31 = .ok (.return_, 1) := by decide +kernel
set_option maxRecDepth 20000 in
theorem ggX4_offence_X4_isWithin : GoodIn wsX4_offence wsX4_isWithin := goodIn_r _ [13] (by decide +kernel) (by decide +kernel)
set_option maxRecDepth 20000 in
theorem gX4_offence_X4_isWithin : GoodIn wsX4_offence (va_wsS RX4 27 yX4_isWithin wsX4_isWithin) := goodIn_app (goodIn_of _ (by decide +kernel)) ggX4_offence_X4_isWithin
set_option maxRecDepth 20000 in
theorem ggX4_offence_X3_init : GoodIn wsX4_offence wsX3_init := goodIn_r _ [16, 17, 18, 19, 20, 21, 22, 36, 37, 38, 39] (by decide +kernel) (by decide +kernel)
set_option maxRecDepth 20000 in
theorem gX4_offence_X3_init : GoodIn wsX4_offence (wsX3_init) := ggX4_offence_X3_init
theorem dX4_offence_0 : decode cX4_offence 0 = .ok (.iload_n 1, 1) := by decide +kernel
theorem dX4_offence_1 : decode cX4_offence 1 = .ok (.iconst 1, 1) := by decide +kernel
theorem dX4_offence_2 : decode cX4_offence 2 = .ok (.sipush 1023, 3) := by decide +kernel
theorem dX4_offence_5 : decode cX4_offence 5 = .ok (.invokestatic 27, 3) := by decide +kernel
theorem dX4_offence_8 : decode cX4_offence 8 = .ok (.ifCond .eq 24, 3) := by decide +kernel
theorem dX4_offence_11 : decode cX4_offence 11 = .ok (.iload_n 2, 1) := by decide +kernel
theorem dX4_offence_12 : decode cX4_offence 12 = .ok (.iconst 1, 1) := by decide +kernel
theorem dX4_offence_13 : decode cX4_offence 13 = .ok (.bipush 9, 2) := by decide +kernel
theorem dX4_offence_15 : decode cX4_offence 15 = .ok (.invokestatic 27, 3) := by decide +kernel
theorem dX4_offence_18 : decode cX4_offence 18 = .ok (.ifCond .eq 14, 3) := by decide +kernel
theorem dX4_offence_21 : decode cX4_offence 21 = .ok (.iload_n 3, 1) := by decide +kernel
theorem dX4_offence_22 : decode cX4_offence 22 = .ok (.iconst 1, 1) := by decide +kernel
theorem dX4_offence_23 : decode cX4_offence 23 = .ok (.sipush 2000, 3) := by decide +kernel
theorem dX4_offence_26 : decode cX4_offence 26 = .ok (.invokestatic 27, 3) := by decide +kernel
theorem dX4_offence_29 : decode cX4_offence 29 = .ok (.ifCond .ne 13, 3) := by decide +kernel
theorem dX4_offence_32 : decode cX4_offence 32 = .ok (.new 31, 3) := by decide +kernel
theorem dX4_offence_35 : decode cX4_offence 35 = .ok (.dup, 1) := by decide +kernel
theorem dX4_offence_36 : decode cX4_offence 36 = .ok (.ldc 33, 2) := by decide +kernel
theorem dX4_offence_38 : decode cX4_offence 38 = .ok (.invokespecial 35, 3) := by decide +kernel
theorem dX4_offence_41 : decode cX4_offence 41 = .ok (.athrow, 1) := by decide +kernel
theorem dX4_offence_42 : decode cX4_offence 42 = .ok (.aload_n 0, 1) := by decide +kernel
theorem dX4_offence_43 : decode cX4_offence 43 = .ok (.getfield 38, 3) := by decide +kernel
theorem dX4_offence_46 : decode cX4_offence 46 = .ok (.aload_n 0, 1) := by decide +kernel
theorem dX4_offence_47 : decode cX4_offence 47 = .ok (.getfield 11, 3) := by decide +kernel
theorem dX4_offence_50 : decode cX4_offence 50 = .ok (.arraylength, 1) := by decide +kernel
theorem dX4_offence_51 : decode cX4_offence 51 = .ok (.if_icmp .lt 13, 3) := by decide +kernel
theorem dX4_offence_54 : decode cX4_offence 54 = .ok (.new 42, 3) := by decide +kernel
theorem dX4_offence_57 : decode cX4_offence 57 = .ok (.dup, 1) := by decide +kernel
theorem dX4_offence_58 : decode cX4_offence 58 = .ok (.ldc 44, 2) := by decide +kernel
theorem dX4_offence_60 : decode cX4_offence 60 = .ok (.invokespecial 46, 3) := by decide +kernel
theorem dX4_offence_63 : decode cX4_offence 63 = .ok (.athrow, 1) := by decide +kernel
theorem dX4_offence_64 : decode cX4_offence 64 = .ok (.aload_n 0, 1) := by decide +kernel
theorem dX4_offence_65 : decode cX4_offence 65 = .ok (.getfield 11, 3) := by decide +kernel
theorem dX4_offence_68 : decode cX4_offence 68 = .ok (.aload_n 0, 1) := by decide +kernel
theorem dX4_offence_69 : decode cX4_offence 69 = .ok (.getfield 38, 3) := by decide +kernel
theorem dX4_offence_72 : decode cX4_offence 72 = .ok (.new 9, 3) := by decide +kernel
theorem dX4_offence_75 : decode cX4_offence 75 = .ok (.dup, 1) := by decide +kernel
theorem dX4_offence_76 : decode cX4_offence 76 = .ok (.iload_n 1, 1) := by decide +kernel
theorem dX4_offence_77 : decode cX4_offence 77 = .ok (.iload_n 2, 1) := by decide +kernel
theorem dX4_offence_78 : decode cX4_offence 78 = .ok (.iload_n 3, 1) := by decide +kernel
theorem dX4_offence_79 : decode cX4_offence 79 = .ok (.invokespecial 47, 3) := by decide +kernel
theorem dX4_offence_82 : decode cX4_offence 82 = .ok (.aastore, 1) := by decide +kernel
theorem dX4_offence_83 : decode cX4_offence 83 = .ok (.aload_n 0, 1) := by decide +kernel
theorem dX4_offence_84 : decode cX4_offence 84 = .ok (.dup, 1) := by decide +kernel
theorem dX4_offence_85 : decode cX4_offence 85 = .ok (.getfield 38, 3) := by decide +kernel
theorem dX4_offence_88 : decode cX4_offence 88 = .ok (.iconst 1, 1) := by decide +kernel
theorem dX4_offence_89 : decode cX4_offence 89 = .ok (.iadd, 1) := by decide +kernel
theorem dX4_offence_90 : decode cX4_offence 90 = .ok (.putfield 38, 3) := by decide +kernel
theorem dX4_offence_93 : decode cX4_offence 93 = .ok (.aload_n 0, 1) := by decide +kernel
theorem dX4_offence_94 : decode cX4_offence 94 = .ok (.getfield 38, 3) := by decide +kernel
theorem dX4_offence_97 : decode cX4_offence 97 = .ok (.iconst 1, 1) := by decide +kernel
theorem dX4_offence_98 : decode cX4_offence 98 = .ok (.isub, 1) := by decide +kernel
theorem dX4_offence_99 : decode cX4_offence 99 = .ok (.ireturn, 1) := by decide +kernel
set_option maxRecDepth 20000 in
theorem ggX4_exclude_X4_offenceAt : GoodIn wsX4_exclude wsX4_offenceAt := goodIn_r _ [10, 11, 24, 25, 26, 27, 28, 29, 30, 31, 32, 33, 34, 35, 36] (by decide +kernel) (by decide +kernel)
set_option maxRecDepth 20000 in
theorem gX4_exclude_X4_offenceAt : GoodIn wsX4_exclude (wsV RX4 50 RX4 yX4_offenceAt wsX4_offenceAt) := goodIn_app (goodIn_of _ (by decide +kernel)) ggX4_exclude_X4_offenceAt
set_option maxRecDepth 20000 in
theorem ggX4_exclude_X3_excludes : GoodIn wsX4_exclude wsX3_excludes := goodIn_r _ [16, 17, 18, 9, 19, 20, 21, 22, 23] (by decide +kernel) (by decide +kernel)
set_option maxRecDepth 20000 in
theorem gX4_exclude_X3_excludes : GoodIn wsX4_exclude (wsV RX4 61 RX3 yX3_excludes wsX3_excludes) := goodIn_app (goodIn_of _ (by decide +kernel)) ggX4_exclude_X3_excludes
theorem dX4_exclude_0 : decode cX4_exclude 0 = .ok (.aload_n 0, 1) := by decide +kernel
theorem dX4_exclude_1 : decode cX4_exclude 1 = .ok (.iload_n 1, 1) := by decide +kernel
theorem dX4_exclude_2 : decode cX4_exclude 2 = .ok (.invokevirtual 50, 3) := by decide +kernel
theorem dX4_exclude_5 : decode cX4_exclude 5 = .ok (.astore_n 3, 1) := by decide +kernel
theorem dX4_exclude_6 : decode cX4_exclude 6 = .ok (.aload_n 0, 1) := by decide +kernel
theorem dX4_exclude_7 : decode cX4_exclude 7 = .ok (.iload_n 2, 1) := by decide +kernel
theorem dX4_exclude_8 : decode cX4_exclude 8 = .ok (.invokevirtual 50, 3) := by decide +kernel
theorem dX4_exclude_11 : decode cX4_exclude 11 = .ok (.astore 4, 2) := by decide +kernel
theorem dX4_exclude_13 : decode cX4_exclude 13 = .ok (.aload_n 3, 1) := by decide +kernel
theorem dX4_exclude_14 : decode cX4_exclude 14 = .ok (.ifnull 8, 3) := by decide +kernel
theorem dX4_exclude_17 : decode cX4_exclude 17 = .ok (.aload 4, 2) := by decide +kernel
theorem dX4_exclude_19 : decode cX4_exclude 19 = .ok (.ifnonnull 13, 3) := by decide +kernel
theorem dX4_exclude_22 : decode cX4_exclude 22 = .ok (.new 54, 3) := by decide +kernel
theorem dX4_exclude_25 : decode cX4_exclude 25 = .ok (.dup, 1) := by decide +kernel
theorem dX4_exclude_26 : decode cX4_exclude 26 = .ok (.ldc 56, 2) := by decide +kernel
theorem dX4_exclude_28 : decode cX4_exclude 28 = .ok (.invokespecial 58, 3) := by decide +kernel
theorem dX4_exclude_31 : decode cX4_exclude 31 = .ok (.athrow, 1) := by decide +kernel
theorem dX4_exclude_32 : decode cX4_exclude 32 = .ok (.iload_n 1, 1) := by decide +kernel
theorem dX4_exclude_33 : decode cX4_exclude 33 = .ok (.iload_n 2, 1) := by decide +kernel
theorem dX4_exclude_34 : decode cX4_exclude 34 = .ok (.if_icmp .ne 13, 3) := by decide +kernel
theorem dX4_exclude_37 : decode cX4_exclude 37 = .ok (.new 31, 3) := by decide +kernel
theorem dX4_exclude_40 : decode cX4_exclude 40 = .ok (.dup, 1) := by decide +kernel
theorem dX4_exclude_41 : decode cX4_exclude 41 = .ok (.ldc 59, 2) := by decide +kernel
theorem dX4_exclude_43 : decode cX4_exclude 43 = .ok (.invokespecial 35, 3) := by decide +kernel
theorem dX4_exclude_46 : decode cX4_exclude 46 = .ok (.athrow, 1) := by decide +kernel
theorem dX4_exclude_47 : decode cX4_exclude 47 = .ok (.aload_n 3, 1) := by decide +kernel
theorem dX4_exclude_48 : decode cX4_exclude 48 = .ok (.iload_n 2, 1) := by decide +kernel
theorem dX4_exclude_49 : decode cX4_exclude 49 = .ok (.invokevirtual 61, 3) := by decide +kernel
theorem dX4_exclude_52 : decode cX4_exclude 52 = .ok (.istore 5, 2) := by decide +kernel
theorem dX4_exclude_54 : decode cX4_exclude 54 = .ok (.aload_n 3, 1) := by decide +kernel
theorem dX4_exclude_55 : decode cX4_exclude 55 = .ok (.dup, 1) := by decide +kernel
theorem dX4_exclude_56 : decode cX4_exclude 56 = .ok (.getfield 65, 3) := by decide +kernel
theorem dX4_exclude_59 : decode cX4_exclude 59 = .ok (.iconst 1, 1) := by decide +kernel
theorem dX4_exclude_60 : decode cX4_exclude 60 = .ok (.iload_n 2, 1) := by decide +kernel
theorem dX4_exclude_61 : decode cX4_exclude 61 = .ok (.ishl, 1) := by decide +kernel
theorem dX4_exclude_62 : decode cX4_exclude 62 = .ok (.ior, 1) := by decide +kernel
theorem dX4_exclude_63 : decode cX4_exclude 63 = .ok (.putfield 65, 3) := by decide +kernel
theorem dX4_exclude_66 : decode cX4_exclude 66 = .ok (.aload 4, 2) := by decide +kernel
theorem dX4_exclude_68 : decode cX4_exclude 68 = .ok (.dup, 1) := by decide +kernel
theorem dX4_exclude_69 : decode cX4_exclude 69 = .ok (.getfield 65, 3) := by decide +kernel
theorem dX4_exclude_72 : decode cX4_exclude 72 = .ok (.iconst 1, 1) := by decide +kernel
theorem dX4_exclude_73 : decode cX4_exclude 73 = .ok (.iload_n 1, 1) := by decide +kernel
theorem dX4_exclude_74 : decode cX4_exclude 74 = .ok (.ishl, 1) := by decide +kernel
theorem dX4_exclude_75 : decode cX4_exclude 75 = .ok (.ior, 1) := by decide +kernel
theorem dX4_exclude_76 : decode cX4_exclude 76 = .ok (.putfield 65, 3) := by decide +kernel
theorem dX4_exclude_79 : decode cX4_exclude 79 = .ok (.iload 5, 2) := by decide +kernel
theorem dX4_exclude_81 : decode cX4_exclude 81 = .ok (.ireturn, 1) := by decide +kernel
set_option maxRecDepth 20000 in
theorem ggX4_pass_X4_isWithin : GoodIn wsX4_pass wsX4_isWithin := goodIn_r _ [11] (by decide +kernel) (by decide +kernel)
set_option maxRecDepth 20000 in
theorem gX4_pass_X4_isWithin : GoodIn wsX4_pass (va_wsS RX4 27 yX4_isWithin wsX4_isWithin) := goodIn_app (goodIn_of _ (by decide +kernel)) ggX4_pass_X4_isWithin
set_option maxRecDepth 20000 in
theorem ggX4_pass_X1_passInCustody : GoodIn wsX4_pass wsX1_passInCustody := goodIn_r _ [16, 17, 18, 19, 20, 21, 22, 23, 24, 25, 26, 27, 28, 29, 30, 31, 32, 33, 34, 35, 36, 37, 38, 39, 40, 41, 10, 42, 56, 57, 58, 59, 60, 61, 62, 63, 64, 65, 66, 67, 68, 69, 70, 71, 72, 73, 74] (by decide +kernel) (by decide +kernel)
set_option maxRecDepth 20000 in
theorem gX4_pass_X1_passInCustody : GoodIn wsX4_pass (wsV RX4 78 RX1 yX1_passInCustody wsX1_passInCustody) := goodIn_app (goodIn_of _ (by decide +kernel)) ggX4_pass_X1_passInCustody
theorem dX4_pass_0 : decode cX4_pass 0 = .ok (.iload_n 1, 1) := by decide +kernel
theorem dX4_pass_1 : decode cX4_pass 1 = .ok (.iconst 1, 1) := by decide +kernel
theorem dX4_pass_2 : decode cX4_pass 2 = .ok (.bipush 100, 2) := by decide +kernel
theorem dX4_pass_4 : decode cX4_pass 4 = .ok (.invokestatic 27, 3) := by decide +kernel
theorem dX4_pass_7 : decode cX4_pass 7 = .ok (.ifCond .ne 13, 3) := by decide +kernel
theorem dX4_pass_10 : decode cX4_pass 10 = .ok (.new 31, 3) := by decide +kernel
theorem dX4_pass_13 : decode cX4_pass 13 = .ok (.dup, 1) := by decide +kernel
theorem dX4_pass_14 : decode cX4_pass 14 = .ok (.ldc 68, 2) := by decide +kernel
theorem dX4_pass_16 : decode cX4_pass 16 = .ok (.invokespecial 35, 3) := by decide +kernel
theorem dX4_pass_19 : decode cX4_pass 19 = .ok (.athrow, 1) := by decide +kernel
theorem dX4_pass_20 : decode cX4_pass 20 = .ok (.aload_n 0, 1) := by decide +kernel
theorem dX4_pass_21 : decode cX4_pass 21 = .ok (.getfield 70, 3) := by decide +kernel
theorem dX4_pass_24 : decode cX4_pass 24 = .ok (.iload_n 1, 1) := by decide +kernel
theorem dX4_pass_25 : decode cX4_pass 25 = .ok (.iadd, 1) := by decide +kernel
theorem dX4_pass_26 : decode cX4_pass 26 = .ok (.sipush 5000, 3) := by decide +kernel
theorem dX4_pass_29 : decode cX4_pass 29 = .ok (.if_icmp .le 13, 3) := by decide +kernel
theorem dX4_pass_32 : decode cX4_pass 32 = .ok (.new 42, 3) := by decide +kernel
theorem dX4_pass_35 : decode cX4_pass 35 = .ok (.dup, 1) := by decide +kernel
theorem dX4_pass_36 : decode cX4_pass 36 = .ok (.ldc 73, 2) := by decide +kernel
theorem dX4_pass_38 : decode cX4_pass 38 = .ok (.invokespecial 46, 3) := by decide +kernel
theorem dX4_pass_41 : decode cX4_pass 41 = .ok (.athrow, 1) := by decide +kernel
theorem dX4_pass_42 : decode cX4_pass 42 = .ok (.aload_n 0, 1) := by decide +kernel
theorem dX4_pass_43 : decode cX4_pass 43 = .ok (.getfield 17, 3) := by decide +kernel
theorem dX4_pass_46 : decode cX4_pass 46 = .ok (.astore_n 2, 1) := by decide +kernel
theorem dX4_pass_47 : decode cX4_pass 47 = .ok (.aload_n 2, 1) := by decide +kernel
theorem dX4_pass_48 : decode cX4_pass 48 = .ok (.arraylength, 1) := by decide +kernel
theorem dX4_pass_49 : decode cX4_pass 49 = .ok (.istore_n 3, 1) := by decide +kernel
theorem dX4_pass_50 : decode cX4_pass 50 = .ok (.iconst 0, 1) := by decide +kernel
theorem dX4_pass_51 : decode cX4_pass 51 = .ok (.istore 4, 2) := by decide +kernel
theorem dX4_pass_53 : decode cX4_pass 53 = .ok (.iload 4, 2) := by decide +kernel
theorem dX4_pass_55 : decode cX4_pass 55 = .ok (.iload_n 3, 1) := by decide +kernel
theorem dX4_pass_56 : decode cX4_pass 56 = .ok (.if_icmp .ge 35, 3) := by decide +kernel
theorem dX4_pass_59 : decode cX4_pass 59 = .ok (.aload_n 2, 1) := by decide +kernel
theorem dX4_pass_60 : decode cX4_pass 60 = .ok (.iload 4, 2) := by decide +kernel
theorem dX4_pass_62 : decode cX4_pass 62 = .ok (.aaload, 1) := by decide +kernel
theorem dX4_pass_63 : decode cX4_pass 63 = .ok (.astore 5, 2) := by decide +kernel
theorem dX4_pass_65 : decode cX4_pass 65 = .ok (.aload 5, 2) := by decide +kernel
theorem dX4_pass_67 : decode cX4_pass 67 = .ok (.ifnull 18, 3) := by decide +kernel
theorem dX4_pass_70 : decode cX4_pass 70 = .ok (.aload_n 0, 1) := by decide +kernel
theorem dX4_pass_71 : decode cX4_pass 71 = .ok (.dup, 1) := by decide +kernel
theorem dX4_pass_72 : decode cX4_pass 72 = .ok (.getfield 75, 3) := by decide +kernel
theorem dX4_pass_75 : decode cX4_pass 75 = .ok (.aload 5, 2) := by decide +kernel
theorem dX4_pass_77 : decode cX4_pass 77 = .ok (.iload_n 1, 1) := by decide +kernel
theorem dX4_pass_78 : decode cX4_pass 78 = .ok (.invokevirtual 78, 3) := by decide +kernel
theorem dX4_pass_81 : decode cX4_pass 81 = .ok (.iadd, 1) := by decide +kernel
theorem dX4_pass_82 : decode cX4_pass 82 = .ok (.putfield 75, 3) := by decide +kernel
theorem dX4_pass_85 : decode cX4_pass 85 = .ok (.iinc 4 1, 3) := by decide +kernel
theorem dX4_pass_88 : decode cX4_pass 88 = .ok (.goto (-35), 3) := by decide +kernel
theorem dX4_pass_91 : decode cX4_pass 91 = .ok (.aload_n 0, 1) := by decide +kernel
theorem dX4_pass_92 : decode cX4_pass 92 = .ok (.dup, 1) := by decide +kernel
theorem dX4_pass_93 : decode cX4_pass 93 = .ok (.getfield 70, 3) := by decide +kernel
theorem dX4_pass_96 : decode cX4_pass 96 = .ok (.iload_n 1, 1) := by decide +kernel
theorem dX4_pass_97 : decode cX4_pass 97 = .ok (.iadd, 1) := by decide +kernel
theorem dX4_pass_98 : decode cX4_pass 98 = .ok (.putfield 70, 3) := by decide +kernel
theorem dX4_pass_101 : decode cX4_pass 101 = .ok (.aload_n 0, 1) := by decide +kernel
theorem dX4_pass_102 : decode cX4_pass 102 = .ok (.getfield 70, 3) := by decide +kernel
theorem dX4_pass_105 : decode cX4_pass 105 = .ok (.ireturn, 1) := by decide +kernel
set_option maxRecDepth 20000 in
theorem ggX4_file_X4_isWithin : GoodIn wsX4_file wsX4_isWithin := goodIn_r _ [19] (by decide +kernel) (by decide +kernel)
set_option maxRecDepth 20000 in
theorem gX4_file_X4_isWithin : GoodIn wsX4_file (va_wsS RX4 27 yX4_isWithin wsX4_isWithin) := goodIn_app (goodIn_of _ (by decide +kernel)) ggX4_file_X4_isWithin
set_option maxRecDepth 20000 in
theorem ggX4_file_X1_init : GoodIn wsX4_file wsX1_init := goodIn_r _ [22, 23, 24, 25, 26, 27, 28, 29, 30, 31, 57, 58, 59, 60, 61] (by decide +kernel) (by decide +kernel)
set_option maxRecDepth 20000 in
theorem gX4_file_X1_init : GoodIn wsX4_file (wsX1_init) := ggX4_file_X1_init
set_option maxRecDepth 20000 in
theorem ggX4_file_X4_hasBit : GoodIn wsX4_file wsX4_hasBit := goodIn_r _ [34] (by decide +kernel) (by decide +kernel)
set_option maxRecDepth 20000 in
theorem gX4_file_X4_hasBit : GoodIn wsX4_file (va_wsS RX4 96 yX4_hasBit wsX4_hasBit) := goodIn_app (goodIn_of _ (by decide +kernel)) ggX4_file_X4_hasBit
set_option maxRecDepth 20000 in
theorem ggX4_file_X0_init : GoodIn wsX4_file wsX0_init := goodIn_r _ [37, 38, 24, 25, 39, 40, 41, 42, 43, 62, 63, 64, 65, 66, 67, 68, 69, 70, 71, 72, 73, 74, 75] (by decide +kernel) (by decide +kernel)
set_option maxRecDepth 20000 in
theorem gX4_file_X0_init : GoodIn wsX4_file (wsX0_init) := ggX4_file_X0_init
theorem dX4_file_0 : decode cX4_file 0 = .ok (.iload_n 1, 1) := by decide +kernel
theorem dX4_file_1 : decode cX4_file 1 = .ok (.iconst 0, 1) := by decide +kernel
theorem dX4_file_2 : decode cX4_file 2 = .ok (.aload_n 0, 1) := by decide +kernel
theorem dX4_file_3 : decode cX4_file 3 = .ok (.getfield 70, 3) := by decide +kernel
theorem dX4_file_6 : decode cX4_file 6 = .ok (.invokestatic 27, 3) := by decide +kernel
theorem dX4_file_9 : decode cX4_file 9 = .ok (.ifCond .eq 25, 3) := by decide +kernel
theorem dX4_file_12 : decode cX4_file 12 = .ok (.iload_n 2, 1) := by decide +kernel
theorem dX4_file_13 : decode cX4_file 13 = .ok (.iconst 1, 1) := by decide +kernel
theorem dX4_file_14 : decode cX4_file 14 = .ok (.sipush 255, 3) := by decide +kernel
theorem dX4_file_17 : decode cX4_file 17 = .ok (.invokestatic 27, 3) := by decide +kernel
theorem dX4_file_20 : decode cX4_file 20 = .ok (.ifCond .eq 14, 3) := by decide +kernel
theorem dX4_file_23 : decode cX4_file 23 = .ok (.iload_n 3, 1) := by decide +kernel
theorem dX4_file_24 : decode cX4_file 24 = .ok (.bipush (-9), 2) := by decide +kernel
theorem dX4_file_26 : decode cX4_file 26 = .ok (.bipush 9, 2) := by decide +kernel
theorem dX4_file_28 : decode cX4_file 28 = .ok (.invokestatic 27, 3) := by decide +kernel
theorem dX4_file_31 : decode cX4_file 31 = .ok (.ifCond .ne 13, 3) := by decide +kernel
theorem dX4_file_34 : decode cX4_file 34 = .ok (.new 31, 3) := by decide +kernel
theorem dX4_file_37 : decode cX4_file 37 = .ok (.dup, 1) := by decide +kernel
theorem dX4_file_38 : decode cX4_file 38 = .ok (.ldc 82, 2) := by decide +kernel
theorem dX4_file_40 : decode cX4_file 40 = .ok (.invokespecial 35, 3) := by decide +kernel
theorem dX4_file_43 : decode cX4_file 43 = .ok (.athrow, 1) := by decide +kernel
theorem dX4_file_44 : decode cX4_file 44 = .ok (.aload_n 0, 1) := by decide +kernel
theorem dX4_file_45 : decode cX4_file 45 = .ok (.getfield 84, 3) := by decide +kernel
theorem dX4_file_48 : decode cX4_file 48 = .ok (.aload_n 0, 1) := by decide +kernel
theorem dX4_file_49 : decode cX4_file 49 = .ok (.getfield 17, 3) := by decide +kernel
theorem dX4_file_52 : decode cX4_file 52 = .ok (.arraylength, 1) := by decide +kernel
theorem dX4_file_53 : decode cX4_file 53 = .ok (.if_icmp .lt 13, 3) := by decide +kernel
theorem dX4_file_56 : decode cX4_file 56 = .ok (.new 42, 3) := by decide +kernel
theorem dX4_file_59 : decode cX4_file 59 = .ok (.dup, 1) := by decide +kernel
theorem dX4_file_60 : decode cX4_file 60 = .ok (.ldc 87, 2) := by decide +kernel
theorem dX4_file_62 : decode cX4_file 62 = .ok (.invokespecial 46, 3) := by decide +kernel
theorem dX4_file_65 : decode cX4_file 65 = .ok (.athrow, 1) := by decide +kernel
theorem dX4_file_66 : decode cX4_file 66 = .ok (.new 15, 3) := by decide +kernel
theorem dX4_file_69 : decode cX4_file 69 = .ok (.dup, 1) := by decide +kernel
theorem dX4_file_70 : decode cX4_file 70 = .ok (.aload_n 0, 1) := by decide +kernel
theorem dX4_file_71 : decode cX4_file 71 = .ok (.getfield 84, 3) := by decide +kernel
theorem dX4_file_74 : decode cX4_file 74 = .ok (.iload_n 1, 1) := by decide +kernel
theorem dX4_file_75 : decode cX4_file 75 = .ok (.iload_n 2, 1) := by decide +kernel
theorem dX4_file_76 : decode cX4_file 76 = .ok (.iload_n 3, 1) := by decide +kernel
theorem dX4_file_77 : decode cX4_file 77 = .ok (.invokespecial 89, 3) := by decide +kernel
theorem dX4_file_80 : decode cX4_file 80 = .ok (.astore 4, 2) := by decide +kernel
theorem dX4_file_82 : decode cX4_file 82 = .ok (.iconst 0, 1) := by decide +kernel
theorem dX4_file_83 : decode cX4_file 83 = .ok (.istore 5, 2) := by decide +kernel
theorem dX4_file_85 : decode cX4_file 85 = .ok (.iload 5, 2) := by decide +kernel
theorem dX4_file_87 : decode cX4_file 87 = .ok (.aload 4, 2) := by decide +kernel
theorem dX4_file_89 : decode cX4_file 89 = .ok (.getfield 92, 3) := by decide +kernel
theorem dX4_file_92 : decode cX4_file 92 = .ok (.arraylength, 1) := by decide +kernel
theorem dX4_file_93 : decode cX4_file 93 = .ok (.if_icmp .ge 37, 3) := by decide +kernel
theorem dX4_file_96 : decode cX4_file 96 = .ok (.iload_n 2, 1) := by decide +kernel
theorem dX4_file_97 : decode cX4_file 97 = .ok (.iload 5, 2) := by decide +kernel
theorem dX4_file_99 : decode cX4_file 99 = .ok (.invokestatic 96, 3) := by decide +kernel
theorem dX4_file_102 : decode cX4_file 102 = .ok (.ifCond .eq 22, 3) := by decide +kernel
theorem dX4_file_105 : decode cX4_file 105 = .ok (.aload 4, 2) := by decide +kernel
theorem dX4_file_107 : decode cX4_file 107 = .ok (.getfield 92, 3) := by decide +kernel
theorem dX4_file_110 : decode cX4_file 110 = .ok (.iload 5, 2) := by decide +kernel
theorem dX4_file_112 : decode cX4_file 112 = .ok (.new 100, 3) := by decide +kernel
theorem dX4_file_115 : decode cX4_file 115 = .ok (.dup, 1) := by decide +kernel
theorem dX4_file_116 : decode cX4_file 116 = .ok (.aload 4, 2) := by decide +kernel
theorem dX4_file_118 : decode cX4_file 118 = .ok (.iload 5, 2) := by decide +kernel
theorem dX4_file_120 : decode cX4_file 120 = .ok (.invokespecial 102, 3) := by decide +kernel
theorem dX4_file_123 : decode cX4_file 123 = .ok (.aastore, 1) := by decide +kernel
theorem dX4_file_124 : decode cX4_file 124 = .ok (.iinc 5 1, 3) := by decide +kernel
theorem dX4_file_127 : decode cX4_file 127 = .ok (.goto (-42), 3) := by decide +kernel
theorem dX4_file_130 : decode cX4_file 130 = .ok (.aload_n 0, 1) := by decide +kernel
theorem dX4_file_131 : decode cX4_file 131 = .ok (.getfield 17, 3) := by decide +kernel
theorem dX4_file_134 : decode cX4_file 134 = .ok (.aload_n 0, 1) := by decide +kernel
theorem dX4_file_135 : decode cX4_file 135 = .ok (.getfield 84, 3) := by decide +kernel
theorem dX4_file_138 : decode cX4_file 138 = .ok (.aload 4, 2) := by decide +kernel
theorem dX4_file_140 : decode cX4_file 140 = .ok (.aastore, 1) := by decide +kernel
theorem dX4_file_141 : decode cX4_file 141 = .ok (.aload_n 0, 1) := by decide +kernel
theorem dX4_file_142 : decode cX4_file 142 = .ok (.dup, 1) := by decide +kernel
theorem dX4_file_143 : decode cX4_file 143 = .ok (.getfield 84, 3) := by decide +kernel
theorem dX4_file_146 : decode cX4_file 146 = .ok (.iconst 1, 1) := by decide +kernel
theorem dX4_file_147 : decode cX4_file 147 = .ok (.iadd, 1) := by decide +kernel
theorem dX4_file_148 : decode cX4_file 148 = .ok (.putfield 84, 3) := by decide +kernel
theorem dX4_file_151 : decode cX4_file 151 = .ok (.aload 4, 2) := by decide +kernel
theorem dX4_file_153 : decode cX4_file 153 = .ok (.getfield 105, 3) := by decide +kernel
theorem dX4_file_156 : decode cX4_file 156 = .ok (.ireturn, 1) := by decide +kernel
set_option maxRecDepth 20000 in
theorem ggX4_item_X4_fileAt : GoodIn wsX4_item wsX4_fileAt := goodIn_r _ [17, 18, 42, 43, 44, 45, 46, 47, 48, 49, 50, 51, 52, 53, 54] (by decide +kernel) (by decide +kernel)
set_option maxRecDepth 20000 in
theorem gX4_item_X4_fileAt : GoodIn wsX4_item (wsV RX4 108 RX4 yX4_fileAt wsX4_fileAt) := goodIn_app (goodIn_of _ (by decide +kernel)) ggX4_item_X4_fileAt
set_option maxRecDepth 20000 in
theorem ggX4_item_X4_isWithin : GoodIn wsX4_item wsX4_isWithin := goodIn_r _ [21] (by decide +kernel) (by decide +kernel)
set_option maxRecDepth 20000 in
theorem gX4_item_X4_isWithin : GoodIn wsX4_item (va_wsS RX4 27 yX4_isWithin wsX4_isWithin) := goodIn_app (goodIn_of _ (by decide +kernel)) ggX4_item_X4_isWithin
set_option maxRecDepth 20000 in
theorem ggX4_item_X1_hasAll : GoodIn wsX4_item wsX1_hasAll := goodIn_r _ [26, 27, 65, 66, 67, 68, 69] (by decide +kernel) (by decide +kernel)
set_option maxRecDepth 20000 in
theorem gX4_item_X1_hasAll : GoodIn wsX4_item (wsV RX4 114 RX1 yX1_hasAll wsX1_hasAll) := goodIn_app (goodIn_of _ (by decide +kernel)) ggX4_item_X1_hasAll
set_option maxRecDepth 20000 in
theorem ggX4_item_X2_init : GoodIn wsX4_item wsX2_init := goodIn_r _ [30, 31, 32, 33, 34, 35, 36, 37, 38, 39, 40, 41, 55, 56, 57, 58, 59, 60, 61, 62, 63, 64] (by decide +kernel) (by decide +kernel)
set_option maxRecDepth 20000 in
theorem gX4_item_X2_init : GoodIn wsX4_item (wsX2_init) := ggX4_item_X2_init
theorem dX4_item_0 : decode cX4_item 0 = .ok (.aload_n 0, 1) := by decide +kernel
theorem dX4_item_1 : decode cX4_item 1 = .ok (.iload_n 1, 1) := by decide +kernel
theorem dX4_item_2 : decode cX4_item 2 = .ok (.invokevirtual 108, 3) := by decide +kernel
theorem dX4_item_5 : decode cX4_item 5 = .ok (.astore 7, 2) := by decide +kernel
theorem dX4_item_7 : decode cX4_item 7 = .ok (.aload 7, 2) := by decide +kernel
theorem dX4_item_9 : decode cX4_item 9 = .ok (.ifnull 13, 3) := by decide +kernel
theorem dX4_item_12 : decode cX4_item 12 = .ok (.iload_n 2, 1) := by decide +kernel
theorem dX4_item_13 : decode cX4_item 13 = .ok (.iconst 0, 1) := by decide +kernel
theorem dX4_item_14 : decode cX4_item 14 = .ok (.bipush 9, 2) := by decide +kernel
theorem dX4_item_16 : decode cX4_item 16 = .ok (.invokestatic 27, 3) := by decide +kernel
theorem dX4_item_19 : decode cX4_item 19 = .ok (.ifCond .ne 13, 3) := by decide +kernel
theorem dX4_item_22 : decode cX4_item 22 = .ok (.new 54, 3) := by decide +kernel
theorem dX4_item_25 : decode cX4_item 25 = .ok (.dup, 1) := by decide +kernel
theorem dX4_item_26 : decode cX4_item 26 = .ok (.ldc 112, 2) := by decide +kernel
theorem dX4_item_28 : decode cX4_item 28 = .ok (.invokespecial 58, 3) := by decide +kernel
theorem dX4_item_31 : decode cX4_item 31 = .ok (.athrow, 1) := by decide +kernel
theorem dX4_item_32 : decode cX4_item 32 = .ok (.iload_n 3, 1) := by decide +kernel
theorem dX4_item_33 : decode cX4_item 33 = .ok (.bipush (-9), 2) := by decide +kernel
theorem dX4_item_35 : decode cX4_item 35 = .ok (.bipush 9, 2) := by decide +kernel
theorem dX4_item_37 : decode cX4_item 37 = .ok (.invokestatic 27, 3) := by decide +kernel
theorem dX4_item_40 : decode cX4_item 40 = .ok (.ifCond .eq 27, 3) := by decide +kernel
theorem dX4_item_43 : decode cX4_item 43 = .ok (.iload_n 3, 1) := by decide +kernel
theorem dX4_item_44 : decode cX4_item 44 = .ok (.ifCond .eq 23, 3) := by decide +kernel
theorem dX4_item_47 : decode cX4_item 47 = .ok (.aload 7, 2) := by decide +kernel
theorem dX4_item_49 : decode cX4_item 49 = .ok (.iload 4, 2) := by decide +kernel
theorem dX4_item_51 : decode cX4_item 51 = .ok (.invokevirtual 114, 3) := by decide +kernel
theorem dX4_item_54 : decode cX4_item 54 = .ok (.ifCond .eq 13, 3) := by decide +kernel
theorem dX4_item_57 : decode cX4_item 57 = .ok (.iload 5, 2) := by decide +kernel
theorem dX4_item_59 : decode cX4_item 59 = .ok (.iconst 0, 1) := by decide +kernel
theorem dX4_item_60 : decode cX4_item 60 = .ok (.iconst 2, 1) := by decide +kernel
theorem dX4_item_61 : decode cX4_item 61 = .ok (.invokestatic 27, 3) := by decide +kernel
theorem dX4_item_64 : decode cX4_item 64 = .ok (.ifCond .ne 13, 3) := by decide +kernel
theorem dX4_item_67 : decode cX4_item 67 = .ok (.new 31, 3) := by decide +kernel
theorem dX4_item_70 : decode cX4_item 70 = .ok (.dup, 1) := by decide +kernel
theorem dX4_item_71 : decode cX4_item 71 = .ok (.ldc 117, 2) := by decide +kernel
theorem dX4_item_73 : decode cX4_item 73 = .ok (.invokespecial 35, 3) := by decide +kernel
theorem dX4_item_76 : decode cX4_item 76 = .ok (.athrow, 1) := by decide +kernel
theorem dX4_item_77 : decode cX4_item 77 = .ok (.aload_n 0, 1) := by decide +kernel
theorem dX4_item_78 : decode cX4_item 78 = .ok (.getfield 119, 3) := by decide +kernel
theorem dX4_item_81 : decode cX4_item 81 = .ok (.aload_n 0, 1) := by decide +kernel
theorem dX4_item_82 : decode cX4_item 82 = .ok (.getfield 23, 3) := by decide +kernel
theorem dX4_item_85 : decode cX4_item 85 = .ok (.arraylength, 1) := by decide +kernel
theorem dX4_item_86 : decode cX4_item 86 = .ok (.if_icmp .lt 13, 3) := by decide +kernel
theorem dX4_item_89 : decode cX4_item 89 = .ok (.new 42, 3) := by decide +kernel
theorem dX4_item_92 : decode cX4_item 92 = .ok (.dup, 1) := by decide +kernel
theorem dX4_item_93 : decode cX4_item 93 = .ok (.ldc 122, 2) := by decide +kernel
theorem dX4_item_95 : decode cX4_item 95 = .ok (.invokespecial 46, 3) := by decide +kernel
theorem dX4_item_98 : decode cX4_item 98 = .ok (.athrow, 1) := by decide +kernel
theorem dX4_item_99 : decode cX4_item 99 = .ok (.aload_n 0, 1) := by decide +kernel
theorem dX4_item_100 : decode cX4_item 100 = .ok (.getfield 23, 3) := by decide +kernel
theorem dX4_item_103 : decode cX4_item 103 = .ok (.aload_n 0, 1) := by decide +kernel
theorem dX4_item_104 : decode cX4_item 104 = .ok (.getfield 119, 3) := by decide +kernel
theorem dX4_item_107 : decode cX4_item 107 = .ok (.new 21, 3) := by decide +kernel
theorem dX4_item_110 : decode cX4_item 110 = .ok (.dup, 1) := by decide +kernel
theorem dX4_item_111 : decode cX4_item 111 = .ok (.iload_n 1, 1) := by decide +kernel
theorem dX4_item_112 : decode cX4_item 112 = .ok (.iload_n 2, 1) := by decide +kernel
theorem dX4_item_113 : decode cX4_item 113 = .ok (.iload_n 3, 1) := by decide +kernel
theorem dX4_item_114 : decode cX4_item 114 = .ok (.iload 4, 2) := by decide +kernel
theorem dX4_item_116 : decode cX4_item 116 = .ok (.iload 5, 2) := by decide +kernel
theorem dX4_item_118 : decode cX4_item 118 = .ok (.iload 6, 2) := by decide +kernel
theorem dX4_item_120 : decode cX4_item 120 = .ok (.aload_n 0, 1) := by decide +kernel
theorem dX4_item_121 : decode cX4_item 121 = .ok (.getfield 70, 3) := by decide +kernel
theorem dX4_item_124 : decode cX4_item 124 = .ok (.invokespecial 124, 3) := by decide +kernel
theorem dX4_item_127 : decode cX4_item 127 = .ok (.aastore, 1) := by decide +kernel
theorem dX4_item_128 : decode cX4_item 128 = .ok (.aload_n 0, 1) := by decide +kernel
theorem dX4_item_129 : decode cX4_item 129 = .ok (.dup, 1) := by decide +kernel
theorem dX4_item_130 : decode cX4_item 130 = .ok (.getfield 119, 3) := by decide +kernel
theorem dX4_item_133 : decode cX4_item 133 = .ok (.iconst 1, 1) := by decide +kernel
theorem dX4_item_134 : decode cX4_item 134 = .ok (.iadd, 1) := by decide +kernel
theorem dX4_item_135 : decode cX4_item 135 = .ok (.putfield 119, 3) := by decide +kernel
theorem dX4_item_138 : decode cX4_item 138 = .ok (.aload_n 0, 1) := by decide +kernel
theorem dX4_item_139 : decode cX4_item 139 = .ok (.getfield 119, 3) := by decide +kernel
theorem dX4_item_142 : decode cX4_item 142 = .ok (.iconst 1, 1) := by decide +kernel
theorem dX4_item_143 : decode cX4_item 143 = .ok (.isub, 1) := by decide +kernel
theorem dX4_item_144 : decode cX4_item 144 = .ok (.ireturn, 1) := by decide +kernel
set_option maxRecDepth 20000 in
theorem ggX4_admit_X4_itemAt : GoodIn wsX4_admit wsX4_itemAt := goodIn_r _ [12, 13, 24, 25, 26, 27, 28, 29, 30, 31, 32, 33, 34, 35, 36] (by decide +kernel) (by decide +kernel)
set_option maxRecDepth 20000 in
theorem gX4_admit_X4_itemAt : GoodIn wsX4_admit (wsV RX4 127 RX4 yX4_itemAt wsX4_itemAt) := goodIn_app (goodIn_of _ (by decide +kernel)) ggX4_admit_X4_itemAt
theorem dX4_admit_0 : decode cX4_admit 0 = .ok (.aload_n 0, 1) := by decide +kernel
theorem dX4_admit_1 : decode cX4_admit 1 = .ok (.iload_n 1, 1) := by decide +kernel
theorem dX4_admit_2 : decode cX4_admit 2 = .ok (.invokevirtual 127, 3) := by decide +kernel
theorem dX4_admit_5 : decode cX4_admit 5 = .ok (.astore_n 2, 1) := by decide +kernel
theorem dX4_admit_6 : decode cX4_admit 6 = .ok (.aload_n 2, 1) := by decide +kernel
theorem dX4_admit_7 : decode cX4_admit 7 = .ok (.ifnonnull 13, 3) := by decide +kernel
theorem dX4_admit_10 : decode cX4_admit 10 = .ok (.new 54, 3) := by decide +kernel
theorem dX4_admit_13 : decode cX4_admit 13 = .ok (.dup, 1) := by decide +kernel
theorem dX4_admit_14 : decode cX4_admit 14 = .ok (.ldc 131, 2) := by decide +kernel
theorem dX4_admit_16 : decode cX4_admit 16 = .ok (.invokespecial 58, 3) := by decide +kernel
theorem dX4_admit_19 : decode cX4_admit 19 = .ok (.athrow, 1) := by decide +kernel
theorem dX4_admit_20 : decode cX4_admit 20 = .ok (.aload_n 2, 1) := by decide +kernel
theorem dX4_admit_21 : decode cX4_admit 21 = .ok (.getfield 133, 3) := by decide +kernel
theorem dX4_admit_24 : decode cX4_admit 24 = .ok (.iconst 1, 1) := by decide +kernel
theorem dX4_admit_25 : decode cX4_admit 25 = .ok (.if_icmp .ne 11, 3) := by decide +kernel
theorem dX4_admit_28 : decode cX4_admit 28 = .ok (.aload_n 2, 1) := by decide +kernel
theorem dX4_admit_29 : decode cX4_admit 29 = .ok (.getfield 136, 3) := by decide +kernel
theorem dX4_admit_32 : decode cX4_admit 32 = .ok (.iconst (-1), 1) := by decide +kernel
theorem dX4_admit_33 : decode cX4_admit 33 = .ok (.if_icmp .eq 13, 3) := by decide +kernel
theorem dX4_admit_36 : decode cX4_admit 36 = .ok (.new 42, 3) := by decide +kernel
theorem dX4_admit_39 : decode cX4_admit 39 = .ok (.dup, 1) := by decide +kernel
theorem dX4_admit_40 : decode cX4_admit 40 = .ok (.ldc 139, 2) := by decide +kernel
theorem dX4_admit_42 : decode cX4_admit 42 = .ok (.invokespecial 46, 3) := by decide +kernel
theorem dX4_admit_45 : decode cX4_admit 45 = .ok (.athrow, 1) := by decide +kernel
theorem dX4_admit_46 : decode cX4_admit 46 = .ok (.aload_n 2, 1) := by decide +kernel
theorem dX4_admit_47 : decode cX4_admit 47 = .ok (.aload_n 0, 1) := by decide +kernel
theorem dX4_admit_48 : decode cX4_admit 48 = .ok (.getfield 70, 3) := by decide +kernel
theorem dX4_admit_51 : decode cX4_admit 51 = .ok (.putfield 136, 3) := by decide +kernel
theorem dX4_admit_54 : decode cX4_admit 54 = .ok (.return_, 1) := by decide +kernel
set_option maxRecDepth 20000 in
theorem ggX4_show_X4_itemAt : GoodIn wsX4_show wsX4_itemAt := goodIn_r _ [11, 12, 51, 52, 53, 54, 55, 56, 57, 58, 59, 60, 61, 62, 63] (by decide +kernel) (by decide +kernel)
set_option maxRecDepth 20000 in
theorem gX4_show_X4_itemAt : GoodIn wsX4_show (wsV RX4 127 RX4 yX4_itemAt wsX4_itemAt) := goodIn_app (goodIn_of _ (by decide +kernel)) ggX4_show_X4_itemAt
set_option maxRecDepth 20000 in
theorem ggX4_show_X4_isWithin : GoodIn wsX4_show wsX4_isWithin := goodIn_r _ [15] (by decide +kernel) (by decide +kernel)
set_option maxRecDepth 20000 in
theorem gX4_show_X4_isWithin : GoodIn wsX4_show (va_wsS RX4 27 yX4_isWithin wsX4_isWithin) := goodIn_app (goodIn_of _ (by decide +kernel)) ggX4_show_X4_isWithin
set_option maxRecDepth 20000 in
theorem ggX4_show_X2_isAgainst : GoodIn wsX4_show wsX2_isAgainst := goodIn_r _ [20, 21, 22, 10, 23, 41, 42, 43, 44, 45, 46, 47, 48, 49, 50] (by decide +kernel) (by decide +kernel)
set_option maxRecDepth 20000 in
theorem gX4_show_X2_isAgainst : GoodIn wsX4_show (wsV RX4 143 RX2 yX2_isAgainst wsX2_isAgainst) := goodIn_app (goodIn_of _ (by decide +kernel)) ggX4_show_X2_isAgainst
set_option maxRecDepth 20000 in
theorem ggX4_show_X2_wasShownTo : GoodIn wsX4_show wsX2_wasShownTo := goodIn_r _ [27, 28, 22, 10, 23, 41, 42, 43, 44, 45, 46, 47, 48, 49, 50] (by decide +kernel) (by decide +kernel)
set_option maxRecDepth 20000 in
theorem gX4_show_X2_wasShownTo : GoodIn wsX4_show (wsV RX4 146 RX2 yX2_wasShownTo wsX2_wasShownTo) := goodIn_app (goodIn_of _ (by decide +kernel)) ggX4_show_X2_wasShownTo
set_option maxRecDepth 20000 in
theorem ggX4_show_X4_lackedBy : GoodIn wsX4_show wsX4_lackedBy := goodIn_r _ [32, 12, 6, 33, 34, 35, 19, 36, 37, 38, 39, 17, 18, 20, 21, 22, 10, 23, 40, 25, 26, 27, 28, 51, 52, 53, 54, 55, 56, 57, 58, 59, 60, 61, 62, 63, 41, 42, 43, 44, 45, 46, 47, 48, 49, 50] (by decide +kernel) (by decide +kernel)
set_option maxRecDepth 20000 in
theorem gX4_show_X4_lackedBy : GoodIn wsX4_show (wsV RX4 157 RX4 yX4_lackedBy wsX4_lackedBy) := goodIn_app (goodIn_of _ (by decide +kernel)) ggX4_show_X4_lackedBy
theorem dX4_show_0 : decode cX4_show 0 = .ok (.aload_n 0, 1) := by decide +kernel
theorem dX4_show_1 : decode cX4_show 1 = .ok (.iload_n 1, 1) := by decide +kernel
theorem dX4_show_2 : decode cX4_show 2 = .ok (.invokevirtual 127, 3) := by decide +kernel
theorem dX4_show_5 : decode cX4_show 5 = .ok (.astore_n 3, 1) := by decide +kernel
theorem dX4_show_6 : decode cX4_show 6 = .ok (.aload_n 3, 1) := by decide +kernel
theorem dX4_show_7 : decode cX4_show 7 = .ok (.ifnull 13, 3) := by decide +kernel
theorem dX4_show_10 : decode cX4_show 10 = .ok (.iload_n 2, 1) := by decide +kernel
theorem dX4_show_11 : decode cX4_show 11 = .ok (.iconst 0, 1) := by decide +kernel
theorem dX4_show_12 : decode cX4_show 12 = .ok (.bipush 7, 2) := by decide +kernel
theorem dX4_show_14 : decode cX4_show 14 = .ok (.invokestatic 27, 3) := by decide +kernel
theorem dX4_show_17 : decode cX4_show 17 = .ok (.ifCond .ne 13, 3) := by decide +kernel
theorem dX4_show_20 : decode cX4_show 20 = .ok (.new 54, 3) := by decide +kernel
theorem dX4_show_23 : decode cX4_show 23 = .ok (.dup, 1) := by decide +kernel
theorem dX4_show_24 : decode cX4_show 24 = .ok (.ldc 141, 2) := by decide +kernel
theorem dX4_show_26 : decode cX4_show 26 = .ok (.invokespecial 58, 3) := by decide +kernel
theorem dX4_show_29 : decode cX4_show 29 = .ok (.athrow, 1) := by decide +kernel
theorem dX4_show_30 : decode cX4_show 30 = .ok (.aload_n 3, 1) := by decide +kernel
theorem dX4_show_31 : decode cX4_show 31 = .ok (.iload_n 2, 1) := by decide +kernel
theorem dX4_show_32 : decode cX4_show 32 = .ok (.invokevirtual 143, 3) := by decide +kernel
theorem dX4_show_35 : decode cX4_show 35 = .ok (.ifCond .eq 11, 3) := by decide +kernel
theorem dX4_show_38 : decode cX4_show 38 = .ok (.aload_n 3, 1) := by decide +kernel
theorem dX4_show_39 : decode cX4_show 39 = .ok (.iload_n 2, 1) := by decide +kernel
theorem dX4_show_40 : decode cX4_show 40 = .ok (.invokevirtual 146, 3) := by decide +kernel
theorem dX4_show_43 : decode cX4_show 43 = .ok (.ifCond .eq 13, 3) := by decide +kernel
theorem dX4_show_46 : decode cX4_show 46 = .ok (.new 42, 3) := by decide +kernel
theorem dX4_show_49 : decode cX4_show 49 = .ok (.dup, 1) := by decide +kernel
theorem dX4_show_50 : decode cX4_show 50 = .ok (.ldc 149, 2) := by decide +kernel
theorem dX4_show_52 : decode cX4_show 52 = .ok (.invokespecial 46, 3) := by decide +kernel
theorem dX4_show_55 : decode cX4_show 55 = .ok (.athrow, 1) := by decide +kernel
theorem dX4_show_56 : decode cX4_show 56 = .ok (.aload_n 3, 1) := by decide +kernel
theorem dX4_show_57 : decode cX4_show 57 = .ok (.dup, 1) := by decide +kernel
theorem dX4_show_58 : decode cX4_show 58 = .ok (.getfield 151, 3) := by decide +kernel
theorem dX4_show_61 : decode cX4_show 61 = .ok (.iconst 1, 1) := by decide +kernel
theorem dX4_show_62 : decode cX4_show 62 = .ok (.iload_n 2, 1) := by decide +kernel
theorem dX4_show_63 : decode cX4_show 63 = .ok (.ishl, 1) := by decide +kernel
theorem dX4_show_64 : decode cX4_show 64 = .ok (.ior, 1) := by decide +kernel
theorem dX4_show_65 : decode cX4_show 65 = .ok (.putfield 151, 3) := by decide +kernel
theorem dX4_show_68 : decode cX4_show 68 = .ok (.aload_n 0, 1) := by decide +kernel
theorem dX4_show_69 : decode cX4_show 69 = .ok (.aload_n 3, 1) := by decide +kernel
theorem dX4_show_70 : decode cX4_show 70 = .ok (.getfield 154, 3) := by decide +kernel
theorem dX4_show_73 : decode cX4_show 73 = .ok (.iload_n 2, 1) := by decide +kernel
theorem dX4_show_74 : decode cX4_show 74 = .ok (.invokevirtual 157, 3) := by decide +kernel
theorem dX4_show_77 : decode cX4_show 77 = .ok (.ireturn, 1) := by decide +kernel
set_option maxRecDepth 20000 in
theorem ggX4_withhold_X4_itemAt : GoodIn wsX4_withhold wsX4_itemAt := goodIn_r _ [11, 12, 23, 24, 25, 26, 27, 28, 29, 30, 31, 32, 33, 34, 35] (by decide +kernel) (by decide +kernel)
set_option maxRecDepth 20000 in
theorem gX4_withhold_X4_itemAt : GoodIn wsX4_withhold (wsV RX4 127 RX4 yX4_itemAt wsX4_itemAt) := goodIn_app (goodIn_of _ (by decide +kernel)) ggX4_withhold_X4_itemAt
theorem dX4_withhold_0 : decode cX4_withhold 0 = .ok (.aload_n 0, 1) := by decide +kernel
theorem dX4_withhold_1 : decode cX4_withhold 1 = .ok (.iload_n 1, 1) := by decide +kernel
theorem dX4_withhold_2 : decode cX4_withhold 2 = .ok (.invokevirtual 127, 3) := by decide +kernel
theorem dX4_withhold_5 : decode cX4_withhold 5 = .ok (.astore_n 2, 1) := by decide +kernel
theorem dX4_withhold_6 : decode cX4_withhold 6 = .ok (.aload_n 2, 1) := by decide +kernel
theorem dX4_withhold_7 : decode cX4_withhold 7 = .ok (.ifnonnull 13, 3) := by decide +kernel
theorem dX4_withhold_10 : decode cX4_withhold 10 = .ok (.new 54, 3) := by decide +kernel
theorem dX4_withhold_13 : decode cX4_withhold 13 = .ok (.dup, 1) := by decide +kernel
theorem dX4_withhold_14 : decode cX4_withhold 14 = .ok (.ldc 131, 2) := by decide +kernel
theorem dX4_withhold_16 : decode cX4_withhold 16 = .ok (.invokespecial 58, 3) := by decide +kernel
theorem dX4_withhold_19 : decode cX4_withhold 19 = .ok (.athrow, 1) := by decide +kernel
theorem dX4_withhold_20 : decode cX4_withhold 20 = .ok (.aload_n 2, 1) := by decide +kernel
theorem dX4_withhold_21 : decode cX4_withhold 21 = .ok (.getfield 161, 3) := by decide +kernel
theorem dX4_withhold_24 : decode cX4_withhold 24 = .ok (.ifCond .eq 10, 3) := by decide +kernel
theorem dX4_withhold_27 : decode cX4_withhold 27 = .ok (.aload_n 2, 1) := by decide +kernel
theorem dX4_withhold_28 : decode cX4_withhold 28 = .ok (.getfield 165, 3) := by decide +kernel
theorem dX4_withhold_31 : decode cX4_withhold 31 = .ok (.ifCond .eq 13, 3) := by decide +kernel
theorem dX4_withhold_34 : decode cX4_withhold 34 = .ok (.new 42, 3) := by decide +kernel
theorem dX4_withhold_37 : decode cX4_withhold 37 = .ok (.dup, 1) := by decide +kernel
theorem dX4_withhold_38 : decode cX4_withhold 38 = .ok (.ldc 168, 2) := by decide +kernel
theorem dX4_withhold_40 : decode cX4_withhold 40 = .ok (.invokespecial 46, 3) := by decide +kernel
theorem dX4_withhold_43 : decode cX4_withhold 43 = .ok (.athrow, 1) := by decide +kernel
theorem dX4_withhold_44 : decode cX4_withhold 44 = .ok (.aload_n 2, 1) := by decide +kernel
theorem dX4_withhold_45 : decode cX4_withhold 45 = .ok (.iconst 1, 1) := by decide +kernel
theorem dX4_withhold_46 : decode cX4_withhold 46 = .ok (.putfield 165, 3) := by decide +kernel
theorem dX4_withhold_49 : decode cX4_withhold 49 = .ok (.return_, 1) := by decide +kernel
set_option maxRecDepth 20000 in
theorem ggX4_charge_X4_accusedAt : GoodIn wsX4_charge wsX4_accusedAt := goodIn_ca (goodIn_r _ [11, 12, 13, 14, 15, 16, 10, 17, 18, 19, 20, 21, 22, 23, 24, 139, 140, 141, 142, 143, 144, 145, 146, 147, 148, 149, 150, 151, 152, 153, 154, 155, 156] (by decide +kernel) (by decide +kernel)) (goodIn_sub (fun _ h => List.mem_cons_of_mem _ (List.mem_append_left _ (List.mem_append_right _ h))) (by decide +kernel))
set_option maxRecDepth 20000 in
theorem gX4_charge_X4_accusedAt : GoodIn wsX4_charge (wsV RX4 170 RX4 yX4_accusedAt wsX4_accusedAt) := goodIn_app (goodIn_of _ (by decide +kernel)) ggX4_charge_X4_accusedAt
set_option maxRecDepth 20000 in
theorem ggX4_charge_X4_checkToldOffences : GoodIn wsX4_charge wsX4_checkToldOffences := goodIn_ca (goodIn_r _ [28, 29, 30, 31, 139, 140, 141, 142, 143, 144, 145, 146, 147, 148, 149, 150, 151] (by decide +kernel) (by decide +kernel)) (goodIn_sub (fun _ h => List.mem_cons_of_mem _ (List.mem_append_right _ h)) (by decide +kernel))
set_option maxRecDepth 20000 in
theorem gX4_charge_X4_checkToldOffences : GoodIn wsX4_charge (wsV RX4 174 RX4 yX4_checkToldOffences wsX4_checkToldOffences) := goodIn_app (goodIn_of _ (by decide +kernel)) ggX4_charge_X4_checkToldOffences
set_option maxRecDepth 20000 in
theorem ggX4_charge_X4_chargeable : GoodIn wsX4_charge wsX4_chargeable := goodIn_r _ [35, 36, 37, 38, 39, 10, 40, 41, 42, 43, 44, 45, 46, 47, 48, 49, 50, 51, 52, 53, 54, 55, 56, 57, 58, 59, 60, 61, 62, 63, 64, 65, 66, 67, 68, 69, 70, 71, 72, 73, 74, 75, 76, 77, 78, 79, 80, 81, 82, 83, 84, 85, 86, 87, 88, 89, 90, 91, 92, 93, 94, 95, 96, 139, 140, 141, 142, 143, 144, 145, 146, 147, 148, 149, 150, 151, 125, 126, 127, 128, 129, 130, 131, 132, 133, 134, 135, 136, 137, 138, 152, 153, 154, 155, 156, 157, 158, 159, 160, 161, 162, 163, 164, 165, 166, 167, 168, 169, 170] (by decide +kernel) (by decide +kernel)
set_option maxRecDepth 20000 in
theorem gX4_charge_X4_chargeable : GoodIn wsX4_charge (wsV RX4 181 RX4 yX4_chargeable wsX4_chargeable) := goodIn_app (goodIn_of _ (by decide +kernel)) ggX4_charge_X4_chargeable
set_option maxRecDepth 20000 in
theorem ggX4_charge_X4_isRight : GoodIn wsX4_charge wsX4_isRight := goodIn_r _ [100, 36, 101, 102, 103, 104, 105, 106, 107, 71, 72, 10, 73, 108, 109, 110, 111, 112, 113, 114, 115, 116, 117, 118, 53, 119, 120, 50, 51, 52, 54, 55, 56, 57, 58, 59, 139, 140, 141, 142, 143, 144, 145, 146, 147, 148, 149, 150, 151, 157, 158, 159, 160] (by decide +kernel) (by decide +kernel)
set_option maxRecDepth 20000 in
theorem gX4_charge_X4_isRight : GoodIn wsX4_charge (wsV RX4 185 RX4 yX4_isRight wsX4_isRight) := goodIn_app (goodIn_of _ (by decide +kernel)) ggX4_charge_X4_isRight
set_option maxRecDepth 20000 in
theorem ggX4_charge_X4_gravityOf : GoodIn wsX4_charge wsX4_gravityOf := goodIn_r _ [124, 36, 44, 71, 72, 10, 73, 139, 140, 141, 142, 143, 144, 145, 146, 147, 148, 149, 150, 151, 157, 158, 159, 160] (by decide +kernel) (by decide +kernel)
set_option maxRecDepth 20000 in
theorem gX4_charge_X4_gravityOf : GoodIn wsX4_charge (wsV RX4 196 RX4 yX4_gravityOf wsX4_gravityOf) := goodIn_app (goodIn_of _ (by decide +kernel)) ggX4_charge_X4_gravityOf
theorem dX4_charge_0 : decode cX4_charge 0 = .ok (.aload_n 0, 1) := by decide +kernel
theorem dX4_charge_1 : decode cX4_charge 1 = .ok (.iload_n 1, 1) := by decide +kernel
theorem dX4_charge_2 : decode cX4_charge 2 = .ok (.iload_n 2, 1) := by decide +kernel
theorem dX4_charge_3 : decode cX4_charge 3 = .ok (.invokevirtual 170, 3) := by decide +kernel
theorem dX4_charge_6 : decode cX4_charge 6 = .ok (.astore 4, 2) := by decide +kernel
theorem dX4_charge_8 : decode cX4_charge 8 = .ok (.aload_n 0, 1) := by decide +kernel
theorem dX4_charge_9 : decode cX4_charge 9 = .ok (.iload_n 3, 1) := by decide +kernel
theorem dX4_charge_10 : decode cX4_charge 10 = .ok (.invokevirtual 174, 3) := by decide +kernel
theorem dX4_charge_13 : decode cX4_charge 13 = .ok (.aload 4, 2) := by decide +kernel
theorem dX4_charge_15 : decode cX4_charge 15 = .ok (.getfield 178, 3) := by decide +kernel
theorem dX4_charge_18 : decode cX4_charge 18 = .ok (.ifCond .ne 21, 3) := by decide +kernel
theorem dX4_charge_21 : decode cX4_charge 21 = .ok (.aload_n 0, 1) := by decide +kernel
theorem dX4_charge_22 : decode cX4_charge 22 = .ok (.iload_n 3, 1) := by decide +kernel
theorem dX4_charge_23 : decode cX4_charge 23 = .ok (.aload_n 0, 1) := by decide +kernel
theorem dX4_charge_24 : decode cX4_charge 24 = .ok (.aload 4, 2) := by decide +kernel
theorem dX4_charge_26 : decode cX4_charge 26 = .ok (.aload_n 0, 1) := by decide +kernel
theorem dX4_charge_27 : decode cX4_charge 27 = .ok (.getfield 70, 3) := by decide +kernel
theorem dX4_charge_30 : decode cX4_charge 30 = .ok (.invokevirtual 181, 3) := by decide +kernel
theorem dX4_charge_33 : decode cX4_charge 33 = .ok (.invokevirtual 185, 3) := by decide +kernel
theorem dX4_charge_36 : decode cX4_charge 36 = .ok (.ifCond .ne 13, 3) := by decide +kernel
theorem dX4_charge_39 : decode cX4_charge 39 = .ok (.new 42, 3) := by decide +kernel
theorem dX4_charge_42 : decode cX4_charge 42 = .ok (.dup, 1) := by decide +kernel
theorem dX4_charge_43 : decode cX4_charge 43 = .ok (.ldc 188, 2) := by decide +kernel
theorem dX4_charge_45 : decode cX4_charge 45 = .ok (.invokespecial 46, 3) := by decide +kernel
theorem dX4_charge_48 : decode cX4_charge 48 = .ok (.athrow, 1) := by decide +kernel
theorem dX4_charge_49 : decode cX4_charge 49 = .ok (.aload 4, 2) := by decide +kernel
theorem dX4_charge_51 : decode cX4_charge 51 = .ok (.iconst 2, 1) := by decide +kernel
theorem dX4_charge_52 : decode cX4_charge 52 = .ok (.putfield 178, 3) := by decide +kernel
theorem dX4_charge_55 : decode cX4_charge 55 = .ok (.aload 4, 2) := by decide +kernel
theorem dX4_charge_57 : decode cX4_charge 57 = .ok (.iload_n 3, 1) := by decide +kernel
theorem dX4_charge_58 : decode cX4_charge 58 = .ok (.putfield 190, 3) := by decide +kernel
theorem dX4_charge_61 : decode cX4_charge 61 = .ok (.aload 4, 2) := by decide +kernel
theorem dX4_charge_63 : decode cX4_charge 63 = .ok (.aload_n 0, 1) := by decide +kernel
theorem dX4_charge_64 : decode cX4_charge 64 = .ok (.getfield 70, 3) := by decide +kernel
theorem dX4_charge_67 : decode cX4_charge 67 = .ok (.putfield 193, 3) := by decide +kernel
theorem dX4_charge_70 : decode cX4_charge 70 = .ok (.aload_n 0, 1) := by decide +kernel
theorem dX4_charge_71 : decode cX4_charge 71 = .ok (.iload_n 3, 1) := by decide +kernel
theorem dX4_charge_72 : decode cX4_charge 72 = .ok (.invokevirtual 196, 3) := by decide +kernel
theorem dX4_charge_75 : decode cX4_charge 75 = .ok (.ireturn, 1) := by decide +kernel
set_option maxRecDepth 20000 in
theorem ggX4_drop_X4_accusedAt : GoodIn wsX4_drop wsX4_accusedAt := goodIn_ca (goodIn_r _ [13, 14, 15, 16, 17, 18, 12, 19, 20, 21, 22, 23, 24, 25, 26, 41, 42, 43, 44, 45, 46, 47, 48, 49, 50, 51, 52, 53, 54, 55, 56, 57, 58] (by decide +kernel) (by decide +kernel)) (goodIn_sub (fun _ h => List.mem_cons_of_mem _ (List.mem_append_right _ h)) (by decide +kernel))
set_option maxRecDepth 20000 in
theorem gX4_drop_X4_accusedAt : GoodIn wsX4_drop (wsV RX4 170 RX4 yX4_accusedAt wsX4_accusedAt) := goodIn_app (goodIn_of _ (by decide +kernel)) ggX4_drop_X4_accusedAt
theorem dX4_drop_0 : decode cX4_drop 0 = .ok (.aload_n 0, 1) := by decide +kernel
theorem dX4_drop_1 : decode cX4_drop 1 = .ok (.iload_n 1, 1) := by decide +kernel
theorem dX4_drop_2 : decode cX4_drop 2 = .ok (.iload_n 2, 1) := by decide +kernel
theorem dX4_drop_3 : decode cX4_drop 3 = .ok (.invokevirtual 170, 3) := by decide +kernel
theorem dX4_drop_6 : decode cX4_drop 6 = .ok (.astore_n 3, 1) := by decide +kernel
theorem dX4_drop_7 : decode cX4_drop 7 = .ok (.aload_n 3, 1) := by decide +kernel
theorem dX4_drop_8 : decode cX4_drop 8 = .ok (.getfield 178, 3) := by decide +kernel
theorem dX4_drop_11 : decode cX4_drop 11 = .ok (.ifCond .eq 13, 3) := by decide +kernel
theorem dX4_drop_14 : decode cX4_drop 14 = .ok (.new 42, 3) := by decide +kernel
theorem dX4_drop_17 : decode cX4_drop 17 = .ok (.dup, 1) := by decide +kernel
theorem dX4_drop_18 : decode cX4_drop 18 = .ok (.ldc 199, 2) := by decide +kernel
theorem dX4_drop_20 : decode cX4_drop 20 = .ok (.invokespecial 46, 3) := by decide +kernel
theorem dX4_drop_23 : decode cX4_drop 23 = .ok (.athrow, 1) := by decide +kernel
theorem dX4_drop_24 : decode cX4_drop 24 = .ok (.aload_n 3, 1) := by decide +kernel
theorem dX4_drop_25 : decode cX4_drop 25 = .ok (.iconst 1, 1) := by decide +kernel
theorem dX4_drop_26 : decode cX4_drop 26 = .ok (.putfield 178, 3) := by decide +kernel
theorem dX4_drop_29 : decode cX4_drop 29 = .ok (.aload_n 3, 1) := by decide +kernel
theorem dX4_drop_30 : decode cX4_drop 30 = .ok (.aload_n 0, 1) := by decide +kernel
theorem dX4_drop_31 : decode cX4_drop 31 = .ok (.getfield 70, 3) := by decide +kernel
theorem dX4_drop_34 : decode cX4_drop 34 = .ok (.putfield 201, 3) := by decide +kernel
theorem dX4_drop_37 : decode cX4_drop 37 = .ok (.aload_n 3, 1) := by decide +kernel
theorem dX4_drop_38 : decode cX4_drop 38 = .ok (.iconst 0, 1) := by decide +kernel
theorem dX4_drop_39 : decode cX4_drop 39 = .ok (.putfield 204, 3) := by decide +kernel
theorem dX4_drop_42 : decode cX4_drop 42 = .ok (.aload_n 3, 1) := by decide +kernel
theorem dX4_drop_43 : decode cX4_drop 43 = .ok (.iconst 0, 1) := by decide +kernel
theorem dX4_drop_44 : decode cX4_drop 44 = .ok (.putfield 207, 3) := by decide +kernel
theorem dX4_drop_47 : decode cX4_drop 47 = .ok (.aload_n 0, 1) := by decide +kernel
theorem dX4_drop_48 : decode cX4_drop 48 = .ok (.dup, 1) := by decide +kernel
theorem dX4_drop_49 : decode cX4_drop 49 = .ok (.getfield 210, 3) := by decide +kernel
theorem dX4_drop_52 : decode cX4_drop 52 = .ok (.iconst 1, 1) := by decide +kernel
theorem dX4_drop_53 : decode cX4_drop 53 = .ok (.iadd, 1) := by decide +kernel
theorem dX4_drop_54 : decode cX4_drop 54 = .ok (.putfield 210, 3) := by decide +kernel
theorem dX4_drop_57 : decode cX4_drop 57 = .ok (.return_, 1) := by decide +kernel
set_option maxRecDepth 20000 in
theorem ggX4_review_X4_accusedAt : GoodIn wsX4_review wsX4_accusedAt := goodIn_ca (goodIn_r _ [12, 13, 14, 15, 16, 17, 11, 18, 19, 20, 21, 22, 23, 24, 25, 105, 106, 107, 108, 109, 110, 111, 112, 113, 114, 115, 116, 117, 118, 119, 120, 121, 122] (by decide +kernel) (by decide +kernel)) (goodIn_sub (fun _ h => List.mem_cons_of_mem _ (List.mem_append_right _ h)) (by decide +kernel))
set_option maxRecDepth 20000 in
theorem gX4_review_X4_accusedAt : GoodIn wsX4_review (wsV RX4 170 RX4 yX4_accusedAt wsX4_accusedAt) := goodIn_app (goodIn_of _ (by decide +kernel)) ggX4_review_X4_accusedAt
set_option maxRecDepth 20000 in
theorem ggX4_review_X4_chargeable : GoodIn wsX4_review wsX4_chargeable := goodIn_r _ [29, 30, 31, 32, 33, 11, 34, 35, 36, 37, 38, 39, 40, 41, 42, 43, 44, 45, 46, 47, 48, 49, 50, 51, 52, 53, 54, 55, 56, 57, 58, 59, 60, 61, 62, 63, 64, 65, 66, 67, 68, 69, 70, 71, 72, 73, 74, 75, 76, 77, 78, 79, 80, 81, 82, 83, 84, 85, 86, 87, 88, 89, 90, 105, 106, 107, 108, 109, 110, 111, 112, 113, 114, 115, 116, 117, 91, 92, 93, 94, 95, 96, 97, 98, 99, 100, 101, 102, 103, 104, 118, 119, 120, 121, 122, 123, 124, 125, 126, 127, 128, 129, 130, 131, 132, 133, 134, 135, 136] (by decide +kernel) (by decide +kernel)
set_option maxRecDepth 20000 in
theorem gX4_review_X4_chargeable : GoodIn wsX4_review (wsV RX4 181 RX4 yX4_chargeable wsX4_chargeable) := goodIn_app (goodIn_of _ (by decide +kernel)) ggX4_review_X4_chargeable
theorem dX4_review_0 : decode cX4_review 0 = .ok (.aload_n 0, 1) := by decide +kernel
theorem dX4_review_1 : decode cX4_review 1 = .ok (.iload_n 1, 1) := by decide +kernel
theorem dX4_review_2 : decode cX4_review 2 = .ok (.iload_n 2, 1) := by decide +kernel
theorem dX4_review_3 : decode cX4_review 3 = .ok (.invokevirtual 170, 3) := by decide +kernel
theorem dX4_review_6 : decode cX4_review 6 = .ok (.astore_n 3, 1) := by decide +kernel
theorem dX4_review_7 : decode cX4_review 7 = .ok (.aload_n 3, 1) := by decide +kernel
theorem dX4_review_8 : decode cX4_review 8 = .ok (.getfield 178, 3) := by decide +kernel
theorem dX4_review_11 : decode cX4_review 11 = .ok (.iconst 1, 1) := by decide +kernel
theorem dX4_review_12 : decode cX4_review 12 = .ok (.if_icmp .ne 24, 3) := by decide +kernel
theorem dX4_review_15 : decode cX4_review 15 = .ok (.aload_n 0, 1) := by decide +kernel
theorem dX4_review_16 : decode cX4_review 16 = .ok (.getfield 70, 3) := by decide +kernel
theorem dX4_review_19 : decode cX4_review 19 = .ok (.aload_n 3, 1) := by decide +kernel
theorem dX4_review_20 : decode cX4_review 20 = .ok (.getfield 201, 3) := by decide +kernel
theorem dX4_review_23 : decode cX4_review 23 = .ok (.isub, 1) := by decide +kernel
theorem dX4_review_24 : decode cX4_review 24 = .ok (.bipush 30, 2) := by decide +kernel
theorem dX4_review_26 : decode cX4_review 26 = .ok (.if_icmp .gt 10, 3) := by decide +kernel
theorem dX4_review_29 : decode cX4_review 29 = .ok (.aload_n 3, 1) := by decide +kernel
theorem dX4_review_30 : decode cX4_review 30 = .ok (.getfield 204, 3) := by decide +kernel
theorem dX4_review_33 : decode cX4_review 33 = .ok (.ifCond .eq 13, 3) := by decide +kernel
theorem dX4_review_36 : decode cX4_review 36 = .ok (.new 42, 3) := by decide +kernel
theorem dX4_review_39 : decode cX4_review 39 = .ok (.dup, 1) := by decide +kernel
theorem dX4_review_40 : decode cX4_review 40 = .ok (.ldc 213, 2) := by decide +kernel
theorem dX4_review_42 : decode cX4_review 42 = .ok (.invokespecial 46, 3) := by decide +kernel
theorem dX4_review_45 : decode cX4_review 45 = .ok (.athrow, 1) := by decide +kernel
theorem dX4_review_46 : decode cX4_review 46 = .ok (.aload_n 3, 1) := by decide +kernel
theorem dX4_review_47 : decode cX4_review 47 = .ok (.iconst 1, 1) := by decide +kernel
theorem dX4_review_48 : decode cX4_review 48 = .ok (.putfield 204, 3) := by decide +kernel
theorem dX4_review_51 : decode cX4_review 51 = .ok (.aload_n 0, 1) := by decide +kernel
theorem dX4_review_52 : decode cX4_review 52 = .ok (.aload_n 3, 1) := by decide +kernel
theorem dX4_review_53 : decode cX4_review 53 = .ok (.aload_n 3, 1) := by decide +kernel
theorem dX4_review_54 : decode cX4_review 54 = .ok (.getfield 201, 3) := by decide +kernel
theorem dX4_review_57 : decode cX4_review 57 = .ok (.invokevirtual 181, 3) := by decide +kernel
theorem dX4_review_60 : decode cX4_review 60 = .ok (.ifCond .ne 5, 3) := by decide +kernel
theorem dX4_review_63 : decode cX4_review 63 = .ok (.iconst 0, 1) := by decide +kernel
theorem dX4_review_64 : decode cX4_review 64 = .ok (.ireturn, 1) := by decide +kernel
theorem dX4_review_65 : decode cX4_review 65 = .ok (.aload_n 3, 1) := by decide +kernel
theorem dX4_review_66 : decode cX4_review 66 = .ok (.iconst 0, 1) := by decide +kernel
theorem dX4_review_67 : decode cX4_review 67 = .ok (.putfield 178, 3) := by decide +kernel
theorem dX4_review_70 : decode cX4_review 70 = .ok (.aload_n 0, 1) := by decide +kernel
theorem dX4_review_71 : decode cX4_review 71 = .ok (.dup, 1) := by decide +kernel
theorem dX4_review_72 : decode cX4_review 72 = .ok (.getfield 215, 3) := by decide +kernel
theorem dX4_review_75 : decode cX4_review 75 = .ok (.iconst 1, 1) := by decide +kernel
theorem dX4_review_76 : decode cX4_review 76 = .ok (.iadd, 1) := by decide +kernel
theorem dX4_review_77 : decode cX4_review 77 = .ok (.putfield 215, 3) := by decide +kernel
theorem dX4_review_80 : decode cX4_review 80 = .ok (.iconst 1, 1) := by decide +kernel
theorem dX4_review_81 : decode cX4_review 81 = .ok (.ireturn, 1) := by decide +kernel
set_option maxRecDepth 20000 in
theorem ggX4_trial_X4_accusedAt : GoodIn wsX4_trial wsX4_accusedAt := goodIn_ca (goodIn_r _ [12, 13, 14, 15, 16, 17, 11, 18, 19, 20, 21, 22, 23, 24, 25, 111, 112, 113, 114, 115, 116, 117, 118, 119, 120, 121, 122, 123, 124, 125, 126, 127, 128] (by decide +kernel) (by decide +kernel)) (goodIn_sub (fun _ h => List.mem_cons_of_mem _ (List.mem_append_right _ h)) (by decide +kernel))
set_option maxRecDepth 20000 in
theorem gX4_trial_X4_accusedAt : GoodIn wsX4_trial (wsV RX4 170 RX4 yX4_accusedAt wsX4_accusedAt) := goodIn_app (goodIn_of _ (by decide +kernel)) ggX4_trial_X4_accusedAt
set_option maxRecDepth 20000 in
theorem ggX4_trial_X4_lackedBy : GoodIn wsX4_trial wsX4_lackedBy := goodIn_r _ [29, 30, 31, 32, 33, 34, 35, 36, 37, 38, 39, 40, 41, 42, 43, 44, 11, 45, 46, 47, 48, 49, 50, 111, 112, 113, 114, 115, 116, 117, 118, 119, 120, 121, 122, 123, 129, 130, 131, 132, 133, 134, 135, 136, 137, 138] (by decide +kernel) (by decide +kernel)
set_option maxRecDepth 20000 in
theorem gX4_trial_X4_lackedBy : GoodIn wsX4_trial (wsV RX4 157 RX4 yX4_lackedBy wsX4_lackedBy) := goodIn_app (goodIn_of _ (by decide +kernel)) ggX4_trial_X4_lackedBy
set_option maxRecDepth 20000 in
theorem ggX4_trial_X4_provenCharges : GoodIn wsX4_trial wsX4_provenCharges := goodIn_r _ [54, 55, 6, 7, 56, 44, 11, 45, 57, 58, 59, 60, 61, 62, 63, 64, 65, 30, 31, 66, 67, 68, 69, 70, 71, 40, 41, 35, 42, 43, 72, 73, 74, 75, 76, 77, 78, 111, 112, 113, 114, 115, 116, 117, 118, 119, 120, 121, 122, 123, 97, 98, 99, 100, 101, 102, 103, 104, 105, 106, 107, 108, 109, 110, 139, 140, 141, 142, 129, 130, 131, 132, 133, 134, 135, 136, 137, 138, 124, 125, 126, 127, 128] (by decide +kernel) (by decide +kernel)
set_option maxRecDepth 20000 in
theorem gX4_trial_X4_provenCharges : GoodIn wsX4_trial (wsV RX4 220 RX4 yX4_provenCharges wsX4_provenCharges) := goodIn_app (goodIn_of _ (by decide +kernel)) ggX4_trial_X4_provenCharges
set_option maxRecDepth 20000 in
theorem ggX4_trial_J6_bitCount_0f7a4 : GoodIn wsX4_trial wsJ6_bitCount_0f7a4 := goodIn_r _ [82, 83, 84, 85] (by decide +kernel) (by decide +kernel)
set_option maxRecDepth 20000 in
theorem gX4_trial_J6_bitCount_0f7a4 : GoodIn wsX4_trial (va_wsS RX4 227 yJ6_bitCount_0f7a4 wsJ6_bitCount_0f7a4) := goodIn_app (goodIn_of _ (by decide +kernel)) ggX4_trial_J6_bitCount_0f7a4
set_option maxRecDepth 20000 in
theorem ggX4_trial_X0_answerCharges : GoodIn wsX4_trial wsX0_answerCharges := goodIn_r _ [90, 91, 92, 93, 94, 95, 96, 44, 11, 45, 97, 98, 99, 100, 101, 102, 103, 104, 105, 106, 107, 108, 109, 110] (by decide +kernel) (by decide +kernel)
set_option maxRecDepth 20000 in
theorem gX4_trial_X0_answerCharges : GoodIn wsX4_trial (wsV RX4 235 RX0 yX0_answerCharges wsX0_answerCharges) := goodIn_app (goodIn_of _ (by decide +kernel)) ggX4_trial_X0_answerCharges
theorem dX4_trial_0 : decode cX4_trial 0 = .ok (.aload_n 0, 1) := by decide +kernel
theorem dX4_trial_1 : decode cX4_trial 1 = .ok (.iload_n 1, 1) := by decide +kernel
theorem dX4_trial_2 : decode cX4_trial 2 = .ok (.iload_n 2, 1) := by decide +kernel
theorem dX4_trial_3 : decode cX4_trial 3 = .ok (.invokevirtual 170, 3) := by decide +kernel
theorem dX4_trial_6 : decode cX4_trial 6 = .ok (.astore_n 3, 1) := by decide +kernel
theorem dX4_trial_7 : decode cX4_trial 7 = .ok (.aload_n 3, 1) := by decide +kernel
theorem dX4_trial_8 : decode cX4_trial 8 = .ok (.getfield 178, 3) := by decide +kernel
theorem dX4_trial_11 : decode cX4_trial 11 = .ok (.iconst 2, 1) := by decide +kernel
theorem dX4_trial_12 : decode cX4_trial 12 = .ok (.if_icmp .ne 12, 3) := by decide +kernel
theorem dX4_trial_15 : decode cX4_trial 15 = .ok (.aload_n 0, 1) := by decide +kernel
theorem dX4_trial_16 : decode cX4_trial 16 = .ok (.iload_n 1, 1) := by decide +kernel
theorem dX4_trial_17 : decode cX4_trial 17 = .ok (.iload_n 2, 1) := by decide +kernel
theorem dX4_trial_18 : decode cX4_trial 18 = .ok (.invokevirtual 157, 3) := by decide +kernel
theorem dX4_trial_21 : decode cX4_trial 21 = .ok (.ifCond .le 13, 3) := by decide +kernel
theorem dX4_trial_24 : decode cX4_trial 24 = .ok (.new 42, 3) := by decide +kernel
theorem dX4_trial_27 : decode cX4_trial 27 = .ok (.dup, 1) := by decide +kernel
theorem dX4_trial_28 : decode cX4_trial 28 = .ok (.ldc 218, 2) := by decide +kernel
theorem dX4_trial_30 : decode cX4_trial 30 = .ok (.invokespecial 46, 3) := by decide +kernel
theorem dX4_trial_33 : decode cX4_trial 33 = .ok (.athrow, 1) := by decide +kernel
theorem dX4_trial_34 : decode cX4_trial 34 = .ok (.aload_n 0, 1) := by decide +kernel
theorem dX4_trial_35 : decode cX4_trial 35 = .ok (.aload_n 3, 1) := by decide +kernel
theorem dX4_trial_36 : decode cX4_trial 36 = .ok (.invokevirtual 220, 3) := by decide +kernel
theorem dX4_trial_39 : decode cX4_trial 39 = .ok (.istore 4, 2) := by decide +kernel
theorem dX4_trial_41 : decode cX4_trial 41 = .ok (.aload_n 0, 1) := by decide +kernel
theorem dX4_trial_42 : decode cX4_trial 42 = .ok (.dup, 1) := by decide +kernel
theorem dX4_trial_43 : decode cX4_trial 43 = .ok (.getfield 224, 3) := by decide +kernel
theorem dX4_trial_46 : decode cX4_trial 46 = .ok (.iload 4, 2) := by decide +kernel
theorem dX4_trial_48 : decode cX4_trial 48 = .ok (.invokestatic 227, 3) := by decide +kernel
theorem dX4_trial_51 : decode cX4_trial 51 = .ok (.iadd, 1) := by decide +kernel
theorem dX4_trial_52 : decode cX4_trial 52 = .ok (.putfield 224, 3) := by decide +kernel
theorem dX4_trial_55 : decode cX4_trial 55 = .ok (.aload_n 0, 1) := by decide +kernel
theorem dX4_trial_56 : decode cX4_trial 56 = .ok (.dup, 1) := by decide +kernel
theorem dX4_trial_57 : decode cX4_trial 57 = .ok (.getfield 232, 3) := by decide +kernel
theorem dX4_trial_60 : decode cX4_trial 60 = .ok (.aload_n 3, 1) := by decide +kernel
theorem dX4_trial_61 : decode cX4_trial 61 = .ok (.getfield 190, 3) := by decide +kernel
theorem dX4_trial_64 : decode cX4_trial 64 = .ok (.iload 4, 2) := by decide +kernel
theorem dX4_trial_66 : decode cX4_trial 66 = .ok (.iconst (-1), 1) := by decide +kernel
theorem dX4_trial_67 : decode cX4_trial 67 = .ok (.ixor, 1) := by decide +kernel
theorem dX4_trial_68 : decode cX4_trial 68 = .ok (.iand, 1) := by decide +kernel
theorem dX4_trial_69 : decode cX4_trial 69 = .ok (.invokestatic 227, 3) := by decide +kernel
theorem dX4_trial_72 : decode cX4_trial 72 = .ok (.iadd, 1) := by decide +kernel
theorem dX4_trial_73 : decode cX4_trial 73 = .ok (.putfield 232, 3) := by decide +kernel
theorem dX4_trial_76 : decode cX4_trial 76 = .ok (.aload_n 3, 1) := by decide +kernel
theorem dX4_trial_77 : decode cX4_trial 77 = .ok (.iload 4, 2) := by decide +kernel
theorem dX4_trial_79 : decode cX4_trial 79 = .ok (.aload_n 0, 1) := by decide +kernel
theorem dX4_trial_80 : decode cX4_trial 80 = .ok (.getfield 70, 3) := by decide +kernel
theorem dX4_trial_83 : decode cX4_trial 83 = .ok (.invokevirtual 235, 3) := by decide +kernel
theorem dX4_trial_86 : decode cX4_trial 86 = .ok (.iload 4, 2) := by decide +kernel
theorem dX4_trial_88 : decode cX4_trial 88 = .ok (.ireturn, 1) := by decide +kernel
set_option maxRecDepth 20000 in
theorem ggX4_plea_X4_accusedAt : GoodIn wsX4_plea wsX4_accusedAt := goodIn_ca (goodIn_r _ [14, 15, 16, 17, 18, 19, 13, 20, 21, 22, 23, 24, 25, 26, 27, 79, 80, 81, 82, 83, 84, 85, 86, 87, 88, 89, 90, 91, 92, 93, 94, 95, 96] (by decide +kernel) (by decide +kernel)) (goodIn_sub (fun _ h => List.mem_cons_of_mem _ (List.mem_append_left _ (List.mem_append_right _ h))) (by decide +kernel))
set_option maxRecDepth 20000 in
theorem gX4_plea_X4_accusedAt : GoodIn wsX4_plea (wsV RX4 170 RX4 yX4_accusedAt wsX4_accusedAt) := goodIn_app (goodIn_of _ (by decide +kernel)) ggX4_plea_X4_accusedAt
set_option maxRecDepth 20000 in
theorem ggX4_plea_X4_checkToldOffences : GoodIn wsX4_plea wsX4_checkToldOffences := goodIn_ca (goodIn_r _ [31, 32, 33, 34, 79, 80, 81, 82, 83, 84, 85, 86, 87, 88, 89, 90, 91] (by decide +kernel) (by decide +kernel)) (goodIn_sub (fun _ h => List.mem_cons_of_mem _ (List.mem_append_right _ h)) (by decide +kernel))
set_option maxRecDepth 20000 in
theorem gX4_plea_X4_checkToldOffences : GoodIn wsX4_plea (wsV RX4 174 RX4 yX4_checkToldOffences wsX4_checkToldOffences) := goodIn_app (goodIn_of _ (by decide +kernel)) ggX4_plea_X4_checkToldOffences
set_option maxRecDepth 20000 in
theorem ggX4_plea_X4_gravityOf : GoodIn wsX4_plea wsX4_gravityOf := goodIn_r _ [38, 39, 40, 41, 42, 13, 43, 79, 80, 81, 82, 83, 84, 85, 86, 87, 88, 89, 90, 91, 97, 98, 99, 100] (by decide +kernel) (by decide +kernel)
set_option maxRecDepth 20000 in
theorem gX4_plea_X4_gravityOf : GoodIn wsX4_plea (wsV RX4 196 RX4 yX4_gravityOf wsX4_gravityOf) := goodIn_app (goodIn_of _ (by decide +kernel)) ggX4_plea_X4_gravityOf
set_option maxRecDepth 20000 in
theorem ggX4_plea_X4_discountAfter : GoodIn wsX4_plea wsX4_discountAfter := goodIn_r _ [46] (by decide +kernel) (by decide +kernel)
set_option maxRecDepth 20000 in
theorem gX4_plea_X4_discountAfter : GoodIn wsX4_plea (va_wsS RX4 243 yX4_discountAfter wsX4_discountAfter) := goodIn_app (goodIn_of _ (by decide +kernel)) ggX4_plea_X4_discountAfter
set_option maxRecDepth 20000 in
theorem ggX4_plea_J6_bitCount_0f7a4 : GoodIn wsX4_plea wsJ6_bitCount_0f7a4 := goodIn_r _ [50, 51, 52, 53] (by decide +kernel) (by decide +kernel)
set_option maxRecDepth 20000 in
theorem gX4_plea_J6_bitCount_0f7a4 : GoodIn wsX4_plea (va_wsS RX4 227 yJ6_bitCount_0f7a4 wsJ6_bitCount_0f7a4) := goodIn_app (goodIn_of _ (by decide +kernel)) ggX4_plea_J6_bitCount_0f7a4
set_option maxRecDepth 20000 in
theorem ggX4_plea_X0_answerCharges : GoodIn wsX4_plea wsX0_answerCharges := goodIn_r _ [58, 59, 60, 61, 62, 63, 64, 42, 13, 43, 65, 66, 67, 68, 69, 70, 71, 72, 73, 74, 75, 76, 77, 78] (by decide +kernel) (by decide +kernel)
set_option maxRecDepth 20000 in
theorem gX4_plea_X0_answerCharges : GoodIn wsX4_plea (wsV RX4 235 RX0 yX0_answerCharges wsX0_answerCharges) := goodIn_app (goodIn_of _ (by decide +kernel)) ggX4_plea_X0_answerCharges
