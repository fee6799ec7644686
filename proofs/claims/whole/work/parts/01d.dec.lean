theorem dX3_init_0 : decode cX3_init 0 = .ok (.aload_n 0, 1) := by decide +kernel
theorem dX3_init_1 : decode cX3_init 1 = .ok (.invokespecial 1, 3) := by decide +kernel
theorem dX3_init_4 : decode cX3_init 4 = .ok (.aload_n 0, 1) := by decide +kernel
theorem dX3_init_5 : decode cX3_init 5 = .ok (.sipush 128, 3) := by decide +kernel
theorem dX3_init_8 : decode cX3_init 8 = .ok (.newarray .int, 2) := by decide +kernel
theorem dX3_init_10 : decode cX3_init 10 = .ok (.putfield 7, 3) := by decide +kernel
theorem dX3_init_13 : decode cX3_init 13 = .ok (.aload_n 0, 1) := by decide +kernel
theorem dX3_init_14 : decode cX3_init 14 = .ok (.sipush 128, 3) := by decide +kernel
theorem dX3_init_17 : decode cX3_init 17 = .ok (.newarray .int, 2) := by decide +kernel
theorem dX3_init_19 : decode cX3_init 19 = .ok (.putfield 13, 3) := by decide +kernel
theorem dX3_init_22 : decode cX3_init 22 = .ok (.aload_n 0, 1) := by decide +kernel
theorem dX3_init_23 : decode cX3_init 23 = .ok (.bipush 64, 2) := by decide +kernel
theorem dX3_init_25 : decode cX3_init 25 = .ok (.newarray .int, 2) := by decide +kernel
theorem dX3_init_27 : decode cX3_init 27 = .ok (.putfield 16, 3) := by decide +kernel
theorem dX3_init_30 : decode cX3_init 30 = .ok (.aload_n 0, 1) := by decide +kernel
theorem dX3_init_31 : decode cX3_init 31 = .ok (.bipush 64, 2) := by decide +kernel
theorem dX3_init_33 : decode cX3_init 33 = .ok (.newarray .int, 2) := by decide +kernel
theorem dX3_init_35 : decode cX3_init 35 = .ok (.putfield 19, 3) := by decide +kernel
theorem dX3_init_38 : decode cX3_init 38 = .ok (.aload_n 0, 1) := by decide +kernel
theorem dX3_init_39 : decode cX3_init 39 = .ok (.bipush 64, 2) := by decide +kernel
theorem dX3_init_41 : decode cX3_init 41 = .ok (.newarray .int, 2) := by decide +kernel
theorem dX3_init_43 : decode cX3_init 43 = .ok (.putfield 22, 3) := by decide +kernel
theorem dX3_init_46 : decode cX3_init 46 = .ok (.aload_n 0, 1) := by decide +kernel
theorem dX3_init_47 : decode cX3_init 47 = .ok (.iconst (-1), 1) := by decide +kernel
theorem dX3_init_48 : decode cX3_init 48 = .ok (.putfield 25, 3) := by decide +kernel
theorem dX3_init_51 : decode cX3_init 51 = .ok (.iconst 0, 1) := by decide +kernel
theorem dX3_init_52 : decode cX3_init 52 = .ok (.istore_n 1, 1) := by decide +kernel
theorem dX3_init_53 : decode cX3_init 53 = .ok (.iload_n 1, 1) := by decide +kernel
theorem dX3_init_54 : decode cX3_init 54 = .ok (.bipush 64, 2) := by decide +kernel
theorem dX3_init_56 : decode cX3_init 56 = .ok (.if_icmp .ge 23, 3) := by decide +kernel
theorem dX3_init_59 : decode cX3_init 59 = .ok (.aload_n 0, 1) := by decide +kernel
theorem dX3_init_60 : decode cX3_init 60 = .ok (.getfield 16, 3) := by decide +kernel
theorem dX3_init_63 : decode cX3_init 63 = .ok (.iload_n 1, 1) := by decide +kernel
theorem dX3_init_64 : decode cX3_init 64 = .ok (.iconst (-1), 1) := by decide +kernel
theorem dX3_init_65 : decode cX3_init 65 = .ok (.iastore, 1) := by decide +kernel
theorem dX3_init_66 : decode cX3_init 66 = .ok (.aload_n 0, 1) := by decide +kernel
theorem dX3_init_67 : decode cX3_init 67 = .ok (.getfield 19, 3) := by decide +kernel
theorem dX3_init_70 : decode cX3_init 70 = .ok (.iload_n 1, 1) := by decide +kernel
theorem dX3_init_71 : decode cX3_init 71 = .ok (.iconst (-1), 1) := by decide +kernel
theorem dX3_init_72 : decode cX3_init 72 = .ok (.iastore, 1) := by decide +kernel
theorem dX3_init_73 : decode cX3_init 73 = .ok (.iinc 1 1, 3) := by decide +kernel
theorem dX3_init_76 : decode cX3_init 76 = .ok (.goto (-23), 3) := by decide +kernel
theorem dX3_init_79 : decode cX3_init 79 = .ok (.return_, 1) := by decide +kernel
theorem dX3_thrown_0 : decode cX3_thrown 0 = .ok (.aload_n 0, 1) := by decide +kernel
theorem dX3_thrown_1 : decode cX3_thrown 1 = .ok (.getfield 29, 3) := by decide +kernel
theorem dX3_thrown_4 : decode cX3_thrown 4 = .ok (.ireturn, 1) := by decide +kernel
theorem dX3_goes_0 : decode cX3_goes 0 = .ok (.aload_n 0, 1) := by decide +kernel
theorem dX3_goes_1 : decode cX3_goes 1 = .ok (.iload_n 1, 1) := by decide +kernel
theorem dX3_goes_2 : decode cX3_goes 2 = .ok (.ifCond .ne 7, 3) := by decide +kernel
theorem dX3_goes_5 : decode cX3_goes 5 = .ok (.iconst 1, 1) := by decide +kernel
theorem dX3_goes_6 : decode cX3_goes 6 = .ok (.goto 12, 3) := by decide +kernel
theorem dX3_goes_9 : decode cX3_goes 9 = .ok (.iload_n 2, 1) := by decide +kernel
theorem dX3_goes_10 : decode cX3_goes 10 = .ok (.ifCond .ne 7, 3) := by decide +kernel
theorem dX3_goes_13 : decode cX3_goes 13 = .ok (.iconst 2, 1) := by decide +kernel
theorem dX3_goes_14 : decode cX3_goes 14 = .ok (.goto 4, 3) := by decide +kernel
theorem dX3_goes_17 : decode cX3_goes 17 = .ok (.iconst 0, 1) := by decide +kernel
theorem dX3_goes_18 : decode cX3_goes 18 = .ok (.putfield 29, 3) := by decide +kernel
theorem dX3_goes_21 : decode cX3_goes 21 = .ok (.aload_n 0, 1) := by decide +kernel
theorem dX3_goes_22 : decode cX3_goes 22 = .ok (.getfield 29, 3) := by decide +kernel
theorem dX3_goes_25 : decode cX3_goes 25 = .ok (.ifCond .ne 7, 3) := by decide +kernel
theorem dX3_goes_28 : decode cX3_goes 28 = .ok (.iconst 1, 1) := by decide +kernel
theorem dX3_goes_29 : decode cX3_goes 29 = .ok (.goto 4, 3) := by decide +kernel
theorem dX3_goes_32 : decode cX3_goes 32 = .ok (.iconst 0, 1) := by decide +kernel
theorem dX3_goes_33 : decode cX3_goes 33 = .ok (.ireturn, 1) := by decide +kernel
theorem dX3_isKey_0 : decode cX3_isKey 0 = .ok (.iload_n 0, 1) := by decide +kernel
theorem dX3_isKey_1 : decode cX3_isKey 1 = .ok (.ifCond .lt 13, 3) := by decide +kernel
theorem dX3_isKey_4 : decode cX3_isKey 4 = .ok (.iload_n 0, 1) := by decide +kernel
theorem dX3_isKey_5 : decode cX3_isKey 5 = .ok (.bipush 64, 2) := by decide +kernel
theorem dX3_isKey_7 : decode cX3_isKey 7 = .ok (.if_icmp .ge 7, 3) := by decide +kernel
theorem dX3_isKey_10 : decode cX3_isKey 10 = .ok (.iconst 1, 1) := by decide +kernel
theorem dX3_isKey_11 : decode cX3_isKey 11 = .ok (.goto 4, 3) := by decide +kernel
theorem dX3_isKey_14 : decode cX3_isKey 14 = .ok (.iconst 0, 1) := by decide +kernel
theorem dX3_isKey_15 : decode cX3_isKey 15 = .ok (.ireturn, 1) := by decide +kernel
theorem dX3_segmentsOf_0 : decode cX3_segmentsOf 0 = .ok (.iload_n 0, 1) := by decide +kernel
theorem dX3_segmentsOf_1 : decode cX3_segmentsOf 1 = .ok (.iload_n 1, 1) := by decide +kernel
theorem dX3_segmentsOf_2 : decode cX3_segmentsOf 2 = .ok (.if_icmp .ne 7, 3) := by decide +kernel
theorem dX3_segmentsOf_5 : decode cX3_segmentsOf 5 = .ok (.iconst 0, 1) := by decide +kernel
theorem dX3_segmentsOf_6 : decode cX3_segmentsOf 6 = .ok (.goto 16, 3) := by decide +kernel
theorem dX3_segmentsOf_9 : decode cX3_segmentsOf 9 = .ok (.iload_n 1, 1) := by decide +kernel
theorem dX3_segmentsOf_10 : decode cX3_segmentsOf 10 = .ok (.iconst 1, 1) := by decide +kernel
theorem dX3_segmentsOf_11 : decode cX3_segmentsOf 11 = .ok (.isub, 1) := by decide +kernel
theorem dX3_segmentsOf_12 : decode cX3_segmentsOf 12 = .ok (.bipush 8, 2) := by decide +kernel
theorem dX3_segmentsOf_14 : decode cX3_segmentsOf 14 = .ok (.idiv, 1) := by decide +kernel
theorem dX3_segmentsOf_15 : decode cX3_segmentsOf 15 = .ok (.iload_n 0, 1) := by decide +kernel
theorem dX3_segmentsOf_16 : decode cX3_segmentsOf 16 = .ok (.bipush 8, 2) := by decide +kernel
theorem dX3_segmentsOf_18 : decode cX3_segmentsOf 18 = .ok (.idiv, 1) := by decide +kernel
theorem dX3_segmentsOf_19 : decode cX3_segmentsOf 19 = .ok (.isub, 1) := by decide +kernel
theorem dX3_segmentsOf_20 : decode cX3_segmentsOf 20 = .ok (.iconst 1, 1) := by decide +kernel
theorem dX3_segmentsOf_21 : decode cX3_segmentsOf 21 = .ok (.iadd, 1) := by decide +kernel
theorem dX3_segmentsOf_22 : decode cX3_segmentsOf 22 = .ok (.ireturn, 1) := by decide +kernel
set_option maxRecDepth 20000 in
theorem ggX3_canAppend_X3_segmentsOf : GoodIn wsX3_canAppend wsX3_segmentsOf := goodIn_r _ [6] (by decide +kernel) (by decide +kernel)
set_option maxRecDepth 20000 in
theorem gX3_canAppend_X3_segmentsOf : GoodIn wsX3_canAppend (va_wsS RX3 38 yX3_segmentsOf wsX3_segmentsOf) := goodIn_app (goodIn_of _ (by decide +kernel)) ggX3_canAppend_X3_segmentsOf
theorem dX3_canAppend_0 : decode cX3_canAppend 0 = .ok (.aload_n 0, 1) := by decide +kernel
theorem dX3_canAppend_1 : decode cX3_canAppend 1 = .ok (.getfield 32, 3) := by decide +kernel
theorem dX3_canAppend_4 : decode cX3_canAppend 4 = .ok (.aload_n 0, 1) := by decide +kernel
theorem dX3_canAppend_5 : decode cX3_canAppend 5 = .ok (.getfield 35, 3) := by decide +kernel
theorem dX3_canAppend_8 : decode cX3_canAppend 8 = .ok (.iload_n 1, 1) := by decide +kernel
theorem dX3_canAppend_9 : decode cX3_canAppend 9 = .ok (.iadd, 1) := by decide +kernel
theorem dX3_canAppend_10 : decode cX3_canAppend 10 = .ok (.invokestatic 38, 3) := by decide +kernel
theorem dX3_canAppend_13 : decode cX3_canAppend 13 = .ok (.bipush 12, 2) := by decide +kernel
theorem dX3_canAppend_15 : decode cX3_canAppend 15 = .ok (.if_icmp .gt 7, 3) := by decide +kernel
theorem dX3_canAppend_18 : decode cX3_canAppend 18 = .ok (.iconst 1, 1) := by decide +kernel
theorem dX3_canAppend_19 : decode cX3_canAppend 19 = .ok (.goto 4, 3) := by decide +kernel
theorem dX3_canAppend_22 : decode cX3_canAppend 22 = .ok (.iconst 0, 1) := by decide +kernel
theorem dX3_canAppend_23 : decode cX3_canAppend 23 = .ok (.ireturn, 1) := by decide +kernel
theorem dX3_appends_0 : decode cX3_appends 0 = .ok (.aload_n 0, 1) := by decide +kernel
theorem dX3_appends_1 : decode cX3_appends 1 = .ok (.getfield 7, 3) := by decide +kernel
theorem dX3_appends_4 : decode cX3_appends 4 = .ok (.aload_n 0, 1) := by decide +kernel
theorem dX3_appends_5 : decode cX3_appends 5 = .ok (.getfield 35, 3) := by decide +kernel
theorem dX3_appends_8 : decode cX3_appends 8 = .ok (.sipush 128, 3) := by decide +kernel
theorem dX3_appends_11 : decode cX3_appends 11 = .ok (.irem, 1) := by decide +kernel
theorem dX3_appends_12 : decode cX3_appends 12 = .ok (.iload_n 1, 1) := by decide +kernel
theorem dX3_appends_13 : decode cX3_appends 13 = .ok (.iastore, 1) := by decide +kernel
theorem dX3_appends_14 : decode cX3_appends 14 = .ok (.aload_n 0, 1) := by decide +kernel
theorem dX3_appends_15 : decode cX3_appends 15 = .ok (.getfield 13, 3) := by decide +kernel
theorem dX3_appends_18 : decode cX3_appends 18 = .ok (.aload_n 0, 1) := by decide +kernel
theorem dX3_appends_19 : decode cX3_appends 19 = .ok (.getfield 35, 3) := by decide +kernel
theorem dX3_appends_22 : decode cX3_appends 22 = .ok (.sipush 128, 3) := by decide +kernel
theorem dX3_appends_25 : decode cX3_appends 25 = .ok (.irem, 1) := by decide +kernel
theorem dX3_appends_26 : decode cX3_appends 26 = .ok (.iload_n 2, 1) := by decide +kernel
theorem dX3_appends_27 : decode cX3_appends 27 = .ok (.iastore, 1) := by decide +kernel
theorem dX3_appends_28 : decode cX3_appends 28 = .ok (.aload_n 0, 1) := by decide +kernel
theorem dX3_appends_29 : decode cX3_appends 29 = .ok (.dup, 1) := by decide +kernel
theorem dX3_appends_30 : decode cX3_appends 30 = .ok (.getfield 35, 3) := by decide +kernel
theorem dX3_appends_33 : decode cX3_appends 33 = .ok (.iconst 1, 1) := by decide +kernel
theorem dX3_appends_34 : decode cX3_appends 34 = .ok (.iadd, 1) := by decide +kernel
theorem dX3_appends_35 : decode cX3_appends 35 = .ok (.putfield 35, 3) := by decide +kernel
theorem dX3_appends_38 : decode cX3_appends 38 = .ok (.aload_n 0, 1) := by decide +kernel
theorem dX3_appends_39 : decode cX3_appends 39 = .ok (.getfield 35, 3) := by decide +kernel
theorem dX3_appends_42 : decode cX3_appends 42 = .ok (.iconst 1, 1) := by decide +kernel
theorem dX3_appends_43 : decode cX3_appends 43 = .ok (.isub, 1) := by decide +kernel
theorem dX3_appends_44 : decode cX3_appends 44 = .ok (.ireturn, 1) := by decide +kernel
theorem dX3_valueOf_0 : decode cX3_valueOf 0 = .ok (.aload_n 0, 1) := by decide +kernel
theorem dX3_valueOf_1 : decode cX3_valueOf 1 = .ok (.getfield 16, 3) := by decide +kernel
theorem dX3_valueOf_4 : decode cX3_valueOf 4 = .ok (.iload_n 1, 1) := by decide +kernel
theorem dX3_valueOf_5 : decode cX3_valueOf 5 = .ok (.iaload, 1) := by decide +kernel
theorem dX3_valueOf_6 : decode cX3_valueOf 6 = .ok (.ifCond .ge 7, 3) := by decide +kernel
theorem dX3_valueOf_9 : decode cX3_valueOf 9 = .ok (.iconst (-1), 1) := by decide +kernel
theorem dX3_valueOf_10 : decode cX3_valueOf 10 = .ok (.goto 18, 3) := by decide +kernel
theorem dX3_valueOf_13 : decode cX3_valueOf 13 = .ok (.aload_n 0, 1) := by decide +kernel
theorem dX3_valueOf_14 : decode cX3_valueOf 14 = .ok (.getfield 13, 3) := by decide +kernel
theorem dX3_valueOf_17 : decode cX3_valueOf 17 = .ok (.aload_n 0, 1) := by decide +kernel
theorem dX3_valueOf_18 : decode cX3_valueOf 18 = .ok (.getfield 16, 3) := by decide +kernel
theorem dX3_valueOf_21 : decode cX3_valueOf 21 = .ok (.iload_n 1, 1) := by decide +kernel
theorem dX3_valueOf_22 : decode cX3_valueOf 22 = .ok (.iaload, 1) := by decide +kernel
theorem dX3_valueOf_23 : decode cX3_valueOf 23 = .ok (.sipush 128, 3) := by decide +kernel
theorem dX3_valueOf_26 : decode cX3_valueOf 26 = .ok (.irem, 1) := by decide +kernel
theorem dX3_valueOf_27 : decode cX3_valueOf 27 = .ok (.iaload, 1) := by decide +kernel
theorem dX3_valueOf_28 : decode cX3_valueOf 28 = .ok (.ireturn, 1) := by decide +kernel
set_option maxRecDepth 20000 in
theorem ggX3_put_X3_isKey : GoodIn wsX3_put wsX3_isKey := goodIn_r _ [6] (by decide +kernel) (by decide +kernel)
set_option maxRecDepth 20000 in
theorem gX3_put_X3_isKey : GoodIn wsX3_put (va_wsS RX3 42 yX3_isKey wsX3_isKey) := goodIn_app (goodIn_of _ (by decide +kernel)) ggX3_put_X3_isKey
set_option maxRecDepth 20000 in
theorem ggX3_put_X3_canAppend : GoodIn wsX3_put wsX3_canAppend := goodIn_r _ [10, 11, 12, 13, 14, 5, 15, 27, 28, 29, 30, 31, 32, 33, 34, 35, 36, 37, 38] (by decide +kernel) (by decide +kernel)
set_option maxRecDepth 20000 in
theorem gX3_put_X3_canAppend : GoodIn wsX3_put (wsV RX3 50 RX3 yX3_canAppend wsX3_canAppend) := goodIn_app (goodIn_of _ (by decide +kernel)) ggX3_put_X3_canAppend
set_option maxRecDepth 20000 in
theorem ggX3_put_X3_goes : GoodIn wsX3_put wsX3_goes := goodIn_r _ [19, 20, 27, 28, 29, 30, 31, 32, 33, 34, 35, 36, 37, 38] (by decide +kernel) (by decide +kernel)
set_option maxRecDepth 20000 in
theorem gX3_put_X3_goes : GoodIn wsX3_put (wsV RX3 53 RX3 yX3_goes wsX3_goes) := goodIn_app (goodIn_of _ (by decide +kernel)) ggX3_put_X3_goes
set_option maxRecDepth 20000 in
theorem ggX3_put_X3_appends : GoodIn wsX3_put wsX3_appends := goodIn_r _ [24, 25, 12, 26, 27, 28, 29, 30, 31, 32, 33, 34, 35, 36, 37, 38] (by decide +kernel) (by decide +kernel)
set_option maxRecDepth 20000 in
theorem gX3_put_X3_appends : GoodIn wsX3_put (wsV RX3 57 RX3 yX3_appends wsX3_appends) := goodIn_app (goodIn_of _ (by decide +kernel)) ggX3_put_X3_appends
theorem dX3_put_0 : decode cX3_put 0 = .ok (.aload_n 0, 1) := by decide +kernel
theorem dX3_put_1 : decode cX3_put 1 = .ok (.iload_n 1, 1) := by decide +kernel
theorem dX3_put_2 : decode cX3_put 2 = .ok (.invokestatic 42, 3) := by decide +kernel
theorem dX3_put_5 : decode cX3_put 5 = .ok (.ifCond .eq 18, 3) := by decide +kernel
theorem dX3_put_8 : decode cX3_put 8 = .ok (.iload_n 2, 1) := by decide +kernel
theorem dX3_put_9 : decode cX3_put 9 = .ok (.ifCond .lt 14, 3) := by decide +kernel
theorem dX3_put_12 : decode cX3_put 12 = .ok (.iload_n 2, 1) := by decide +kernel
theorem dX3_put_13 : decode cX3_put 13 = .ok (.sipush 10000, 3) := by decide +kernel
theorem dX3_put_16 : decode cX3_put 16 = .ok (.if_icmp .ge 7, 3) := by decide +kernel
theorem dX3_put_19 : decode cX3_put 19 = .ok (.iconst 1, 1) := by decide +kernel
theorem dX3_put_20 : decode cX3_put 20 = .ok (.goto 4, 3) := by decide +kernel
theorem dX3_put_23 : decode cX3_put 23 = .ok (.iconst 0, 1) := by decide +kernel
theorem dX3_put_24 : decode cX3_put 24 = .ok (.aload_n 0, 1) := by decide +kernel
theorem dX3_put_25 : decode cX3_put 25 = .ok (.getfield 46, 3) := by decide +kernel
theorem dX3_put_28 : decode cX3_put 28 = .ok (.ifCond .ne 15, 3) := by decide +kernel
theorem dX3_put_31 : decode cX3_put 31 = .ok (.aload_n 0, 1) := by decide +kernel
theorem dX3_put_32 : decode cX3_put 32 = .ok (.iconst 1, 1) := by decide +kernel
theorem dX3_put_33 : decode cX3_put 33 = .ok (.invokevirtual 50, 3) := by decide +kernel
theorem dX3_put_36 : decode cX3_put 36 = .ok (.ifCond .eq 7, 3) := by decide +kernel
theorem dX3_put_39 : decode cX3_put 39 = .ok (.iconst 1, 1) := by decide +kernel
theorem dX3_put_40 : decode cX3_put 40 = .ok (.goto 4, 3) := by decide +kernel
theorem dX3_put_43 : decode cX3_put 43 = .ok (.iconst 0, 1) := by decide +kernel
theorem dX3_put_44 : decode cX3_put 44 = .ok (.invokevirtual 53, 3) := by decide +kernel
theorem dX3_put_47 : decode cX3_put 47 = .ok (.ifCond .ne 5, 3) := by decide +kernel
theorem dX3_put_50 : decode cX3_put 50 = .ok (.iconst 0, 1) := by decide +kernel
theorem dX3_put_51 : decode cX3_put 51 = .ok (.ireturn, 1) := by decide +kernel
theorem dX3_put_52 : decode cX3_put 52 = .ok (.aload_n 0, 1) := by decide +kernel
theorem dX3_put_53 : decode cX3_put 53 = .ok (.getfield 16, 3) := by decide +kernel
theorem dX3_put_56 : decode cX3_put 56 = .ok (.iload_n 1, 1) := by decide +kernel
theorem dX3_put_57 : decode cX3_put 57 = .ok (.aload_n 0, 1) := by decide +kernel
theorem dX3_put_58 : decode cX3_put 58 = .ok (.iload_n 1, 1) := by decide +kernel
theorem dX3_put_59 : decode cX3_put 59 = .ok (.iload_n 2, 1) := by decide +kernel
theorem dX3_put_60 : decode cX3_put 60 = .ok (.invokevirtual 57, 3) := by decide +kernel
theorem dX3_put_63 : decode cX3_put 63 = .ok (.iastore, 1) := by decide +kernel
theorem dX3_put_64 : decode cX3_put 64 = .ok (.aload_n 0, 1) := by decide +kernel
theorem dX3_put_65 : decode cX3_put 65 = .ok (.getfield 16, 3) := by decide +kernel
theorem dX3_put_68 : decode cX3_put 68 = .ok (.iload_n 1, 1) := by decide +kernel
theorem dX3_put_69 : decode cX3_put 69 = .ok (.iaload, 1) := by decide +kernel
theorem dX3_put_70 : decode cX3_put 70 = .ok (.ireturn, 1) := by decide +kernel
set_option maxRecDepth 20000 in
theorem ggX3_delete_X3_isKey : GoodIn wsX3_delete wsX3_isKey := goodIn_r _ [6] (by decide +kernel) (by decide +kernel)
set_option maxRecDepth 20000 in
theorem gX3_delete_X3_isKey : GoodIn wsX3_delete (va_wsS RX3 42 yX3_isKey wsX3_isKey) := goodIn_app (goodIn_of _ (by decide +kernel)) ggX3_delete_X3_isKey
set_option maxRecDepth 20000 in
theorem ggX3_delete_X3_canAppend : GoodIn wsX3_delete wsX3_canAppend := goodIn_r _ [10, 11, 12, 13, 14, 5, 15, 31, 32, 33, 34, 35, 36, 37, 38, 39, 40, 41, 42] (by decide +kernel) (by decide +kernel)
set_option maxRecDepth 20000 in
theorem gX3_delete_X3_canAppend : GoodIn wsX3_delete (wsV RX3 50 RX3 yX3_canAppend wsX3_canAppend) := goodIn_app (goodIn_of _ (by decide +kernel)) ggX3_delete_X3_canAppend
set_option maxRecDepth 20000 in
theorem ggX3_delete_X3_goes : GoodIn wsX3_delete wsX3_goes := goodIn_r _ [19, 20, 31, 32, 33, 34, 35, 36, 37, 38, 39, 40, 41, 42] (by decide +kernel) (by decide +kernel)
set_option maxRecDepth 20000 in
theorem gX3_delete_X3_goes : GoodIn wsX3_delete (wsV RX3 53 RX3 yX3_goes wsX3_goes) := goodIn_app (goodIn_of _ (by decide +kernel)) ggX3_delete_X3_goes
set_option maxRecDepth 20000 in
theorem ggX3_delete_X3_valueOf : GoodIn wsX3_delete wsX3_valueOf := goodIn_r _ [24, 2, 25, 31, 32, 33, 34, 35, 36, 37, 38, 39, 40, 41, 42] (by decide +kernel) (by decide +kernel)
set_option maxRecDepth 20000 in
theorem gX3_delete_X3_valueOf : GoodIn wsX3_delete (wsV RX3 60 RX3 yX3_valueOf wsX3_valueOf) := goodIn_app (goodIn_of _ (by decide +kernel)) ggX3_delete_X3_valueOf
set_option maxRecDepth 20000 in
theorem ggX3_delete_X3_appends : GoodIn wsX3_delete wsX3_appends := goodIn_r _ [29, 30, 12, 25, 31, 32, 33, 34, 35, 36, 37, 38, 39, 40, 41, 42] (by decide +kernel) (by decide +kernel)
set_option maxRecDepth 20000 in
theorem gX3_delete_X3_appends : GoodIn wsX3_delete (wsV RX3 57 RX3 yX3_appends wsX3_appends) := goodIn_app (goodIn_of _ (by decide +kernel)) ggX3_delete_X3_appends
theorem dX3_delete_0 : decode cX3_delete 0 = .ok (.iload_n 1, 1) := by decide +kernel
theorem dX3_delete_1 : decode cX3_delete 1 = .ok (.invokestatic 42, 3) := by decide +kernel
theorem dX3_delete_4 : decode cX3_delete 4 = .ok (.istore_n 2, 1) := by decide +kernel
theorem dX3_delete_5 : decode cX3_delete 5 = .ok (.aload_n 0, 1) := by decide +kernel
theorem dX3_delete_6 : decode cX3_delete 6 = .ok (.iload_n 2, 1) := by decide +kernel
theorem dX3_delete_7 : decode cX3_delete 7 = .ok (.iload_n 2, 1) := by decide +kernel
theorem dX3_delete_8 : decode cX3_delete 8 = .ok (.ifCond .eq 31, 3) := by decide +kernel
theorem dX3_delete_11 : decode cX3_delete 11 = .ok (.aload_n 0, 1) := by decide +kernel
theorem dX3_delete_12 : decode cX3_delete 12 = .ok (.getfield 46, 3) := by decide +kernel
theorem dX3_delete_15 : decode cX3_delete 15 = .ok (.ifCond .ne 24, 3) := by decide +kernel
theorem dX3_delete_18 : decode cX3_delete 18 = .ok (.aload_n 0, 1) := by decide +kernel
theorem dX3_delete_19 : decode cX3_delete 19 = .ok (.getfield 16, 3) := by decide +kernel
theorem dX3_delete_22 : decode cX3_delete 22 = .ok (.iload_n 1, 1) := by decide +kernel
theorem dX3_delete_23 : decode cX3_delete 23 = .ok (.iaload, 1) := by decide +kernel
theorem dX3_delete_24 : decode cX3_delete 24 = .ok (.ifCond .lt 15, 3) := by decide +kernel
theorem dX3_delete_27 : decode cX3_delete 27 = .ok (.aload_n 0, 1) := by decide +kernel
theorem dX3_delete_28 : decode cX3_delete 28 = .ok (.iconst 1, 1) := by decide +kernel
theorem dX3_delete_29 : decode cX3_delete 29 = .ok (.invokevirtual 50, 3) := by decide +kernel
theorem dX3_delete_32 : decode cX3_delete 32 = .ok (.ifCond .eq 7, 3) := by decide +kernel
theorem dX3_delete_35 : decode cX3_delete 35 = .ok (.iconst 1, 1) := by decide +kernel
theorem dX3_delete_36 : decode cX3_delete 36 = .ok (.goto 4, 3) := by decide +kernel
theorem dX3_delete_39 : decode cX3_delete 39 = .ok (.iconst 0, 1) := by decide +kernel
theorem dX3_delete_40 : decode cX3_delete 40 = .ok (.invokevirtual 53, 3) := by decide +kernel
theorem dX3_delete_43 : decode cX3_delete 43 = .ok (.ifCond .ne 5, 3) := by decide +kernel
theorem dX3_delete_46 : decode cX3_delete 46 = .ok (.iconst 0, 1) := by decide +kernel
theorem dX3_delete_47 : decode cX3_delete 47 = .ok (.ireturn, 1) := by decide +kernel
theorem dX3_delete_48 : decode cX3_delete 48 = .ok (.aload_n 0, 1) := by decide +kernel
theorem dX3_delete_49 : decode cX3_delete 49 = .ok (.iload_n 1, 1) := by decide +kernel
theorem dX3_delete_50 : decode cX3_delete 50 = .ok (.invokevirtual 60, 3) := by decide +kernel
theorem dX3_delete_53 : decode cX3_delete 53 = .ok (.istore_n 3, 1) := by decide +kernel
theorem dX3_delete_54 : decode cX3_delete 54 = .ok (.aload_n 0, 1) := by decide +kernel
theorem dX3_delete_55 : decode cX3_delete 55 = .ok (.iload_n 1, 1) := by decide +kernel
theorem dX3_delete_56 : decode cX3_delete 56 = .ok (.iconst (-1), 1) := by decide +kernel
theorem dX3_delete_57 : decode cX3_delete 57 = .ok (.invokevirtual 57, 3) := by decide +kernel
theorem dX3_delete_60 : decode cX3_delete 60 = .ok (.pop, 1) := by decide +kernel
theorem dX3_delete_61 : decode cX3_delete 61 = .ok (.aload_n 0, 1) := by decide +kernel
theorem dX3_delete_62 : decode cX3_delete 62 = .ok (.getfield 16, 3) := by decide +kernel
theorem dX3_delete_65 : decode cX3_delete 65 = .ok (.iload_n 1, 1) := by decide +kernel
theorem dX3_delete_66 : decode cX3_delete 66 = .ok (.iconst (-1), 1) := by decide +kernel
theorem dX3_delete_67 : decode cX3_delete 67 = .ok (.iastore, 1) := by decide +kernel
theorem dX3_delete_68 : decode cX3_delete 68 = .ok (.iload_n 3, 1) := by decide +kernel
theorem dX3_delete_69 : decode cX3_delete 69 = .ok (.ireturn, 1) := by decide +kernel
set_option maxRecDepth 20000 in
theorem ggX3_get_X3_isKey : GoodIn wsX3_get wsX3_isKey := goodIn_r _ [5] (by decide +kernel) (by decide +kernel)
set_option maxRecDepth 20000 in
theorem gX3_get_X3_isKey : GoodIn wsX3_get (va_wsS RX3 42 yX3_isKey wsX3_isKey) := goodIn_app (goodIn_of _ (by decide +kernel)) ggX3_get_X3_isKey
set_option maxRecDepth 20000 in
theorem ggX3_get_X3_goes : GoodIn wsX3_get wsX3_goes := goodIn_r _ [9, 10, 17, 18, 19, 20, 21, 22, 23, 24, 25, 26, 27, 28] (by decide +kernel) (by decide +kernel)
set_option maxRecDepth 20000 in
theorem gX3_get_X3_goes : GoodIn wsX3_get (wsV RX3 53 RX3 yX3_goes wsX3_goes) := goodIn_app (goodIn_of _ (by decide +kernel)) ggX3_get_X3_goes
set_option maxRecDepth 20000 in
theorem ggX3_get_X3_valueOf : GoodIn wsX3_get wsX3_valueOf := goodIn_r _ [14, 15, 16, 17, 18, 19, 20, 21, 22, 23, 24, 25, 26, 27, 28] (by decide +kernel) (by decide +kernel)
set_option maxRecDepth 20000 in
theorem gX3_get_X3_valueOf : GoodIn wsX3_get (wsV RX3 60 RX3 yX3_valueOf wsX3_valueOf) := goodIn_app (goodIn_of _ (by decide +kernel)) ggX3_get_X3_valueOf
theorem dX3_get_0 : decode cX3_get 0 = .ok (.aload_n 0, 1) := by decide +kernel
theorem dX3_get_1 : decode cX3_get 1 = .ok (.iload_n 1, 1) := by decide +kernel
theorem dX3_get_2 : decode cX3_get 2 = .ok (.invokestatic 42, 3) := by decide +kernel
theorem dX3_get_5 : decode cX3_get 5 = .ok (.aload_n 0, 1) := by decide +kernel
theorem dX3_get_6 : decode cX3_get 6 = .ok (.getfield 46, 3) := by decide +kernel
theorem dX3_get_9 : decode cX3_get 9 = .ok (.ifCond .ne 7, 3) := by decide +kernel
theorem dX3_get_12 : decode cX3_get 12 = .ok (.iconst 1, 1) := by decide +kernel
theorem dX3_get_13 : decode cX3_get 13 = .ok (.goto 4, 3) := by decide +kernel
theorem dX3_get_16 : decode cX3_get 16 = .ok (.iconst 0, 1) := by decide +kernel
theorem dX3_get_17 : decode cX3_get 17 = .ok (.invokevirtual 53, 3) := by decide +kernel
theorem dX3_get_20 : decode cX3_get 20 = .ok (.ifCond .eq 11, 3) := by decide +kernel
theorem dX3_get_23 : decode cX3_get 23 = .ok (.aload_n 0, 1) := by decide +kernel
theorem dX3_get_24 : decode cX3_get 24 = .ok (.iload_n 1, 1) := by decide +kernel
theorem dX3_get_25 : decode cX3_get 25 = .ok (.invokevirtual 60, 3) := by decide +kernel
theorem dX3_get_28 : decode cX3_get 28 = .ok (.goto 4, 3) := by decide +kernel
theorem dX3_get_31 : decode cX3_get 31 = .ok (.iconst 0, 1) := by decide +kernel
theorem dX3_get_32 : decode cX3_get 32 = .ok (.ireturn, 1) := by decide +kernel
set_option maxRecDepth 20000 in
theorem ggX3_next_X3_isKey : GoodIn wsX3_next wsX3_isKey := goodIn_r _ [6] (by decide +kernel) (by decide +kernel)
set_option maxRecDepth 20000 in
theorem gX3_next_X3_isKey : GoodIn wsX3_next (va_wsS RX3 42 yX3_isKey wsX3_isKey) := goodIn_app (goodIn_of _ (by decide +kernel)) ggX3_next_X3_isKey
set_option maxRecDepth 20000 in
theorem ggX3_next_X3_goes : GoodIn wsX3_next wsX3_goes := goodIn_r _ [10, 11, 12, 13, 14, 15, 16, 17, 18, 19, 20, 21, 22, 23] (by decide +kernel) (by decide +kernel)
set_option maxRecDepth 20000 in
theorem gX3_next_X3_goes : GoodIn wsX3_next (wsV RX3 53 RX3 yX3_goes wsX3_goes) := goodIn_app (goodIn_of _ (by decide +kernel)) ggX3_next_X3_goes
theorem dX3_next_0 : decode cX3_next 0 = .ok (.aload_n 0, 1) := by decide +kernel
theorem dX3_next_1 : decode cX3_next 1 = .ok (.iload_n 1, 1) := by decide +kernel
theorem dX3_next_2 : decode cX3_next 2 = .ok (.invokestatic 42, 3) := by decide +kernel
theorem dX3_next_5 : decode cX3_next 5 = .ok (.aload_n 0, 1) := by decide +kernel
theorem dX3_next_6 : decode cX3_next 6 = .ok (.getfield 46, 3) := by decide +kernel
theorem dX3_next_9 : decode cX3_next 9 = .ok (.ifCond .ne 7, 3) := by decide +kernel
theorem dX3_next_12 : decode cX3_next 12 = .ok (.iconst 1, 1) := by decide +kernel
theorem dX3_next_13 : decode cX3_next 13 = .ok (.goto 4, 3) := by decide +kernel
theorem dX3_next_16 : decode cX3_next 16 = .ok (.iconst 0, 1) := by decide +kernel
theorem dX3_next_17 : decode cX3_next 17 = .ok (.invokevirtual 53, 3) := by decide +kernel
theorem dX3_next_20 : decode cX3_next 20 = .ok (.ifCond .ne 5, 3) := by decide +kernel
theorem dX3_next_23 : decode cX3_next 23 = .ok (.iconst 0, 1) := by decide +kernel
theorem dX3_next_24 : decode cX3_next 24 = .ok (.ireturn, 1) := by decide +kernel
theorem dX3_next_25 : decode cX3_next 25 = .ok (.iconst (-1), 1) := by decide +kernel
theorem dX3_next_26 : decode cX3_next 26 = .ok (.istore_n 2, 1) := by decide +kernel
theorem dX3_next_27 : decode cX3_next 27 = .ok (.bipush 63, 2) := by decide +kernel
theorem dX3_next_29 : decode cX3_next 29 = .ok (.istore_n 3, 1) := by decide +kernel
theorem dX3_next_30 : decode cX3_next 30 = .ok (.iload_n 3, 1) := by decide +kernel
theorem dX3_next_31 : decode cX3_next 31 = .ok (.iload_n 1, 1) := by decide +kernel
theorem dX3_next_32 : decode cX3_next 32 = .ok (.if_icmp .lt 24, 3) := by decide +kernel
theorem dX3_next_35 : decode cX3_next 35 = .ok (.aload_n 0, 1) := by decide +kernel
theorem dX3_next_36 : decode cX3_next 36 = .ok (.getfield 16, 3) := by decide +kernel
theorem dX3_next_39 : decode cX3_next 39 = .ok (.iload_n 3, 1) := by decide +kernel
theorem dX3_next_40 : decode cX3_next 40 = .ok (.iaload, 1) := by decide +kernel
theorem dX3_next_41 : decode cX3_next 41 = .ok (.ifCond .lt 7, 3) := by decide +kernel
theorem dX3_next_44 : decode cX3_next 44 = .ok (.iload_n 3, 1) := by decide +kernel
theorem dX3_next_45 : decode cX3_next 45 = .ok (.goto 4, 3) := by decide +kernel
theorem dX3_next_48 : decode cX3_next 48 = .ok (.iload_n 2, 1) := by decide +kernel
theorem dX3_next_49 : decode cX3_next 49 = .ok (.istore_n 2, 1) := by decide +kernel
theorem dX3_next_50 : decode cX3_next 50 = .ok (.iinc 3 (-1), 3) := by decide +kernel
theorem dX3_next_53 : decode cX3_next 53 = .ok (.goto (-23), 3) := by decide +kernel
theorem dX3_next_56 : decode cX3_next 56 = .ok (.iload_n 2, 1) := by decide +kernel
theorem dX3_next_57 : decode cX3_next 57 = .ok (.ireturn, 1) := by decide +kernel
theorem dX3_isRange_0 : decode cX3_isRange 0 = .ok (.iload_n 0, 1) := by decide +kernel
theorem dX3_isRange_1 : decode cX3_isRange 1 = .ok (.ifCond .lt 18, 3) := by decide +kernel
theorem dX3_isRange_4 : decode cX3_isRange 4 = .ok (.iload_n 0, 1) := by decide +kernel
theorem dX3_isRange_5 : decode cX3_isRange 5 = .ok (.iload_n 1, 1) := by decide +kernel
theorem dX3_isRange_6 : decode cX3_isRange 6 = .ok (.if_icmp .gt 13, 3) := by decide +kernel
theorem dX3_isRange_9 : decode cX3_isRange 9 = .ok (.iload_n 1, 1) := by decide +kernel
theorem dX3_isRange_10 : decode cX3_isRange 10 = .ok (.bipush 64, 2) := by decide +kernel
theorem dX3_isRange_12 : decode cX3_isRange 12 = .ok (.if_icmp .ge 7, 3) := by decide +kernel
theorem dX3_isRange_15 : decode cX3_isRange 15 = .ok (.iconst 1, 1) := by decide +kernel
theorem dX3_isRange_16 : decode cX3_isRange 16 = .ok (.goto 4, 3) := by decide +kernel
theorem dX3_isRange_19 : decode cX3_isRange 19 = .ok (.iconst 0, 1) := by decide +kernel
theorem dX3_isRange_20 : decode cX3_isRange 20 = .ok (.ireturn, 1) := by decide +kernel
set_option maxRecDepth 20000 in
theorem ggX3_sum_X3_isRange : GoodIn wsX3_sum wsX3_isRange := goodIn_r _ [6] (by decide +kernel) (by decide +kernel)
set_option maxRecDepth 20000 in
theorem gX3_sum_X3_isRange : GoodIn wsX3_sum (va_wsS RX3 64 yX3_isRange wsX3_isRange) := goodIn_app (goodIn_of _ (by decide +kernel)) ggX3_sum_X3_isRange
set_option maxRecDepth 20000 in
theorem ggX3_sum_X3_goes : GoodIn wsX3_sum wsX3_goes := goodIn_r _ [10, 11, 17, 18, 19, 20, 21, 22, 23, 24, 25, 26, 27, 28] (by decide +kernel) (by decide +kernel)
set_option maxRecDepth 20000 in
theorem gX3_sum_X3_goes : GoodIn wsX3_sum (wsV RX3 53 RX3 yX3_goes wsX3_goes) := goodIn_app (goodIn_of _ (by decide +kernel)) ggX3_sum_X3_goes
set_option maxRecDepth 20000 in
theorem ggX3_sum_X3_valueOf : GoodIn wsX3_sum wsX3_valueOf := goodIn_r _ [15, 2, 16, 17, 18, 19, 20, 21, 22, 23, 24, 25, 26, 27, 28] (by decide +kernel) (by decide +kernel)
set_option maxRecDepth 20000 in
theorem gX3_sum_X3_valueOf : GoodIn wsX3_sum (wsV RX3 60 RX3 yX3_valueOf wsX3_valueOf) := goodIn_app (goodIn_of _ (by decide +kernel)) ggX3_sum_X3_valueOf
theorem dX3_sum_0 : decode cX3_sum 0 = .ok (.aload_n 0, 1) := by decide +kernel
theorem dX3_sum_1 : decode cX3_sum 1 = .ok (.iload_n 1, 1) := by decide +kernel
theorem dX3_sum_2 : decode cX3_sum 2 = .ok (.iload_n 2, 1) := by decide +kernel
theorem dX3_sum_3 : decode cX3_sum 3 = .ok (.invokestatic 64, 3) := by decide +kernel
theorem dX3_sum_6 : decode cX3_sum 6 = .ok (.aload_n 0, 1) := by decide +kernel
theorem dX3_sum_7 : decode cX3_sum 7 = .ok (.getfield 46, 3) := by decide +kernel
theorem dX3_sum_10 : decode cX3_sum 10 = .ok (.ifCond .ne 7, 3) := by decide +kernel
theorem dX3_sum_13 : decode cX3_sum 13 = .ok (.iconst 1, 1) := by decide +kernel
theorem dX3_sum_14 : decode cX3_sum 14 = .ok (.goto 4, 3) := by decide +kernel
theorem dX3_sum_17 : decode cX3_sum 17 = .ok (.iconst 0, 1) := by decide +kernel
theorem dX3_sum_18 : decode cX3_sum 18 = .ok (.invokevirtual 53, 3) := by decide +kernel
theorem dX3_sum_21 : decode cX3_sum 21 = .ok (.ifCond .ne 5, 3) := by decide +kernel
theorem dX3_sum_24 : decode cX3_sum 24 = .ok (.iconst 0, 1) := by decide +kernel
theorem dX3_sum_25 : decode cX3_sum 25 = .ok (.ireturn, 1) := by decide +kernel
theorem dX3_sum_26 : decode cX3_sum 26 = .ok (.iconst 0, 1) := by decide +kernel
theorem dX3_sum_27 : decode cX3_sum 27 = .ok (.istore_n 3, 1) := by decide +kernel
theorem dX3_sum_28 : decode cX3_sum 28 = .ok (.iload_n 1, 1) := by decide +kernel
theorem dX3_sum_29 : decode cX3_sum 29 = .ok (.istore 4, 2) := by decide +kernel
theorem dX3_sum_31 : decode cX3_sum 31 = .ok (.iload 4, 2) := by decide +kernel
theorem dX3_sum_33 : decode cX3_sum 33 = .ok (.iload_n 2, 1) := by decide +kernel
theorem dX3_sum_34 : decode cX3_sum 34 = .ok (.if_icmp .gt 32, 3) := by decide +kernel
theorem dX3_sum_37 : decode cX3_sum 37 = .ok (.iload_n 3, 1) := by decide +kernel
theorem dX3_sum_38 : decode cX3_sum 38 = .ok (.aload_n 0, 1) := by decide +kernel
theorem dX3_sum_39 : decode cX3_sum 39 = .ok (.getfield 16, 3) := by decide +kernel
theorem dX3_sum_42 : decode cX3_sum 42 = .ok (.iload 4, 2) := by decide +kernel
theorem dX3_sum_44 : decode cX3_sum 44 = .ok (.iaload, 1) := by decide +kernel
theorem dX3_sum_45 : decode cX3_sum 45 = .ok (.ifCond .lt 12, 3) := by decide +kernel
theorem dX3_sum_48 : decode cX3_sum 48 = .ok (.aload_n 0, 1) := by decide +kernel
theorem dX3_sum_49 : decode cX3_sum 49 = .ok (.iload 4, 2) := by decide +kernel
theorem dX3_sum_51 : decode cX3_sum 51 = .ok (.invokevirtual 60, 3) := by decide +kernel
theorem dX3_sum_54 : decode cX3_sum 54 = .ok (.goto 4, 3) := by decide +kernel
theorem dX3_sum_57 : decode cX3_sum 57 = .ok (.iconst 0, 1) := by decide +kernel
theorem dX3_sum_58 : decode cX3_sum 58 = .ok (.iadd, 1) := by decide +kernel
theorem dX3_sum_59 : decode cX3_sum 59 = .ok (.istore_n 3, 1) := by decide +kernel
theorem dX3_sum_60 : decode cX3_sum 60 = .ok (.iinc 4 1, 3) := by decide +kernel
theorem dX3_sum_63 : decode cX3_sum 63 = .ok (.goto (-32), 3) := by decide +kernel
theorem dX3_sum_66 : decode cX3_sum 66 = .ok (.iload_n 3, 1) := by decide +kernel
theorem dX3_sum_67 : decode cX3_sum 67 = .ok (.ireturn, 1) := by decide +kernel
set_option maxRecDepth 20000 in
theorem ggX3_fetches_X3_isRange : GoodIn wsX3_fetches wsX3_isRange := goodIn_r _ [8] (by decide +kernel) (by decide +kernel)
set_option maxRecDepth 20000 in
theorem gX3_fetches_X3_isRange : GoodIn wsX3_fetches (va_wsS RX3 64 yX3_isRange wsX3_isRange) := goodIn_app (goodIn_of _ (by decide +kernel)) ggX3_fetches_X3_isRange
set_option maxRecDepth 20000 in
theorem ggX3_fetches_X3_goes : GoodIn wsX3_fetches wsX3_goes := goodIn_r _ [12, 13, 14, 15, 16, 17, 18, 19, 20, 21, 22, 23, 24, 25] (by decide +kernel) (by decide +kernel)
set_option maxRecDepth 20000 in
theorem gX3_fetches_X3_goes : GoodIn wsX3_fetches (wsV RX3 53 RX3 yX3_goes wsX3_goes) := goodIn_app (goodIn_of _ (by decide +kernel)) ggX3_fetches_X3_goes
theorem dX3_fetches_0 : decode cX3_fetches 0 = .ok (.aload_n 0, 1) := by decide +kernel
theorem dX3_fetches_1 : decode cX3_fetches 1 = .ok (.iload_n 1, 1) := by decide +kernel
theorem dX3_fetches_2 : decode cX3_fetches 2 = .ok (.iload_n 2, 1) := by decide +kernel
theorem dX3_fetches_3 : decode cX3_fetches 3 = .ok (.invokestatic 64, 3) := by decide +kernel
theorem dX3_fetches_6 : decode cX3_fetches 6 = .ok (.aload_n 0, 1) := by decide +kernel
theorem dX3_fetches_7 : decode cX3_fetches 7 = .ok (.getfield 46, 3) := by decide +kernel
theorem dX3_fetches_10 : decode cX3_fetches 10 = .ok (.ifCond .ne 7, 3) := by decide +kernel
theorem dX3_fetches_13 : decode cX3_fetches 13 = .ok (.iconst 1, 1) := by decide +kernel
theorem dX3_fetches_14 : decode cX3_fetches 14 = .ok (.goto 4, 3) := by decide +kernel
theorem dX3_fetches_17 : decode cX3_fetches 17 = .ok (.iconst 0, 1) := by decide +kernel
theorem dX3_fetches_18 : decode cX3_fetches 18 = .ok (.invokevirtual 53, 3) := by decide +kernel
theorem dX3_fetches_21 : decode cX3_fetches 21 = .ok (.ifCond .ne 5, 3) := by decide +kernel
theorem dX3_fetches_24 : decode cX3_fetches 24 = .ok (.iconst 0, 1) := by decide +kernel
theorem dX3_fetches_25 : decode cX3_fetches 25 = .ok (.ireturn, 1) := by decide +kernel
theorem dX3_fetches_26 : decode cX3_fetches 26 = .ok (.iconst 0, 1) := by decide +kernel
theorem dX3_fetches_27 : decode cX3_fetches 27 = .ok (.istore_n 3, 1) := by decide +kernel
theorem dX3_fetches_28 : decode cX3_fetches 28 = .ok (.aload_n 0, 1) := by decide +kernel
theorem dX3_fetches_29 : decode cX3_fetches 29 = .ok (.getfield 32, 3) := by decide +kernel
theorem dX3_fetches_32 : decode cX3_fetches 32 = .ok (.bipush 8, 2) := by decide +kernel
theorem dX3_fetches_34 : decode cX3_fetches 34 = .ok (.idiv, 1) := by decide +kernel
theorem dX3_fetches_35 : decode cX3_fetches 35 = .ok (.istore 4, 2) := by decide +kernel
theorem dX3_fetches_37 : decode cX3_fetches 37 = .ok (.iload 4, 2) := by decide +kernel
theorem dX3_fetches_39 : decode cX3_fetches 39 = .ok (.aload_n 0, 1) := by decide +kernel
theorem dX3_fetches_40 : decode cX3_fetches 40 = .ok (.getfield 35, 3) := by decide +kernel
theorem dX3_fetches_43 : decode cX3_fetches 43 = .ok (.bipush 8, 2) := by decide +kernel
theorem dX3_fetches_45 : decode cX3_fetches 45 = .ok (.idiv, 1) := by decide +kernel
theorem dX3_fetches_46 : decode cX3_fetches 46 = .ok (.if_icmp .gt 77, 3) := by decide +kernel
theorem dX3_fetches_49 : decode cX3_fetches 49 = .ok (.iconst 0, 1) := by decide +kernel
theorem dX3_fetches_50 : decode cX3_fetches 50 = .ok (.istore 5, 2) := by decide +kernel
theorem dX3_fetches_52 : decode cX3_fetches 52 = .ok (.iload_n 1, 1) := by decide +kernel
theorem dX3_fetches_53 : decode cX3_fetches 53 = .ok (.istore 6, 2) := by decide +kernel
theorem dX3_fetches_55 : decode cX3_fetches 55 = .ok (.iload 6, 2) := by decide +kernel
theorem dX3_fetches_57 : decode cX3_fetches 57 = .ok (.iload_n 2, 1) := by decide +kernel
theorem dX3_fetches_58 : decode cX3_fetches 58 = .ok (.if_icmp .gt 46, 3) := by decide +kernel
theorem dX3_fetches_61 : decode cX3_fetches 61 = .ok (.iload 5, 2) := by decide +kernel
theorem dX3_fetches_63 : decode cX3_fetches 63 = .ok (.ifCond .ne 28, 3) := by decide +kernel
theorem dX3_fetches_66 : decode cX3_fetches 66 = .ok (.aload_n 0, 1) := by decide +kernel
theorem dX3_fetches_67 : decode cX3_fetches 67 = .ok (.getfield 16, 3) := by decide +kernel
theorem dX3_fetches_70 : decode cX3_fetches 70 = .ok (.iload 6, 2) := by decide +kernel
theorem dX3_fetches_72 : decode cX3_fetches 72 = .ok (.iaload, 1) := by decide +kernel
theorem dX3_fetches_73 : decode cX3_fetches 73 = .ok (.ifCond .lt 22, 3) := by decide +kernel
theorem dX3_fetches_76 : decode cX3_fetches 76 = .ok (.aload_n 0, 1) := by decide +kernel
theorem dX3_fetches_77 : decode cX3_fetches 77 = .ok (.getfield 16, 3) := by decide +kernel
theorem dX3_fetches_80 : decode cX3_fetches 80 = .ok (.iload 6, 2) := by decide +kernel
theorem dX3_fetches_82 : decode cX3_fetches 82 = .ok (.iaload, 1) := by decide +kernel
theorem dX3_fetches_83 : decode cX3_fetches 83 = .ok (.bipush 8, 2) := by decide +kernel
theorem dX3_fetches_85 : decode cX3_fetches 85 = .ok (.idiv, 1) := by decide +kernel
theorem dX3_fetches_86 : decode cX3_fetches 86 = .ok (.iload 4, 2) := by decide +kernel
theorem dX3_fetches_88 : decode cX3_fetches 88 = .ok (.if_icmp .ne 7, 3) := by decide +kernel
theorem dX3_fetches_91 : decode cX3_fetches 91 = .ok (.iconst 1, 1) := by decide +kernel
theorem dX3_fetches_92 : decode cX3_fetches 92 = .ok (.goto 4, 3) := by decide +kernel
theorem dX3_fetches_95 : decode cX3_fetches 95 = .ok (.iconst 0, 1) := by decide +kernel
theorem dX3_fetches_96 : decode cX3_fetches 96 = .ok (.istore 5, 2) := by decide +kernel
theorem dX3_fetches_98 : decode cX3_fetches 98 = .ok (.iinc 6 1, 3) := by decide +kernel
theorem dX3_fetches_101 : decode cX3_fetches 101 = .ok (.goto (-46), 3) := by decide +kernel
theorem dX3_fetches_104 : decode cX3_fetches 104 = .ok (.iload_n 3, 1) := by decide +kernel
theorem dX3_fetches_105 : decode cX3_fetches 105 = .ok (.iload 5, 2) := by decide +kernel
theorem dX3_fetches_107 : decode cX3_fetches 107 = .ok (.ifCond .eq 7, 3) := by decide +kernel
theorem dX3_fetches_110 : decode cX3_fetches 110 = .ok (.iconst 1, 1) := by decide +kernel
theorem dX3_fetches_111 : decode cX3_fetches 111 = .ok (.goto 4, 3) := by decide +kernel
theorem dX3_fetches_114 : decode cX3_fetches 114 = .ok (.iconst 0, 1) := by decide +kernel
theorem dX3_fetches_115 : decode cX3_fetches 115 = .ok (.iadd, 1) := by decide +kernel
theorem dX3_fetches_116 : decode cX3_fetches 116 = .ok (.istore_n 3, 1) := by decide +kernel
theorem dX3_fetches_117 : decode cX3_fetches 117 = .ok (.iinc 4 1, 3) := by decide +kernel
theorem dX3_fetches_120 : decode cX3_fetches 120 = .ok (.goto (-83), 3) := by decide +kernel
theorem dX3_fetches_123 : decode cX3_fetches 123 = .ok (.iload_n 3, 1) := by decide +kernel
theorem dX3_fetches_124 : decode cX3_fetches 124 = .ok (.ireturn, 1) := by decide +kernel
theorem dX3_writes_0 : decode cX3_writes 0 = .ok (.aload_n 0, 1) := by decide +kernel
theorem dX3_writes_1 : decode cX3_writes 1 = .ok (.getfield 25, 3) := by decide +kernel
theorem dX3_writes_4 : decode cX3_writes 4 = .ok (.ifCond .ne 15, 3) := by decide +kernel
theorem dX3_writes_7 : decode cX3_writes 7 = .ok (.aload_n 0, 1) := by decide +kernel
theorem dX3_writes_8 : decode cX3_writes 8 = .ok (.iconst (-1), 1) := by decide +kernel
theorem dX3_writes_9 : decode cX3_writes 9 = .ok (.putfield 25, 3) := by decide +kernel
theorem dX3_writes_12 : decode cX3_writes 12 = .ok (.aload_n 0, 1) := by decide +kernel
theorem dX3_writes_13 : decode cX3_writes 13 = .ok (.iconst 1, 1) := by decide +kernel
theorem dX3_writes_14 : decode cX3_writes 14 = .ok (.putfield 46, 3) := by decide +kernel
theorem dX3_writes_17 : decode cX3_writes 17 = .ok (.iconst 0, 1) := by decide +kernel
theorem dX3_writes_18 : decode cX3_writes 18 = .ok (.ireturn, 1) := by decide +kernel
theorem dX3_writes_19 : decode cX3_writes 19 = .ok (.aload_n 0, 1) := by decide +kernel
theorem dX3_writes_20 : decode cX3_writes 20 = .ok (.dup, 1) := by decide +kernel
theorem dX3_writes_21 : decode cX3_writes 21 = .ok (.getfield 25, 3) := by decide +kernel
theorem dX3_writes_24 : decode cX3_writes 24 = .ok (.aload_n 0, 1) := by decide +kernel
theorem dX3_writes_25 : decode cX3_writes 25 = .ok (.getfield 25, 3) := by decide +kernel
theorem dX3_writes_28 : decode cX3_writes 28 = .ok (.ifCond .le 7, 3) := by decide +kernel
theorem dX3_writes_31 : decode cX3_writes 31 = .ok (.iconst 1, 1) := by decide +kernel
theorem dX3_writes_32 : decode cX3_writes 32 = .ok (.goto 4, 3) := by decide +kernel
theorem dX3_writes_35 : decode cX3_writes 35 = .ok (.iconst 0, 1) := by decide +kernel
theorem dX3_writes_36 : decode cX3_writes 36 = .ok (.isub, 1) := by decide +kernel
theorem dX3_writes_37 : decode cX3_writes 37 = .ok (.putfield 25, 3) := by decide +kernel
theorem dX3_writes_40 : decode cX3_writes 40 = .ok (.iconst 1, 1) := by decide +kernel
theorem dX3_writes_41 : decode cX3_writes 41 = .ok (.ireturn, 1) := by decide +kernel
set_option maxRecDepth 20000 in
theorem ggX3_synchronizes_X3_writes : GoodIn wsX3_synchronizes wsX3_writes := goodIn_r _ [7, 8, 9, 10, 11, 12, 13, 14, 15, 16, 17, 18, 19, 20, 21] (by decide +kernel) (by decide +kernel)
set_option maxRecDepth 20000 in
theorem gX3_synchronizes_X3_writes : GoodIn wsX3_synchronizes (wsV RX3 71 RX3 yX3_writes wsX3_writes) := goodIn_app (goodIn_of _ (by decide +kernel)) ggX3_synchronizes_X3_writes
theorem dX3_synchronizes_0 : decode cX3_synchronizes 0 = .ok (.iconst 1, 1) := by decide +kernel
theorem dX3_synchronizes_1 : decode cX3_synchronizes 1 = .ok (.istore_n 1, 1) := by decide +kernel
theorem dX3_synchronizes_2 : decode cX3_synchronizes 2 = .ok (.aload_n 0, 1) := by decide +kernel
theorem dX3_synchronizes_3 : decode cX3_synchronizes 3 = .ok (.getfield 68, 3) := by decide +kernel
theorem dX3_synchronizes_6 : decode cX3_synchronizes 6 = .ok (.aload_n 0, 1) := by decide +kernel
theorem dX3_synchronizes_7 : decode cX3_synchronizes 7 = .ok (.getfield 35, 3) := by decide +kernel
theorem dX3_synchronizes_10 : decode cX3_synchronizes 10 = .ok (.if_icmp .ge 33, 3) := by decide +kernel
theorem dX3_synchronizes_13 : decode cX3_synchronizes 13 = .ok (.iload_n 1, 1) := by decide +kernel
theorem dX3_synchronizes_14 : decode cX3_synchronizes 14 = .ok (.ifCond .eq 29, 3) := by decide +kernel
theorem dX3_synchronizes_17 : decode cX3_synchronizes 17 = .ok (.aload_n 0, 1) := by decide +kernel
theorem dX3_synchronizes_18 : decode cX3_synchronizes 18 = .ok (.invokevirtual 71, 3) := by decide +kernel
theorem dX3_synchronizes_21 : decode cX3_synchronizes 21 = .ok (.istore_n 1, 1) := by decide +kernel
theorem dX3_synchronizes_22 : decode cX3_synchronizes 22 = .ok (.aload_n 0, 1) := by decide +kernel
theorem dX3_synchronizes_23 : decode cX3_synchronizes 23 = .ok (.dup, 1) := by decide +kernel
theorem dX3_synchronizes_24 : decode cX3_synchronizes 24 = .ok (.getfield 68, 3) := by decide +kernel
theorem dX3_synchronizes_27 : decode cX3_synchronizes 27 = .ok (.iload_n 1, 1) := by decide +kernel
theorem dX3_synchronizes_28 : decode cX3_synchronizes 28 = .ok (.ifCond .eq 7, 3) := by decide +kernel
theorem dX3_synchronizes_31 : decode cX3_synchronizes 31 = .ok (.iconst 1, 1) := by decide +kernel
theorem dX3_synchronizes_32 : decode cX3_synchronizes 32 = .ok (.goto 4, 3) := by decide +kernel
theorem dX3_synchronizes_35 : decode cX3_synchronizes 35 = .ok (.iconst 0, 1) := by decide +kernel
theorem dX3_synchronizes_36 : decode cX3_synchronizes 36 = .ok (.iadd, 1) := by decide +kernel
theorem dX3_synchronizes_37 : decode cX3_synchronizes 37 = .ok (.putfield 68, 3) := by decide +kernel
theorem dX3_synchronizes_40 : decode cX3_synchronizes 40 = .ok (.goto (-38), 3) := by decide +kernel
theorem dX3_synchronizes_43 : decode cX3_synchronizes 43 = .ok (.iload_n 1, 1) := by decide +kernel
theorem dX3_synchronizes_44 : decode cX3_synchronizes 44 = .ok (.ireturn, 1) := by decide +kernel
set_option maxRecDepth 20000 in
theorem ggX3_synchronize_X3_goes : GoodIn wsX3_synchronize wsX3_goes := goodIn_r _ [6, 7, 19, 20, 21, 22, 23, 24, 25, 26, 27, 28, 29, 30] (by decide +kernel) (by decide +kernel)
set_option maxRecDepth 20000 in
theorem gX3_synchronize_X3_goes : GoodIn wsX3_synchronize (wsV RX3 53 RX3 yX3_goes wsX3_goes) := goodIn_app (goodIn_of _ (by decide +kernel)) ggX3_synchronize_X3_goes
set_option maxRecDepth 20000 in
theorem ggX3_synchronize_X3_synchronizes : GoodIn wsX3_synchronize wsX3_synchronizes := goodIn_r _ [11, 12, 13, 14, 15, 16, 5, 17, 18, 1, 19, 20, 21, 22, 23, 24, 25, 26, 27, 28, 29, 30] (by decide +kernel) (by decide +kernel)
set_option maxRecDepth 20000 in
theorem gX3_synchronize_X3_synchronizes : GoodIn wsX3_synchronize (wsV RX3 75 RX3 yX3_synchronizes wsX3_synchronizes) := goodIn_app (goodIn_of _ (by decide +kernel)) ggX3_synchronize_X3_synchronizes
theorem dX3_synchronize_0 : decode cX3_synchronize 0 = .ok (.aload_n 0, 1) := by decide +kernel
theorem dX3_synchronize_1 : decode cX3_synchronize 1 = .ok (.aload_n 0, 1) := by decide +kernel
theorem dX3_synchronize_2 : decode cX3_synchronize 2 = .ok (.getfield 46, 3) := by decide +kernel
theorem dX3_synchronize_5 : decode cX3_synchronize 5 = .ok (.ifCond .ne 7, 3) := by decide +kernel
theorem dX3_synchronize_8 : decode cX3_synchronize 8 = .ok (.iconst 1, 1) := by decide +kernel
theorem dX3_synchronize_9 : decode cX3_synchronize 9 = .ok (.goto 4, 3) := by decide +kernel
theorem dX3_synchronize_12 : decode cX3_synchronize 12 = .ok (.iconst 0, 1) := by decide +kernel
theorem dX3_synchronize_13 : decode cX3_synchronize 13 = .ok (.iconst 1, 1) := by decide +kernel
theorem dX3_synchronize_14 : decode cX3_synchronize 14 = .ok (.invokevirtual 53, 3) := by decide +kernel
theorem dX3_synchronize_17 : decode cX3_synchronize 17 = .ok (.ifCond .eq 14, 3) := by decide +kernel
theorem dX3_synchronize_20 : decode cX3_synchronize 20 = .ok (.aload_n 0, 1) := by decide +kernel
theorem dX3_synchronize_21 : decode cX3_synchronize 21 = .ok (.invokevirtual 75, 3) := by decide +kernel
theorem dX3_synchronize_24 : decode cX3_synchronize 24 = .ok (.ifCond .eq 7, 3) := by decide +kernel
theorem dX3_synchronize_27 : decode cX3_synchronize 27 = .ok (.iconst 1, 1) := by decide +kernel
theorem dX3_synchronize_28 : decode cX3_synchronize 28 = .ok (.goto 4, 3) := by decide +kernel
theorem dX3_synchronize_31 : decode cX3_synchronize 31 = .ok (.iconst 0, 1) := by decide +kernel
theorem dX3_synchronize_32 : decode cX3_synchronize 32 = .ok (.ireturn, 1) := by decide +kernel
set_option maxRecDepth 20000 in
theorem ggX3_checkpoint_X3_goes : GoodIn wsX3_checkpoint wsX3_goes := goodIn_r _ [10, 11, 22, 23, 24, 25, 26, 27, 28, 29, 30, 31, 32, 33] (by decide +kernel) (by decide +kernel)
set_option maxRecDepth 20000 in
theorem gX3_checkpoint_X3_goes : GoodIn wsX3_checkpoint (wsV RX3 53 RX3 yX3_goes wsX3_goes) := goodIn_app (goodIn_of _ (by decide +kernel)) ggX3_checkpoint_X3_goes
set_option maxRecDepth 20000 in
theorem ggX3_checkpoint_X3_synchronizes : GoodIn wsX3_checkpoint wsX3_synchronizes := goodIn_r _ [15, 16, 4, 17, 18, 19, 9, 20, 21, 1, 22, 23, 24, 25, 26, 27, 28, 29, 30, 31, 32, 33] (by decide +kernel) (by decide +kernel)
set_option maxRecDepth 20000 in
theorem gX3_checkpoint_X3_synchronizes : GoodIn wsX3_checkpoint (wsV RX3 75 RX3 yX3_synchronizes wsX3_synchronizes) := goodIn_app (goodIn_of _ (by decide +kernel)) ggX3_checkpoint_X3_synchronizes
set_option maxRecDepth 20000 in
theorem ggX3_checkpoint_X3_writes : GoodIn wsX3_checkpoint wsX3_writes := goodIn_r _ [20, 21, 1, 22, 23, 24, 25, 26, 27, 28, 29, 30, 31, 32, 33] (by decide +kernel) (by decide +kernel)
set_option maxRecDepth 20000 in
theorem gX3_checkpoint_X3_writes : GoodIn wsX3_checkpoint (wsV RX3 71 RX3 yX3_writes wsX3_writes) := goodIn_app (goodIn_of _ (by decide +kernel)) ggX3_checkpoint_X3_writes
theorem dX3_checkpoint_0 : decode cX3_checkpoint 0 = .ok (.aload_n 0, 1) := by decide +kernel
theorem dX3_checkpoint_1 : decode cX3_checkpoint 1 = .ok (.aload_n 0, 1) := by decide +kernel
theorem dX3_checkpoint_2 : decode cX3_checkpoint 2 = .ok (.getfield 46, 3) := by decide +kernel
theorem dX3_checkpoint_5 : decode cX3_checkpoint 5 = .ok (.ifCond .ne 7, 3) := by decide +kernel
theorem dX3_checkpoint_8 : decode cX3_checkpoint 8 = .ok (.iconst 1, 1) := by decide +kernel
theorem dX3_checkpoint_9 : decode cX3_checkpoint 9 = .ok (.goto 4, 3) := by decide +kernel
theorem dX3_checkpoint_12 : decode cX3_checkpoint 12 = .ok (.iconst 0, 1) := by decide +kernel
theorem dX3_checkpoint_13 : decode cX3_checkpoint 13 = .ok (.iconst 1, 1) := by decide +kernel
theorem dX3_checkpoint_14 : decode cX3_checkpoint 14 = .ok (.invokevirtual 53, 3) := by decide +kernel
theorem dX3_checkpoint_17 : decode cX3_checkpoint 17 = .ok (.ifCond .eq 17, 3) := by decide +kernel
theorem dX3_checkpoint_20 : decode cX3_checkpoint 20 = .ok (.aload_n 0, 1) := by decide +kernel
theorem dX3_checkpoint_21 : decode cX3_checkpoint 21 = .ok (.invokevirtual 75, 3) := by decide +kernel
theorem dX3_checkpoint_24 : decode cX3_checkpoint 24 = .ok (.ifCond .eq 10, 3) := by decide +kernel
theorem dX3_checkpoint_27 : decode cX3_checkpoint 27 = .ok (.aload_n 0, 1) := by decide +kernel
theorem dX3_checkpoint_28 : decode cX3_checkpoint 28 = .ok (.invokevirtual 71, 3) := by decide +kernel
theorem dX3_checkpoint_31 : decode cX3_checkpoint 31 = .ok (.ifCond .ne 5, 3) := by decide +kernel
theorem dX3_checkpoint_34 : decode cX3_checkpoint 34 = .ok (.iconst 0, 1) := by decide +kernel
theorem dX3_checkpoint_35 : decode cX3_checkpoint 35 = .ok (.ireturn, 1) := by decide +kernel
theorem dX3_checkpoint_36 : decode cX3_checkpoint 36 = .ok (.iconst 0, 1) := by decide +kernel
theorem dX3_checkpoint_37 : decode cX3_checkpoint 37 = .ok (.istore_n 1, 1) := by decide +kernel
theorem dX3_checkpoint_38 : decode cX3_checkpoint 38 = .ok (.iload_n 1, 1) := by decide +kernel
theorem dX3_checkpoint_39 : decode cX3_checkpoint 39 = .ok (.bipush 64, 2) := by decide +kernel
theorem dX3_checkpoint_41 : decode cX3_checkpoint 41 = .ok (.if_icmp .ge 21, 3) := by decide +kernel
theorem dX3_checkpoint_44 : decode cX3_checkpoint 44 = .ok (.aload_n 0, 1) := by decide +kernel
theorem dX3_checkpoint_45 : decode cX3_checkpoint 45 = .ok (.getfield 19, 3) := by decide +kernel
theorem dX3_checkpoint_48 : decode cX3_checkpoint 48 = .ok (.iload_n 1, 1) := by decide +kernel
theorem dX3_checkpoint_49 : decode cX3_checkpoint 49 = .ok (.aload_n 0, 1) := by decide +kernel
theorem dX3_checkpoint_50 : decode cX3_checkpoint 50 = .ok (.getfield 16, 3) := by decide +kernel
theorem dX3_checkpoint_53 : decode cX3_checkpoint 53 = .ok (.iload_n 1, 1) := by decide +kernel
theorem dX3_checkpoint_54 : decode cX3_checkpoint 54 = .ok (.iaload, 1) := by decide +kernel
theorem dX3_checkpoint_55 : decode cX3_checkpoint 55 = .ok (.iastore, 1) := by decide +kernel
theorem dX3_checkpoint_56 : decode cX3_checkpoint 56 = .ok (.iinc 1 1, 3) := by decide +kernel
theorem dX3_checkpoint_59 : decode cX3_checkpoint 59 = .ok (.goto (-21), 3) := by decide +kernel
theorem dX3_checkpoint_62 : decode cX3_checkpoint 62 = .ok (.aload_n 0, 1) := by decide +kernel
theorem dX3_checkpoint_63 : decode cX3_checkpoint 63 = .ok (.aload_n 0, 1) := by decide +kernel
theorem dX3_checkpoint_64 : decode cX3_checkpoint 64 = .ok (.getfield 35, 3) := by decide +kernel
theorem dX3_checkpoint_67 : decode cX3_checkpoint 67 = .ok (.putfield 78, 3) := by decide +kernel
theorem dX3_checkpoint_70 : decode cX3_checkpoint 70 = .ok (.iconst 1, 1) := by decide +kernel
theorem dX3_checkpoint_71 : decode cX3_checkpoint 71 = .ok (.ireturn, 1) := by decide +kernel
theorem dX3_liveIn_0 : decode cX3_liveIn 0 = .ok (.iconst 0, 1) := by decide +kernel
theorem dX3_liveIn_1 : decode cX3_liveIn 1 = .ok (.istore_n 2, 1) := by decide +kernel
theorem dX3_liveIn_2 : decode cX3_liveIn 2 = .ok (.aload_n 0, 1) := by decide +kernel
theorem dX3_liveIn_3 : decode cX3_liveIn 3 = .ok (.getfield 32, 3) := by decide +kernel
theorem dX3_liveIn_6 : decode cX3_liveIn 6 = .ok (.istore_n 3, 1) := by decide +kernel
theorem dX3_liveIn_7 : decode cX3_liveIn 7 = .ok (.iload_n 3, 1) := by decide +kernel
theorem dX3_liveIn_8 : decode cX3_liveIn 8 = .ok (.aload_n 0, 1) := by decide +kernel
theorem dX3_liveIn_9 : decode cX3_liveIn 9 = .ok (.getfield 32, 3) := by decide +kernel
theorem dX3_liveIn_12 : decode cX3_liveIn 12 = .ok (.iload_n 1, 1) := by decide +kernel
theorem dX3_liveIn_13 : decode cX3_liveIn 13 = .ok (.iadd, 1) := by decide +kernel
theorem dX3_liveIn_14 : decode cX3_liveIn 14 = .ok (.if_icmp .ge 36, 3) := by decide +kernel
theorem dX3_liveIn_17 : decode cX3_liveIn 17 = .ok (.iload_n 2, 1) := by decide +kernel
theorem dX3_liveIn_18 : decode cX3_liveIn 18 = .ok (.aload_n 0, 1) := by decide +kernel
theorem dX3_liveIn_19 : decode cX3_liveIn 19 = .ok (.getfield 16, 3) := by decide +kernel
theorem dX3_liveIn_22 : decode cX3_liveIn 22 = .ok (.aload_n 0, 1) := by decide +kernel
theorem dX3_liveIn_23 : decode cX3_liveIn 23 = .ok (.getfield 7, 3) := by decide +kernel
theorem dX3_liveIn_26 : decode cX3_liveIn 26 = .ok (.iload_n 3, 1) := by decide +kernel
theorem dX3_liveIn_27 : decode cX3_liveIn 27 = .ok (.sipush 128, 3) := by decide +kernel
theorem dX3_liveIn_30 : decode cX3_liveIn 30 = .ok (.irem, 1) := by decide +kernel
theorem dX3_liveIn_31 : decode cX3_liveIn 31 = .ok (.iaload, 1) := by decide +kernel
theorem dX3_liveIn_32 : decode cX3_liveIn 32 = .ok (.iaload, 1) := by decide +kernel
theorem dX3_liveIn_33 : decode cX3_liveIn 33 = .ok (.iload_n 3, 1) := by decide +kernel
theorem dX3_liveIn_34 : decode cX3_liveIn 34 = .ok (.if_icmp .ne 7, 3) := by decide +kernel
theorem dX3_liveIn_37 : decode cX3_liveIn 37 = .ok (.iconst 1, 1) := by decide +kernel
theorem dX3_liveIn_38 : decode cX3_liveIn 38 = .ok (.goto 4, 3) := by decide +kernel
theorem dX3_liveIn_41 : decode cX3_liveIn 41 = .ok (.iconst 0, 1) := by decide +kernel
theorem dX3_liveIn_42 : decode cX3_liveIn 42 = .ok (.iadd, 1) := by decide +kernel
theorem dX3_liveIn_43 : decode cX3_liveIn 43 = .ok (.istore_n 2, 1) := by decide +kernel
theorem dX3_liveIn_44 : decode cX3_liveIn 44 = .ok (.iinc 3 1, 3) := by decide +kernel
theorem dX3_liveIn_47 : decode cX3_liveIn 47 = .ok (.goto (-40), 3) := by decide +kernel
theorem dX3_liveIn_50 : decode cX3_liveIn 50 = .ok (.iload_n 2, 1) := by decide +kernel
theorem dX3_liveIn_51 : decode cX3_liveIn 51 = .ok (.ireturn, 1) := by decide +kernel
set_option maxRecDepth 20000 in
theorem ggX3_collect_X3_liveIn : GoodIn wsX3_collect wsX3_liveIn := goodIn_r _ [11, 3, 5, 4, 38, 39, 40, 41, 42, 43, 44, 45, 46, 47, 48, 49] (by decide +kernel) (by decide +kernel)
set_option maxRecDepth 20000 in
theorem gX3_collect_X3_liveIn : GoodIn wsX3_collect (wsV RX3 81 RX3 yX3_liveIn wsX3_liveIn) := goodIn_app (goodIn_of _ (by decide +kernel)) ggX3_collect_X3_liveIn
set_option maxRecDepth 20000 in
theorem ggX3_collect_X3_canAppend : GoodIn wsX3_collect wsX3_canAppend := goodIn_r _ [15, 3, 2, 16, 17, 10, 18, 38, 39, 40, 41, 42, 43, 44, 45, 46, 47, 48, 49] (by decide +kernel) (by decide +kernel)
set_option maxRecDepth 20000 in
theorem gX3_collect_X3_canAppend : GoodIn wsX3_collect (wsV RX3 50 RX3 yX3_canAppend wsX3_canAppend) := goodIn_app (goodIn_of _ (by decide +kernel)) ggX3_collect_X3_canAppend
set_option maxRecDepth 20000 in
theorem ggX3_collect_X3_goes : GoodIn wsX3_collect wsX3_goes := goodIn_r _ [22, 23, 38, 39, 40, 41, 42, 43, 44, 45, 46, 47, 48, 49] (by decide +kernel) (by decide +kernel)
set_option maxRecDepth 20000 in
theorem gX3_collect_X3_goes : GoodIn wsX3_collect (wsV RX3 53 RX3 yX3_goes wsX3_goes) := goodIn_app (goodIn_of _ (by decide +kernel)) ggX3_collect_X3_goes
set_option maxRecDepth 20000 in
theorem ggX3_collect_X3_appends : GoodIn wsX3_collect wsX3_appends := goodIn_r _ [27, 4, 2, 6, 38, 39, 40, 41, 42, 43, 44, 45, 46, 47, 48, 49] (by decide +kernel) (by decide +kernel)
set_option maxRecDepth 20000 in
theorem gX3_collect_X3_appends : GoodIn wsX3_collect (wsV RX3 57 RX3 yX3_appends wsX3_appends) := goodIn_app (goodIn_of _ (by decide +kernel)) ggX3_collect_X3_appends
set_option maxRecDepth 20000 in
theorem ggX3_collect_X3_synchronizes : GoodIn wsX3_collect wsX3_synchronizes := goodIn_r _ [31, 32, 2, 33, 34, 35, 10, 36, 37, 1, 38, 39, 40, 41, 42, 43, 44, 45, 46, 47, 48, 49] (by decide +kernel) (by decide +kernel)
set_option maxRecDepth 20000 in
theorem gX3_collect_X3_synchronizes : GoodIn wsX3_collect (wsV RX3 75 RX3 yX3_synchronizes wsX3_synchronizes) := goodIn_app (goodIn_of _ (by decide +kernel)) ggX3_collect_X3_synchronizes
set_option maxRecDepth 20000 in
theorem ggX3_collect_X3_writes : GoodIn wsX3_collect wsX3_writes := goodIn_r _ [36, 37, 1, 38, 39, 40, 41, 42, 43, 44, 45, 46, 47, 48, 49] (by decide +kernel) (by decide +kernel)
set_option maxRecDepth 20000 in
theorem gX3_collect_X3_writes : GoodIn wsX3_collect (wsV RX3 71 RX3 yX3_writes wsX3_writes) := goodIn_app (goodIn_of _ (by decide +kernel)) ggX3_collect_X3_writes
theorem dX3_collect_0 : decode cX3_collect 0 = .ok (.iload_n 1, 1) := by decide +kernel
theorem dX3_collect_1 : decode cX3_collect 1 = .ok (.iconst 1, 1) := by decide +kernel
theorem dX3_collect_2 : decode cX3_collect 2 = .ok (.if_icmp .lt 13, 3) := by decide +kernel
theorem dX3_collect_5 : decode cX3_collect 5 = .ok (.iload_n 1, 1) := by decide +kernel
theorem dX3_collect_6 : decode cX3_collect 6 = .ok (.bipush 96, 2) := by decide +kernel
theorem dX3_collect_8 : decode cX3_collect 8 = .ok (.if_icmp .gt 7, 3) := by decide +kernel
theorem dX3_collect_11 : decode cX3_collect 11 = .ok (.iconst 1, 1) := by decide +kernel
theorem dX3_collect_12 : decode cX3_collect 12 = .ok (.goto 4, 3) := by decide +kernel
theorem dX3_collect_15 : decode cX3_collect 15 = .ok (.iconst 0, 1) := by decide +kernel
theorem dX3_collect_16 : decode cX3_collect 16 = .ok (.istore_n 2, 1) := by decide +kernel
theorem dX3_collect_17 : decode cX3_collect 17 = .ok (.aload_n 0, 1) := by decide +kernel
theorem dX3_collect_18 : decode cX3_collect 18 = .ok (.iload_n 2, 1) := by decide +kernel
theorem dX3_collect_19 : decode cX3_collect 19 = .ok (.iload_n 2, 1) := by decide +kernel
theorem dX3_collect_20 : decode cX3_collect 20 = .ok (.ifCond .eq 39, 3) := by decide +kernel
theorem dX3_collect_23 : decode cX3_collect 23 = .ok (.aload_n 0, 1) := by decide +kernel
theorem dX3_collect_24 : decode cX3_collect 24 = .ok (.getfield 46, 3) := by decide +kernel
theorem dX3_collect_27 : decode cX3_collect 27 = .ok (.ifCond .ne 32, 3) := by decide +kernel
theorem dX3_collect_30 : decode cX3_collect 30 = .ok (.aload_n 0, 1) := by decide +kernel
theorem dX3_collect_31 : decode cX3_collect 31 = .ok (.getfield 35, 3) := by decide +kernel
theorem dX3_collect_34 : decode cX3_collect 34 = .ok (.aload_n 0, 1) := by decide +kernel
theorem dX3_collect_35 : decode cX3_collect 35 = .ok (.getfield 32, 3) := by decide +kernel
theorem dX3_collect_38 : decode cX3_collect 38 = .ok (.isub, 1) := by decide +kernel
theorem dX3_collect_39 : decode cX3_collect 39 = .ok (.iload_n 1, 1) := by decide +kernel
theorem dX3_collect_40 : decode cX3_collect 40 = .ok (.if_icmp .lt 19, 3) := by decide +kernel
theorem dX3_collect_43 : decode cX3_collect 43 = .ok (.aload_n 0, 1) := by decide +kernel
theorem dX3_collect_44 : decode cX3_collect 44 = .ok (.aload_n 0, 1) := by decide +kernel
theorem dX3_collect_45 : decode cX3_collect 45 = .ok (.iload_n 1, 1) := by decide +kernel
theorem dX3_collect_46 : decode cX3_collect 46 = .ok (.invokevirtual 81, 3) := by decide +kernel
theorem dX3_collect_49 : decode cX3_collect 49 = .ok (.invokevirtual 50, 3) := by decide +kernel
theorem dX3_collect_52 : decode cX3_collect 52 = .ok (.ifCond .eq 7, 3) := by decide +kernel
theorem dX3_collect_55 : decode cX3_collect 55 = .ok (.iconst 1, 1) := by decide +kernel
theorem dX3_collect_56 : decode cX3_collect 56 = .ok (.goto 4, 3) := by decide +kernel
theorem dX3_collect_59 : decode cX3_collect 59 = .ok (.iconst 0, 1) := by decide +kernel
theorem dX3_collect_60 : decode cX3_collect 60 = .ok (.invokevirtual 53, 3) := by decide +kernel
theorem dX3_collect_63 : decode cX3_collect 63 = .ok (.ifCond .ne 5, 3) := by decide +kernel
theorem dX3_collect_66 : decode cX3_collect 66 = .ok (.iconst 0, 1) := by decide +kernel
theorem dX3_collect_67 : decode cX3_collect 67 = .ok (.ireturn, 1) := by decide +kernel
theorem dX3_collect_68 : decode cX3_collect 68 = .ok (.aload_n 0, 1) := by decide +kernel
theorem dX3_collect_69 : decode cX3_collect 69 = .ok (.getfield 32, 3) := by decide +kernel
theorem dX3_collect_72 : decode cX3_collect 72 = .ok (.istore_n 3, 1) := by decide +kernel
theorem dX3_collect_73 : decode cX3_collect 73 = .ok (.iload_n 3, 1) := by decide +kernel
theorem dX3_collect_74 : decode cX3_collect 74 = .ok (.aload_n 0, 1) := by decide +kernel
theorem dX3_collect_75 : decode cX3_collect 75 = .ok (.getfield 32, 3) := by decide +kernel
theorem dX3_collect_78 : decode cX3_collect 78 = .ok (.iload_n 1, 1) := by decide +kernel
theorem dX3_collect_79 : decode cX3_collect 79 = .ok (.iadd, 1) := by decide +kernel
theorem dX3_collect_80 : decode cX3_collect 80 = .ok (.if_icmp .ge 55, 3) := by decide +kernel
theorem dX3_collect_83 : decode cX3_collect 83 = .ok (.aload_n 0, 1) := by decide +kernel
theorem dX3_collect_84 : decode cX3_collect 84 = .ok (.getfield 7, 3) := by decide +kernel
theorem dX3_collect_87 : decode cX3_collect 87 = .ok (.iload_n 3, 1) := by decide +kernel
theorem dX3_collect_88 : decode cX3_collect 88 = .ok (.sipush 128, 3) := by decide +kernel
theorem dX3_collect_91 : decode cX3_collect 91 = .ok (.irem, 1) := by decide +kernel
theorem dX3_collect_92 : decode cX3_collect 92 = .ok (.iaload, 1) := by decide +kernel
theorem dX3_collect_93 : decode cX3_collect 93 = .ok (.istore 4, 2) := by decide +kernel
theorem dX3_collect_95 : decode cX3_collect 95 = .ok (.aload_n 0, 1) := by decide +kernel
theorem dX3_collect_96 : decode cX3_collect 96 = .ok (.getfield 16, 3) := by decide +kernel
theorem dX3_collect_99 : decode cX3_collect 99 = .ok (.iload 4, 2) := by decide +kernel
theorem dX3_collect_101 : decode cX3_collect 101 = .ok (.iaload, 1) := by decide +kernel
theorem dX3_collect_102 : decode cX3_collect 102 = .ok (.iload_n 3, 1) := by decide +kernel
theorem dX3_collect_103 : decode cX3_collect 103 = .ok (.if_icmp .ne 26, 3) := by decide +kernel
theorem dX3_collect_106 : decode cX3_collect 106 = .ok (.aload_n 0, 1) := by decide +kernel
theorem dX3_collect_107 : decode cX3_collect 107 = .ok (.getfield 16, 3) := by decide +kernel
theorem dX3_collect_110 : decode cX3_collect 110 = .ok (.iload 4, 2) := by decide +kernel
theorem dX3_collect_112 : decode cX3_collect 112 = .ok (.aload_n 0, 1) := by decide +kernel
theorem dX3_collect_113 : decode cX3_collect 113 = .ok (.iload 4, 2) := by decide +kernel
theorem dX3_collect_115 : decode cX3_collect 115 = .ok (.aload_n 0, 1) := by decide +kernel
theorem dX3_collect_116 : decode cX3_collect 116 = .ok (.getfield 13, 3) := by decide +kernel
theorem dX3_collect_119 : decode cX3_collect 119 = .ok (.iload_n 3, 1) := by decide +kernel
theorem dX3_collect_120 : decode cX3_collect 120 = .ok (.sipush 128, 3) := by decide +kernel
theorem dX3_collect_123 : decode cX3_collect 123 = .ok (.irem, 1) := by decide +kernel
theorem dX3_collect_124 : decode cX3_collect 124 = .ok (.iaload, 1) := by decide +kernel
theorem dX3_collect_125 : decode cX3_collect 125 = .ok (.invokevirtual 57, 3) := by decide +kernel
theorem dX3_collect_128 : decode cX3_collect 128 = .ok (.iastore, 1) := by decide +kernel
theorem dX3_collect_129 : decode cX3_collect 129 = .ok (.iinc 3 1, 3) := by decide +kernel
theorem dX3_collect_132 : decode cX3_collect 132 = .ok (.goto (-59), 3) := by decide +kernel
theorem dX3_collect_135 : decode cX3_collect 135 = .ok (.aload_n 0, 1) := by decide +kernel
theorem dX3_collect_136 : decode cX3_collect 136 = .ok (.invokevirtual 75, 3) := by decide +kernel
theorem dX3_collect_139 : decode cX3_collect 139 = .ok (.ifCond .eq 10, 3) := by decide +kernel
theorem dX3_collect_142 : decode cX3_collect 142 = .ok (.aload_n 0, 1) := by decide +kernel
theorem dX3_collect_143 : decode cX3_collect 143 = .ok (.invokevirtual 71, 3) := by decide +kernel
theorem dX3_collect_146 : decode cX3_collect 146 = .ok (.ifCond .ne 5, 3) := by decide +kernel
theorem dX3_collect_149 : decode cX3_collect 149 = .ok (.iconst 0, 1) := by decide +kernel
theorem dX3_collect_150 : decode cX3_collect 150 = .ok (.ireturn, 1) := by decide +kernel
theorem dX3_collect_151 : decode cX3_collect 151 = .ok (.aload_n 0, 1) := by decide +kernel
theorem dX3_collect_152 : decode cX3_collect 152 = .ok (.dup, 1) := by decide +kernel
theorem dX3_collect_153 : decode cX3_collect 153 = .ok (.getfield 32, 3) := by decide +kernel
theorem dX3_collect_156 : decode cX3_collect 156 = .ok (.iload_n 1, 1) := by decide +kernel
theorem dX3_collect_157 : decode cX3_collect 157 = .ok (.iadd, 1) := by decide +kernel
theorem dX3_collect_158 : decode cX3_collect 158 = .ok (.putfield 32, 3) := by decide +kernel
theorem dX3_collect_161 : decode cX3_collect 161 = .ok (.iconst 1, 1) := by decide +kernel
theorem dX3_collect_162 : decode cX3_collect 162 = .ok (.ireturn, 1) := by decide +kernel
set_option maxRecDepth 20000 in
theorem ggX3_failAfter_X3_goes : GoodIn wsX3_failAfter wsX3_goes := goodIn_r _ [6, 7, 8, 9, 10, 11, 12, 13, 14, 15, 16, 17, 18, 19] (by decide +kernel) (by decide +kernel)
set_option maxRecDepth 20000 in
theorem gX3_failAfter_X3_goes : GoodIn wsX3_failAfter (wsV RX3 53 RX3 yX3_goes wsX3_goes) := goodIn_app (goodIn_of _ (by decide +kernel)) ggX3_failAfter_X3_goes
theorem dX3_failAfter_0 : decode cX3_failAfter 0 = .ok (.aload_n 0, 1) := by decide +kernel
theorem dX3_failAfter_1 : decode cX3_failAfter 1 = .ok (.iload_n 1, 1) := by decide +kernel
theorem dX3_failAfter_2 : decode cX3_failAfter 2 = .ok (.iconst (-1), 1) := by decide +kernel
theorem dX3_failAfter_3 : decode cX3_failAfter 3 = .ok (.if_icmp .lt 14, 3) := by decide +kernel
theorem dX3_failAfter_6 : decode cX3_failAfter 6 = .ok (.iload_n 1, 1) := by decide +kernel
theorem dX3_failAfter_7 : decode cX3_failAfter 7 = .ok (.sipush 1000, 3) := by decide +kernel
theorem dX3_failAfter_10 : decode cX3_failAfter 10 = .ok (.if_icmp .gt 7, 3) := by decide +kernel
theorem dX3_failAfter_13 : decode cX3_failAfter 13 = .ok (.iconst 1, 1) := by decide +kernel
theorem dX3_failAfter_14 : decode cX3_failAfter 14 = .ok (.goto 4, 3) := by decide +kernel
theorem dX3_failAfter_17 : decode cX3_failAfter 17 = .ok (.iconst 0, 1) := by decide +kernel
theorem dX3_failAfter_18 : decode cX3_failAfter 18 = .ok (.iconst 1, 1) := by decide +kernel
theorem dX3_failAfter_19 : decode cX3_failAfter 19 = .ok (.invokevirtual 53, 3) := by decide +kernel
theorem dX3_failAfter_22 : decode cX3_failAfter 22 = .ok (.ifCond .eq 8, 3) := by decide +kernel
theorem dX3_failAfter_25 : decode cX3_failAfter 25 = .ok (.aload_n 0, 1) := by decide +kernel
theorem dX3_failAfter_26 : decode cX3_failAfter 26 = .ok (.iload_n 1, 1) := by decide +kernel
theorem dX3_failAfter_27 : decode cX3_failAfter 27 = .ok (.putfield 25, 3) := by decide +kernel
theorem dX3_failAfter_30 : decode cX3_failAfter 30 = .ok (.return_, 1) := by decide +kernel
set_option maxRecDepth 20000 in
theorem ggX3_crash_X3_goes : GoodIn wsX3_crash wsX3_goes := goodIn_r _ [8, 9, 10, 11, 12, 13, 14, 15, 16, 17, 18, 19, 20, 21] (by decide +kernel) (by decide +kernel)
set_option maxRecDepth 20000 in
theorem gX3_crash_X3_goes : GoodIn wsX3_crash (wsV RX3 53 RX3 yX3_goes wsX3_goes) := goodIn_app (goodIn_of _ (by decide +kernel)) ggX3_crash_X3_goes
theorem dX3_crash_0 : decode cX3_crash 0 = .ok (.aload_n 0, 1) := by decide +kernel
theorem dX3_crash_1 : decode cX3_crash 1 = .ok (.aload_n 0, 1) := by decide +kernel
theorem dX3_crash_2 : decode cX3_crash 2 = .ok (.getfield 46, 3) := by decide +kernel
theorem dX3_crash_5 : decode cX3_crash 5 = .ok (.ifCond .ne 7, 3) := by decide +kernel
theorem dX3_crash_8 : decode cX3_crash 8 = .ok (.iconst 1, 1) := by decide +kernel
theorem dX3_crash_9 : decode cX3_crash 9 = .ok (.goto 4, 3) := by decide +kernel
theorem dX3_crash_12 : decode cX3_crash 12 = .ok (.iconst 0, 1) := by decide +kernel
theorem dX3_crash_13 : decode cX3_crash 13 = .ok (.iconst 1, 1) := by decide +kernel
theorem dX3_crash_14 : decode cX3_crash 14 = .ok (.invokevirtual 53, 3) := by decide +kernel
theorem dX3_crash_17 : decode cX3_crash 17 = .ok (.ifCond .ne 5, 3) := by decide +kernel
theorem dX3_crash_20 : decode cX3_crash 20 = .ok (.iconst 0, 1) := by decide +kernel
theorem dX3_crash_21 : decode cX3_crash 21 = .ok (.ireturn, 1) := by decide +kernel
theorem dX3_crash_22 : decode cX3_crash 22 = .ok (.aload_n 0, 1) := by decide +kernel
theorem dX3_crash_23 : decode cX3_crash 23 = .ok (.iconst 1, 1) := by decide +kernel
theorem dX3_crash_24 : decode cX3_crash 24 = .ok (.putfield 46, 3) := by decide +kernel
theorem dX3_crash_27 : decode cX3_crash 27 = .ok (.aload_n 0, 1) := by decide +kernel
theorem dX3_crash_28 : decode cX3_crash 28 = .ok (.getfield 35, 3) := by decide +kernel
theorem dX3_crash_31 : decode cX3_crash 31 = .ok (.aload_n 0, 1) := by decide +kernel
theorem dX3_crash_32 : decode cX3_crash 32 = .ok (.getfield 68, 3) := by decide +kernel
theorem dX3_crash_35 : decode cX3_crash 35 = .ok (.isub, 1) := by decide +kernel
theorem dX3_crash_36 : decode cX3_crash 36 = .ok (.ireturn, 1) := by decide +kernel
theorem dX3_recovers_0 : decode cX3_recovers 0 = .ok (.iconst 0, 1) := by decide +kernel
theorem dX3_recovers_1 : decode cX3_recovers 1 = .ok (.istore_n 1, 1) := by decide +kernel
theorem dX3_recovers_2 : decode cX3_recovers 2 = .ok (.iload_n 1, 1) := by decide +kernel
theorem dX3_recovers_3 : decode cX3_recovers 3 = .ok (.bipush 64, 2) := by decide +kernel
theorem dX3_recovers_5 : decode cX3_recovers 5 = .ok (.if_icmp .ge 38, 3) := by decide +kernel
theorem dX3_recovers_8 : decode cX3_recovers 8 = .ok (.aload_n 0, 1) := by decide +kernel
theorem dX3_recovers_9 : decode cX3_recovers 9 = .ok (.getfield 22, 3) := by decide +kernel
theorem dX3_recovers_12 : decode cX3_recovers 12 = .ok (.iload_n 1, 1) := by decide +kernel
theorem dX3_recovers_13 : decode cX3_recovers 13 = .ok (.aload_n 0, 1) := by decide +kernel
theorem dX3_recovers_14 : decode cX3_recovers 14 = .ok (.getfield 19, 3) := by decide +kernel
theorem dX3_recovers_17 : decode cX3_recovers 17 = .ok (.iload_n 1, 1) := by decide +kernel
theorem dX3_recovers_18 : decode cX3_recovers 18 = .ok (.iaload, 1) := by decide +kernel
theorem dX3_recovers_19 : decode cX3_recovers 19 = .ok (.aload_n 0, 1) := by decide +kernel
theorem dX3_recovers_20 : decode cX3_recovers 20 = .ok (.getfield 32, 3) := by decide +kernel
theorem dX3_recovers_23 : decode cX3_recovers 23 = .ok (.if_icmp .ge 7, 3) := by decide +kernel
theorem dX3_recovers_26 : decode cX3_recovers 26 = .ok (.iconst (-1), 1) := by decide +kernel
theorem dX3_recovers_27 : decode cX3_recovers 27 = .ok (.goto 9, 3) := by decide +kernel
theorem dX3_recovers_30 : decode cX3_recovers 30 = .ok (.aload_n 0, 1) := by decide +kernel
theorem dX3_recovers_31 : decode cX3_recovers 31 = .ok (.getfield 19, 3) := by decide +kernel
theorem dX3_recovers_34 : decode cX3_recovers 34 = .ok (.iload_n 1, 1) := by decide +kernel
theorem dX3_recovers_35 : decode cX3_recovers 35 = .ok (.iaload, 1) := by decide +kernel
theorem dX3_recovers_36 : decode cX3_recovers 36 = .ok (.iastore, 1) := by decide +kernel
theorem dX3_recovers_37 : decode cX3_recovers 37 = .ok (.iinc 1 1, 3) := by decide +kernel
theorem dX3_recovers_40 : decode cX3_recovers 40 = .ok (.goto (-38), 3) := by decide +kernel
theorem dX3_recovers_43 : decode cX3_recovers 43 = .ok (.aload_n 0, 1) := by decide +kernel
theorem dX3_recovers_44 : decode cX3_recovers 44 = .ok (.getfield 78, 3) := by decide +kernel
theorem dX3_recovers_47 : decode cX3_recovers 47 = .ok (.aload_n 0, 1) := by decide +kernel
theorem dX3_recovers_48 : decode cX3_recovers 48 = .ok (.getfield 32, 3) := by decide +kernel
theorem dX3_recovers_51 : decode cX3_recovers 51 = .ok (.if_icmp .le 10, 3) := by decide +kernel
theorem dX3_recovers_54 : decode cX3_recovers 54 = .ok (.aload_n 0, 1) := by decide +kernel
theorem dX3_recovers_55 : decode cX3_recovers 55 = .ok (.getfield 78, 3) := by decide +kernel
theorem dX3_recovers_58 : decode cX3_recovers 58 = .ok (.goto 7, 3) := by decide +kernel
theorem dX3_recovers_61 : decode cX3_recovers 61 = .ok (.aload_n 0, 1) := by decide +kernel
theorem dX3_recovers_62 : decode cX3_recovers 62 = .ok (.getfield 32, 3) := by decide +kernel
theorem dX3_recovers_65 : decode cX3_recovers 65 = .ok (.istore_n 1, 1) := by decide +kernel
theorem dX3_recovers_66 : decode cX3_recovers 66 = .ok (.iload_n 1, 1) := by decide +kernel
theorem dX3_recovers_67 : decode cX3_recovers 67 = .ok (.aload_n 0, 1) := by decide +kernel
theorem dX3_recovers_68 : decode cX3_recovers 68 = .ok (.getfield 68, 3) := by decide +kernel
theorem dX3_recovers_71 : decode cX3_recovers 71 = .ok (.if_icmp .ge 42, 3) := by decide +kernel
theorem dX3_recovers_74 : decode cX3_recovers 74 = .ok (.aload_n 0, 1) := by decide +kernel
theorem dX3_recovers_75 : decode cX3_recovers 75 = .ok (.getfield 22, 3) := by decide +kernel
theorem dX3_recovers_78 : decode cX3_recovers 78 = .ok (.aload_n 0, 1) := by decide +kernel
theorem dX3_recovers_79 : decode cX3_recovers 79 = .ok (.getfield 7, 3) := by decide +kernel
theorem dX3_recovers_82 : decode cX3_recovers 82 = .ok (.iload_n 1, 1) := by decide +kernel
theorem dX3_recovers_83 : decode cX3_recovers 83 = .ok (.sipush 128, 3) := by decide +kernel
theorem dX3_recovers_86 : decode cX3_recovers 86 = .ok (.irem, 1) := by decide +kernel
theorem dX3_recovers_87 : decode cX3_recovers 87 = .ok (.iaload, 1) := by decide +kernel
theorem dX3_recovers_88 : decode cX3_recovers 88 = .ok (.aload_n 0, 1) := by decide +kernel
theorem dX3_recovers_89 : decode cX3_recovers 89 = .ok (.getfield 13, 3) := by decide +kernel
theorem dX3_recovers_92 : decode cX3_recovers 92 = .ok (.iload_n 1, 1) := by decide +kernel
theorem dX3_recovers_93 : decode cX3_recovers 93 = .ok (.sipush 128, 3) := by decide +kernel
theorem dX3_recovers_96 : decode cX3_recovers 96 = .ok (.irem, 1) := by decide +kernel
theorem dX3_recovers_97 : decode cX3_recovers 97 = .ok (.iaload, 1) := by decide +kernel
theorem dX3_recovers_98 : decode cX3_recovers 98 = .ok (.ifCond .ge 7, 3) := by decide +kernel
theorem dX3_recovers_101 : decode cX3_recovers 101 = .ok (.iconst (-1), 1) := by decide +kernel
theorem dX3_recovers_102 : decode cX3_recovers 102 = .ok (.goto 4, 3) := by decide +kernel
theorem dX3_recovers_105 : decode cX3_recovers 105 = .ok (.iload_n 1, 1) := by decide +kernel
theorem dX3_recovers_106 : decode cX3_recovers 106 = .ok (.iastore, 1) := by decide +kernel
theorem dX3_recovers_107 : decode cX3_recovers 107 = .ok (.iinc 1 1, 3) := by decide +kernel
theorem dX3_recovers_110 : decode cX3_recovers 110 = .ok (.goto (-44), 3) := by decide +kernel
theorem dX3_recovers_113 : decode cX3_recovers 113 = .ok (.iconst 0, 1) := by decide +kernel
theorem dX3_recovers_114 : decode cX3_recovers 114 = .ok (.istore_n 1, 1) := by decide +kernel
theorem dX3_recovers_115 : decode cX3_recovers 115 = .ok (.iconst 0, 1) := by decide +kernel
theorem dX3_recovers_116 : decode cX3_recovers 116 = .ok (.istore_n 2, 1) := by decide +kernel
theorem dX3_recovers_117 : decode cX3_recovers 117 = .ok (.iload_n 2, 1) := by decide +kernel
theorem dX3_recovers_118 : decode cX3_recovers 118 = .ok (.bipush 64, 2) := by decide +kernel
theorem dX3_recovers_120 : decode cX3_recovers 120 = .ok (.if_icmp .ge 26, 3) := by decide +kernel
theorem dX3_recovers_123 : decode cX3_recovers 123 = .ok (.iload_n 1, 1) := by decide +kernel
theorem dX3_recovers_124 : decode cX3_recovers 124 = .ok (.aload_n 0, 1) := by decide +kernel
theorem dX3_recovers_125 : decode cX3_recovers 125 = .ok (.getfield 22, 3) := by decide +kernel
theorem dX3_recovers_128 : decode cX3_recovers 128 = .ok (.iload_n 2, 1) := by decide +kernel
theorem dX3_recovers_129 : decode cX3_recovers 129 = .ok (.iaload, 1) := by decide +kernel
theorem dX3_recovers_130 : decode cX3_recovers 130 = .ok (.ifCond .lt 7, 3) := by decide +kernel
theorem dX3_recovers_133 : decode cX3_recovers 133 = .ok (.iconst 1, 1) := by decide +kernel
theorem dX3_recovers_134 : decode cX3_recovers 134 = .ok (.goto 4, 3) := by decide +kernel
theorem dX3_recovers_137 : decode cX3_recovers 137 = .ok (.iconst 0, 1) := by decide +kernel
theorem dX3_recovers_138 : decode cX3_recovers 138 = .ok (.iadd, 1) := by decide +kernel
theorem dX3_recovers_139 : decode cX3_recovers 139 = .ok (.istore_n 1, 1) := by decide +kernel
theorem dX3_recovers_140 : decode cX3_recovers 140 = .ok (.iinc 2 1, 3) := by decide +kernel
theorem dX3_recovers_143 : decode cX3_recovers 143 = .ok (.goto (-26), 3) := by decide +kernel
theorem dX3_recovers_146 : decode cX3_recovers 146 = .ok (.iload_n 1, 1) := by decide +kernel
theorem dX3_recovers_147 : decode cX3_recovers 147 = .ok (.ireturn, 1) := by decide +kernel
set_option maxRecDepth 20000 in
theorem ggX3_start_X3_goes : GoodIn wsX3_start wsX3_goes := goodIn_r _ [10, 11, 21, 22, 23, 24, 25, 26, 27, 28, 29, 30, 31, 32] (by decide +kernel) (by decide +kernel)
set_option maxRecDepth 20000 in
theorem gX3_start_X3_goes : GoodIn wsX3_start (wsV RX3 53 RX3 yX3_goes wsX3_goes) := goodIn_app (goodIn_of _ (by decide +kernel)) ggX3_start_X3_goes
set_option maxRecDepth 20000 in
theorem ggX3_start_X3_recovers : GoodIn wsX3_start wsX3_recovers := goodIn_r _ [15, 3, 16, 17, 18, 4, 19, 20, 21, 22, 23, 24, 25, 26, 27, 28, 29, 30, 31, 32] (by decide +kernel) (by decide +kernel)
set_option maxRecDepth 20000 in
theorem gX3_start_X3_recovers : GoodIn wsX3_start (wsV RX3 84 RX3 yX3_recovers wsX3_recovers) := goodIn_app (goodIn_of _ (by decide +kernel)) ggX3_start_X3_recovers
theorem dX3_start_0 : decode cX3_start 0 = .ok (.aload_n 0, 1) := by decide +kernel
theorem dX3_start_1 : decode cX3_start 1 = .ok (.aload_n 0, 1) := by decide +kernel
theorem dX3_start_2 : decode cX3_start 2 = .ok (.getfield 46, 3) := by decide +kernel
theorem dX3_start_5 : decode cX3_start 5 = .ok (.iconst 1, 1) := by decide +kernel
theorem dX3_start_6 : decode cX3_start 6 = .ok (.invokevirtual 53, 3) := by decide +kernel
theorem dX3_start_9 : decode cX3_start 9 = .ok (.ifCond .ne 5, 3) := by decide +kernel
theorem dX3_start_12 : decode cX3_start 12 = .ok (.iconst 0, 1) := by decide +kernel
theorem dX3_start_13 : decode cX3_start 13 = .ok (.ireturn, 1) := by decide +kernel
theorem dX3_start_14 : decode cX3_start 14 = .ok (.aload_n 0, 1) := by decide +kernel
theorem dX3_start_15 : decode cX3_start 15 = .ok (.invokevirtual 84, 3) := by decide +kernel
theorem dX3_start_18 : decode cX3_start 18 = .ok (.istore_n 1, 1) := by decide +kernel
theorem dX3_start_19 : decode cX3_start 19 = .ok (.iconst 0, 1) := by decide +kernel
theorem dX3_start_20 : decode cX3_start 20 = .ok (.istore_n 2, 1) := by decide +kernel
theorem dX3_start_21 : decode cX3_start 21 = .ok (.iload_n 2, 1) := by decide +kernel
theorem dX3_start_22 : decode cX3_start 22 = .ok (.bipush 64, 2) := by decide +kernel
theorem dX3_start_24 : decode cX3_start 24 = .ok (.if_icmp .ge 21, 3) := by decide +kernel
theorem dX3_start_27 : decode cX3_start 27 = .ok (.aload_n 0, 1) := by decide +kernel
theorem dX3_start_28 : decode cX3_start 28 = .ok (.getfield 16, 3) := by decide +kernel
theorem dX3_start_31 : decode cX3_start 31 = .ok (.iload_n 2, 1) := by decide +kernel
theorem dX3_start_32 : decode cX3_start 32 = .ok (.aload_n 0, 1) := by decide +kernel
theorem dX3_start_33 : decode cX3_start 33 = .ok (.getfield 22, 3) := by decide +kernel
theorem dX3_start_36 : decode cX3_start 36 = .ok (.iload_n 2, 1) := by decide +kernel
theorem dX3_start_37 : decode cX3_start 37 = .ok (.iaload, 1) := by decide +kernel
theorem dX3_start_38 : decode cX3_start 38 = .ok (.iastore, 1) := by decide +kernel
theorem dX3_start_39 : decode cX3_start 39 = .ok (.iinc 2 1, 3) := by decide +kernel
theorem dX3_start_42 : decode cX3_start 42 = .ok (.goto (-21), 3) := by decide +kernel
theorem dX3_start_45 : decode cX3_start 45 = .ok (.aload_n 0, 1) := by decide +kernel
theorem dX3_start_46 : decode cX3_start 46 = .ok (.aload_n 0, 1) := by decide +kernel
theorem dX3_start_47 : decode cX3_start 47 = .ok (.getfield 68, 3) := by decide +kernel
theorem dX3_start_50 : decode cX3_start 50 = .ok (.putfield 35, 3) := by decide +kernel
theorem dX3_start_53 : decode cX3_start 53 = .ok (.aload_n 0, 1) := by decide +kernel
theorem dX3_start_54 : decode cX3_start 54 = .ok (.iconst 0, 1) := by decide +kernel
theorem dX3_start_55 : decode cX3_start 55 = .ok (.putfield 46, 3) := by decide +kernel
theorem dX3_start_58 : decode cX3_start 58 = .ok (.iload_n 1, 1) := by decide +kernel
theorem dX3_start_59 : decode cX3_start 59 = .ok (.ireturn, 1) := by decide +kernel
theorem dX3_isUp_0 : decode cX3_isUp 0 = .ok (.aload_n 0, 1) := by decide +kernel
theorem dX3_isUp_1 : decode cX3_isUp 1 = .ok (.iconst 0, 1) := by decide +kernel
theorem dX3_isUp_2 : decode cX3_isUp 2 = .ok (.putfield 29, 3) := by decide +kernel
theorem dX3_isUp_5 : decode cX3_isUp 5 = .ok (.aload_n 0, 1) := by decide +kernel
theorem dX3_isUp_6 : decode cX3_isUp 6 = .ok (.getfield 46, 3) := by decide +kernel
theorem dX3_isUp_9 : decode cX3_isUp 9 = .ok (.ifCond .ne 7, 3) := by decide +kernel
theorem dX3_isUp_12 : decode cX3_isUp 12 = .ok (.iconst 1, 1) := by decide +kernel
theorem dX3_isUp_13 : decode cX3_isUp 13 = .ok (.goto 4, 3) := by decide +kernel
theorem dX3_isUp_16 : decode cX3_isUp 16 = .ok (.iconst 0, 1) := by decide +kernel
theorem dX3_isUp_17 : decode cX3_isUp 17 = .ok (.ireturn, 1) := by decide +kernel
theorem dX3_headOf_0 : decode cX3_headOf 0 = .ok (.aload_n 0, 1) := by decide +kernel
theorem dX3_headOf_1 : decode cX3_headOf 1 = .ok (.getfield 46, 3) := by decide +kernel
theorem dX3_headOf_4 : decode cX3_headOf 4 = .ok (.ifCond .eq 10, 3) := by decide +kernel
theorem dX3_headOf_7 : decode cX3_headOf 7 = .ok (.aload_n 0, 1) := by decide +kernel
theorem dX3_headOf_8 : decode cX3_headOf 8 = .ok (.getfield 68, 3) := by decide +kernel
theorem dX3_headOf_11 : decode cX3_headOf 11 = .ok (.goto 7, 3) := by decide +kernel
theorem dX3_headOf_14 : decode cX3_headOf 14 = .ok (.aload_n 0, 1) := by decide +kernel
theorem dX3_headOf_15 : decode cX3_headOf 15 = .ok (.getfield 35, 3) := by decide +kernel
theorem dX3_headOf_18 : decode cX3_headOf 18 = .ok (.ireturn, 1) := by decide +kernel
set_option maxRecDepth 20000 in
theorem ggX3_head_X3_headOf : GoodIn wsX3_head wsX3_headOf := goodIn_r _ [6, 7, 8, 9, 10, 11, 12, 13, 14, 15, 16, 17, 18, 19, 20, 21] (by decide +kernel) (by decide +kernel)
set_option maxRecDepth 20000 in
theorem gX3_head_X3_headOf : GoodIn wsX3_head (wsV RX3 88 RX3 yX3_headOf wsX3_headOf) := goodIn_app (goodIn_of _ (by decide +kernel)) ggX3_head_X3_headOf
theorem dX3_head_0 : decode cX3_head 0 = .ok (.aload_n 0, 1) := by decide +kernel
theorem dX3_head_1 : decode cX3_head 1 = .ok (.iconst 0, 1) := by decide +kernel
theorem dX3_head_2 : decode cX3_head 2 = .ok (.putfield 29, 3) := by decide +kernel
theorem dX3_head_5 : decode cX3_head 5 = .ok (.aload_n 0, 1) := by decide +kernel
theorem dX3_head_6 : decode cX3_head 6 = .ok (.invokevirtual 88, 3) := by decide +kernel
theorem dX3_head_9 : decode cX3_head 9 = .ok (.ireturn, 1) := by decide +kernel
theorem dX3_tail_0 : decode cX3_tail 0 = .ok (.aload_n 0, 1) := by decide +kernel
theorem dX3_tail_1 : decode cX3_tail 1 = .ok (.iconst 0, 1) := by decide +kernel
theorem dX3_tail_2 : decode cX3_tail 2 = .ok (.putfield 29, 3) := by decide +kernel
theorem dX3_tail_5 : decode cX3_tail 5 = .ok (.aload_n 0, 1) := by decide +kernel
theorem dX3_tail_6 : decode cX3_tail 6 = .ok (.getfield 32, 3) := by decide +kernel
theorem dX3_tail_9 : decode cX3_tail 9 = .ok (.ireturn, 1) := by decide +kernel
theorem dX3_written_0 : decode cX3_written 0 = .ok (.aload_n 0, 1) := by decide +kernel
theorem dX3_written_1 : decode cX3_written 1 = .ok (.iconst 0, 1) := by decide +kernel
theorem dX3_written_2 : decode cX3_written 2 = .ok (.putfield 29, 3) := by decide +kernel
theorem dX3_written_5 : decode cX3_written 5 = .ok (.aload_n 0, 1) := by decide +kernel
theorem dX3_written_6 : decode cX3_written 6 = .ok (.getfield 68, 3) := by decide +kernel
theorem dX3_written_9 : decode cX3_written 9 = .ok (.ireturn, 1) := by decide +kernel
theorem dX3_checkpointAt_0 : decode cX3_checkpointAt 0 = .ok (.aload_n 0, 1) := by decide +kernel
theorem dX3_checkpointAt_1 : decode cX3_checkpointAt 1 = .ok (.iconst 0, 1) := by decide +kernel
theorem dX3_checkpointAt_2 : decode cX3_checkpointAt 2 = .ok (.putfield 29, 3) := by decide +kernel
theorem dX3_checkpointAt_5 : decode cX3_checkpointAt 5 = .ok (.aload_n 0, 1) := by decide +kernel
theorem dX3_checkpointAt_6 : decode cX3_checkpointAt 6 = .ok (.getfield 78, 3) := by decide +kernel
theorem dX3_checkpointAt_9 : decode cX3_checkpointAt 9 = .ok (.ireturn, 1) := by decide +kernel
set_option maxRecDepth 20000 in
theorem ggX3_positionOf_X3_isKey : GoodIn wsX3_positionOf wsX3_isKey := goodIn_r _ [6] (by decide +kernel) (by decide +kernel)
set_option maxRecDepth 20000 in
theorem gX3_positionOf_X3_isKey : GoodIn wsX3_positionOf (va_wsS RX3 42 yX3_isKey wsX3_isKey) := goodIn_app (goodIn_of _ (by decide +kernel)) ggX3_positionOf_X3_isKey
set_option maxRecDepth 20000 in
theorem ggX3_positionOf_X3_goes : GoodIn wsX3_positionOf wsX3_goes := goodIn_r _ [10, 11, 12, 13, 14, 15, 16, 17, 18, 19, 20, 21, 22, 23] (by decide +kernel) (by decide +kernel)
set_option maxRecDepth 20000 in
theorem gX3_positionOf_X3_goes : GoodIn wsX3_positionOf (wsV RX3 53 RX3 yX3_goes wsX3_goes) := goodIn_app (goodIn_of _ (by decide +kernel)) ggX3_positionOf_X3_goes
theorem dX3_positionOf_0 : decode cX3_positionOf 0 = .ok (.aload_n 0, 1) := by decide +kernel
theorem dX3_positionOf_1 : decode cX3_positionOf 1 = .ok (.iload_n 1, 1) := by decide +kernel
theorem dX3_positionOf_2 : decode cX3_positionOf 2 = .ok (.invokestatic 42, 3) := by decide +kernel
theorem dX3_positionOf_5 : decode cX3_positionOf 5 = .ok (.aload_n 0, 1) := by decide +kernel
theorem dX3_positionOf_6 : decode cX3_positionOf 6 = .ok (.getfield 46, 3) := by decide +kernel
theorem dX3_positionOf_9 : decode cX3_positionOf 9 = .ok (.ifCond .ne 7, 3) := by decide +kernel
theorem dX3_positionOf_12 : decode cX3_positionOf 12 = .ok (.iconst 1, 1) := by decide +kernel
theorem dX3_positionOf_13 : decode cX3_positionOf 13 = .ok (.goto 4, 3) := by decide +kernel
theorem dX3_positionOf_16 : decode cX3_positionOf 16 = .ok (.iconst 0, 1) := by decide +kernel
theorem dX3_positionOf_17 : decode cX3_positionOf 17 = .ok (.invokevirtual 53, 3) := by decide +kernel
theorem dX3_positionOf_20 : decode cX3_positionOf 20 = .ok (.ifCond .eq 12, 3) := by decide +kernel
theorem dX3_positionOf_23 : decode cX3_positionOf 23 = .ok (.aload_n 0, 1) := by decide +kernel
theorem dX3_positionOf_24 : decode cX3_positionOf 24 = .ok (.getfield 16, 3) := by decide +kernel
theorem dX3_positionOf_27 : decode cX3_positionOf 27 = .ok (.iload_n 1, 1) := by decide +kernel
theorem dX3_positionOf_28 : decode cX3_positionOf 28 = .ok (.iaload, 1) := by decide +kernel
theorem dX3_positionOf_29 : decode cX3_positionOf 29 = .ok (.goto 4, 3) := by decide +kernel
theorem dX3_positionOf_32 : decode cX3_positionOf 32 = .ok (.iconst 0, 1) := by decide +kernel
theorem dX3_positionOf_33 : decode cX3_positionOf 33 = .ok (.ireturn, 1) := by decide +kernel
set_option maxRecDepth 20000 in
theorem ggX3_segments_X3_headOf : GoodIn wsX3_segments wsX3_headOf := goodIn_r _ [7, 8, 9, 10, 14, 15, 16, 17, 18, 19, 20, 21, 22, 23, 24, 25] (by decide +kernel) (by decide +kernel)
set_option maxRecDepth 20000 in
theorem gX3_segments_X3_headOf : GoodIn wsX3_segments (wsV RX3 88 RX3 yX3_headOf wsX3_headOf) := goodIn_app (goodIn_of _ (by decide +kernel)) ggX3_segments_X3_headOf
set_option maxRecDepth 20000 in
theorem ggX3_segments_X3_segmentsOf : GoodIn wsX3_segments wsX3_segmentsOf := goodIn_r _ [13] (by decide +kernel) (by decide +kernel)
set_option maxRecDepth 20000 in
theorem gX3_segments_X3_segmentsOf : GoodIn wsX3_segments (va_wsS RX3 38 yX3_segmentsOf wsX3_segmentsOf) := goodIn_app (goodIn_of _ (by decide +kernel)) ggX3_segments_X3_segmentsOf
theorem dX3_segments_0 : decode cX3_segments 0 = .ok (.aload_n 0, 1) := by decide +kernel
theorem dX3_segments_1 : decode cX3_segments 1 = .ok (.iconst 0, 1) := by decide +kernel
theorem dX3_segments_2 : decode cX3_segments 2 = .ok (.putfield 29, 3) := by decide +kernel
theorem dX3_segments_5 : decode cX3_segments 5 = .ok (.aload_n 0, 1) := by decide +kernel
theorem dX3_segments_6 : decode cX3_segments 6 = .ok (.getfield 32, 3) := by decide +kernel
theorem dX3_segments_9 : decode cX3_segments 9 = .ok (.aload_n 0, 1) := by decide +kernel
theorem dX3_segments_10 : decode cX3_segments 10 = .ok (.invokevirtual 88, 3) := by decide +kernel
theorem dX3_segments_13 : decode cX3_segments 13 = .ok (.invokestatic 38, 3) := by decide +kernel
theorem dX3_segments_16 : decode cX3_segments 16 = .ok (.ireturn, 1) := by decide +kernel
set_option maxRecDepth 20000 in
theorem ggX3_live_X3_goes : GoodIn wsX3_live wsX3_goes := goodIn_r _ [7, 8, 9, 10, 11, 12, 13, 14, 15, 16, 17, 18, 19, 20] (by decide +kernel) (by decide +kernel)
set_option maxRecDepth 20000 in
theorem gX3_live_X3_goes : GoodIn wsX3_live (wsV RX3 53 RX3 yX3_goes wsX3_goes) := goodIn_app (goodIn_of _ (by decide +kernel)) ggX3_live_X3_goes
theorem dX3_live_0 : decode cX3_live 0 = .ok (.aload_n 0, 1) := by decide +kernel
theorem dX3_live_1 : decode cX3_live 1 = .ok (.aload_n 0, 1) := by decide +kernel
theorem dX3_live_2 : decode cX3_live 2 = .ok (.getfield 46, 3) := by decide +kernel
theorem dX3_live_5 : decode cX3_live 5 = .ok (.ifCond .ne 7, 3) := by decide +kernel
theorem dX3_live_8 : decode cX3_live 8 = .ok (.iconst 1, 1) := by decide +kernel
theorem dX3_live_9 : decode cX3_live 9 = .ok (.goto 4, 3) := by decide +kernel
theorem dX3_live_12 : decode cX3_live 12 = .ok (.iconst 0, 1) := by decide +kernel
theorem dX3_live_13 : decode cX3_live 13 = .ok (.iconst 1, 1) := by decide +kernel
theorem dX3_live_14 : decode cX3_live 14 = .ok (.invokevirtual 53, 3) := by decide +kernel
theorem dX3_live_17 : decode cX3_live 17 = .ok (.ifCond .ne 5, 3) := by decide +kernel
theorem dX3_live_20 : decode cX3_live 20 = .ok (.iconst 0, 1) := by decide +kernel
theorem dX3_live_21 : decode cX3_live 21 = .ok (.ireturn, 1) := by decide +kernel
theorem dX3_live_22 : decode cX3_live 22 = .ok (.iconst 0, 1) := by decide +kernel
theorem dX3_live_23 : decode cX3_live 23 = .ok (.istore_n 1, 1) := by decide +kernel
theorem dX3_live_24 : decode cX3_live 24 = .ok (.iconst 0, 1) := by decide +kernel
theorem dX3_live_25 : decode cX3_live 25 = .ok (.istore_n 2, 1) := by decide +kernel
theorem dX3_live_26 : decode cX3_live 26 = .ok (.iload_n 2, 1) := by decide +kernel
theorem dX3_live_27 : decode cX3_live 27 = .ok (.bipush 64, 2) := by decide +kernel
theorem dX3_live_29 : decode cX3_live 29 = .ok (.if_icmp .ge 26, 3) := by decide +kernel
theorem dX3_live_32 : decode cX3_live 32 = .ok (.iload_n 1, 1) := by decide +kernel
theorem dX3_live_33 : decode cX3_live 33 = .ok (.aload_n 0, 1) := by decide +kernel
theorem dX3_live_34 : decode cX3_live 34 = .ok (.getfield 16, 3) := by decide +kernel
theorem dX3_live_37 : decode cX3_live 37 = .ok (.iload_n 2, 1) := by decide +kernel
theorem dX3_live_38 : decode cX3_live 38 = .ok (.iaload, 1) := by decide +kernel
theorem dX3_live_39 : decode cX3_live 39 = .ok (.ifCond .lt 7, 3) := by decide +kernel
theorem dX3_live_42 : decode cX3_live 42 = .ok (.iconst 1, 1) := by decide +kernel
theorem dX3_live_43 : decode cX3_live 43 = .ok (.goto 4, 3) := by decide +kernel
theorem dX3_live_46 : decode cX3_live 46 = .ok (.iconst 0, 1) := by decide +kernel
theorem dX3_live_47 : decode cX3_live 47 = .ok (.iadd, 1) := by decide +kernel
theorem dX3_live_48 : decode cX3_live 48 = .ok (.istore_n 1, 1) := by decide +kernel
theorem dX3_live_49 : decode cX3_live 49 = .ok (.iinc 2 1, 3) := by decide +kernel
theorem dX3_live_52 : decode cX3_live 52 = .ok (.goto (-26), 3) := by decide +kernel
theorem dX3_live_55 : decode cX3_live 55 = .ok (.iload_n 1, 1) := by decide +kernel
theorem dX3_live_56 : decode cX3_live 56 = .ok (.ireturn, 1) := by decide +kernel
set_option maxRecDepth 20000 in
theorem ggX3_toFree_X3_headOf : GoodIn wsX3_toFree wsX3_headOf := goodIn_r _ [7, 8, 9, 10, 11, 12, 13, 14, 15, 16, 17, 18, 19, 20, 21, 22] (by decide +kernel) (by decide +kernel)
set_option maxRecDepth 20000 in
theorem gX3_toFree_X3_headOf : GoodIn wsX3_toFree (wsV RX3 88 RX3 yX3_headOf wsX3_headOf) := goodIn_app (goodIn_of _ (by decide +kernel)) ggX3_toFree_X3_headOf
theorem dX3_toFree_0 : decode cX3_toFree 0 = .ok (.aload_n 0, 1) := by decide +kernel
theorem dX3_toFree_1 : decode cX3_toFree 1 = .ok (.iconst 0, 1) := by decide +kernel
theorem dX3_toFree_2 : decode cX3_toFree 2 = .ok (.putfield 29, 3) := by decide +kernel
theorem dX3_toFree_5 : decode cX3_toFree 5 = .ok (.bipush 8, 2) := by decide +kernel
theorem dX3_toFree_7 : decode cX3_toFree 7 = .ok (.aload_n 0, 1) := by decide +kernel
theorem dX3_toFree_8 : decode cX3_toFree 8 = .ok (.getfield 32, 3) := by decide +kernel
theorem dX3_toFree_11 : decode cX3_toFree 11 = .ok (.bipush 8, 2) := by decide +kernel
theorem dX3_toFree_13 : decode cX3_toFree 13 = .ok (.irem, 1) := by decide +kernel
theorem dX3_toFree_14 : decode cX3_toFree 14 = .ok (.isub, 1) := by decide +kernel
theorem dX3_toFree_15 : decode cX3_toFree 15 = .ok (.istore_n 1, 1) := by decide +kernel
theorem dX3_toFree_16 : decode cX3_toFree 16 = .ok (.aload_n 0, 1) := by decide +kernel
theorem dX3_toFree_17 : decode cX3_toFree 17 = .ok (.invokevirtual 88, 3) := by decide +kernel
theorem dX3_toFree_20 : decode cX3_toFree 20 = .ok (.aload_n 0, 1) := by decide +kernel
theorem dX3_toFree_21 : decode cX3_toFree 21 = .ok (.getfield 32, 3) := by decide +kernel
theorem dX3_toFree_24 : decode cX3_toFree 24 = .ok (.isub, 1) := by decide +kernel
theorem dX3_toFree_25 : decode cX3_toFree 25 = .ok (.iload_n 1, 1) := by decide +kernel
theorem dX3_toFree_26 : decode cX3_toFree 26 = .ok (.if_icmp .ge 7, 3) := by decide +kernel
theorem dX3_toFree_29 : decode cX3_toFree 29 = .ok (.iconst (-1), 1) := by decide +kernel
theorem dX3_toFree_30 : decode cX3_toFree 30 = .ok (.goto 4, 3) := by decide +kernel
theorem dX3_toFree_33 : decode cX3_toFree 33 = .ok (.iload_n 1, 1) := by decide +kernel
theorem dX3_toFree_34 : decode cX3_toFree 34 = .ok (.ireturn, 1) := by decide +kernel
set_option maxRecDepth 20000 in
theorem ggX3_wouldHave_X3_recovers : GoodIn wsX3_wouldHave wsX3_recovers := goodIn_r _ [6, 7, 8, 9, 10, 11, 12, 13, 14, 15, 16, 17, 18, 19, 20, 21, 22, 23, 24, 25] (by decide +kernel) (by decide +kernel)
set_option maxRecDepth 20000 in
theorem gX3_wouldHave_X3_recovers : GoodIn wsX3_wouldHave (wsV RX3 84 RX3 yX3_recovers wsX3_recovers) := goodIn_app (goodIn_of _ (by decide +kernel)) ggX3_wouldHave_X3_recovers
theorem dX3_wouldHave_0 : decode cX3_wouldHave 0 = .ok (.aload_n 0, 1) := by decide +kernel
theorem dX3_wouldHave_1 : decode cX3_wouldHave 1 = .ok (.iconst 0, 1) := by decide +kernel
theorem dX3_wouldHave_2 : decode cX3_wouldHave 2 = .ok (.putfield 29, 3) := by decide +kernel
theorem dX3_wouldHave_5 : decode cX3_wouldHave 5 = .ok (.aload_n 0, 1) := by decide +kernel
theorem dX3_wouldHave_6 : decode cX3_wouldHave 6 = .ok (.invokevirtual 84, 3) := by decide +kernel
theorem dX3_wouldHave_9 : decode cX3_wouldHave 9 = .ok (.ireturn, 1) := by decide +kernel
