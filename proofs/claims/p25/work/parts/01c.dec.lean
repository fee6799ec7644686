set_option maxRecDepth 20000 in
theorem ggX0_init_J7_fill_53178 : GoodIn wsX0_init wsJ7_fill_53178 := goodIn_r _ [9] (by decide +kernel) (by decide +kernel)
set_option maxRecDepth 20000 in
theorem gX0_init_J7_fill_53178 : GoodIn wsX0_init (va_wsS RX0 15 yJ7_fill_53178 wsJ7_fill_53178) := goodIn_app (goodIn_of _ (by decide +kernel)) ggX0_init_J7_fill_53178
theorem dX0_init_0 : decode cX0_init 0 = .ok (.aload_n 0, 1) := by decide +kernel
theorem dX0_init_1 : decode cX0_init 1 = .ok (.invokespecial 3, 3) := by decide +kernel
theorem dX0_init_4 : decode cX0_init 4 = .ok (.aload_n 0, 1) := by decide +kernel
theorem dX0_init_5 : decode cX0_init 5 = .ok (.bipush 64, 2) := by decide +kernel
theorem dX0_init_7 : decode cX0_init 7 = .ok (.newarray .int, 2) := by decide +kernel
theorem dX0_init_9 : decode cX0_init 9 = .ok (.putfield 9, 3) := by decide +kernel
theorem dX0_init_12 : decode cX0_init 12 = .ok (.aload_n 0, 1) := by decide +kernel
theorem dX0_init_13 : decode cX0_init 13 = .ok (.getfield 9, 3) := by decide +kernel
theorem dX0_init_16 : decode cX0_init 16 = .ok (.iconst (-1), 1) := by decide +kernel
theorem dX0_init_17 : decode cX0_init 17 = .ok (.invokestatic 15, 3) := by decide +kernel
theorem dX0_init_20 : decode cX0_init 20 = .ok (.return_, 1) := by decide +kernel
theorem dX0_find_0 : decode cX0_find 0 = .ok (.iload_n 1, 1) := by decide +kernel
theorem dX0_find_1 : decode cX0_find 1 = .ok (.ifCond .lt 21, 3) := by decide +kernel
theorem dX0_find_4 : decode cX0_find 4 = .ok (.iload_n 1, 1) := by decide +kernel
theorem dX0_find_5 : decode cX0_find 5 = .ok (.aload_n 0, 1) := by decide +kernel
theorem dX0_find_6 : decode cX0_find 6 = .ok (.getfield 9, 3) := by decide +kernel
theorem dX0_find_9 : decode cX0_find 9 = .ok (.arraylength, 1) := by decide +kernel
theorem dX0_find_10 : decode cX0_find 10 = .ok (.if_icmp .ge 12, 3) := by decide +kernel
theorem dX0_find_13 : decode cX0_find 13 = .ok (.aload_n 0, 1) := by decide +kernel
theorem dX0_find_14 : decode cX0_find 14 = .ok (.getfield 9, 3) := by decide +kernel
theorem dX0_find_17 : decode cX0_find 17 = .ok (.iload_n 1, 1) := by decide +kernel
theorem dX0_find_18 : decode cX0_find 18 = .ok (.iaload, 1) := by decide +kernel
theorem dX0_find_19 : decode cX0_find 19 = .ok (.goto 4, 3) := by decide +kernel
theorem dX0_find_22 : decode cX0_find 22 = .ok (.iconst (-1), 1) := by decide +kernel
theorem dX0_find_23 : decode cX0_find 23 = .ok (.ireturn, 1) := by decide +kernel
set_option maxRecDepth 20000 in
theorem ggX0_has_X0_find : GoodIn wsX0_has wsX0_find := goodIn_r _ [5, 6, 7] (by decide +kernel) (by decide +kernel)
set_option maxRecDepth 20000 in
theorem gX0_has_X0_find : GoodIn wsX0_has (wsV RX0 21 RX0 yX0_find wsX0_find) := goodIn_app (goodIn_of _ (by decide +kernel)) ggX0_has_X0_find
theorem dX0_has_0 : decode cX0_has 0 = .ok (.aload_n 0, 1) := by decide +kernel
theorem dX0_has_1 : decode cX0_has 1 = .ok (.iload_n 1, 1) := by decide +kernel
theorem dX0_has_2 : decode cX0_has 2 = .ok (.invokevirtual 21, 3) := by decide +kernel
theorem dX0_has_5 : decode cX0_has 5 = .ok (.iconst (-1), 1) := by decide +kernel
theorem dX0_has_6 : decode cX0_has 6 = .ok (.if_icmp .eq 7, 3) := by decide +kernel
theorem dX0_has_9 : decode cX0_has 9 = .ok (.iconst 1, 1) := by decide +kernel
theorem dX0_has_10 : decode cX0_has 10 = .ok (.goto 4, 3) := by decide +kernel
theorem dX0_has_13 : decode cX0_has 13 = .ok (.iconst 0, 1) := by decide +kernel
theorem dX0_has_14 : decode cX0_has 14 = .ok (.ireturn, 1) := by decide +kernel
theorem dX0_point_0 : decode cX0_point 0 = .ok (.iload_n 1, 1) := by decide +kernel
theorem dX0_point_1 : decode cX0_point 1 = .ok (.ifCond .lt 19, 3) := by decide +kernel
theorem dX0_point_4 : decode cX0_point 4 = .ok (.iload_n 1, 1) := by decide +kernel
theorem dX0_point_5 : decode cX0_point 5 = .ok (.aload_n 0, 1) := by decide +kernel
theorem dX0_point_6 : decode cX0_point 6 = .ok (.getfield 9, 3) := by decide +kernel
theorem dX0_point_9 : decode cX0_point 9 = .ok (.arraylength, 1) := by decide +kernel
theorem dX0_point_10 : decode cX0_point 10 = .ok (.if_icmp .ge 10, 3) := by decide +kernel
theorem dX0_point_13 : decode cX0_point 13 = .ok (.aload_n 0, 1) := by decide +kernel
theorem dX0_point_14 : decode cX0_point 14 = .ok (.getfield 9, 3) := by decide +kernel
theorem dX0_point_17 : decode cX0_point 17 = .ok (.iload_n 1, 1) := by decide +kernel
theorem dX0_point_18 : decode cX0_point 18 = .ok (.iload_n 2, 1) := by decide +kernel
theorem dX0_point_19 : decode cX0_point 19 = .ok (.iastore, 1) := by decide +kernel
theorem dX0_point_20 : decode cX0_point 20 = .ok (.return_, 1) := by decide +kernel
theorem dX0_size_0 : decode cX0_size 0 = .ok (.iconst 0, 1) := by decide +kernel
theorem dX0_size_1 : decode cX0_size 1 = .ok (.istore_n 1, 1) := by decide +kernel
theorem dX0_size_2 : decode cX0_size 2 = .ok (.iconst 0, 1) := by decide +kernel
theorem dX0_size_3 : decode cX0_size 3 = .ok (.istore_n 2, 1) := by decide +kernel
theorem dX0_size_4 : decode cX0_size 4 = .ok (.iload_n 2, 1) := by decide +kernel
theorem dX0_size_5 : decode cX0_size 5 = .ok (.aload_n 0, 1) := by decide +kernel
theorem dX0_size_6 : decode cX0_size 6 = .ok (.getfield 9, 3) := by decide +kernel
theorem dX0_size_9 : decode cX0_size 9 = .ok (.arraylength, 1) := by decide +kernel
theorem dX0_size_10 : decode cX0_size 10 = .ok (.if_icmp .ge 22, 3) := by decide +kernel
theorem dX0_size_13 : decode cX0_size 13 = .ok (.aload_n 0, 1) := by decide +kernel
theorem dX0_size_14 : decode cX0_size 14 = .ok (.getfield 9, 3) := by decide +kernel
theorem dX0_size_17 : decode cX0_size 17 = .ok (.iload_n 2, 1) := by decide +kernel
theorem dX0_size_18 : decode cX0_size 18 = .ok (.iaload, 1) := by decide +kernel
theorem dX0_size_19 : decode cX0_size 19 = .ok (.iconst (-1), 1) := by decide +kernel
theorem dX0_size_20 : decode cX0_size 20 = .ok (.if_icmp .eq 6, 3) := by decide +kernel
theorem dX0_size_23 : decode cX0_size 23 = .ok (.iinc 1 1, 3) := by decide +kernel
theorem dX0_size_26 : decode cX0_size 26 = .ok (.iinc 2 1, 3) := by decide +kernel
theorem dX0_size_29 : decode cX0_size 29 = .ok (.goto (-25), 3) := by decide +kernel
theorem dX0_size_32 : decode cX0_size 32 = .ok (.iload_n 1, 1) := by decide +kernel
theorem dX0_size_33 : decode cX0_size 33 = .ok (.ireturn, 1) := by decide +kernel
set_option maxRecDepth 20000 in
theorem ggX0_takeFrom_X0_find : GoodIn wsX0_takeFrom wsX0_find := goodIn_r _ [6, 1, 7] (by decide +kernel) (by decide +kernel)
set_option maxRecDepth 20000 in
theorem gX0_takeFrom_X0_find : GoodIn wsX0_takeFrom (wsV RX0 21 RX0 yX0_find wsX0_find) := goodIn_app (goodIn_of _ (by decide +kernel)) ggX0_takeFrom_X0_find
theorem dX0_takeFrom_0 : decode cX0_takeFrom 0 = .ok (.iconst 0, 1) := by decide +kernel
theorem dX0_takeFrom_1 : decode cX0_takeFrom 1 = .ok (.istore_n 2, 1) := by decide +kernel
theorem dX0_takeFrom_2 : decode cX0_takeFrom 2 = .ok (.iload_n 2, 1) := by decide +kernel
theorem dX0_takeFrom_3 : decode cX0_takeFrom 3 = .ok (.aload_n 0, 1) := by decide +kernel
theorem dX0_takeFrom_4 : decode cX0_takeFrom 4 = .ok (.getfield 9, 3) := by decide +kernel
theorem dX0_takeFrom_7 : decode cX0_takeFrom 7 = .ok (.arraylength, 1) := by decide +kernel
theorem dX0_takeFrom_8 : decode cX0_takeFrom 8 = .ok (.if_icmp .ge 20, 3) := by decide +kernel
theorem dX0_takeFrom_11 : decode cX0_takeFrom 11 = .ok (.aload_n 0, 1) := by decide +kernel
theorem dX0_takeFrom_12 : decode cX0_takeFrom 12 = .ok (.getfield 9, 3) := by decide +kernel
theorem dX0_takeFrom_15 : decode cX0_takeFrom 15 = .ok (.iload_n 2, 1) := by decide +kernel
theorem dX0_takeFrom_16 : decode cX0_takeFrom 16 = .ok (.aload_n 1, 1) := by decide +kernel
theorem dX0_takeFrom_17 : decode cX0_takeFrom 17 = .ok (.iload_n 2, 1) := by decide +kernel
theorem dX0_takeFrom_18 : decode cX0_takeFrom 18 = .ok (.invokevirtual 21, 3) := by decide +kernel
theorem dX0_takeFrom_21 : decode cX0_takeFrom 21 = .ok (.iastore, 1) := by decide +kernel
theorem dX0_takeFrom_22 : decode cX0_takeFrom 22 = .ok (.iinc 2 1, 3) := by decide +kernel
theorem dX0_takeFrom_25 : decode cX0_takeFrom 25 = .ok (.goto (-23), 3) := by decide +kernel
theorem dX0_takeFrom_28 : decode cX0_takeFrom 28 = .ok (.return_, 1) := by decide +kernel
theorem dX0_dropBelow_0 : decode cX0_dropBelow 0 = .ok (.iconst 0, 1) := by decide +kernel
theorem dX0_dropBelow_1 : decode cX0_dropBelow 1 = .ok (.istore_n 2, 1) := by decide +kernel
theorem dX0_dropBelow_2 : decode cX0_dropBelow 2 = .ok (.iload_n 2, 1) := by decide +kernel
theorem dX0_dropBelow_3 : decode cX0_dropBelow 3 = .ok (.aload_n 0, 1) := by decide +kernel
theorem dX0_dropBelow_4 : decode cX0_dropBelow 4 = .ok (.getfield 9, 3) := by decide +kernel
theorem dX0_dropBelow_7 : decode cX0_dropBelow 7 = .ok (.arraylength, 1) := by decide +kernel
theorem dX0_dropBelow_8 : decode cX0_dropBelow 8 = .ok (.if_icmp .ge 26, 3) := by decide +kernel
theorem dX0_dropBelow_11 : decode cX0_dropBelow 11 = .ok (.aload_n 0, 1) := by decide +kernel
theorem dX0_dropBelow_12 : decode cX0_dropBelow 12 = .ok (.getfield 9, 3) := by decide +kernel
theorem dX0_dropBelow_15 : decode cX0_dropBelow 15 = .ok (.iload_n 2, 1) := by decide +kernel
theorem dX0_dropBelow_16 : decode cX0_dropBelow 16 = .ok (.iaload, 1) := by decide +kernel
theorem dX0_dropBelow_17 : decode cX0_dropBelow 17 = .ok (.iload_n 1, 1) := by decide +kernel
theorem dX0_dropBelow_18 : decode cX0_dropBelow 18 = .ok (.if_icmp .ge 10, 3) := by decide +kernel
theorem dX0_dropBelow_21 : decode cX0_dropBelow 21 = .ok (.aload_n 0, 1) := by decide +kernel
theorem dX0_dropBelow_22 : decode cX0_dropBelow 22 = .ok (.getfield 9, 3) := by decide +kernel
theorem dX0_dropBelow_25 : decode cX0_dropBelow 25 = .ok (.iload_n 2, 1) := by decide +kernel
theorem dX0_dropBelow_26 : decode cX0_dropBelow 26 = .ok (.iconst (-1), 1) := by decide +kernel
theorem dX0_dropBelow_27 : decode cX0_dropBelow 27 = .ok (.iastore, 1) := by decide +kernel
theorem dX0_dropBelow_28 : decode cX0_dropBelow 28 = .ok (.iinc 2 1, 3) := by decide +kernel
theorem dX0_dropBelow_31 : decode cX0_dropBelow 31 = .ok (.goto (-29), 3) := by decide +kernel
theorem dX0_dropBelow_34 : decode cX0_dropBelow 34 = .ok (.return_, 1) := by decide +kernel
theorem dX1_init_0 : decode cX1_init 0 = .ok (.aload_n 0, 1) := by decide +kernel
theorem dX1_init_1 : decode cX1_init 1 = .ok (.invokespecial 3, 3) := by decide +kernel
theorem dX1_init_4 : decode cX1_init 4 = .ok (.aload_n 0, 1) := by decide +kernel
theorem dX1_init_5 : decode cX1_init 5 = .ok (.bipush 96, 2) := by decide +kernel
theorem dX1_init_7 : decode cX1_init 7 = .ok (.newarray .int, 2) := by decide +kernel
theorem dX1_init_9 : decode cX1_init 9 = .ok (.putfield 9, 3) := by decide +kernel
theorem dX1_init_12 : decode cX1_init 12 = .ok (.aload_n 0, 1) := by decide +kernel
theorem dX1_init_13 : decode cX1_init 13 = .ok (.bipush 96, 2) := by decide +kernel
theorem dX1_init_15 : decode cX1_init 15 = .ok (.newarray .int, 2) := by decide +kernel
theorem dX1_init_17 : decode cX1_init 17 = .ok (.putfield 15, 3) := by decide +kernel
theorem dX1_init_20 : decode cX1_init 20 = .ok (.return_, 1) := by decide +kernel
set_option maxRecDepth 20000 in
theorem ggX1_store_J9_floorMod_7cf53 : GoodIn wsX1_store wsJ9_floorMod_7cf53 := goodIn_r _ [6] (by decide +kernel) (by decide +kernel)
set_option maxRecDepth 20000 in
theorem gX1_store_J9_floorMod_7cf53 : GoodIn wsX1_store (va_wsS RX1 18 yJ9_floorMod_7cf53 wsJ9_floorMod_7cf53) := goodIn_app (goodIn_of _ (by decide +kernel)) ggX1_store_J9_floorMod_7cf53
theorem dX1_store_0 : decode cX1_store 0 = .ok (.iload_n 1, 1) := by decide +kernel
theorem dX1_store_1 : decode cX1_store 1 = .ok (.bipush 96, 2) := by decide +kernel
theorem dX1_store_3 : decode cX1_store 3 = .ok (.invokestatic 18, 3) := by decide +kernel
theorem dX1_store_6 : decode cX1_store 6 = .ok (.istore 4, 2) := by decide +kernel
theorem dX1_store_8 : decode cX1_store 8 = .ok (.iload 4, 2) := by decide +kernel
theorem dX1_store_10 : decode cX1_store 10 = .ok (.ifCond .lt 39, 3) := by decide +kernel
theorem dX1_store_13 : decode cX1_store 13 = .ok (.iload 4, 2) := by decide +kernel
theorem dX1_store_15 : decode cX1_store 15 = .ok (.aload_n 0, 1) := by decide +kernel
theorem dX1_store_16 : decode cX1_store 16 = .ok (.getfield 9, 3) := by decide +kernel
theorem dX1_store_19 : decode cX1_store 19 = .ok (.arraylength, 1) := by decide +kernel
theorem dX1_store_20 : decode cX1_store 20 = .ok (.if_icmp .ge 29, 3) := by decide +kernel
theorem dX1_store_23 : decode cX1_store 23 = .ok (.iload 4, 2) := by decide +kernel
theorem dX1_store_25 : decode cX1_store 25 = .ok (.aload_n 0, 1) := by decide +kernel
theorem dX1_store_26 : decode cX1_store 26 = .ok (.getfield 15, 3) := by decide +kernel
theorem dX1_store_29 : decode cX1_store 29 = .ok (.arraylength, 1) := by decide +kernel
theorem dX1_store_30 : decode cX1_store 30 = .ok (.if_icmp .ge 19, 3) := by decide +kernel
theorem dX1_store_33 : decode cX1_store 33 = .ok (.aload_n 0, 1) := by decide +kernel
theorem dX1_store_34 : decode cX1_store 34 = .ok (.getfield 9, 3) := by decide +kernel
theorem dX1_store_37 : decode cX1_store 37 = .ok (.iload 4, 2) := by decide +kernel
theorem dX1_store_39 : decode cX1_store 39 = .ok (.iload_n 2, 1) := by decide +kernel
theorem dX1_store_40 : decode cX1_store 40 = .ok (.iastore, 1) := by decide +kernel
theorem dX1_store_41 : decode cX1_store 41 = .ok (.aload_n 0, 1) := by decide +kernel
theorem dX1_store_42 : decode cX1_store 42 = .ok (.getfield 15, 3) := by decide +kernel
theorem dX1_store_45 : decode cX1_store 45 = .ok (.iload 4, 2) := by decide +kernel
theorem dX1_store_47 : decode cX1_store 47 = .ok (.iload_n 3, 1) := by decide +kernel
theorem dX1_store_48 : decode cX1_store 48 = .ok (.iastore, 1) := by decide +kernel
theorem dX1_store_49 : decode cX1_store 49 = .ok (.return_, 1) := by decide +kernel
set_option maxRecDepth 20000 in
theorem ggX1_keyAt_J9_floorMod_7cf53 : GoodIn wsX1_keyAt wsJ9_floorMod_7cf53 := goodIn_r _ [5] (by decide +kernel) (by decide +kernel)
set_option maxRecDepth 20000 in
theorem gX1_keyAt_J9_floorMod_7cf53 : GoodIn wsX1_keyAt (va_wsS RX1 18 yJ9_floorMod_7cf53 wsJ9_floorMod_7cf53) := goodIn_app (goodIn_of _ (by decide +kernel)) ggX1_keyAt_J9_floorMod_7cf53
theorem dX1_keyAt_0 : decode cX1_keyAt 0 = .ok (.iload_n 1, 1) := by decide +kernel
theorem dX1_keyAt_1 : decode cX1_keyAt 1 = .ok (.bipush 96, 2) := by decide +kernel
theorem dX1_keyAt_3 : decode cX1_keyAt 3 = .ok (.invokestatic 18, 3) := by decide +kernel
theorem dX1_keyAt_6 : decode cX1_keyAt 6 = .ok (.istore_n 2, 1) := by decide +kernel
theorem dX1_keyAt_7 : decode cX1_keyAt 7 = .ok (.iload_n 2, 1) := by decide +kernel
theorem dX1_keyAt_8 : decode cX1_keyAt 8 = .ok (.ifCond .lt 21, 3) := by decide +kernel
theorem dX1_keyAt_11 : decode cX1_keyAt 11 = .ok (.iload_n 2, 1) := by decide +kernel
theorem dX1_keyAt_12 : decode cX1_keyAt 12 = .ok (.aload_n 0, 1) := by decide +kernel
theorem dX1_keyAt_13 : decode cX1_keyAt 13 = .ok (.getfield 9, 3) := by decide +kernel
theorem dX1_keyAt_16 : decode cX1_keyAt 16 = .ok (.arraylength, 1) := by decide +kernel
theorem dX1_keyAt_17 : decode cX1_keyAt 17 = .ok (.if_icmp .ge 12, 3) := by decide +kernel
theorem dX1_keyAt_20 : decode cX1_keyAt 20 = .ok (.aload_n 0, 1) := by decide +kernel
theorem dX1_keyAt_21 : decode cX1_keyAt 21 = .ok (.getfield 9, 3) := by decide +kernel
theorem dX1_keyAt_24 : decode cX1_keyAt 24 = .ok (.iload_n 2, 1) := by decide +kernel
theorem dX1_keyAt_25 : decode cX1_keyAt 25 = .ok (.iaload, 1) := by decide +kernel
theorem dX1_keyAt_26 : decode cX1_keyAt 26 = .ok (.goto 4, 3) := by decide +kernel
theorem dX1_keyAt_29 : decode cX1_keyAt 29 = .ok (.iconst (-1), 1) := by decide +kernel
theorem dX1_keyAt_30 : decode cX1_keyAt 30 = .ok (.ireturn, 1) := by decide +kernel
set_option maxRecDepth 20000 in
theorem ggX1_valueAt_J9_floorMod_7cf53 : GoodIn wsX1_valueAt wsJ9_floorMod_7cf53 := goodIn_r _ [5] (by decide +kernel) (by decide +kernel)
set_option maxRecDepth 20000 in
theorem gX1_valueAt_J9_floorMod_7cf53 : GoodIn wsX1_valueAt (va_wsS RX1 18 yJ9_floorMod_7cf53 wsJ9_floorMod_7cf53) := goodIn_app (goodIn_of _ (by decide +kernel)) ggX1_valueAt_J9_floorMod_7cf53
theorem dX1_valueAt_0 : decode cX1_valueAt 0 = .ok (.iload_n 1, 1) := by decide +kernel
theorem dX1_valueAt_1 : decode cX1_valueAt 1 = .ok (.bipush 96, 2) := by decide +kernel
theorem dX1_valueAt_3 : decode cX1_valueAt 3 = .ok (.invokestatic 18, 3) := by decide +kernel
theorem dX1_valueAt_6 : decode cX1_valueAt 6 = .ok (.istore_n 2, 1) := by decide +kernel
theorem dX1_valueAt_7 : decode cX1_valueAt 7 = .ok (.iload_n 2, 1) := by decide +kernel
theorem dX1_valueAt_8 : decode cX1_valueAt 8 = .ok (.ifCond .lt 21, 3) := by decide +kernel
theorem dX1_valueAt_11 : decode cX1_valueAt 11 = .ok (.iload_n 2, 1) := by decide +kernel
theorem dX1_valueAt_12 : decode cX1_valueAt 12 = .ok (.aload_n 0, 1) := by decide +kernel
theorem dX1_valueAt_13 : decode cX1_valueAt 13 = .ok (.getfield 15, 3) := by decide +kernel
theorem dX1_valueAt_16 : decode cX1_valueAt 16 = .ok (.arraylength, 1) := by decide +kernel
theorem dX1_valueAt_17 : decode cX1_valueAt 17 = .ok (.if_icmp .ge 12, 3) := by decide +kernel
theorem dX1_valueAt_20 : decode cX1_valueAt 20 = .ok (.aload_n 0, 1) := by decide +kernel
theorem dX1_valueAt_21 : decode cX1_valueAt 21 = .ok (.getfield 15, 3) := by decide +kernel
theorem dX1_valueAt_24 : decode cX1_valueAt 24 = .ok (.iload_n 2, 1) := by decide +kernel
theorem dX1_valueAt_25 : decode cX1_valueAt 25 = .ok (.iaload, 1) := by decide +kernel
theorem dX1_valueAt_26 : decode cX1_valueAt 26 = .ok (.goto 4, 3) := by decide +kernel
theorem dX1_valueAt_29 : decode cX1_valueAt 29 = .ok (.iconst (-1), 1) := by decide +kernel
theorem dX1_valueAt_30 : decode cX1_valueAt 30 = .ok (.ireturn, 1) := by decide +kernel
set_option maxRecDepth 20000 in
theorem ggX2_init_X1_init : GoodIn wsX2_init wsX1_init := goodIn_r _ [22, 23, 2, 3, 24, 25, 26, 36, 37] (by decide +kernel) (by decide +kernel)
set_option maxRecDepth 20000 in
theorem gX2_init_X1_init : GoodIn wsX2_init (wsX1_init) := ggX2_init_X1_init
set_option maxRecDepth 20000 in
theorem ggX2_init_X0_init : GoodIn wsX2_init wsX0_init := goodIn_r _ [29, 30, 2, 3, 24, 31, 32, 33, 34, 35, 48] (by decide +kernel) (by decide +kernel)
set_option maxRecDepth 20000 in
theorem gX2_init_X0_init : GoodIn wsX2_init (wsX0_init) := ggX2_init_X0_init
theorem dX2_init_0 : decode cX2_init 0 = .ok (.aload_n 0, 1) := by decide +kernel
theorem dX2_init_1 : decode cX2_init 1 = .ok (.invokespecial 3, 3) := by decide +kernel
theorem dX2_init_4 : decode cX2_init 4 = .ok (.aload_n 0, 1) := by decide +kernel
theorem dX2_init_5 : decode cX2_init 5 = .ok (.new 9, 3) := by decide +kernel
theorem dX2_init_8 : decode cX2_init 8 = .ok (.dup, 1) := by decide +kernel
theorem dX2_init_9 : decode cX2_init 9 = .ok (.invokespecial 11, 3) := by decide +kernel
theorem dX2_init_12 : decode cX2_init 12 = .ok (.putfield 12, 3) := by decide +kernel
theorem dX2_init_15 : decode cX2_init 15 = .ok (.aload_n 0, 1) := by decide +kernel
theorem dX2_init_16 : decode cX2_init 16 = .ok (.new 16, 3) := by decide +kernel
theorem dX2_init_19 : decode cX2_init 19 = .ok (.dup, 1) := by decide +kernel
theorem dX2_init_20 : decode cX2_init 20 = .ok (.invokespecial 18, 3) := by decide +kernel
theorem dX2_init_23 : decode cX2_init 23 = .ok (.putfield 19, 3) := by decide +kernel
theorem dX2_init_26 : decode cX2_init 26 = .ok (.aload_n 0, 1) := by decide +kernel
theorem dX2_init_27 : decode cX2_init 27 = .ok (.new 16, 3) := by decide +kernel
theorem dX2_init_30 : decode cX2_init 30 = .ok (.dup, 1) := by decide +kernel
theorem dX2_init_31 : decode cX2_init 31 = .ok (.invokespecial 18, 3) := by decide +kernel
theorem dX2_init_34 : decode cX2_init 34 = .ok (.putfield 23, 3) := by decide +kernel
theorem dX2_init_37 : decode cX2_init 37 = .ok (.aload_n 0, 1) := by decide +kernel
theorem dX2_init_38 : decode cX2_init 38 = .ok (.new 16, 3) := by decide +kernel
theorem dX2_init_41 : decode cX2_init 41 = .ok (.dup, 1) := by decide +kernel
theorem dX2_init_42 : decode cX2_init 42 = .ok (.invokespecial 18, 3) := by decide +kernel
theorem dX2_init_45 : decode cX2_init 45 = .ok (.putfield 26, 3) := by decide +kernel
theorem dX2_init_48 : decode cX2_init 48 = .ok (.aload_n 0, 1) := by decide +kernel
theorem dX2_init_49 : decode cX2_init 49 = .ok (.iconst 1, 1) := by decide +kernel
theorem dX2_init_50 : decode cX2_init 50 = .ok (.putfield 29, 3) := by decide +kernel
theorem dX2_init_53 : decode cX2_init 53 = .ok (.aload_n 0, 1) := by decide +kernel
theorem dX2_init_54 : decode cX2_init 54 = .ok (.iconst 0, 1) := by decide +kernel
theorem dX2_init_55 : decode cX2_init 55 = .ok (.putfield 33, 3) := by decide +kernel
theorem dX2_init_58 : decode cX2_init 58 = .ok (.aload_n 0, 1) := by decide +kernel
theorem dX2_init_59 : decode cX2_init 59 = .ok (.iconst 0, 1) := by decide +kernel
theorem dX2_init_60 : decode cX2_init 60 = .ok (.putfield 37, 3) := by decide +kernel
theorem dX2_init_63 : decode cX2_init 63 = .ok (.aload_n 0, 1) := by decide +kernel
theorem dX2_init_64 : decode cX2_init 64 = .ok (.iconst 0, 1) := by decide +kernel
theorem dX2_init_65 : decode cX2_init 65 = .ok (.putfield 40, 3) := by decide +kernel
theorem dX2_init_68 : decode cX2_init 68 = .ok (.aload_n 0, 1) := by decide +kernel
theorem dX2_init_69 : decode cX2_init 69 = .ok (.iconst 0, 1) := by decide +kernel
theorem dX2_init_70 : decode cX2_init 70 = .ok (.putfield 43, 3) := by decide +kernel
theorem dX2_init_73 : decode cX2_init 73 = .ok (.aload_n 0, 1) := by decide +kernel
theorem dX2_init_74 : decode cX2_init 74 = .ok (.iconst (-1), 1) := by decide +kernel
theorem dX2_init_75 : decode cX2_init 75 = .ok (.putfield 46, 3) := by decide +kernel
theorem dX2_init_78 : decode cX2_init 78 = .ok (.return_, 1) := by decide +kernel
set_option maxRecDepth 20000 in
theorem ggX2_put_X2_needKey : GoodIn wsX2_put wsX2_needKey := goodIn_ca (goodIn_r _ [6, 1, 2] (by decide +kernel) (by decide +kernel)) (goodIn_sub (fun _ h => List.mem_cons_of_mem _ (List.mem_append_left _ (List.mem_append_right _ h))) (by decide +kernel))
set_option maxRecDepth 20000 in
theorem gX2_put_X2_needKey : GoodIn wsX2_put (va_wsS RX2 49 yX2_needKey wsX2_needKey) := goodIn_app (goodIn_of _ (by decide +kernel)) ggX2_put_X2_needKey
set_option maxRecDepth 20000 in
theorem ggX2_put_X2_needUp : GoodIn wsX2_put wsX2_needUp := goodIn_ca (goodIn_r _ [10, 11, 12, 13, 58, 59, 60, 61, 62, 63, 64, 65, 66, 67] (by decide +kernel) (by decide +kernel)) (goodIn_sub (fun _ h => List.mem_cons_of_mem _ (List.mem_append_right _ h)) (by decide +kernel))
set_option maxRecDepth 20000 in
theorem gX2_put_X2_needUp : GoodIn wsX2_put (wsV RX2 60 RX2 yX2_needUp wsX2_needUp) := goodIn_app (goodIn_of _ (by decide +kernel)) ggX2_put_X2_needUp
set_option maxRecDepth 20000 in
theorem ggX2_put_X2_needRoom : GoodIn wsX2_put wsX2_needRoom := goodIn_ca (goodIn_r _ [17, 11, 12, 18, 19, 20, 21, 5, 22, 58, 59, 60, 61, 62, 63, 64, 65, 66, 67] (by decide +kernel) (by decide +kernel)) (goodIn_sub (fun _ h => List.mem_cons_of_mem _ (List.mem_append_right _ h)) (by decide +kernel))
set_option maxRecDepth 20000 in
theorem gX2_put_X2_needRoom : GoodIn wsX2_put (wsV RX2 63 RX2 yX2_needRoom wsX2_needRoom) := goodIn_app (goodIn_of _ (by decide +kernel)) ggX2_put_X2_needRoom
set_option maxRecDepth 20000 in
theorem ggX2_put_X2_append : GoodIn wsX2_put wsX2_append := goodIn_r _ [26, 19, 27, 28, 29, 30, 31, 32, 33, 34, 35, 36, 37, 38, 39, 40, 41, 42, 5, 43, 44, 45, 46, 47, 48, 49, 50, 51, 52, 53, 54, 55, 56, 57, 58, 59, 60, 61, 62, 63, 64, 65, 66, 67, 68, 69, 70] (by decide +kernel) (by decide +kernel)
set_option maxRecDepth 20000 in
theorem gX2_put_X2_append : GoodIn wsX2_put (wsV RX2 66 RX2 yX2_append wsX2_append) := goodIn_app (goodIn_of _ (by decide +kernel)) ggX2_put_X2_append
theorem dX2_put_0 : decode cX2_put 0 = .ok (.iload_n 1, 1) := by decide +kernel
theorem dX2_put_1 : decode cX2_put 1 = .ok (.invokestatic 49, 3) := by decide +kernel
theorem dX2_put_4 : decode cX2_put 4 = .ok (.iload_n 2, 1) := by decide +kernel
theorem dX2_put_5 : decode cX2_put 5 = .ok (.ifCond .lt 10, 3) := by decide +kernel
theorem dX2_put_8 : decode cX2_put 8 = .ok (.iload_n 2, 1) := by decide +kernel
theorem dX2_put_9 : decode cX2_put 9 = .ok (.sipush 9999, 3) := by decide +kernel
theorem dX2_put_12 : decode cX2_put 12 = .ok (.if_icmp .le 13, 3) := by decide +kernel
theorem dX2_put_15 : decode cX2_put 15 = .ok (.new 53, 3) := by decide +kernel
theorem dX2_put_18 : decode cX2_put 18 = .ok (.dup, 1) := by decide +kernel
theorem dX2_put_19 : decode cX2_put 19 = .ok (.ldc 55, 2) := by decide +kernel
theorem dX2_put_21 : decode cX2_put 21 = .ok (.invokespecial 57, 3) := by decide +kernel
theorem dX2_put_24 : decode cX2_put 24 = .ok (.athrow, 1) := by decide +kernel
theorem dX2_put_25 : decode cX2_put 25 = .ok (.aload_n 0, 1) := by decide +kernel
theorem dX2_put_26 : decode cX2_put 26 = .ok (.invokevirtual 60, 3) := by decide +kernel
theorem dX2_put_29 : decode cX2_put 29 = .ok (.aload_n 0, 1) := by decide +kernel
theorem dX2_put_30 : decode cX2_put 30 = .ok (.iconst 1, 1) := by decide +kernel
theorem dX2_put_31 : decode cX2_put 31 = .ok (.invokevirtual 63, 3) := by decide +kernel
theorem dX2_put_34 : decode cX2_put 34 = .ok (.aload_n 0, 1) := by decide +kernel
theorem dX2_put_35 : decode cX2_put 35 = .ok (.iload_n 1, 1) := by decide +kernel
theorem dX2_put_36 : decode cX2_put 36 = .ok (.iload_n 2, 1) := by decide +kernel
theorem dX2_put_37 : decode cX2_put 37 = .ok (.invokevirtual 66, 3) := by decide +kernel
theorem dX2_put_40 : decode cX2_put 40 = .ok (.ireturn, 1) := by decide +kernel
set_option maxRecDepth 20000 in
theorem ggX2_delete_X2_needKey : GoodIn wsX2_delete wsX2_needKey := goodIn_ca (goodIn_r _ [7, 8, 9] (by decide +kernel) (by decide +kernel)) (goodIn_sub (fun _ h => List.mem_cons_of_mem _ (List.mem_append_right _ h)) (by decide +kernel))
set_option maxRecDepth 20000 in
theorem gX2_delete_X2_needKey : GoodIn wsX2_delete (va_wsS RX2 49 yX2_needKey wsX2_needKey) := goodIn_app (goodIn_of _ (by decide +kernel)) ggX2_delete_X2_needKey
set_option maxRecDepth 20000 in
theorem ggX2_delete_X2_needUp : GoodIn wsX2_delete wsX2_needUp := goodIn_ca (goodIn_r _ [13, 1, 2, 14, 71, 72, 73, 74, 75, 76, 77, 78, 79, 80] (by decide +kernel) (by decide +kernel)) (goodIn_sub (fun _ h => List.mem_cons_of_mem _ (List.mem_append_left _ (List.mem_append_right _ h))) (by decide +kernel))
set_option maxRecDepth 20000 in
theorem gX2_delete_X2_needUp : GoodIn wsX2_delete (wsV RX2 60 RX2 yX2_needUp wsX2_needUp) := goodIn_app (goodIn_of _ (by decide +kernel)) ggX2_delete_X2_needUp
set_option maxRecDepth 20000 in
theorem ggX2_delete_X0_has : GoodIn wsX2_delete wsX0_has := goodIn_r _ [19, 20, 21, 22, 18, 23, 24, 81] (by decide +kernel) (by decide +kernel)
set_option maxRecDepth 20000 in
theorem gX2_delete_X0_has : GoodIn wsX2_delete (wsV RX2 70 RX0 yX0_has wsX0_has) := goodIn_app (goodIn_of _ (by decide +kernel)) ggX2_delete_X0_has
set_option maxRecDepth 20000 in
theorem ggX2_delete_X2_needRoom : GoodIn wsX2_delete wsX2_needRoom := goodIn_ca (goodIn_r _ [28, 1, 2, 29, 30, 31, 32, 6, 33, 71, 72, 73, 74, 75, 76, 77, 78, 79, 80] (by decide +kernel) (by decide +kernel)) (goodIn_sub (fun _ h => List.mem_cons_of_mem _ (List.mem_append_left _ (List.mem_append_right _ h))) (by decide +kernel))
set_option maxRecDepth 20000 in
theorem gX2_delete_X2_needRoom : GoodIn wsX2_delete (wsV RX2 63 RX2 yX2_needRoom wsX2_needRoom) := goodIn_app (goodIn_of _ (by decide +kernel)) ggX2_delete_X2_needRoom
set_option maxRecDepth 20000 in
theorem ggX2_delete_X2_valueOf : GoodIn wsX2_delete wsX2_valueOf := goodIn_r _ [37, 38, 3, 39, 21, 22, 18, 23, 24, 40, 41, 42, 43, 44, 45, 46, 47, 48, 49, 71, 72, 73, 74, 75, 76, 77, 78, 79, 80, 81, 82, 83] (by decide +kernel) (by decide +kernel)
set_option maxRecDepth 20000 in
theorem gX2_delete_X2_valueOf : GoodIn wsX2_delete (wsV RX2 79 RX2 yX2_valueOf wsX2_valueOf) := goodIn_app (goodIn_of _ (by decide +kernel)) ggX2_delete_X2_valueOf
set_option maxRecDepth 20000 in
theorem ggX2_delete_X2_append : GoodIn wsX2_delete wsX2_append := goodIn_r _ [53, 30, 38, 3, 54, 55, 56, 43, 57, 58, 45, 46, 47, 48, 49, 59, 60, 61, 6, 62, 40, 41, 42, 44, 63, 64, 65, 66, 67, 68, 69, 18, 70, 24, 71, 72, 73, 74, 75, 76, 77, 78, 79, 80, 82, 83, 81] (by decide +kernel) (by decide +kernel)
set_option maxRecDepth 20000 in
theorem gX2_delete_X2_append : GoodIn wsX2_delete (wsV RX2 66 RX2 yX2_append wsX2_append) := goodIn_app (goodIn_of _ (by decide +kernel)) ggX2_delete_X2_append
theorem dX2_delete_0 : decode cX2_delete 0 = .ok (.iload_n 1, 1) := by decide +kernel
theorem dX2_delete_1 : decode cX2_delete 1 = .ok (.invokestatic 49, 3) := by decide +kernel
theorem dX2_delete_4 : decode cX2_delete 4 = .ok (.aload_n 0, 1) := by decide +kernel
theorem dX2_delete_5 : decode cX2_delete 5 = .ok (.invokevirtual 60, 3) := by decide +kernel
theorem dX2_delete_8 : decode cX2_delete 8 = .ok (.aload_n 0, 1) := by decide +kernel
theorem dX2_delete_9 : decode cX2_delete 9 = .ok (.getfield 19, 3) := by decide +kernel
theorem dX2_delete_12 : decode cX2_delete 12 = .ok (.iload_n 1, 1) := by decide +kernel
theorem dX2_delete_13 : decode cX2_delete 13 = .ok (.invokevirtual 70, 3) := by decide +kernel
theorem dX2_delete_16 : decode cX2_delete 16 = .ok (.ifCond .ne 13, 3) := by decide +kernel
theorem dX2_delete_19 : decode cX2_delete 19 = .ok (.new 74, 3) := by decide +kernel
theorem dX2_delete_22 : decode cX2_delete 22 = .ok (.dup, 1) := by decide +kernel
theorem dX2_delete_23 : decode cX2_delete 23 = .ok (.ldc 76, 2) := by decide +kernel
theorem dX2_delete_25 : decode cX2_delete 25 = .ok (.invokespecial 78, 3) := by decide +kernel
theorem dX2_delete_28 : decode cX2_delete 28 = .ok (.athrow, 1) := by decide +kernel
theorem dX2_delete_29 : decode cX2_delete 29 = .ok (.aload_n 0, 1) := by decide +kernel
theorem dX2_delete_30 : decode cX2_delete 30 = .ok (.iconst 1, 1) := by decide +kernel
theorem dX2_delete_31 : decode cX2_delete 31 = .ok (.invokevirtual 63, 3) := by decide +kernel
theorem dX2_delete_34 : decode cX2_delete 34 = .ok (.aload_n 0, 1) := by decide +kernel
theorem dX2_delete_35 : decode cX2_delete 35 = .ok (.iload_n 1, 1) := by decide +kernel
theorem dX2_delete_36 : decode cX2_delete 36 = .ok (.invokevirtual 79, 3) := by decide +kernel
theorem dX2_delete_39 : decode cX2_delete 39 = .ok (.istore_n 2, 1) := by decide +kernel
theorem dX2_delete_40 : decode cX2_delete 40 = .ok (.aload_n 0, 1) := by decide +kernel
theorem dX2_delete_41 : decode cX2_delete 41 = .ok (.iload_n 1, 1) := by decide +kernel
theorem dX2_delete_42 : decode cX2_delete 42 = .ok (.iconst (-1), 1) := by decide +kernel
theorem dX2_delete_43 : decode cX2_delete 43 = .ok (.invokevirtual 66, 3) := by decide +kernel
theorem dX2_delete_46 : decode cX2_delete 46 = .ok (.pop, 1) := by decide +kernel
theorem dX2_delete_47 : decode cX2_delete 47 = .ok (.iload_n 2, 1) := by decide +kernel
theorem dX2_delete_48 : decode cX2_delete 48 = .ok (.ireturn, 1) := by decide +kernel
set_option maxRecDepth 20000 in
theorem ggX2_get_X2_needKey : GoodIn wsX2_get wsX2_needKey := goodIn_ca (goodIn_r _ [5, 6, 7] (by decide +kernel) (by decide +kernel)) (goodIn_sub (fun _ h => List.mem_cons_of_mem _ (List.mem_append_left _ (List.mem_append_right _ h))) (by decide +kernel))
set_option maxRecDepth 20000 in
theorem gX2_get_X2_needKey : GoodIn wsX2_get (va_wsS RX2 49 yX2_needKey wsX2_needKey) := goodIn_app (goodIn_of _ (by decide +kernel)) ggX2_get_X2_needKey
set_option maxRecDepth 20000 in
theorem ggX2_get_X2_needUp : GoodIn wsX2_get wsX2_needUp := goodIn_ca (goodIn_r _ [11, 12, 13, 14, 41, 42, 43, 44, 45, 46, 47, 48, 49, 50] (by decide +kernel) (by decide +kernel)) (goodIn_sub (fun _ h => List.mem_cons_of_mem _ (List.mem_append_right _ h)) (by decide +kernel))
set_option maxRecDepth 20000 in
theorem gX2_get_X2_needUp : GoodIn wsX2_get (wsV RX2 60 RX2 yX2_needUp wsX2_needUp) := goodIn_app (goodIn_of _ (by decide +kernel)) ggX2_get_X2_needUp
set_option maxRecDepth 20000 in
theorem ggX2_get_X0_has : GoodIn wsX2_get wsX0_has := goodIn_r _ [19, 20, 21, 22, 18, 23, 24, 51] (by decide +kernel) (by decide +kernel)
set_option maxRecDepth 20000 in
theorem gX2_get_X0_has : GoodIn wsX2_get (wsV RX2 70 RX0 yX0_has wsX0_has) := goodIn_app (goodIn_of _ (by decide +kernel)) ggX2_get_X0_has
set_option maxRecDepth 20000 in
theorem ggX2_get_X2_valueOf : GoodIn wsX2_get wsX2_valueOf := goodIn_r _ [28, 29, 1, 30, 21, 22, 18, 23, 24, 31, 32, 33, 34, 35, 36, 37, 38, 39, 40, 41, 42, 43, 44, 45, 46, 47, 48, 49, 50, 51, 52, 53] (by decide +kernel) (by decide +kernel)
set_option maxRecDepth 20000 in
theorem gX2_get_X2_valueOf : GoodIn wsX2_get (wsV RX2 79 RX2 yX2_valueOf wsX2_valueOf) := goodIn_app (goodIn_of _ (by decide +kernel)) ggX2_get_X2_valueOf
theorem dX2_get_0 : decode cX2_get 0 = .ok (.iload_n 1, 1) := by decide +kernel
theorem dX2_get_1 : decode cX2_get 1 = .ok (.invokestatic 49, 3) := by decide +kernel
theorem dX2_get_4 : decode cX2_get 4 = .ok (.aload_n 0, 1) := by decide +kernel
theorem dX2_get_5 : decode cX2_get 5 = .ok (.invokevirtual 60, 3) := by decide +kernel
theorem dX2_get_8 : decode cX2_get 8 = .ok (.aload_n 0, 1) := by decide +kernel
theorem dX2_get_9 : decode cX2_get 9 = .ok (.getfield 19, 3) := by decide +kernel
theorem dX2_get_12 : decode cX2_get 12 = .ok (.iload_n 1, 1) := by decide +kernel
theorem dX2_get_13 : decode cX2_get 13 = .ok (.invokevirtual 70, 3) := by decide +kernel
theorem dX2_get_16 : decode cX2_get 16 = .ok (.ifCond .eq 11, 3) := by decide +kernel
theorem dX2_get_19 : decode cX2_get 19 = .ok (.aload_n 0, 1) := by decide +kernel
theorem dX2_get_20 : decode cX2_get 20 = .ok (.iload_n 1, 1) := by decide +kernel
theorem dX2_get_21 : decode cX2_get 21 = .ok (.invokevirtual 79, 3) := by decide +kernel
theorem dX2_get_24 : decode cX2_get 24 = .ok (.goto 4, 3) := by decide +kernel
theorem dX2_get_27 : decode cX2_get 27 = .ok (.iconst (-1), 1) := by decide +kernel
theorem dX2_get_28 : decode cX2_get 28 = .ok (.ireturn, 1) := by decide +kernel
set_option maxRecDepth 20000 in
theorem ggX2_next_X2_needKey : GoodIn wsX2_next wsX2_needKey := goodIn_ca (goodIn_r _ [5, 6, 7] (by decide +kernel) (by decide +kernel)) (goodIn_sub (fun _ h => List.mem_cons_of_mem _ (List.mem_append_left _ (List.mem_append_right _ h))) (by decide +kernel))
set_option maxRecDepth 20000 in
theorem gX2_next_X2_needKey : GoodIn wsX2_next (va_wsS RX2 49 yX2_needKey wsX2_needKey) := goodIn_app (goodIn_of _ (by decide +kernel)) ggX2_next_X2_needKey
set_option maxRecDepth 20000 in
theorem ggX2_next_X2_needUp : GoodIn wsX2_next wsX2_needUp := goodIn_ca (goodIn_r _ [11, 12, 13, 14, 25, 26, 27, 28, 29, 30, 31, 32, 33, 34] (by decide +kernel) (by decide +kernel)) (goodIn_sub (fun _ h => List.mem_cons_of_mem _ (List.mem_append_right _ h)) (by decide +kernel))
set_option maxRecDepth 20000 in
theorem gX2_next_X2_needUp : GoodIn wsX2_next (wsV RX2 60 RX2 yX2_needUp wsX2_needUp) := goodIn_app (goodIn_of _ (by decide +kernel)) ggX2_next_X2_needUp
set_option maxRecDepth 20000 in
theorem ggX2_next_X0_has : GoodIn wsX2_next wsX0_has := goodIn_r _ [19, 20, 21, 22, 18, 23, 24, 35] (by decide +kernel) (by decide +kernel)
set_option maxRecDepth 20000 in
theorem gX2_next_X0_has : GoodIn wsX2_next (wsV RX2 70 RX0 yX0_has wsX0_has) := goodIn_app (goodIn_of _ (by decide +kernel)) ggX2_next_X0_has
theorem dX2_next_0 : decode cX2_next 0 = .ok (.iload_n 1, 1) := by decide +kernel
theorem dX2_next_1 : decode cX2_next 1 = .ok (.invokestatic 49, 3) := by decide +kernel
theorem dX2_next_4 : decode cX2_next 4 = .ok (.aload_n 0, 1) := by decide +kernel
theorem dX2_next_5 : decode cX2_next 5 = .ok (.invokevirtual 60, 3) := by decide +kernel
theorem dX2_next_8 : decode cX2_next 8 = .ok (.iload_n 1, 1) := by decide +kernel
theorem dX2_next_9 : decode cX2_next 9 = .ok (.istore_n 2, 1) := by decide +kernel
theorem dX2_next_10 : decode cX2_next 10 = .ok (.iload_n 2, 1) := by decide +kernel
theorem dX2_next_11 : decode cX2_next 11 = .ok (.bipush 64, 2) := by decide +kernel
theorem dX2_next_13 : decode cX2_next 13 = .ok (.if_icmp .ge 22, 3) := by decide +kernel
theorem dX2_next_16 : decode cX2_next 16 = .ok (.aload_n 0, 1) := by decide +kernel
theorem dX2_next_17 : decode cX2_next 17 = .ok (.getfield 19, 3) := by decide +kernel
theorem dX2_next_20 : decode cX2_next 20 = .ok (.iload_n 2, 1) := by decide +kernel
theorem dX2_next_21 : decode cX2_next 21 = .ok (.invokevirtual 70, 3) := by decide +kernel
theorem dX2_next_24 : decode cX2_next 24 = .ok (.ifCond .eq 5, 3) := by decide +kernel
theorem dX2_next_27 : decode cX2_next 27 = .ok (.iload_n 2, 1) := by decide +kernel
theorem dX2_next_28 : decode cX2_next 28 = .ok (.ireturn, 1) := by decide +kernel
theorem dX2_next_29 : decode cX2_next 29 = .ok (.iinc 2 1, 3) := by decide +kernel
theorem dX2_next_32 : decode cX2_next 32 = .ok (.goto (-22), 3) := by decide +kernel
theorem dX2_next_35 : decode cX2_next 35 = .ok (.iconst (-1), 1) := by decide +kernel
theorem dX2_next_36 : decode cX2_next 36 = .ok (.ireturn, 1) := by decide +kernel
set_option maxRecDepth 20000 in
theorem ggX2_sum_X2_needRange : GoodIn wsX2_sum wsX2_needRange := goodIn_ca (goodIn_r _ [5, 6, 7, 8, 9, 4, 10] (by decide +kernel) (by decide +kernel)) (goodIn_sub (fun _ h => List.mem_cons_of_mem _ (List.mem_append_left _ (List.mem_append_right _ h))) (by decide +kernel))
set_option maxRecDepth 20000 in
theorem gX2_sum_X2_needRange : GoodIn wsX2_sum (va_wsS RX2 83 yX2_needRange wsX2_needRange) := goodIn_app (goodIn_of _ (by decide +kernel)) ggX2_sum_X2_needRange
set_option maxRecDepth 20000 in
theorem ggX2_sum_X2_needUp : GoodIn wsX2_sum wsX2_needUp := goodIn_ca (goodIn_r _ [14, 15, 16, 17, 44, 45, 46, 47, 48, 49, 50, 51, 52, 53] (by decide +kernel) (by decide +kernel)) (goodIn_sub (fun _ h => List.mem_cons_of_mem _ (List.mem_append_right _ h)) (by decide +kernel))
set_option maxRecDepth 20000 in
theorem gX2_sum_X2_needUp : GoodIn wsX2_sum (wsV RX2 60 RX2 yX2_needUp wsX2_needUp) := goodIn_app (goodIn_of _ (by decide +kernel)) ggX2_sum_X2_needUp
set_option maxRecDepth 20000 in
theorem ggX2_sum_X0_has : GoodIn wsX2_sum wsX0_has := goodIn_r _ [22, 23, 24, 25, 21, 26, 27, 54] (by decide +kernel) (by decide +kernel)
set_option maxRecDepth 20000 in
theorem gX2_sum_X0_has : GoodIn wsX2_sum (wsV RX2 70 RX0 yX0_has wsX0_has) := goodIn_app (goodIn_of _ (by decide +kernel)) ggX2_sum_X0_has
set_option maxRecDepth 20000 in
theorem ggX2_sum_X2_valueOf : GoodIn wsX2_sum wsX2_valueOf := goodIn_r _ [31, 32, 1, 33, 24, 25, 21, 26, 27, 34, 35, 36, 37, 38, 39, 40, 41, 42, 43, 44, 45, 46, 47, 48, 49, 50, 51, 52, 53, 54, 55, 56] (by decide +kernel) (by decide +kernel)
set_option maxRecDepth 20000 in
theorem gX2_sum_X2_valueOf : GoodIn wsX2_sum (wsV RX2 79 RX2 yX2_valueOf wsX2_valueOf) := goodIn_app (goodIn_of _ (by decide +kernel)) ggX2_sum_X2_valueOf
theorem dX2_sum_0 : decode cX2_sum 0 = .ok (.iload_n 1, 1) := by decide +kernel
theorem dX2_sum_1 : decode cX2_sum 1 = .ok (.iload_n 2, 1) := by decide +kernel
theorem dX2_sum_2 : decode cX2_sum 2 = .ok (.invokestatic 83, 3) := by decide +kernel
theorem dX2_sum_5 : decode cX2_sum 5 = .ok (.aload_n 0, 1) := by decide +kernel
theorem dX2_sum_6 : decode cX2_sum 6 = .ok (.invokevirtual 60, 3) := by decide +kernel
theorem dX2_sum_9 : decode cX2_sum 9 = .ok (.iconst 0, 1) := by decide +kernel
theorem dX2_sum_10 : decode cX2_sum 10 = .ok (.istore_n 3, 1) := by decide +kernel
theorem dX2_sum_11 : decode cX2_sum 11 = .ok (.iload_n 1, 1) := by decide +kernel
theorem dX2_sum_12 : decode cX2_sum 12 = .ok (.istore 4, 2) := by decide +kernel
theorem dX2_sum_14 : decode cX2_sum 14 = .ok (.iload 4, 2) := by decide +kernel
theorem dX2_sum_16 : decode cX2_sum 16 = .ok (.iload_n 2, 1) := by decide +kernel
theorem dX2_sum_17 : decode cX2_sum 17 = .ok (.if_icmp .gt 30, 3) := by decide +kernel
theorem dX2_sum_20 : decode cX2_sum 20 = .ok (.aload_n 0, 1) := by decide +kernel
theorem dX2_sum_21 : decode cX2_sum 21 = .ok (.getfield 19, 3) := by decide +kernel
theorem dX2_sum_24 : decode cX2_sum 24 = .ok (.iload 4, 2) := by decide +kernel
theorem dX2_sum_26 : decode cX2_sum 26 = .ok (.invokevirtual 70, 3) := by decide +kernel
theorem dX2_sum_29 : decode cX2_sum 29 = .ok (.ifCond .eq 12, 3) := by decide +kernel
theorem dX2_sum_32 : decode cX2_sum 32 = .ok (.iload_n 3, 1) := by decide +kernel
theorem dX2_sum_33 : decode cX2_sum 33 = .ok (.aload_n 0, 1) := by decide +kernel
theorem dX2_sum_34 : decode cX2_sum 34 = .ok (.iload 4, 2) := by decide +kernel
theorem dX2_sum_36 : decode cX2_sum 36 = .ok (.invokevirtual 79, 3) := by decide +kernel
theorem dX2_sum_39 : decode cX2_sum 39 = .ok (.iadd, 1) := by decide +kernel
theorem dX2_sum_40 : decode cX2_sum 40 = .ok (.istore_n 3, 1) := by decide +kernel
theorem dX2_sum_41 : decode cX2_sum 41 = .ok (.iinc 4 1, 3) := by decide +kernel
theorem dX2_sum_44 : decode cX2_sum 44 = .ok (.goto (-30), 3) := by decide +kernel
theorem dX2_sum_47 : decode cX2_sum 47 = .ok (.iload_n 3, 1) := by decide +kernel
theorem dX2_sum_48 : decode cX2_sum 48 = .ok (.ireturn, 1) := by decide +kernel
set_option maxRecDepth 20000 in
theorem ggX2_fetches_X2_needRange : GoodIn wsX2_fetches wsX2_needRange := goodIn_ca (goodIn_r _ [6, 7, 8, 9, 10, 5, 11] (by decide +kernel) (by decide +kernel)) (goodIn_sub (fun _ h => List.mem_cons_of_mem _ (List.mem_append_left _ (List.mem_append_right _ h))) (by decide +kernel))
set_option maxRecDepth 20000 in
theorem gX2_fetches_X2_needRange : GoodIn wsX2_fetches (va_wsS RX2 83 yX2_needRange wsX2_needRange) := goodIn_app (goodIn_of _ (by decide +kernel)) ggX2_fetches_X2_needRange
set_option maxRecDepth 20000 in
theorem ggX2_fetches_X2_needUp : GoodIn wsX2_fetches wsX2_needUp := goodIn_ca (goodIn_r _ [15, 16, 17, 18, 40, 41, 42, 43, 44, 45, 46, 47, 48, 49] (by decide +kernel) (by decide +kernel)) (goodIn_sub (fun _ h => List.mem_cons_of_mem _ (List.mem_append_right _ h)) (by decide +kernel))
set_option maxRecDepth 20000 in
theorem gX2_fetches_X2_needUp : GoodIn wsX2_fetches (wsV RX2 60 RX2 yX2_needUp wsX2_needUp) := goodIn_app (goodIn_of _ (by decide +kernel)) ggX2_fetches_X2_needUp
set_option maxRecDepth 20000 in
theorem ggX2_fetches_X2_segmentOf : GoodIn wsX2_fetches wsX2_segmentOf := goodIn_r _ [21] (by decide +kernel) (by decide +kernel)
set_option maxRecDepth 20000 in
theorem gX2_fetches_X2_segmentOf : GoodIn wsX2_fetches (va_wsS RX2 87 yX2_segmentOf wsX2_segmentOf) := goodIn_app (goodIn_of _ (by decide +kernel)) ggX2_fetches_X2_segmentOf
set_option maxRecDepth 20000 in
theorem ggX2_fetches_X0_has : GoodIn wsX2_fetches wsX0_has := goodIn_r _ [26, 27, 28, 29, 25, 30, 31, 50] (by decide +kernel) (by decide +kernel)
set_option maxRecDepth 20000 in
theorem gX2_fetches_X0_has : GoodIn wsX2_fetches (wsV RX2 70 RX0 yX0_has wsX0_has) := goodIn_app (goodIn_of _ (by decide +kernel)) ggX2_fetches_X0_has
set_option maxRecDepth 20000 in
theorem ggX2_fetches_X0_find : GoodIn wsX2_fetches wsX0_find := goodIn_r _ [30, 31, 50] (by decide +kernel) (by decide +kernel)
set_option maxRecDepth 20000 in
theorem gX2_fetches_X0_find : GoodIn wsX2_fetches (wsV RX2 90 RX0 yX0_find wsX0_find) := goodIn_app (goodIn_of _ (by decide +kernel)) ggX2_fetches_X0_find
set_option maxRecDepth 20000 in
theorem ggX2_fetches_J6_bitCount_0f7a4 : GoodIn wsX2_fetches wsJ6_bitCount_0f7a4 := goodIn_r _ [36, 37, 38, 39] (by decide +kernel) (by decide +kernel)
set_option maxRecDepth 20000 in
theorem gX2_fetches_J6_bitCount_0f7a4 : GoodIn wsX2_fetches (va_wsS RX2 93 yJ6_bitCount_0f7a4 wsJ6_bitCount_0f7a4) := goodIn_app (goodIn_of _ (by decide +kernel)) ggX2_fetches_J6_bitCount_0f7a4
theorem dX2_fetches_0 : decode cX2_fetches 0 = .ok (.iload_n 1, 1) := by decide +kernel
theorem dX2_fetches_1 : decode cX2_fetches 1 = .ok (.iload_n 2, 1) := by decide +kernel
theorem dX2_fetches_2 : decode cX2_fetches 2 = .ok (.invokestatic 83, 3) := by decide +kernel
theorem dX2_fetches_5 : decode cX2_fetches 5 = .ok (.aload_n 0, 1) := by decide +kernel
theorem dX2_fetches_6 : decode cX2_fetches 6 = .ok (.invokevirtual 60, 3) := by decide +kernel
theorem dX2_fetches_9 : decode cX2_fetches 9 = .ok (.aload_n 0, 1) := by decide +kernel
theorem dX2_fetches_10 : decode cX2_fetches 10 = .ok (.getfield 37, 3) := by decide +kernel
theorem dX2_fetches_13 : decode cX2_fetches 13 = .ok (.invokestatic 87, 3) := by decide +kernel
theorem dX2_fetches_16 : decode cX2_fetches 16 = .ok (.istore_n 3, 1) := by decide +kernel
theorem dX2_fetches_17 : decode cX2_fetches 17 = .ok (.iconst 0, 1) := by decide +kernel
theorem dX2_fetches_18 : decode cX2_fetches 18 = .ok (.istore 4, 2) := by decide +kernel
theorem dX2_fetches_20 : decode cX2_fetches 20 = .ok (.iload_n 1, 1) := by decide +kernel
theorem dX2_fetches_21 : decode cX2_fetches 21 = .ok (.istore 5, 2) := by decide +kernel
theorem dX2_fetches_23 : decode cX2_fetches 23 = .ok (.iload 5, 2) := by decide +kernel
theorem dX2_fetches_25 : decode cX2_fetches 25 = .ok (.iload_n 2, 1) := by decide +kernel
theorem dX2_fetches_26 : decode cX2_fetches 26 = .ok (.if_icmp .gt 42, 3) := by decide +kernel
theorem dX2_fetches_29 : decode cX2_fetches 29 = .ok (.aload_n 0, 1) := by decide +kernel
theorem dX2_fetches_30 : decode cX2_fetches 30 = .ok (.getfield 19, 3) := by decide +kernel
theorem dX2_fetches_33 : decode cX2_fetches 33 = .ok (.iload 5, 2) := by decide +kernel
theorem dX2_fetches_35 : decode cX2_fetches 35 = .ok (.invokevirtual 70, 3) := by decide +kernel
theorem dX2_fetches_38 : decode cX2_fetches 38 = .ok (.ifCond .eq 24, 3) := by decide +kernel
theorem dX2_fetches_41 : decode cX2_fetches 41 = .ok (.iload 4, 2) := by decide +kernel
theorem dX2_fetches_43 : decode cX2_fetches 43 = .ok (.iconst 1, 1) := by decide +kernel
theorem dX2_fetches_44 : decode cX2_fetches 44 = .ok (.aload_n 0, 1) := by decide +kernel
theorem dX2_fetches_45 : decode cX2_fetches 45 = .ok (.getfield 19, 3) := by decide +kernel
theorem dX2_fetches_48 : decode cX2_fetches 48 = .ok (.iload 5, 2) := by decide +kernel
theorem dX2_fetches_50 : decode cX2_fetches 50 = .ok (.invokevirtual 90, 3) := by decide +kernel
theorem dX2_fetches_53 : decode cX2_fetches 53 = .ok (.invokestatic 87, 3) := by decide +kernel
theorem dX2_fetches_56 : decode cX2_fetches 56 = .ok (.iload_n 3, 1) := by decide +kernel
theorem dX2_fetches_57 : decode cX2_fetches 57 = .ok (.isub, 1) := by decide +kernel
theorem dX2_fetches_58 : decode cX2_fetches 58 = .ok (.ishl, 1) := by decide +kernel
theorem dX2_fetches_59 : decode cX2_fetches 59 = .ok (.ior, 1) := by decide +kernel
theorem dX2_fetches_60 : decode cX2_fetches 60 = .ok (.istore 4, 2) := by decide +kernel
theorem dX2_fetches_62 : decode cX2_fetches 62 = .ok (.iinc 5 1, 3) := by decide +kernel
theorem dX2_fetches_65 : decode cX2_fetches 65 = .ok (.goto (-42), 3) := by decide +kernel
theorem dX2_fetches_68 : decode cX2_fetches 68 = .ok (.iload 4, 2) := by decide +kernel
theorem dX2_fetches_70 : decode cX2_fetches 70 = .ok (.invokestatic 93, 3) := by decide +kernel
theorem dX2_fetches_73 : decode cX2_fetches 73 = .ok (.ireturn, 1) := by decide +kernel
set_option maxRecDepth 20000 in
theorem ggX2_synchronize_X2_needUp : GoodIn wsX2_synchronize wsX2_needUp := goodIn_ca (goodIn_r _ [5, 6, 7, 8, 24, 25, 26, 27, 28, 29, 30, 31, 32, 33] (by decide +kernel) (by decide +kernel)) (goodIn_sub (fun _ h => List.mem_cons_of_mem _ (List.mem_append_right _ h)) (by decide +kernel))
set_option maxRecDepth 20000 in
theorem gX2_synchronize_X2_needUp : GoodIn wsX2_synchronize (wsV RX2 60 RX2 yX2_needUp wsX2_needUp) := goodIn_app (goodIn_of _ (by decide +kernel)) ggX2_synchronize_X2_needUp
set_option maxRecDepth 20000 in
theorem ggX2_synchronize_X2_writeEntries : GoodIn wsX2_synchronize wsX2_writeEntries := goodIn_r _ [12, 13, 14, 15, 16, 17, 4, 18, 19, 20, 21, 22, 23, 8, 24, 25, 26, 27, 28, 29, 30, 31, 32, 33] (by decide +kernel) (by decide +kernel)
set_option maxRecDepth 20000 in
theorem gX2_synchronize_X2_writeEntries : GoodIn wsX2_synchronize (wsV RX2 98 RX2 yX2_writeEntries wsX2_writeEntries) := goodIn_app (goodIn_of _ (by decide +kernel)) ggX2_synchronize_X2_writeEntries
theorem dX2_synchronize_0 : decode cX2_synchronize 0 = .ok (.aload_n 0, 1) := by decide +kernel
theorem dX2_synchronize_1 : decode cX2_synchronize 1 = .ok (.invokevirtual 60, 3) := by decide +kernel
theorem dX2_synchronize_4 : decode cX2_synchronize 4 = .ok (.aload_n 0, 1) := by decide +kernel
theorem dX2_synchronize_5 : decode cX2_synchronize 5 = .ok (.invokevirtual 98, 3) := by decide +kernel
theorem dX2_synchronize_8 : decode cX2_synchronize 8 = .ok (.ireturn, 1) := by decide +kernel
set_option maxRecDepth 20000 in
theorem ggX2_checkpoint_X2_needUp : GoodIn wsX2_checkpoint wsX2_needUp := goodIn_ca (goodIn_r _ [9, 10, 11, 12, 37, 38, 39, 40, 41, 42, 43, 44, 45, 46] (by decide +kernel) (by decide +kernel)) (goodIn_sub (fun _ h => List.mem_cons_of_mem _ (List.mem_append_right _ h)) (by decide +kernel))
set_option maxRecDepth 20000 in
theorem gX2_checkpoint_X2_needUp : GoodIn wsX2_checkpoint (wsV RX2 60 RX2 yX2_needUp wsX2_needUp) := goodIn_app (goodIn_of _ (by decide +kernel)) ggX2_checkpoint_X2_needUp
set_option maxRecDepth 20000 in
theorem ggX2_checkpoint_X2_writeEntries : GoodIn wsX2_checkpoint wsX2_writeEntries := goodIn_r _ [16, 3, 17, 18, 19, 20, 8, 21, 22, 23, 24, 25, 26, 12, 37, 38, 39, 40, 41, 42, 43, 44, 45, 46] (by decide +kernel) (by decide +kernel)
set_option maxRecDepth 20000 in
theorem gX2_checkpoint_X2_writeEntries : GoodIn wsX2_checkpoint (wsV RX2 98 RX2 yX2_writeEntries wsX2_writeEntries) := goodIn_app (goodIn_of _ (by decide +kernel)) ggX2_checkpoint_X2_writeEntries
set_option maxRecDepth 20000 in
theorem ggX2_checkpoint_X2_writeOnce : GoodIn wsX2_checkpoint wsX2_writeOnce := goodIn_r _ [21, 22, 23, 24, 25, 8, 26, 17, 3, 12, 37, 38, 39, 40, 41, 42, 43, 44, 45, 46] (by decide +kernel) (by decide +kernel)
set_option maxRecDepth 20000 in
theorem gX2_checkpoint_X2_writeOnce : GoodIn wsX2_checkpoint (wsV RX2 102 RX2 yX2_writeOnce wsX2_writeOnce) := goodIn_app (goodIn_of _ (by decide +kernel)) ggX2_checkpoint_X2_writeOnce
set_option maxRecDepth 20000 in
theorem ggX2_checkpoint_X0_takeFrom : GoodIn wsX2_checkpoint wsX0_takeFrom := goodIn_r _ [31, 32, 33, 34, 35, 30, 36, 47] (by decide +kernel) (by decide +kernel)
set_option maxRecDepth 20000 in
theorem gX2_checkpoint_X0_takeFrom : GoodIn wsX2_checkpoint (wsV RX2 105 RX0 yX0_takeFrom wsX0_takeFrom) := goodIn_app (goodIn_of _ (by decide +kernel)) ggX2_checkpoint_X0_takeFrom
theorem dX2_checkpoint_0 : decode cX2_checkpoint 0 = .ok (.aload_n 0, 1) := by decide +kernel
theorem dX2_checkpoint_1 : decode cX2_checkpoint 1 = .ok (.invokevirtual 60, 3) := by decide +kernel
theorem dX2_checkpoint_4 : decode cX2_checkpoint 4 = .ok (.aload_n 0, 1) := by decide +kernel
theorem dX2_checkpoint_5 : decode cX2_checkpoint 5 = .ok (.invokevirtual 98, 3) := by decide +kernel
theorem dX2_checkpoint_8 : decode cX2_checkpoint 8 = .ok (.ifCond .eq 10, 3) := by decide +kernel
theorem dX2_checkpoint_11 : decode cX2_checkpoint 11 = .ok (.aload_n 0, 1) := by decide +kernel
theorem dX2_checkpoint_12 : decode cX2_checkpoint 12 = .ok (.invokevirtual 102, 3) := by decide +kernel
theorem dX2_checkpoint_15 : decode cX2_checkpoint 15 = .ok (.ifCond .ne 5, 3) := by decide +kernel
theorem dX2_checkpoint_18 : decode cX2_checkpoint 18 = .ok (.iconst 0, 1) := by decide +kernel
theorem dX2_checkpoint_19 : decode cX2_checkpoint 19 = .ok (.ireturn, 1) := by decide +kernel
theorem dX2_checkpoint_20 : decode cX2_checkpoint 20 = .ok (.aload_n 0, 1) := by decide +kernel
theorem dX2_checkpoint_21 : decode cX2_checkpoint 21 = .ok (.getfield 23, 3) := by decide +kernel
theorem dX2_checkpoint_24 : decode cX2_checkpoint 24 = .ok (.aload_n 0, 1) := by decide +kernel
theorem dX2_checkpoint_25 : decode cX2_checkpoint 25 = .ok (.getfield 19, 3) := by decide +kernel
theorem dX2_checkpoint_28 : decode cX2_checkpoint 28 = .ok (.invokevirtual 105, 3) := by decide +kernel
theorem dX2_checkpoint_31 : decode cX2_checkpoint 31 = .ok (.aload_n 0, 1) := by decide +kernel
theorem dX2_checkpoint_32 : decode cX2_checkpoint 32 = .ok (.aload_n 0, 1) := by decide +kernel
theorem dX2_checkpoint_33 : decode cX2_checkpoint 33 = .ok (.getfield 33, 3) := by decide +kernel
theorem dX2_checkpoint_36 : decode cX2_checkpoint 36 = .ok (.putfield 43, 3) := by decide +kernel
theorem dX2_checkpoint_39 : decode cX2_checkpoint 39 = .ok (.iconst 1, 1) := by decide +kernel
theorem dX2_checkpoint_40 : decode cX2_checkpoint 40 = .ok (.ireturn, 1) := by decide +kernel
set_option maxRecDepth 20000 in
theorem ggX2_collect_X2_needUp : GoodIn wsX2_collect wsX2_needUp := goodIn_ca (goodIn_r _ [11, 3, 4, 12, 85, 86, 87, 88, 89, 90, 91, 92, 93, 94] (by decide +kernel) (by decide +kernel)) (goodIn_sub (fun _ h => List.mem_cons_of_mem _ (List.mem_append_right _ h)) (by decide +kernel))
set_option maxRecDepth 20000 in
theorem gX2_collect_X2_needUp : GoodIn wsX2_collect (wsV RX2 60 RX2 yX2_needUp wsX2_needUp) := goodIn_app (goodIn_of _ (by decide +kernel)) ggX2_collect_X2_needUp
set_option maxRecDepth 20000 in
theorem ggX2_collect_X2_liveFromTail : GoodIn wsX2_collect wsX2_liveFromTail := goodIn_r _ [16, 6, 17, 18, 19, 10, 20, 21, 22, 23, 24, 25, 26, 27, 28, 29, 30, 31, 32, 33, 34, 35, 36, 37, 38, 85, 86, 87, 88, 89, 90, 91, 92, 93, 94, 95, 96, 97] (by decide +kernel) (by decide +kernel)
set_option maxRecDepth 20000 in
theorem gX2_collect_X2_liveFromTail : GoodIn wsX2_collect (wsV RX2 113 RX2 yX2_liveFromTail wsX2_liveFromTail) := goodIn_app (goodIn_of _ (by decide +kernel)) ggX2_collect_X2_liveFromTail
set_option maxRecDepth 20000 in
theorem ggX2_collect_X2_needRoom : GoodIn wsX2_collect wsX2_needRoom := goodIn_ca (goodIn_r _ [42, 3, 4, 6, 5, 43, 44, 10, 45, 85, 86, 87, 88, 89, 90, 91, 92, 93, 94] (by decide +kernel) (by decide +kernel)) (goodIn_sub (fun _ h => List.mem_cons_of_mem _ (List.mem_append_right _ h)) (by decide +kernel))
set_option maxRecDepth 20000 in
theorem gX2_collect_X2_needRoom : GoodIn wsX2_collect (wsV RX2 63 RX2 yX2_needRoom wsX2_needRoom) := goodIn_app (goodIn_of _ (by decide +kernel)) ggX2_collect_X2_needRoom
set_option maxRecDepth 20000 in
theorem ggX2_collect_X2_appendLiveAgain : GoodIn wsX2_collect wsX2_appendLiveAgain := goodIn_r _ [49, 6, 22, 17, 18, 19, 10, 20, 21, 23, 24, 25, 26, 27, 28, 29, 30, 31, 32, 33, 34, 35, 36, 37, 38, 50, 51, 52, 53, 54, 55, 56, 57, 58, 5, 59, 60, 61, 62, 63, 64, 65, 66, 67, 68, 69, 70, 85, 86, 87, 88, 89, 90, 91, 92, 93, 94, 95, 96, 97] (by decide +kernel) (by decide +kernel)
set_option maxRecDepth 20000 in
theorem gX2_collect_X2_appendLiveAgain : GoodIn wsX2_collect (wsV RX2 116 RX2 yX2_appendLiveAgain wsX2_appendLiveAgain) := goodIn_app (goodIn_of _ (by decide +kernel)) ggX2_collect_X2_appendLiveAgain
set_option maxRecDepth 20000 in
theorem ggX2_collect_X2_writeEntries : GoodIn wsX2_collect wsX2_writeEntries := goodIn_r _ [74, 5, 75, 76, 77, 78, 10, 79, 80, 81, 82, 83, 84, 12, 85, 86, 87, 88, 89, 90, 91, 92, 93, 94] (by decide +kernel) (by decide +kernel)
set_option maxRecDepth 20000 in
theorem gX2_collect_X2_writeEntries : GoodIn wsX2_collect (wsV RX2 98 RX2 yX2_writeEntries wsX2_writeEntries) := goodIn_app (goodIn_of _ (by decide +kernel)) ggX2_collect_X2_writeEntries
set_option maxRecDepth 20000 in
theorem ggX2_collect_X2_writeOnce : GoodIn wsX2_collect wsX2_writeOnce := goodIn_r _ [79, 80, 81, 82, 83, 10, 84, 75, 5, 12, 85, 86, 87, 88, 89, 90, 91, 92, 93, 94] (by decide +kernel) (by decide +kernel)
set_option maxRecDepth 20000 in
theorem gX2_collect_X2_writeOnce : GoodIn wsX2_collect (wsV RX2 102 RX2 yX2_writeOnce wsX2_writeOnce) := goodIn_app (goodIn_of _ (by decide +kernel)) ggX2_collect_X2_writeOnce
theorem dX2_collect_0 : decode cX2_collect 0 = .ok (.iload_n 1, 1) := by decide +kernel
theorem dX2_collect_1 : decode cX2_collect 1 = .ok (.iconst 1, 1) := by decide +kernel
theorem dX2_collect_2 : decode cX2_collect 2 = .ok (.if_icmp .lt 9, 3) := by decide +kernel
theorem dX2_collect_5 : decode cX2_collect 5 = .ok (.iload_n 1, 1) := by decide +kernel
theorem dX2_collect_6 : decode cX2_collect 6 = .ok (.bipush 96, 2) := by decide +kernel
theorem dX2_collect_8 : decode cX2_collect 8 = .ok (.if_icmp .le 13, 3) := by decide +kernel
theorem dX2_collect_11 : decode cX2_collect 11 = .ok (.new 53, 3) := by decide +kernel
theorem dX2_collect_14 : decode cX2_collect 14 = .ok (.dup, 1) := by decide +kernel
theorem dX2_collect_15 : decode cX2_collect 15 = .ok (.ldc 109, 2) := by decide +kernel
theorem dX2_collect_17 : decode cX2_collect 17 = .ok (.invokespecial 57, 3) := by decide +kernel
theorem dX2_collect_20 : decode cX2_collect 20 = .ok (.athrow, 1) := by decide +kernel
theorem dX2_collect_21 : decode cX2_collect 21 = .ok (.aload_n 0, 1) := by decide +kernel
theorem dX2_collect_22 : decode cX2_collect 22 = .ok (.invokevirtual 60, 3) := by decide +kernel
theorem dX2_collect_25 : decode cX2_collect 25 = .ok (.iload_n 1, 1) := by decide +kernel
theorem dX2_collect_26 : decode cX2_collect 26 = .ok (.aload_n 0, 1) := by decide +kernel
theorem dX2_collect_27 : decode cX2_collect 27 = .ok (.getfield 33, 3) := by decide +kernel
theorem dX2_collect_30 : decode cX2_collect 30 = .ok (.aload_n 0, 1) := by decide +kernel
theorem dX2_collect_31 : decode cX2_collect 31 = .ok (.getfield 37, 3) := by decide +kernel
theorem dX2_collect_34 : decode cX2_collect 34 = .ok (.isub, 1) := by decide +kernel
theorem dX2_collect_35 : decode cX2_collect 35 = .ok (.if_icmp .le 13, 3) := by decide +kernel
theorem dX2_collect_38 : decode cX2_collect 38 = .ok (.new 74, 3) := by decide +kernel
theorem dX2_collect_41 : decode cX2_collect 41 = .ok (.dup, 1) := by decide +kernel
theorem dX2_collect_42 : decode cX2_collect 42 = .ok (.ldc 111, 2) := by decide +kernel
theorem dX2_collect_44 : decode cX2_collect 44 = .ok (.invokespecial 78, 3) := by decide +kernel
theorem dX2_collect_47 : decode cX2_collect 47 = .ok (.athrow, 1) := by decide +kernel
theorem dX2_collect_48 : decode cX2_collect 48 = .ok (.aload_n 0, 1) := by decide +kernel
theorem dX2_collect_49 : decode cX2_collect 49 = .ok (.aload_n 0, 1) := by decide +kernel
theorem dX2_collect_50 : decode cX2_collect 50 = .ok (.iload_n 1, 1) := by decide +kernel
theorem dX2_collect_51 : decode cX2_collect 51 = .ok (.invokevirtual 113, 3) := by decide +kernel
theorem dX2_collect_54 : decode cX2_collect 54 = .ok (.invokevirtual 63, 3) := by decide +kernel
theorem dX2_collect_57 : decode cX2_collect 57 = .ok (.aload_n 0, 1) := by decide +kernel
theorem dX2_collect_58 : decode cX2_collect 58 = .ok (.iload_n 1, 1) := by decide +kernel
theorem dX2_collect_59 : decode cX2_collect 59 = .ok (.invokevirtual 116, 3) := by decide +kernel
theorem dX2_collect_62 : decode cX2_collect 62 = .ok (.aload_n 0, 1) := by decide +kernel
theorem dX2_collect_63 : decode cX2_collect 63 = .ok (.invokevirtual 98, 3) := by decide +kernel
theorem dX2_collect_66 : decode cX2_collect 66 = .ok (.ifCond .eq 10, 3) := by decide +kernel
theorem dX2_collect_69 : decode cX2_collect 69 = .ok (.aload_n 0, 1) := by decide +kernel
theorem dX2_collect_70 : decode cX2_collect 70 = .ok (.invokevirtual 102, 3) := by decide +kernel
theorem dX2_collect_73 : decode cX2_collect 73 = .ok (.ifCond .ne 5, 3) := by decide +kernel
theorem dX2_collect_76 : decode cX2_collect 76 = .ok (.iconst 0, 1) := by decide +kernel
theorem dX2_collect_77 : decode cX2_collect 77 = .ok (.ireturn, 1) := by decide +kernel
theorem dX2_collect_78 : decode cX2_collect 78 = .ok (.aload_n 0, 1) := by decide +kernel
theorem dX2_collect_79 : decode cX2_collect 79 = .ok (.dup, 1) := by decide +kernel
theorem dX2_collect_80 : decode cX2_collect 80 = .ok (.getfield 37, 3) := by decide +kernel
theorem dX2_collect_83 : decode cX2_collect 83 = .ok (.iload_n 1, 1) := by decide +kernel
theorem dX2_collect_84 : decode cX2_collect 84 = .ok (.iadd, 1) := by decide +kernel
theorem dX2_collect_85 : decode cX2_collect 85 = .ok (.putfield 37, 3) := by decide +kernel
theorem dX2_collect_88 : decode cX2_collect 88 = .ok (.iconst 1, 1) := by decide +kernel
theorem dX2_collect_89 : decode cX2_collect 89 = .ok (.ireturn, 1) := by decide +kernel
set_option maxRecDepth 20000 in
theorem ggX2_crash_X2_needUp : GoodIn wsX2_crash wsX2_needUp := goodIn_ca (goodIn_r _ [7, 8, 9, 10, 15, 16, 17, 18, 19, 20, 21, 22, 23, 24] (by decide +kernel) (by decide +kernel)) (goodIn_sub (fun _ h => List.mem_cons_of_mem _ (List.mem_append_right _ h)) (by decide +kernel))
set_option maxRecDepth 20000 in
theorem gX2_crash_X2_needUp : GoodIn wsX2_crash (wsV RX2 60 RX2 yX2_needUp wsX2_needUp) := goodIn_app (goodIn_of _ (by decide +kernel)) ggX2_crash_X2_needUp
set_option maxRecDepth 20000 in
theorem ggX2_crash_X2_losePower : GoodIn wsX2_crash wsX2_losePower := goodIn_r _ [14, 2, 1, 10, 15, 16, 17, 18, 19, 20, 21, 22, 23, 24] (by decide +kernel) (by decide +kernel)
set_option maxRecDepth 20000 in
theorem gX2_crash_X2_losePower : GoodIn wsX2_crash (wsV RX2 121 RX2 yX2_losePower wsX2_losePower) := goodIn_app (goodIn_of _ (by decide +kernel)) ggX2_crash_X2_losePower
theorem dX2_crash_0 : decode cX2_crash 0 = .ok (.aload_n 0, 1) := by decide +kernel
theorem dX2_crash_1 : decode cX2_crash 1 = .ok (.invokevirtual 60, 3) := by decide +kernel
theorem dX2_crash_4 : decode cX2_crash 4 = .ok (.aload_n 0, 1) := by decide +kernel
theorem dX2_crash_5 : decode cX2_crash 5 = .ok (.getfield 33, 3) := by decide +kernel
theorem dX2_crash_8 : decode cX2_crash 8 = .ok (.aload_n 0, 1) := by decide +kernel
theorem dX2_crash_9 : decode cX2_crash 9 = .ok (.getfield 40, 3) := by decide +kernel
theorem dX2_crash_12 : decode cX2_crash 12 = .ok (.isub, 1) := by decide +kernel
theorem dX2_crash_13 : decode cX2_crash 13 = .ok (.istore_n 1, 1) := by decide +kernel
theorem dX2_crash_14 : decode cX2_crash 14 = .ok (.aload_n 0, 1) := by decide +kernel
theorem dX2_crash_15 : decode cX2_crash 15 = .ok (.invokevirtual 121, 3) := by decide +kernel
theorem dX2_crash_18 : decode cX2_crash 18 = .ok (.iload_n 1, 1) := by decide +kernel
theorem dX2_crash_19 : decode cX2_crash 19 = .ok (.ireturn, 1) := by decide +kernel
set_option maxRecDepth 20000 in
theorem ggX2_start_X2_recover : GoodIn wsX2_start wsX2_recover := goodIn_r _ [9, 10, 11, 12, 13, 14, 15, 16, 17, 18, 19, 20, 21, 22, 23, 24, 25, 26, 27, 28, 29, 30, 31, 32, 33, 34, 8, 35, 36, 37, 38, 39, 40, 41, 42, 43, 44, 45, 46, 47, 48, 49, 50, 51, 52, 53, 54, 55, 60, 61, 62, 63, 64, 65, 66, 67, 68, 69, 70, 71, 72] (by decide +kernel) (by decide +kernel)
set_option maxRecDepth 20000 in
theorem gX2_start_X2_recover : GoodIn wsX2_start (wsV RX2 126 RX2 yX2_recover wsX2_recover) := goodIn_app (goodIn_of _ (by decide +kernel)) ggX2_start_X2_recover
set_option maxRecDepth 20000 in
theorem ggX2_start_X0_size : GoodIn wsX2_start wsX0_size := goodIn_r _ [59, 23, 70] (by decide +kernel) (by decide +kernel)
set_option maxRecDepth 20000 in
theorem gX2_start_X0_size : GoodIn wsX2_start (wsV RX2 129 RX0 yX0_size wsX0_size) := goodIn_app (goodIn_of _ (by decide +kernel)) ggX2_start_X0_size
theorem dX2_start_0 : decode cX2_start 0 = .ok (.aload_n 0, 1) := by decide +kernel
theorem dX2_start_1 : decode cX2_start 1 = .ok (.getfield 29, 3) := by decide +kernel
theorem dX2_start_4 : decode cX2_start 4 = .ok (.ifCond .eq 13, 3) := by decide +kernel
theorem dX2_start_7 : decode cX2_start 7 = .ok (.new 74, 3) := by decide +kernel
theorem dX2_start_10 : decode cX2_start 10 = .ok (.dup, 1) := by decide +kernel
theorem dX2_start_11 : decode cX2_start 11 = .ok (.ldc 124, 2) := by decide +kernel
theorem dX2_start_13 : decode cX2_start 13 = .ok (.invokespecial 78, 3) := by decide +kernel
theorem dX2_start_16 : decode cX2_start 16 = .ok (.athrow, 1) := by decide +kernel
theorem dX2_start_17 : decode cX2_start 17 = .ok (.aload_n 0, 1) := by decide +kernel
theorem dX2_start_18 : decode cX2_start 18 = .ok (.aload_n 0, 1) := by decide +kernel
theorem dX2_start_19 : decode cX2_start 19 = .ok (.getfield 19, 3) := by decide +kernel
theorem dX2_start_22 : decode cX2_start 22 = .ok (.invokevirtual 126, 3) := by decide +kernel
theorem dX2_start_25 : decode cX2_start 25 = .ok (.aload_n 0, 1) := by decide +kernel
theorem dX2_start_26 : decode cX2_start 26 = .ok (.iconst 1, 1) := by decide +kernel
theorem dX2_start_27 : decode cX2_start 27 = .ok (.putfield 29, 3) := by decide +kernel
theorem dX2_start_30 : decode cX2_start 30 = .ok (.aload_n 0, 1) := by decide +kernel
theorem dX2_start_31 : decode cX2_start 31 = .ok (.getfield 19, 3) := by decide +kernel
theorem dX2_start_34 : decode cX2_start 34 = .ok (.invokevirtual 129, 3) := by decide +kernel
theorem dX2_start_37 : decode cX2_start 37 = .ok (.ireturn, 1) := by decide +kernel
theorem dX2_isUp_0 : decode cX2_isUp 0 = .ok (.aload_n 0, 1) := by decide +kernel
theorem dX2_isUp_1 : decode cX2_isUp 1 = .ok (.getfield 29, 3) := by decide +kernel
theorem dX2_isUp_4 : decode cX2_isUp 4 = .ok (.ireturn, 1) := by decide +kernel
theorem dX2_head_0 : decode cX2_head 0 = .ok (.aload_n 0, 1) := by decide +kernel
theorem dX2_head_1 : decode cX2_head 1 = .ok (.getfield 33, 3) := by decide +kernel
theorem dX2_head_4 : decode cX2_head 4 = .ok (.ireturn, 1) := by decide +kernel
theorem dX2_tail_0 : decode cX2_tail 0 = .ok (.aload_n 0, 1) := by decide +kernel
theorem dX2_tail_1 : decode cX2_tail 1 = .ok (.getfield 37, 3) := by decide +kernel
theorem dX2_tail_4 : decode cX2_tail 4 = .ok (.ireturn, 1) := by decide +kernel
theorem dX2_written_0 : decode cX2_written 0 = .ok (.aload_n 0, 1) := by decide +kernel
theorem dX2_written_1 : decode cX2_written 1 = .ok (.getfield 40, 3) := by decide +kernel
theorem dX2_written_4 : decode cX2_written 4 = .ok (.ireturn, 1) := by decide +kernel
theorem dX2_checkpointAt_0 : decode cX2_checkpointAt 0 = .ok (.aload_n 0, 1) := by decide +kernel
theorem dX2_checkpointAt_1 : decode cX2_checkpointAt 1 = .ok (.getfield 43, 3) := by decide +kernel
theorem dX2_checkpointAt_4 : decode cX2_checkpointAt 4 = .ok (.ireturn, 1) := by decide +kernel
set_option maxRecDepth 20000 in
theorem ggX2_positionOf_X2_needKey : GoodIn wsX2_positionOf wsX2_needKey := goodIn_ca (goodIn_r _ [5, 6, 7] (by decide +kernel) (by decide +kernel)) (goodIn_sub (fun _ h => List.mem_cons_of_mem _ (List.mem_append_left _ (List.mem_append_right _ h))) (by decide +kernel))
set_option maxRecDepth 20000 in
theorem gX2_positionOf_X2_needKey : GoodIn wsX2_positionOf (va_wsS RX2 49 yX2_needKey wsX2_needKey) := goodIn_app (goodIn_of _ (by decide +kernel)) ggX2_positionOf_X2_needKey
set_option maxRecDepth 20000 in
theorem ggX2_positionOf_X2_needUp : GoodIn wsX2_positionOf wsX2_needUp := goodIn_ca (goodIn_r _ [11, 12, 13, 14, 21, 22, 23, 24, 25, 26, 27, 28, 29, 30] (by decide +kernel) (by decide +kernel)) (goodIn_sub (fun _ h => List.mem_cons_of_mem _ (List.mem_append_right _ h)) (by decide +kernel))
set_option maxRecDepth 20000 in
theorem gX2_positionOf_X2_needUp : GoodIn wsX2_positionOf (wsV RX2 60 RX2 yX2_needUp wsX2_needUp) := goodIn_app (goodIn_of _ (by decide +kernel)) ggX2_positionOf_X2_needUp
set_option maxRecDepth 20000 in
theorem ggX2_positionOf_X0_find : GoodIn wsX2_positionOf wsX0_find := goodIn_r _ [19, 20, 31] (by decide +kernel) (by decide +kernel)
set_option maxRecDepth 20000 in
theorem gX2_positionOf_X0_find : GoodIn wsX2_positionOf (wsV RX2 90 RX0 yX0_find wsX0_find) := goodIn_app (goodIn_of _ (by decide +kernel)) ggX2_positionOf_X0_find
theorem dX2_positionOf_0 : decode cX2_positionOf 0 = .ok (.iload_n 1, 1) := by decide +kernel
theorem dX2_positionOf_1 : decode cX2_positionOf 1 = .ok (.invokestatic 49, 3) := by decide +kernel
theorem dX2_positionOf_4 : decode cX2_positionOf 4 = .ok (.aload_n 0, 1) := by decide +kernel
theorem dX2_positionOf_5 : decode cX2_positionOf 5 = .ok (.invokevirtual 60, 3) := by decide +kernel
theorem dX2_positionOf_8 : decode cX2_positionOf 8 = .ok (.aload_n 0, 1) := by decide +kernel
theorem dX2_positionOf_9 : decode cX2_positionOf 9 = .ok (.getfield 19, 3) := by decide +kernel
theorem dX2_positionOf_12 : decode cX2_positionOf 12 = .ok (.iload_n 1, 1) := by decide +kernel
theorem dX2_positionOf_13 : decode cX2_positionOf 13 = .ok (.invokevirtual 90, 3) := by decide +kernel
theorem dX2_positionOf_16 : decode cX2_positionOf 16 = .ok (.ireturn, 1) := by decide +kernel
set_option maxRecDepth 20000 in
theorem ggX2_segments_X2_segmentOf : GoodIn wsX2_segments wsX2_segmentOf := goodIn_r _ [6] (by decide +kernel) (by decide +kernel)
set_option maxRecDepth 20000 in
theorem gX2_segments_X2_segmentOf : GoodIn wsX2_segments (va_wsS RX2 87 yX2_segmentOf wsX2_segmentOf) := goodIn_app (goodIn_of _ (by decide +kernel)) ggX2_segments_X2_segmentOf
theorem dX2_segments_0 : decode cX2_segments 0 = .ok (.aload_n 0, 1) := by decide +kernel
theorem dX2_segments_1 : decode cX2_segments 1 = .ok (.getfield 33, 3) := by decide +kernel
theorem dX2_segments_4 : decode cX2_segments 4 = .ok (.aload_n 0, 1) := by decide +kernel
theorem dX2_segments_5 : decode cX2_segments 5 = .ok (.getfield 37, 3) := by decide +kernel
theorem dX2_segments_8 : decode cX2_segments 8 = .ok (.if_icmp .gt 5, 3) := by decide +kernel
theorem dX2_segments_11 : decode cX2_segments 11 = .ok (.iconst 0, 1) := by decide +kernel
theorem dX2_segments_12 : decode cX2_segments 12 = .ok (.ireturn, 1) := by decide +kernel
theorem dX2_segments_13 : decode cX2_segments 13 = .ok (.aload_n 0, 1) := by decide +kernel
theorem dX2_segments_14 : decode cX2_segments 14 = .ok (.getfield 33, 3) := by decide +kernel
theorem dX2_segments_17 : decode cX2_segments 17 = .ok (.iconst 1, 1) := by decide +kernel
theorem dX2_segments_18 : decode cX2_segments 18 = .ok (.isub, 1) := by decide +kernel
theorem dX2_segments_19 : decode cX2_segments 19 = .ok (.invokestatic 87, 3) := by decide +kernel
theorem dX2_segments_22 : decode cX2_segments 22 = .ok (.aload_n 0, 1) := by decide +kernel
theorem dX2_segments_23 : decode cX2_segments 23 = .ok (.getfield 37, 3) := by decide +kernel
theorem dX2_segments_26 : decode cX2_segments 26 = .ok (.invokestatic 87, 3) := by decide +kernel
theorem dX2_segments_29 : decode cX2_segments 29 = .ok (.isub, 1) := by decide +kernel
theorem dX2_segments_30 : decode cX2_segments 30 = .ok (.iconst 1, 1) := by decide +kernel
theorem dX2_segments_31 : decode cX2_segments 31 = .ok (.iadd, 1) := by decide +kernel
theorem dX2_segments_32 : decode cX2_segments 32 = .ok (.ireturn, 1) := by decide +kernel
set_option maxRecDepth 20000 in
theorem ggX2_live_X2_needUp : GoodIn wsX2_live wsX2_needUp := goodIn_ca (goodIn_r _ [7, 8, 9, 10, 37, 38, 39, 40, 41, 42, 43, 44, 45, 46] (by decide +kernel) (by decide +kernel)) (goodIn_sub (fun _ h => List.mem_cons_of_mem _ (List.mem_append_right _ h)) (by decide +kernel))
set_option maxRecDepth 20000 in
theorem gX2_live_X2_needUp : GoodIn wsX2_live (wsV RX2 60 RX2 yX2_needUp wsX2_needUp) := goodIn_app (goodIn_of _ (by decide +kernel)) ggX2_live_X2_needUp
set_option maxRecDepth 20000 in
theorem ggX2_live_X2_liveFromTail : GoodIn wsX2_live wsX2_liveFromTail := goodIn_r _ [14, 2, 15, 16, 17, 6, 18, 19, 20, 21, 22, 23, 24, 25, 26, 27, 28, 29, 30, 31, 32, 33, 34, 35, 36, 37, 38, 39, 40, 41, 42, 43, 44, 45, 46, 47, 48, 49] (by decide +kernel) (by decide +kernel)
set_option maxRecDepth 20000 in
theorem gX2_live_X2_liveFromTail : GoodIn wsX2_live (wsV RX2 113 RX2 yX2_liveFromTail wsX2_liveFromTail) := goodIn_app (goodIn_of _ (by decide +kernel)) ggX2_live_X2_liveFromTail
theorem dX2_live_0 : decode cX2_live 0 = .ok (.aload_n 0, 1) := by decide +kernel
theorem dX2_live_1 : decode cX2_live 1 = .ok (.invokevirtual 60, 3) := by decide +kernel
theorem dX2_live_4 : decode cX2_live 4 = .ok (.aload_n 0, 1) := by decide +kernel
theorem dX2_live_5 : decode cX2_live 5 = .ok (.aload_n 0, 1) := by decide +kernel
theorem dX2_live_6 : decode cX2_live 6 = .ok (.getfield 33, 3) := by decide +kernel
theorem dX2_live_9 : decode cX2_live 9 = .ok (.aload_n 0, 1) := by decide +kernel
theorem dX2_live_10 : decode cX2_live 10 = .ok (.getfield 37, 3) := by decide +kernel
theorem dX2_live_13 : decode cX2_live 13 = .ok (.isub, 1) := by decide +kernel
theorem dX2_live_14 : decode cX2_live 14 = .ok (.invokevirtual 113, 3) := by decide +kernel
theorem dX2_live_17 : decode cX2_live 17 = .ok (.ireturn, 1) := by decide +kernel
set_option maxRecDepth 20000 in
theorem ggX2_toFree_X2_segmentOf : GoodIn wsX2_toFree wsX2_segmentOf := goodIn_r _ [6] (by decide +kernel) (by decide +kernel)
set_option maxRecDepth 20000 in
theorem gX2_toFree_X2_segmentOf : GoodIn wsX2_toFree (va_wsS RX2 87 yX2_segmentOf wsX2_segmentOf) := goodIn_app (goodIn_of _ (by decide +kernel)) ggX2_toFree_X2_segmentOf
theorem dX2_toFree_0 : decode cX2_toFree 0 = .ok (.aload_n 0, 1) := by decide +kernel
theorem dX2_toFree_1 : decode cX2_toFree 1 = .ok (.getfield 37, 3) := by decide +kernel
theorem dX2_toFree_4 : decode cX2_toFree 4 = .ok (.invokestatic 87, 3) := by decide +kernel
theorem dX2_toFree_7 : decode cX2_toFree 7 = .ok (.iconst 1, 1) := by decide +kernel
theorem dX2_toFree_8 : decode cX2_toFree 8 = .ok (.iadd, 1) := by decide +kernel
theorem dX2_toFree_9 : decode cX2_toFree 9 = .ok (.bipush 8, 2) := by decide +kernel
theorem dX2_toFree_11 : decode cX2_toFree 11 = .ok (.imul, 1) := by decide +kernel
theorem dX2_toFree_12 : decode cX2_toFree 12 = .ok (.aload_n 0, 1) := by decide +kernel
theorem dX2_toFree_13 : decode cX2_toFree 13 = .ok (.getfield 37, 3) := by decide +kernel
theorem dX2_toFree_16 : decode cX2_toFree 16 = .ok (.isub, 1) := by decide +kernel
theorem dX2_toFree_17 : decode cX2_toFree 17 = .ok (.istore_n 1, 1) := by decide +kernel
theorem dX2_toFree_18 : decode cX2_toFree 18 = .ok (.iload_n 1, 1) := by decide +kernel
theorem dX2_toFree_19 : decode cX2_toFree 19 = .ok (.aload_n 0, 1) := by decide +kernel
theorem dX2_toFree_20 : decode cX2_toFree 20 = .ok (.getfield 33, 3) := by decide +kernel
theorem dX2_toFree_23 : decode cX2_toFree 23 = .ok (.aload_n 0, 1) := by decide +kernel
theorem dX2_toFree_24 : decode cX2_toFree 24 = .ok (.getfield 37, 3) := by decide +kernel
theorem dX2_toFree_27 : decode cX2_toFree 27 = .ok (.isub, 1) := by decide +kernel
theorem dX2_toFree_28 : decode cX2_toFree 28 = .ok (.if_icmp .gt 7, 3) := by decide +kernel
theorem dX2_toFree_31 : decode cX2_toFree 31 = .ok (.iload_n 1, 1) := by decide +kernel
theorem dX2_toFree_32 : decode cX2_toFree 32 = .ok (.goto 4, 3) := by decide +kernel
theorem dX2_toFree_35 : decode cX2_toFree 35 = .ok (.iconst (-1), 1) := by decide +kernel
theorem dX2_toFree_36 : decode cX2_toFree 36 = .ok (.ireturn, 1) := by decide +kernel
set_option maxRecDepth 20000 in
theorem ggX2_wouldHave_X2_recover : GoodIn wsX2_wouldHave wsX2_recover := goodIn_r _ [6, 7, 8, 9, 10, 11, 12, 13, 14, 15, 16, 17, 18, 19, 20, 21, 22, 23, 24, 25, 26, 27, 28, 29, 30, 31, 5, 32, 33, 34, 35, 36, 37, 38, 39, 40, 41, 42, 43, 44, 45, 46, 47, 48, 49, 50, 51, 52, 57, 58, 59, 60, 61, 62, 63, 64, 65, 66, 67, 68, 69] (by decide +kernel) (by decide +kernel)
set_option maxRecDepth 20000 in
theorem gX2_wouldHave_X2_recover : GoodIn wsX2_wouldHave (wsV RX2 126 RX2 yX2_recover wsX2_recover) := goodIn_app (goodIn_of _ (by decide +kernel)) ggX2_wouldHave_X2_recover
set_option maxRecDepth 20000 in
theorem ggX2_wouldHave_X0_size : GoodIn wsX2_wouldHave wsX0_size := goodIn_r _ [56, 20, 67] (by decide +kernel) (by decide +kernel)
set_option maxRecDepth 20000 in
theorem gX2_wouldHave_X0_size : GoodIn wsX2_wouldHave (wsV RX2 129 RX0 yX0_size wsX0_size) := goodIn_app (goodIn_of _ (by decide +kernel)) ggX2_wouldHave_X0_size
theorem dX2_wouldHave_0 : decode cX2_wouldHave 0 = .ok (.aload_n 0, 1) := by decide +kernel
theorem dX2_wouldHave_1 : decode cX2_wouldHave 1 = .ok (.aload_n 0, 1) := by decide +kernel
theorem dX2_wouldHave_2 : decode cX2_wouldHave 2 = .ok (.getfield 26, 3) := by decide +kernel
theorem dX2_wouldHave_5 : decode cX2_wouldHave 5 = .ok (.invokevirtual 126, 3) := by decide +kernel
theorem dX2_wouldHave_8 : decode cX2_wouldHave 8 = .ok (.aload_n 0, 1) := by decide +kernel
theorem dX2_wouldHave_9 : decode cX2_wouldHave 9 = .ok (.getfield 26, 3) := by decide +kernel
theorem dX2_wouldHave_12 : decode cX2_wouldHave 12 = .ok (.invokevirtual 129, 3) := by decide +kernel
theorem dX2_wouldHave_15 : decode cX2_wouldHave 15 = .ok (.ireturn, 1) := by decide +kernel
theorem dX2_needKey_0 : decode cX2_needKey 0 = .ok (.iload_n 0, 1) := by decide +kernel
theorem dX2_needKey_1 : decode cX2_needKey 1 = .ok (.ifCond .lt 9, 3) := by decide +kernel
theorem dX2_needKey_4 : decode cX2_needKey 4 = .ok (.iload_n 0, 1) := by decide +kernel
theorem dX2_needKey_5 : decode cX2_needKey 5 = .ok (.bipush 64, 2) := by decide +kernel
theorem dX2_needKey_7 : decode cX2_needKey 7 = .ok (.if_icmp .lt 13, 3) := by decide +kernel
theorem dX2_needKey_10 : decode cX2_needKey 10 = .ok (.new 53, 3) := by decide +kernel
theorem dX2_needKey_13 : decode cX2_needKey 13 = .ok (.dup, 1) := by decide +kernel
theorem dX2_needKey_14 : decode cX2_needKey 14 = .ok (.ldc 133, 2) := by decide +kernel
theorem dX2_needKey_16 : decode cX2_needKey 16 = .ok (.invokespecial 57, 3) := by decide +kernel
theorem dX2_needKey_19 : decode cX2_needKey 19 = .ok (.athrow, 1) := by decide +kernel
theorem dX2_needKey_20 : decode cX2_needKey 20 = .ok (.return_, 1) := by decide +kernel
set_option maxRecDepth 20000 in
theorem ggX2_needRange_X2_needKey : GoodIn wsX2_needRange wsX2_needKey := goodIn_ca (goodIn_r _ [6, 1, 2] (by decide +kernel) (by decide +kernel)) (goodIn_sub (fun _ h => List.mem_cons_of_mem _ (List.mem_append_right _ h)) (by decide +kernel))
set_option maxRecDepth 20000 in
theorem gX2_needRange_X2_needKey : GoodIn wsX2_needRange (va_wsS RX2 49 yX2_needKey wsX2_needKey) := goodIn_app (goodIn_of _ (by decide +kernel)) ggX2_needRange_X2_needKey
theorem dX2_needRange_0 : decode cX2_needRange 0 = .ok (.iload_n 0, 1) := by decide +kernel
theorem dX2_needRange_1 : decode cX2_needRange 1 = .ok (.invokestatic 49, 3) := by decide +kernel
theorem dX2_needRange_4 : decode cX2_needRange 4 = .ok (.iload_n 1, 1) := by decide +kernel
theorem dX2_needRange_5 : decode cX2_needRange 5 = .ok (.invokestatic 49, 3) := by decide +kernel
theorem dX2_needRange_8 : decode cX2_needRange 8 = .ok (.iload_n 1, 1) := by decide +kernel
theorem dX2_needRange_9 : decode cX2_needRange 9 = .ok (.iload_n 0, 1) := by decide +kernel
theorem dX2_needRange_10 : decode cX2_needRange 10 = .ok (.if_icmp .ge 13, 3) := by decide +kernel
theorem dX2_needRange_13 : decode cX2_needRange 13 = .ok (.new 53, 3) := by decide +kernel
theorem dX2_needRange_16 : decode cX2_needRange 16 = .ok (.dup, 1) := by decide +kernel
theorem dX2_needRange_17 : decode cX2_needRange 17 = .ok (.ldc 135, 2) := by decide +kernel
theorem dX2_needRange_19 : decode cX2_needRange 19 = .ok (.invokespecial 57, 3) := by decide +kernel
theorem dX2_needRange_22 : decode cX2_needRange 22 = .ok (.athrow, 1) := by decide +kernel
theorem dX2_needRange_23 : decode cX2_needRange 23 = .ok (.return_, 1) := by decide +kernel
theorem dX2_needUp_0 : decode cX2_needUp 0 = .ok (.aload_n 0, 1) := by decide +kernel
theorem dX2_needUp_1 : decode cX2_needUp 1 = .ok (.getfield 29, 3) := by decide +kernel
theorem dX2_needUp_4 : decode cX2_needUp 4 = .ok (.ifCond .ne 13, 3) := by decide +kernel
theorem dX2_needUp_7 : decode cX2_needUp 7 = .ok (.new 74, 3) := by decide +kernel
theorem dX2_needUp_10 : decode cX2_needUp 10 = .ok (.dup, 1) := by decide +kernel
theorem dX2_needUp_11 : decode cX2_needUp 11 = .ok (.ldc 137, 2) := by decide +kernel
theorem dX2_needUp_13 : decode cX2_needUp 13 = .ok (.invokespecial 78, 3) := by decide +kernel
theorem dX2_needUp_16 : decode cX2_needUp 16 = .ok (.athrow, 1) := by decide +kernel
theorem dX2_needUp_17 : decode cX2_needUp 17 = .ok (.return_, 1) := by decide +kernel
set_option maxRecDepth 20000 in
theorem ggX2_needRoom_X2_segmentOf : GoodIn wsX2_needRoom wsX2_segmentOf := goodIn_r _ [8] (by decide +kernel) (by decide +kernel)
set_option maxRecDepth 20000 in
theorem gX2_needRoom_X2_segmentOf : GoodIn wsX2_needRoom (va_wsS RX2 87 yX2_segmentOf wsX2_segmentOf) := goodIn_app (goodIn_of _ (by decide +kernel)) ggX2_needRoom_X2_segmentOf
theorem dX2_needRoom_0 : decode cX2_needRoom 0 = .ok (.aload_n 0, 1) := by decide +kernel
theorem dX2_needRoom_1 : decode cX2_needRoom 1 = .ok (.getfield 37, 3) := by decide +kernel
theorem dX2_needRoom_4 : decode cX2_needRoom 4 = .ok (.invokestatic 87, 3) := by decide +kernel
theorem dX2_needRoom_7 : decode cX2_needRoom 7 = .ok (.bipush 8, 2) := by decide +kernel
theorem dX2_needRoom_9 : decode cX2_needRoom 9 = .ok (.imul, 1) := by decide +kernel
theorem dX2_needRoom_10 : decode cX2_needRoom 10 = .ok (.bipush 96, 2) := by decide +kernel
theorem dX2_needRoom_12 : decode cX2_needRoom 12 = .ok (.iadd, 1) := by decide +kernel
theorem dX2_needRoom_13 : decode cX2_needRoom 13 = .ok (.istore_n 2, 1) := by decide +kernel
theorem dX2_needRoom_14 : decode cX2_needRoom 14 = .ok (.iload_n 1, 1) := by decide +kernel
theorem dX2_needRoom_15 : decode cX2_needRoom 15 = .ok (.iload_n 2, 1) := by decide +kernel
theorem dX2_needRoom_16 : decode cX2_needRoom 16 = .ok (.aload_n 0, 1) := by decide +kernel
theorem dX2_needRoom_17 : decode cX2_needRoom 17 = .ok (.getfield 33, 3) := by decide +kernel
theorem dX2_needRoom_20 : decode cX2_needRoom 20 = .ok (.isub, 1) := by decide +kernel
theorem dX2_needRoom_21 : decode cX2_needRoom 21 = .ok (.if_icmp .le 13, 3) := by decide +kernel
theorem dX2_needRoom_24 : decode cX2_needRoom 24 = .ok (.new 74, 3) := by decide +kernel
theorem dX2_needRoom_27 : decode cX2_needRoom 27 = .ok (.dup, 1) := by decide +kernel
theorem dX2_needRoom_28 : decode cX2_needRoom 28 = .ok (.ldc 139, 2) := by decide +kernel
theorem dX2_needRoom_30 : decode cX2_needRoom 30 = .ok (.invokespecial 78, 3) := by decide +kernel
theorem dX2_needRoom_33 : decode cX2_needRoom 33 = .ok (.athrow, 1) := by decide +kernel
theorem dX2_needRoom_34 : decode cX2_needRoom 34 = .ok (.return_, 1) := by decide +kernel
theorem dX2_segmentOf_0 : decode cX2_segmentOf 0 = .ok (.iload_n 0, 1) := by decide +kernel
theorem dX2_segmentOf_1 : decode cX2_segmentOf 1 = .ok (.bipush 8, 2) := by decide +kernel
theorem dX2_segmentOf_3 : decode cX2_segmentOf 3 = .ok (.idiv, 1) := by decide +kernel
theorem dX2_segmentOf_4 : decode cX2_segmentOf 4 = .ok (.ireturn, 1) := by decide +kernel
set_option maxRecDepth 20000 in
theorem ggX2_valueOf_X0_find : GoodIn wsX2_valueOf wsX0_find := goodIn_r _ [7, 8, 29] (by decide +kernel) (by decide +kernel)
set_option maxRecDepth 20000 in
theorem gX2_valueOf_X0_find : GoodIn wsX2_valueOf (wsV RX2 90 RX0 yX0_find wsX0_find) := goodIn_app (goodIn_of _ (by decide +kernel)) ggX2_valueOf_X0_find
set_option maxRecDepth 20000 in
theorem ggX2_valueOf_X1_valueAt : GoodIn wsX2_valueOf wsX1_valueAt := goodIn_r _ [13, 14, 15, 16, 17, 18, 30, 31] (by decide +kernel) (by decide +kernel)
set_option maxRecDepth 20000 in
theorem gX2_valueOf_X1_valueAt : GoodIn wsX2_valueOf (wsV RX2 141 RX1 yX1_valueAt wsX1_valueAt) := goodIn_app (goodIn_of _ (by decide +kernel)) ggX2_valueOf_X1_valueAt
theorem dX2_valueOf_0 : decode cX2_valueOf 0 = .ok (.aload_n 0, 1) := by decide +kernel
theorem dX2_valueOf_1 : decode cX2_valueOf 1 = .ok (.getfield 12, 3) := by decide +kernel
theorem dX2_valueOf_4 : decode cX2_valueOf 4 = .ok (.aload_n 0, 1) := by decide +kernel
theorem dX2_valueOf_5 : decode cX2_valueOf 5 = .ok (.getfield 19, 3) := by decide +kernel
theorem dX2_valueOf_8 : decode cX2_valueOf 8 = .ok (.iload_n 1, 1) := by decide +kernel
theorem dX2_valueOf_9 : decode cX2_valueOf 9 = .ok (.invokevirtual 90, 3) := by decide +kernel
theorem dX2_valueOf_12 : decode cX2_valueOf 12 = .ok (.invokevirtual 141, 3) := by decide +kernel
theorem dX2_valueOf_15 : decode cX2_valueOf 15 = .ok (.ireturn, 1) := by decide +kernel
set_option maxRecDepth 20000 in
theorem ggX2_isLive_X1_keyAt : GoodIn wsX2_isLive wsX1_keyAt := goodIn_r _ [7, 8, 9, 10, 11, 12, 29, 30] (by decide +kernel) (by decide +kernel)
set_option maxRecDepth 20000 in
theorem gX2_isLive_X1_keyAt : GoodIn wsX2_isLive (wsV RX2 144 RX1 yX1_keyAt wsX1_keyAt) := goodIn_app (goodIn_of _ (by decide +kernel)) ggX2_isLive_X1_keyAt
set_option maxRecDepth 20000 in
theorem ggX2_isLive_X0_find : GoodIn wsX2_isLive wsX0_find := goodIn_r _ [17, 18, 31] (by decide +kernel) (by decide +kernel)
set_option maxRecDepth 20000 in
theorem gX2_isLive_X0_find : GoodIn wsX2_isLive (wsV RX2 90 RX0 yX0_find wsX0_find) := goodIn_app (goodIn_of _ (by decide +kernel)) ggX2_isLive_X0_find
theorem dX2_isLive_0 : decode cX2_isLive 0 = .ok (.aload_n 0, 1) := by decide +kernel
theorem dX2_isLive_1 : decode cX2_isLive 1 = .ok (.getfield 19, 3) := by decide +kernel
theorem dX2_isLive_4 : decode cX2_isLive 4 = .ok (.aload_n 0, 1) := by decide +kernel
theorem dX2_isLive_5 : decode cX2_isLive 5 = .ok (.getfield 12, 3) := by decide +kernel
theorem dX2_isLive_8 : decode cX2_isLive 8 = .ok (.iload_n 1, 1) := by decide +kernel
theorem dX2_isLive_9 : decode cX2_isLive 9 = .ok (.invokevirtual 144, 3) := by decide +kernel
theorem dX2_isLive_12 : decode cX2_isLive 12 = .ok (.invokevirtual 90, 3) := by decide +kernel
theorem dX2_isLive_15 : decode cX2_isLive 15 = .ok (.iload_n 1, 1) := by decide +kernel
theorem dX2_isLive_16 : decode cX2_isLive 16 = .ok (.if_icmp .ne 7, 3) := by decide +kernel
theorem dX2_isLive_19 : decode cX2_isLive 19 = .ok (.iconst 1, 1) := by decide +kernel
theorem dX2_isLive_20 : decode cX2_isLive 20 = .ok (.goto 4, 3) := by decide +kernel
theorem dX2_isLive_23 : decode cX2_isLive 23 = .ok (.iconst 0, 1) := by decide +kernel
theorem dX2_isLive_24 : decode cX2_isLive 24 = .ok (.ireturn, 1) := by decide +kernel
set_option maxRecDepth 20000 in
theorem ggX2_liveFromTail_X2_isLive : GoodIn wsX2_liveFromTail wsX2_isLive := goodIn_r _ [6, 7, 8, 9, 10, 11, 12, 13, 14, 15, 16, 17, 18, 19, 20, 21, 22, 23, 24, 25, 26, 27, 28, 29, 30, 31, 32, 33, 34, 35, 36, 37] (by decide +kernel) (by decide +kernel)
set_option maxRecDepth 20000 in
theorem gX2_liveFromTail_X2_isLive : GoodIn wsX2_liveFromTail (wsV RX2 147 RX2 yX2_isLive wsX2_isLive) := goodIn_app (goodIn_of _ (by decide +kernel)) ggX2_liveFromTail_X2_isLive
theorem dX2_liveFromTail_0 : decode cX2_liveFromTail 0 = .ok (.aload_n 0, 1) := by decide +kernel
theorem dX2_liveFromTail_1 : decode cX2_liveFromTail 1 = .ok (.getfield 37, 3) := by decide +kernel
theorem dX2_liveFromTail_4 : decode cX2_liveFromTail 4 = .ok (.iload_n 1, 1) := by decide +kernel
theorem dX2_liveFromTail_5 : decode cX2_liveFromTail 5 = .ok (.iadd, 1) := by decide +kernel
theorem dX2_liveFromTail_6 : decode cX2_liveFromTail 6 = .ok (.istore_n 2, 1) := by decide +kernel
theorem dX2_liveFromTail_7 : decode cX2_liveFromTail 7 = .ok (.iconst 0, 1) := by decide +kernel
theorem dX2_liveFromTail_8 : decode cX2_liveFromTail 8 = .ok (.istore_n 3, 1) := by decide +kernel
theorem dX2_liveFromTail_9 : decode cX2_liveFromTail 9 = .ok (.aload_n 0, 1) := by decide +kernel
theorem dX2_liveFromTail_10 : decode cX2_liveFromTail 10 = .ok (.getfield 37, 3) := by decide +kernel
theorem dX2_liveFromTail_13 : decode cX2_liveFromTail 13 = .ok (.istore 4, 2) := by decide +kernel
theorem dX2_liveFromTail_15 : decode cX2_liveFromTail 15 = .ok (.iload 4, 2) := by decide +kernel
theorem dX2_liveFromTail_17 : decode cX2_liveFromTail 17 = .ok (.iload_n 2, 1) := by decide +kernel
theorem dX2_liveFromTail_18 : decode cX2_liveFromTail 18 = .ok (.if_icmp .ge 21, 3) := by decide +kernel
theorem dX2_liveFromTail_21 : decode cX2_liveFromTail 21 = .ok (.aload_n 0, 1) := by decide +kernel
theorem dX2_liveFromTail_22 : decode cX2_liveFromTail 22 = .ok (.iload 4, 2) := by decide +kernel
theorem dX2_liveFromTail_24 : decode cX2_liveFromTail 24 = .ok (.invokevirtual 147, 3) := by decide +kernel
theorem dX2_liveFromTail_27 : decode cX2_liveFromTail 27 = .ok (.ifCond .eq 6, 3) := by decide +kernel
theorem dX2_liveFromTail_30 : decode cX2_liveFromTail 30 = .ok (.iinc 3 1, 3) := by decide +kernel
theorem dX2_liveFromTail_33 : decode cX2_liveFromTail 33 = .ok (.iinc 4 1, 3) := by decide +kernel
theorem dX2_liveFromTail_36 : decode cX2_liveFromTail 36 = .ok (.goto (-21), 3) := by decide +kernel
theorem dX2_liveFromTail_39 : decode cX2_liveFromTail 39 = .ok (.iload_n 3, 1) := by decide +kernel
theorem dX2_liveFromTail_40 : decode cX2_liveFromTail 40 = .ok (.ireturn, 1) := by decide +kernel
set_option maxRecDepth 20000 in
theorem ggX2_append_X1_store : GoodIn wsX2_append wsX1_store := goodIn_r _ [8, 9, 10, 11, 12, 13, 14, 44, 45] (by decide +kernel) (by decide +kernel)
set_option maxRecDepth 20000 in
theorem gX2_append_X1_store : GoodIn wsX2_append (wsV RX2 150 RX1 yX1_store wsX1_store) := goodIn_app (goodIn_of _ (by decide +kernel)) ggX2_append_X1_store
set_option maxRecDepth 20000 in
theorem ggX2_append_X2_follow : GoodIn wsX2_append wsX2_follow := goodIn_r _ [19, 2, 20, 21, 22, 7, 23, 10, 11, 12, 13, 14, 24, 25, 26, 27, 9, 28, 29, 30, 31, 32, 33, 34, 35, 36, 37, 38, 39, 40, 41, 42, 43, 44, 45, 46] (by decide +kernel) (by decide +kernel)
set_option maxRecDepth 20000 in
theorem gX2_append_X2_follow : GoodIn wsX2_append (wsV RX2 154 RX2 yX2_follow wsX2_follow) := goodIn_app (goodIn_of _ (by decide +kernel)) ggX2_append_X2_follow
theorem dX2_append_0 : decode cX2_append 0 = .ok (.aload_n 0, 1) := by decide +kernel
theorem dX2_append_1 : decode cX2_append 1 = .ok (.getfield 33, 3) := by decide +kernel
theorem dX2_append_4 : decode cX2_append 4 = .ok (.istore_n 3, 1) := by decide +kernel
theorem dX2_append_5 : decode cX2_append 5 = .ok (.aload_n 0, 1) := by decide +kernel
theorem dX2_append_6 : decode cX2_append 6 = .ok (.getfield 12, 3) := by decide +kernel
theorem dX2_append_9 : decode cX2_append 9 = .ok (.iload_n 3, 1) := by decide +kernel
theorem dX2_append_10 : decode cX2_append 10 = .ok (.iload_n 1, 1) := by decide +kernel
theorem dX2_append_11 : decode cX2_append 11 = .ok (.iload_n 2, 1) := by decide +kernel
theorem dX2_append_12 : decode cX2_append 12 = .ok (.invokevirtual 150, 3) := by decide +kernel
theorem dX2_append_15 : decode cX2_append 15 = .ok (.aload_n 0, 1) := by decide +kernel
theorem dX2_append_16 : decode cX2_append 16 = .ok (.aload_n 0, 1) := by decide +kernel
theorem dX2_append_17 : decode cX2_append 17 = .ok (.getfield 19, 3) := by decide +kernel
theorem dX2_append_20 : decode cX2_append 20 = .ok (.iload_n 3, 1) := by decide +kernel
theorem dX2_append_21 : decode cX2_append 21 = .ok (.invokevirtual 154, 3) := by decide +kernel
theorem dX2_append_24 : decode cX2_append 24 = .ok (.aload_n 0, 1) := by decide +kernel
theorem dX2_append_25 : decode cX2_append 25 = .ok (.iload_n 3, 1) := by decide +kernel
theorem dX2_append_26 : decode cX2_append 26 = .ok (.iconst 1, 1) := by decide +kernel
theorem dX2_append_27 : decode cX2_append 27 = .ok (.iadd, 1) := by decide +kernel
theorem dX2_append_28 : decode cX2_append 28 = .ok (.putfield 33, 3) := by decide +kernel
theorem dX2_append_31 : decode cX2_append 31 = .ok (.iload_n 3, 1) := by decide +kernel
theorem dX2_append_32 : decode cX2_append 32 = .ok (.ireturn, 1) := by decide +kernel
set_option maxRecDepth 20000 in
theorem ggX2_follow_X1_valueAt : GoodIn wsX2_follow wsX1_valueAt := goodIn_r _ [6, 7, 8, 9, 10, 11, 33, 34] (by decide +kernel) (by decide +kernel)
set_option maxRecDepth 20000 in
theorem gX2_follow_X1_valueAt : GoodIn wsX2_follow (wsV RX2 141 RX1 yX1_valueAt wsX1_valueAt) := goodIn_app (goodIn_of _ (by decide +kernel)) ggX2_follow_X1_valueAt
set_option maxRecDepth 20000 in
theorem ggX2_follow_X1_keyAt : GoodIn wsX2_follow wsX1_keyAt := goodIn_r _ [15, 16, 8, 9, 10, 11, 33, 34] (by decide +kernel) (by decide +kernel)
set_option maxRecDepth 20000 in
theorem gX2_follow_X1_keyAt : GoodIn wsX2_follow (wsV RX2 144 RX1 yX1_keyAt wsX1_keyAt) := goodIn_app (goodIn_of _ (by decide +kernel)) ggX2_follow_X1_keyAt
set_option maxRecDepth 20000 in
theorem ggX2_follow_X0_point : GoodIn wsX2_follow wsX0_point := goodIn_r _ [21, 22, 35] (by decide +kernel) (by decide +kernel)
set_option maxRecDepth 20000 in
theorem gX2_follow_X0_point : GoodIn wsX2_follow (wsV RX2 158 RX0 yX0_point wsX0_point) := goodIn_app (goodIn_of _ (by decide +kernel)) ggX2_follow_X0_point
theorem dX2_follow_0 : decode cX2_follow 0 = .ok (.aload_n 0, 1) := by decide +kernel
theorem dX2_follow_1 : decode cX2_follow 1 = .ok (.getfield 12, 3) := by decide +kernel
theorem dX2_follow_4 : decode cX2_follow 4 = .ok (.iload_n 2, 1) := by decide +kernel
theorem dX2_follow_5 : decode cX2_follow 5 = .ok (.invokevirtual 141, 3) := by decide +kernel
theorem dX2_follow_8 : decode cX2_follow 8 = .ok (.iconst (-1), 1) := by decide +kernel
theorem dX2_follow_9 : decode cX2_follow 9 = .ok (.if_icmp .ne 7, 3) := by decide +kernel
theorem dX2_follow_12 : decode cX2_follow 12 = .ok (.iconst 1, 1) := by decide +kernel
theorem dX2_follow_13 : decode cX2_follow 13 = .ok (.goto 4, 3) := by decide +kernel
theorem dX2_follow_16 : decode cX2_follow 16 = .ok (.iconst 0, 1) := by decide +kernel
theorem dX2_follow_17 : decode cX2_follow 17 = .ok (.istore_n 3, 1) := by decide +kernel
theorem dX2_follow_18 : decode cX2_follow 18 = .ok (.aload_n 1, 1) := by decide +kernel
theorem dX2_follow_19 : decode cX2_follow 19 = .ok (.aload_n 0, 1) := by decide +kernel
theorem dX2_follow_20 : decode cX2_follow 20 = .ok (.getfield 12, 3) := by decide +kernel
theorem dX2_follow_23 : decode cX2_follow 23 = .ok (.iload_n 2, 1) := by decide +kernel
theorem dX2_follow_24 : decode cX2_follow 24 = .ok (.invokevirtual 144, 3) := by decide +kernel
theorem dX2_follow_27 : decode cX2_follow 27 = .ok (.iload_n 3, 1) := by decide +kernel
theorem dX2_follow_28 : decode cX2_follow 28 = .ok (.ifCond .eq 7, 3) := by decide +kernel
theorem dX2_follow_31 : decode cX2_follow 31 = .ok (.iconst (-1), 1) := by decide +kernel
theorem dX2_follow_32 : decode cX2_follow 32 = .ok (.goto 4, 3) := by decide +kernel
theorem dX2_follow_35 : decode cX2_follow 35 = .ok (.iload_n 2, 1) := by decide +kernel
theorem dX2_follow_36 : decode cX2_follow 36 = .ok (.invokevirtual 158, 3) := by decide +kernel
theorem dX2_follow_39 : decode cX2_follow 39 = .ok (.return_, 1) := by decide +kernel
set_option maxRecDepth 20000 in
theorem ggX2_appendLiveAgain_X2_isLive : GoodIn wsX2_appendLiveAgain wsX2_isLive := goodIn_r _ [7, 8, 2, 9, 10, 11, 12, 13, 14, 15, 16, 17, 18, 19, 20, 21, 22, 23, 24, 47, 48, 49, 50, 51, 52, 53, 54, 55, 56, 57, 58, 59] (by decide +kernel) (by decide +kernel)
set_option maxRecDepth 20000 in
theorem gX2_appendLiveAgain_X2_isLive : GoodIn wsX2_appendLiveAgain (wsV RX2 147 RX2 yX2_isLive wsX2_isLive) := goodIn_app (goodIn_of _ (by decide +kernel)) ggX2_appendLiveAgain_X2_isLive
set_option maxRecDepth 20000 in
theorem ggX2_appendLiveAgain_X1_keyAt : GoodIn wsX2_appendLiveAgain wsX1_keyAt := goodIn_r _ [13, 14, 15, 16, 17, 18, 57, 58] (by decide +kernel) (by decide +kernel)
set_option maxRecDepth 20000 in
theorem gX2_appendLiveAgain_X1_keyAt : GoodIn wsX2_appendLiveAgain (wsV RX2 144 RX1 yX1_keyAt wsX1_keyAt) := goodIn_app (goodIn_of _ (by decide +kernel)) ggX2_appendLiveAgain_X1_keyAt
set_option maxRecDepth 20000 in
theorem ggX2_appendLiveAgain_X1_valueAt : GoodIn wsX2_appendLiveAgain wsX1_valueAt := goodIn_r _ [28, 29, 15, 16, 17, 18, 57, 58] (by decide +kernel) (by decide +kernel)
set_option maxRecDepth 20000 in
theorem gX2_appendLiveAgain_X1_valueAt : GoodIn wsX2_appendLiveAgain (wsV RX2 141 RX1 yX1_valueAt wsX1_valueAt) := goodIn_app (goodIn_of _ (by decide +kernel)) ggX2_appendLiveAgain_X1_valueAt
set_option maxRecDepth 20000 in
theorem ggX2_appendLiveAgain_X2_append : GoodIn wsX2_appendLiveAgain wsX2_append := goodIn_r _ [33, 34, 2, 8, 35, 36, 37, 12, 38, 14, 29, 15, 16, 17, 18, 39, 40, 41, 6, 42, 25, 26, 27, 28, 9, 10, 11, 13, 43, 44, 45, 22, 46, 24, 47, 48, 49, 50, 51, 52, 53, 54, 55, 56, 57, 58, 59] (by decide +kernel) (by decide +kernel)
set_option maxRecDepth 20000 in
theorem gX2_appendLiveAgain_X2_append : GoodIn wsX2_appendLiveAgain (wsV RX2 66 RX2 yX2_append wsX2_append) := goodIn_app (goodIn_of _ (by decide +kernel)) ggX2_appendLiveAgain_X2_append
theorem dX2_appendLiveAgain_0 : decode cX2_appendLiveAgain 0 = .ok (.aload_n 0, 1) := by decide +kernel
theorem dX2_appendLiveAgain_1 : decode cX2_appendLiveAgain 1 = .ok (.getfield 37, 3) := by decide +kernel
theorem dX2_appendLiveAgain_4 : decode cX2_appendLiveAgain 4 = .ok (.iload_n 1, 1) := by decide +kernel
theorem dX2_appendLiveAgain_5 : decode cX2_appendLiveAgain 5 = .ok (.iadd, 1) := by decide +kernel
theorem dX2_appendLiveAgain_6 : decode cX2_appendLiveAgain 6 = .ok (.istore_n 2, 1) := by decide +kernel
theorem dX2_appendLiveAgain_7 : decode cX2_appendLiveAgain 7 = .ok (.aload_n 0, 1) := by decide +kernel
theorem dX2_appendLiveAgain_8 : decode cX2_appendLiveAgain 8 = .ok (.getfield 37, 3) := by decide +kernel
theorem dX2_appendLiveAgain_11 : decode cX2_appendLiveAgain 11 = .ok (.istore_n 3, 1) := by decide +kernel
theorem dX2_appendLiveAgain_12 : decode cX2_appendLiveAgain 12 = .ok (.iload_n 3, 1) := by decide +kernel
theorem dX2_appendLiveAgain_13 : decode cX2_appendLiveAgain 13 = .ok (.iload_n 2, 1) := by decide +kernel
theorem dX2_appendLiveAgain_14 : decode cX2_appendLiveAgain 14 = .ok (.if_icmp .ge 38, 3) := by decide +kernel
theorem dX2_appendLiveAgain_17 : decode cX2_appendLiveAgain 17 = .ok (.aload_n 0, 1) := by decide +kernel
theorem dX2_appendLiveAgain_18 : decode cX2_appendLiveAgain 18 = .ok (.iload_n 3, 1) := by decide +kernel
theorem dX2_appendLiveAgain_19 : decode cX2_appendLiveAgain 19 = .ok (.invokevirtual 147, 3) := by decide +kernel
theorem dX2_appendLiveAgain_22 : decode cX2_appendLiveAgain 22 = .ok (.ifCond .eq 24, 3) := by decide +kernel
theorem dX2_appendLiveAgain_25 : decode cX2_appendLiveAgain 25 = .ok (.aload_n 0, 1) := by decide +kernel
theorem dX2_appendLiveAgain_26 : decode cX2_appendLiveAgain 26 = .ok (.aload_n 0, 1) := by decide +kernel
theorem dX2_appendLiveAgain_27 : decode cX2_appendLiveAgain 27 = .ok (.getfield 12, 3) := by decide +kernel
theorem dX2_appendLiveAgain_30 : decode cX2_appendLiveAgain 30 = .ok (.iload_n 3, 1) := by decide +kernel
theorem dX2_appendLiveAgain_31 : decode cX2_appendLiveAgain 31 = .ok (.invokevirtual 144, 3) := by decide +kernel
theorem dX2_appendLiveAgain_34 : decode cX2_appendLiveAgain 34 = .ok (.aload_n 0, 1) := by decide +kernel
theorem dX2_appendLiveAgain_35 : decode cX2_appendLiveAgain 35 = .ok (.getfield 12, 3) := by decide +kernel
theorem dX2_appendLiveAgain_38 : decode cX2_appendLiveAgain 38 = .ok (.iload_n 3, 1) := by decide +kernel
theorem dX2_appendLiveAgain_39 : decode cX2_appendLiveAgain 39 = .ok (.invokevirtual 141, 3) := by decide +kernel
theorem dX2_appendLiveAgain_42 : decode cX2_appendLiveAgain 42 = .ok (.invokevirtual 66, 3) := by decide +kernel
theorem dX2_appendLiveAgain_45 : decode cX2_appendLiveAgain 45 = .ok (.pop, 1) := by decide +kernel
theorem dX2_appendLiveAgain_46 : decode cX2_appendLiveAgain 46 = .ok (.iinc 3 1, 3) := by decide +kernel
theorem dX2_appendLiveAgain_49 : decode cX2_appendLiveAgain 49 = .ok (.goto (-37), 3) := by decide +kernel
theorem dX2_appendLiveAgain_52 : decode cX2_appendLiveAgain 52 = .ok (.return_, 1) := by decide +kernel
set_option maxRecDepth 20000 in
theorem ggX2_writeEntries_X2_writeOnce : GoodIn wsX2_writeEntries wsX2_writeOnce := goodIn_r _ [7, 8, 9, 10, 11, 6, 12, 2, 1, 13, 14, 15, 16, 17, 18, 19, 20, 21, 22, 23] (by decide +kernel) (by decide +kernel)
set_option maxRecDepth 20000 in
theorem gX2_writeEntries_X2_writeOnce : GoodIn wsX2_writeEntries (wsV RX2 102 RX2 yX2_writeOnce wsX2_writeOnce) := goodIn_app (goodIn_of _ (by decide +kernel)) ggX2_writeEntries_X2_writeOnce
theorem dX2_writeEntries_0 : decode cX2_writeEntries 0 = .ok (.aload_n 0, 1) := by decide +kernel
theorem dX2_writeEntries_1 : decode cX2_writeEntries 1 = .ok (.getfield 33, 3) := by decide +kernel
theorem dX2_writeEntries_4 : decode cX2_writeEntries 4 = .ok (.istore_n 1, 1) := by decide +kernel
theorem dX2_writeEntries_5 : decode cX2_writeEntries 5 = .ok (.aload_n 0, 1) := by decide +kernel
theorem dX2_writeEntries_6 : decode cX2_writeEntries 6 = .ok (.getfield 40, 3) := by decide +kernel
theorem dX2_writeEntries_9 : decode cX2_writeEntries 9 = .ok (.istore_n 2, 1) := by decide +kernel
theorem dX2_writeEntries_10 : decode cX2_writeEntries 10 = .ok (.iload_n 2, 1) := by decide +kernel
theorem dX2_writeEntries_11 : decode cX2_writeEntries 11 = .ok (.iload_n 1, 1) := by decide +kernel
theorem dX2_writeEntries_12 : decode cX2_writeEntries 12 = .ok (.if_icmp .ge 25, 3) := by decide +kernel
theorem dX2_writeEntries_15 : decode cX2_writeEntries 15 = .ok (.aload_n 0, 1) := by decide +kernel
theorem dX2_writeEntries_16 : decode cX2_writeEntries 16 = .ok (.invokevirtual 102, 3) := by decide +kernel
theorem dX2_writeEntries_19 : decode cX2_writeEntries 19 = .ok (.ifCond .ne 5, 3) := by decide +kernel
theorem dX2_writeEntries_22 : decode cX2_writeEntries 22 = .ok (.iconst 0, 1) := by decide +kernel
theorem dX2_writeEntries_23 : decode cX2_writeEntries 23 = .ok (.ireturn, 1) := by decide +kernel
theorem dX2_writeEntries_24 : decode cX2_writeEntries 24 = .ok (.aload_n 0, 1) := by decide +kernel
theorem dX2_writeEntries_25 : decode cX2_writeEntries 25 = .ok (.iload_n 2, 1) := by decide +kernel
theorem dX2_writeEntries_26 : decode cX2_writeEntries 26 = .ok (.iconst 1, 1) := by decide +kernel
theorem dX2_writeEntries_27 : decode cX2_writeEntries 27 = .ok (.iadd, 1) := by decide +kernel
theorem dX2_writeEntries_28 : decode cX2_writeEntries 28 = .ok (.putfield 40, 3) := by decide +kernel
theorem dX2_writeEntries_31 : decode cX2_writeEntries 31 = .ok (.iinc 2 1, 3) := by decide +kernel
theorem dX2_writeEntries_34 : decode cX2_writeEntries 34 = .ok (.goto (-24), 3) := by decide +kernel
theorem dX2_writeEntries_37 : decode cX2_writeEntries 37 = .ok (.iconst 1, 1) := by decide +kernel
theorem dX2_writeEntries_38 : decode cX2_writeEntries 38 = .ok (.ireturn, 1) := by decide +kernel
set_option maxRecDepth 20000 in
theorem ggX2_writeOnce_X2_losePower : GoodIn wsX2_writeOnce wsX2_losePower := goodIn_r _ [6, 7, 8, 9, 10, 11, 12, 13, 14, 15, 16, 17, 18, 19] (by decide +kernel) (by decide +kernel)
set_option maxRecDepth 20000 in
theorem gX2_writeOnce_X2_losePower : GoodIn wsX2_writeOnce (wsV RX2 121 RX2 yX2_losePower wsX2_losePower) := goodIn_app (goodIn_of _ (by decide +kernel)) ggX2_writeOnce_X2_losePower
theorem dX2_writeOnce_0 : decode cX2_writeOnce 0 = .ok (.aload_n 0, 1) := by decide +kernel
theorem dX2_writeOnce_1 : decode cX2_writeOnce 1 = .ok (.getfield 46, 3) := by decide +kernel
theorem dX2_writeOnce_4 : decode cX2_writeOnce 4 = .ok (.ifCond .ne 14, 3) := by decide +kernel
theorem dX2_writeOnce_7 : decode cX2_writeOnce 7 = .ok (.aload_n 0, 1) := by decide +kernel
theorem dX2_writeOnce_8 : decode cX2_writeOnce 8 = .ok (.iconst (-1), 1) := by decide +kernel
theorem dX2_writeOnce_9 : decode cX2_writeOnce 9 = .ok (.putfield 46, 3) := by decide +kernel
theorem dX2_writeOnce_12 : decode cX2_writeOnce 12 = .ok (.aload_n 0, 1) := by decide +kernel
theorem dX2_writeOnce_13 : decode cX2_writeOnce 13 = .ok (.invokevirtual 121, 3) := by decide +kernel
theorem dX2_writeOnce_16 : decode cX2_writeOnce 16 = .ok (.iconst 0, 1) := by decide +kernel
theorem dX2_writeOnce_17 : decode cX2_writeOnce 17 = .ok (.ireturn, 1) := by decide +kernel
theorem dX2_writeOnce_18 : decode cX2_writeOnce 18 = .ok (.aload_n 0, 1) := by decide +kernel
theorem dX2_writeOnce_19 : decode cX2_writeOnce 19 = .ok (.getfield 46, 3) := by decide +kernel
theorem dX2_writeOnce_22 : decode cX2_writeOnce 22 = .ok (.ifCond .le 13, 3) := by decide +kernel
theorem dX2_writeOnce_25 : decode cX2_writeOnce 25 = .ok (.aload_n 0, 1) := by decide +kernel
theorem dX2_writeOnce_26 : decode cX2_writeOnce 26 = .ok (.dup, 1) := by decide +kernel
theorem dX2_writeOnce_27 : decode cX2_writeOnce 27 = .ok (.getfield 46, 3) := by decide +kernel
theorem dX2_writeOnce_30 : decode cX2_writeOnce 30 = .ok (.iconst 1, 1) := by decide +kernel
theorem dX2_writeOnce_31 : decode cX2_writeOnce 31 = .ok (.isub, 1) := by decide +kernel
theorem dX2_writeOnce_32 : decode cX2_writeOnce 32 = .ok (.putfield 46, 3) := by decide +kernel
theorem dX2_writeOnce_35 : decode cX2_writeOnce 35 = .ok (.iconst 1, 1) := by decide +kernel
theorem dX2_writeOnce_36 : decode cX2_writeOnce 36 = .ok (.ireturn, 1) := by decide +kernel
theorem dX2_losePower_0 : decode cX2_losePower 0 = .ok (.aload_n 0, 1) := by decide +kernel
theorem dX2_losePower_1 : decode cX2_losePower 1 = .ok (.aload_n 0, 1) := by decide +kernel
theorem dX2_losePower_2 : decode cX2_losePower 2 = .ok (.getfield 40, 3) := by decide +kernel
theorem dX2_losePower_5 : decode cX2_losePower 5 = .ok (.putfield 33, 3) := by decide +kernel
theorem dX2_losePower_8 : decode cX2_losePower 8 = .ok (.aload_n 0, 1) := by decide +kernel
theorem dX2_losePower_9 : decode cX2_losePower 9 = .ok (.iconst 0, 1) := by decide +kernel
theorem dX2_losePower_10 : decode cX2_losePower 10 = .ok (.putfield 29, 3) := by decide +kernel
theorem dX2_losePower_13 : decode cX2_losePower 13 = .ok (.return_, 1) := by decide +kernel
set_option maxRecDepth 20000 in
theorem ggX2_recover_X0_takeFrom : GoodIn wsX2_recover wsX0_takeFrom := goodIn_r _ [13, 14, 15, 16, 17, 12, 18, 58] (by decide +kernel) (by decide +kernel)
set_option maxRecDepth 20000 in
theorem gX2_recover_X0_takeFrom : GoodIn wsX2_recover (wsV RX2 105 RX0 yX0_takeFrom wsX0_takeFrom) := goodIn_app (goodIn_of _ (by decide +kernel)) ggX2_recover_X0_takeFrom
set_option maxRecDepth 20000 in
theorem ggX2_recover_X0_dropBelow : GoodIn wsX2_recover wsX0_dropBelow := goodIn_r _ [22, 14, 58] (by decide +kernel) (by decide +kernel)
set_option maxRecDepth 20000 in
theorem gX2_recover_X0_dropBelow : GoodIn wsX2_recover (wsV RX2 161 RX0 yX0_dropBelow wsX0_dropBelow) := goodIn_app (goodIn_of _ (by decide +kernel)) ggX2_recover_X0_dropBelow
set_option maxRecDepth 20000 in
theorem ggX2_recover_X2_follow : GoodIn wsX2_recover wsX2_follow := goodIn_r _ [27, 28, 29, 30, 31, 32, 33, 34, 35, 36, 37, 38, 39, 40, 41, 42, 43, 44, 45, 46, 12, 47, 14, 48, 49, 50, 51, 52, 53, 54, 55, 56, 57, 59, 60, 58] (by decide +kernel) (by decide +kernel)
set_option maxRecDepth 20000 in
theorem gX2_recover_X2_follow : GoodIn wsX2_recover (wsV RX2 154 RX2 yX2_follow wsX2_follow) := goodIn_app (goodIn_of _ (by decide +kernel)) ggX2_recover_X2_follow
theorem dX2_recover_0 : decode cX2_recover 0 = .ok (.aload_n 1, 1) := by decide +kernel
theorem dX2_recover_1 : decode cX2_recover 1 = .ok (.aload_n 0, 1) := by decide +kernel
theorem dX2_recover_2 : decode cX2_recover 2 = .ok (.getfield 23, 3) := by decide +kernel
theorem dX2_recover_5 : decode cX2_recover 5 = .ok (.invokevirtual 105, 3) := by decide +kernel
theorem dX2_recover_8 : decode cX2_recover 8 = .ok (.aload_n 1, 1) := by decide +kernel
theorem dX2_recover_9 : decode cX2_recover 9 = .ok (.aload_n 0, 1) := by decide +kernel
theorem dX2_recover_10 : decode cX2_recover 10 = .ok (.getfield 37, 3) := by decide +kernel
theorem dX2_recover_13 : decode cX2_recover 13 = .ok (.invokevirtual 161, 3) := by decide +kernel
theorem dX2_recover_16 : decode cX2_recover 16 = .ok (.aload_n 0, 1) := by decide +kernel
theorem dX2_recover_17 : decode cX2_recover 17 = .ok (.getfield 43, 3) := by decide +kernel
theorem dX2_recover_20 : decode cX2_recover 20 = .ok (.aload_n 0, 1) := by decide +kernel
theorem dX2_recover_21 : decode cX2_recover 21 = .ok (.getfield 37, 3) := by decide +kernel
theorem dX2_recover_24 : decode cX2_recover 24 = .ok (.invokestatic 164, 3) := by decide +kernel
theorem dX2_recover_27 : decode cX2_recover 27 = .ok (.istore_n 2, 1) := by decide +kernel
theorem dX2_recover_28 : decode cX2_recover 28 = .ok (.iload_n 2, 1) := by decide +kernel
theorem dX2_recover_29 : decode cX2_recover 29 = .ok (.aload_n 0, 1) := by decide +kernel
theorem dX2_recover_30 : decode cX2_recover 30 = .ok (.getfield 40, 3) := by decide +kernel
theorem dX2_recover_33 : decode cX2_recover 33 = .ok (.if_icmp .ge 15, 3) := by decide +kernel
theorem dX2_recover_36 : decode cX2_recover 36 = .ok (.aload_n 0, 1) := by decide +kernel
theorem dX2_recover_37 : decode cX2_recover 37 = .ok (.aload_n 1, 1) := by decide +kernel
theorem dX2_recover_38 : decode cX2_recover 38 = .ok (.iload_n 2, 1) := by decide +kernel
theorem dX2_recover_39 : decode cX2_recover 39 = .ok (.invokevirtual 154, 3) := by decide +kernel
theorem dX2_recover_42 : decode cX2_recover 42 = .ok (.iinc 2 1, 3) := by decide +kernel
theorem dX2_recover_45 : decode cX2_recover 45 = .ok (.goto (-17), 3) := by decide +kernel
theorem dX2_recover_48 : decode cX2_recover 48 = .ok (.return_, 1) := by decide +kernel
