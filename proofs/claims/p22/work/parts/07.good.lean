set_option maxRecDepth 20000 in
theorem ggX0_init_Jx4a65c_init_da8c8 : GoodIn wsX0_init wsJx4a65c_init_da8c8 := goodIn_r _ [10, 11, 12, 13, 14, 15, 16, 17, 18, 19, 20, 21, 22, 2, 3, 23, 24, 25] (by decide +kernel) (by decide +kernel)
set_option maxRecDepth 20000 in
theorem gX0_init_Jx4a65c_init_da8c8 : GoodIn wsX0_init (wsJx4a65c_init_da8c8) := ggX0_init_Jx4a65c_init_da8c8
set_option maxRecDepth 20000 in
theorem ggX0_length_Jx4a65c_size_8abf5 : GoodIn wsX0_length wsJx4a65c_size_8abf5 := goodIn_r _ [6, 7, 9, 10, 11] (by decide +kernel) (by decide +kernel)
set_option maxRecDepth 20000 in
theorem gX0_length_Jx4a65c_size_8abf5 : GoodIn wsX0_length (wsV RX0 18 RJx4a65c yJx4a65c_size_8abf5 wsJx4a65c_size_8abf5) := goodIn_app (goodIn_of _ (by decide +kernel)) ggX0_length_Jx4a65c_size_8abf5
set_option maxRecDepth 20000 in
theorem ggX0_placeOf_Jx4a65c_size_8abf5 : GoodIn wsX0_placeOf wsJx4a65c_size_8abf5 := goodIn_r _ [6, 7, 26, 27, 28] (by decide +kernel) (by decide +kernel)
set_option maxRecDepth 20000 in
theorem gX0_placeOf_Jx4a65c_size_8abf5 : GoodIn wsX0_placeOf (wsV RX0 18 RJx4a65c yJx4a65c_size_8abf5 wsJx4a65c_size_8abf5) := goodIn_app (goodIn_of _ (by decide +kernel)) ggX0_placeOf_Jx4a65c_size_8abf5
set_option maxRecDepth 20000 in
theorem ggX0_placeOf_Jx4a65c_get_915e3 : GoodIn wsX0_placeOf wsJx4a65c_get_915e3 := goodIn_r _ [11, 7, 12, 13, 14, 15, 16, 17, 18, 19, 20, 21, 22, 5, 23, 24, 26, 27, 28] (by decide +kernel) (by decide +kernel)
set_option maxRecDepth 20000 in
theorem gX0_placeOf_Jx4a65c_get_915e3 : GoodIn wsX0_placeOf (wsV RX0 22 RJx4a65c yJx4a65c_get_915e3 wsJx4a65c_get_915e3) := goodIn_app (goodIn_of _ (by decide +kernel)) ggX0_placeOf_Jx4a65c_get_915e3
set_option maxRecDepth 20000 in
theorem ggX0_toggle_X0_placeOf : GoodIn wsX0_toggle wsX0_placeOf := goodIn_r _ [6, 1, 7, 8, 9, 10, 11, 12, 13, 14, 15, 16, 17, 18, 19, 20, 21, 22, 23, 24, 25, 26, 27, 28, 29, 92, 93, 94, 95] (by decide +kernel) (by decide +kernel)
set_option maxRecDepth 20000 in
theorem gX0_toggle_X0_placeOf : GoodIn wsX0_toggle (wsV RX0 26 RX0 yX0_placeOf wsX0_placeOf) := goodIn_app (goodIn_of _ (by decide +kernel)) ggX0_toggle_X0_placeOf
set_option maxRecDepth 20000 in
theorem ggX0_toggle_Jx4a65c_add_9ea2d : GoodIn wsX0_toggle wsJx4a65c_add_9ea2d := goodIn_r _ [33, 34, 35, 29, 12, 36, 37, 38, 10, 39, 40, 41, 42, 43, 44, 45, 46, 47, 48, 49, 50, 51, 52, 53, 54, 55, 56, 57, 58, 59, 60, 61, 62, 63, 64, 65, 66, 67, 68, 69, 70, 71, 72, 73, 74, 75, 76, 77, 78, 79, 80, 81, 82, 93, 94, 95] (by decide +kernel) (by decide +kernel)
set_option maxRecDepth 20000 in
theorem gX0_toggle_Jx4a65c_add_9ea2d : GoodIn wsX0_toggle (wsV RX0 30 RJx4a65c yJx4a65c_add_9ea2d wsJx4a65c_add_9ea2d) := goodIn_app (goodIn_of _ (by decide +kernel)) ggX0_toggle_Jx4a65c_add_9ea2d
set_option maxRecDepth 20000 in
theorem ggX0_toggle_Jx4a65c_remove_915e3 : GoodIn wsX0_toggle wsJx4a65c_remove_915e3 := goodIn_r _ [86, 12, 29, 17, 18, 19, 20, 21, 22, 23, 24, 87, 88, 89, 10, 90, 34, 35, 91, 80, 81, 82, 93, 94, 95] (by decide +kernel) (by decide +kernel)
set_option maxRecDepth 20000 in
theorem gX0_toggle_Jx4a65c_remove_915e3 : GoodIn wsX0_toggle (wsV RX0 34 RJx4a65c yJx4a65c_remove_915e3 wsJx4a65c_remove_915e3) := goodIn_app (goodIn_of _ (by decide +kernel)) ggX0_toggle_Jx4a65c_remove_915e3
set_option maxRecDepth 20000 in
theorem ggX0_toggle_Jx4a65c_size_8abf5 : GoodIn wsX0_toggle wsJx4a65c_size_8abf5 := goodIn_r _ [11, 12, 93, 94, 95] (by decide +kernel) (by decide +kernel)
set_option maxRecDepth 20000 in
theorem gX0_toggle_Jx4a65c_size_8abf5 : GoodIn wsX0_toggle (wsV RX0 18 RJx4a65c yJx4a65c_size_8abf5 wsJx4a65c_size_8abf5) := goodIn_app (goodIn_of _ (by decide +kernel)) ggX0_toggle_Jx4a65c_size_8abf5
set_option maxRecDepth 20000 in
theorem ggX0_putInOrder_Jx4a65c_init_da8c8 : GoodIn wsX0_putInOrder wsJx4a65c_init_da8c8 := goodIn_r _ [8, 9, 10, 11, 12, 13, 14, 15, 16, 17, 18, 19, 20, 21, 22, 111, 112, 113] (by decide +kernel) (by decide +kernel)
set_option maxRecDepth 20000 in
theorem gX0_putInOrder_Jx4a65c_init_da8c8 : GoodIn wsX0_putInOrder (wsJx4a65c_init_da8c8) := ggX0_putInOrder_Jx4a65c_init_da8c8
set_option maxRecDepth 20000 in
theorem ggX0_putInOrder_Jx4a65c_size_8abf5 : GoodIn wsX0_putInOrder wsJx4a65c_size_8abf5 := goodIn_r _ [26, 27, 111, 112, 113] (by decide +kernel) (by decide +kernel)
set_option maxRecDepth 20000 in
theorem gX0_putInOrder_Jx4a65c_size_8abf5 : GoodIn wsX0_putInOrder (wsV RX0 18 RJx4a65c yJx4a65c_size_8abf5 wsJx4a65c_size_8abf5) := goodIn_app (goodIn_of _ (by decide +kernel)) ggX0_putInOrder_Jx4a65c_size_8abf5
set_option maxRecDepth 20000 in
theorem ggX0_putInOrder_Jx4a65c_get_915e3 : GoodIn wsX0_putInOrder wsJx4a65c_get_915e3 := goodIn_r _ [31, 27, 32, 33, 34, 35, 36, 37, 38, 39, 40, 41, 42, 3, 43, 10, 111, 112, 113] (by decide +kernel) (by decide +kernel)
set_option maxRecDepth 20000 in
theorem gX0_putInOrder_Jx4a65c_get_915e3 : GoodIn wsX0_putInOrder (wsV RX0 22 RJx4a65c yJx4a65c_get_915e3 wsJx4a65c_get_915e3) := goodIn_app (goodIn_of _ (by decide +kernel)) ggX0_putInOrder_Jx4a65c_get_915e3
set_option maxRecDepth 20000 in
theorem ggX0_putInOrder_X0_insert : GoodIn wsX0_putInOrder wsX0_insert := goodIn_r _ [47, 5, 23, 24, 25, 3, 26, 27, 28, 29, 30, 31, 32, 33, 34, 35, 36, 37, 38, 39, 40, 41, 42, 43, 10, 48, 49, 50, 51, 52, 53, 54, 55, 56, 57, 58, 59, 60, 61, 62, 63, 64, 65, 66, 67, 68, 69, 70, 71, 72, 73, 74, 75, 76, 77, 78, 79, 80, 9, 81, 82, 83, 84, 85, 86, 87, 88, 89, 90, 91, 92, 93, 94, 95, 96, 97, 98, 99, 100, 101, 102, 103, 104, 105, 106, 107, 108, 109, 110, 111, 112, 113, 115, 116, 117, 118, 119, 120, 121] (by decide +kernel) (by decide +kernel)
set_option maxRecDepth 20000 in
theorem gX0_putInOrder_X0_insert : GoodIn wsX0_putInOrder (va_wsS RX0 39 yX0_insert wsX0_insert) := goodIn_app (goodIn_of _ (by decide +kernel)) ggX0_putInOrder_X0_insert
set_option maxRecDepth 20000 in
theorem ggX0_insert_Jx4a65c_size_8abf5 : GoodIn wsX0_insert wsJx4a65c_size_8abf5 := goodIn_r _ [6, 7, 89, 90, 91] (by decide +kernel) (by decide +kernel)
set_option maxRecDepth 20000 in
theorem gX0_insert_Jx4a65c_size_8abf5 : GoodIn wsX0_insert (wsV RX0 18 RJx4a65c yJx4a65c_size_8abf5 wsJx4a65c_size_8abf5) := goodIn_app (goodIn_of _ (by decide +kernel)) ggX0_insert_Jx4a65c_size_8abf5
set_option maxRecDepth 20000 in
theorem ggX0_insert_Jx4a65c_get_915e3 : GoodIn wsX0_insert wsJx4a65c_get_915e3 := goodIn_r _ [11, 7, 12, 13, 14, 15, 16, 17, 18, 19, 20, 21, 22, 5, 23, 24, 89, 90, 91] (by decide +kernel) (by decide +kernel)
set_option maxRecDepth 20000 in
theorem gX0_insert_Jx4a65c_get_915e3 : GoodIn wsX0_insert (wsV RX0 22 RJx4a65c yJx4a65c_get_915e3 wsJx4a65c_get_915e3) := goodIn_app (goodIn_of _ (by decide +kernel)) ggX0_insert_Jx4a65c_get_915e3
set_option maxRecDepth 20000 in
theorem ggX0_insert_X4_goesAheadOf : GoodIn wsX0_insert wsX4_goesAheadOf := goodIn_r _ [29, 30, 31, 32, 33, 34, 35, 92, 93, 94, 95, 96, 97, 98] (by decide +kernel) (by decide +kernel)
set_option maxRecDepth 20000 in
theorem gX0_insert_X4_goesAheadOf : GoodIn wsX0_insert (wsV RX0 43 RX4 yX4_goesAheadOf wsX4_goesAheadOf) := goodIn_app (goodIn_of _ (by decide +kernel)) ggX0_insert_X4_goesAheadOf
set_option maxRecDepth 20000 in
theorem ggX0_insert_Jx4a65c_add_7a177 : GoodIn wsX0_insert wsJx4a65c_add_7a177 := goodIn_r _ [39, 40, 41, 7, 24, 42, 43, 44, 45, 46, 47, 48, 5, 49, 50, 51, 52, 53, 54, 55, 56, 57, 58, 59, 60, 33, 61, 62, 63, 64, 65, 66, 67, 68, 69, 70, 71, 72, 73, 74, 75, 76, 77, 78, 79, 80, 81, 82, 83, 84, 85, 86, 87, 88, 89, 90, 91] (by decide +kernel) (by decide +kernel)
set_option maxRecDepth 20000 in
theorem gX0_insert_Jx4a65c_add_7a177 : GoodIn wsX0_insert (wsV RX0 47 RJx4a65c yJx4a65c_add_7a177 wsJx4a65c_add_7a177) := goodIn_app (goodIn_of _ (by decide +kernel)) ggX0_insert_Jx4a65c_add_7a177
set_option maxRecDepth 20000 in
theorem ggX0_letThrough_Jx4a65c_size_8abf5 : GoodIn wsX0_letThrough wsJx4a65c_size_8abf5 := goodIn_r _ [7, 8, 57, 58, 59] (by decide +kernel) (by decide +kernel)
set_option maxRecDepth 20000 in
theorem gX0_letThrough_Jx4a65c_size_8abf5 : GoodIn wsX0_letThrough (wsV RX0 18 RJx4a65c yJx4a65c_size_8abf5 wsJx4a65c_size_8abf5) := goodIn_app (goodIn_of _ (by decide +kernel)) ggX0_letThrough_Jx4a65c_size_8abf5
set_option maxRecDepth 20000 in
theorem ggX0_letThrough_Jx4a65c_get_915e3 : GoodIn wsX0_letThrough wsJx4a65c_get_915e3 := goodIn_r _ [12, 8, 13, 14, 15, 16, 17, 18, 19, 20, 21, 22, 23, 6, 24, 25, 57, 58, 59] (by decide +kernel) (by decide +kernel)
set_option maxRecDepth 20000 in
theorem gX0_letThrough_Jx4a65c_get_915e3 : GoodIn wsX0_letThrough (wsV RX0 22 RJx4a65c yJx4a65c_get_915e3 wsJx4a65c_get_915e3) := goodIn_app (goodIn_of _ (by decide +kernel)) ggX0_letThrough_Jx4a65c_get_915e3
set_option maxRecDepth 20000 in
theorem ggX0_letThrough_X4_take : GoodIn wsX0_letThrough wsX4_take := goodIn_r _ [30, 31, 32, 33, 34, 35, 36, 37, 38, 29, 39, 40, 41, 42, 43, 44, 45, 46, 47, 48, 49, 50, 51, 52, 53, 54, 55, 60, 61, 62, 63, 64, 65, 66] (by decide +kernel) (by decide +kernel)
set_option maxRecDepth 20000 in
theorem gX0_letThrough_X4_take : GoodIn wsX0_letThrough (wsV RX0 50 RX4 yX4_take wsX4_take) := goodIn_app (goodIn_of _ (by decide +kernel)) ggX0_letThrough_X4_take
set_option maxRecDepth 20000 in
theorem ggX0_isStable_Jx4a65c_size_8abf5 : GoodIn wsX0_isStable wsJx4a65c_size_8abf5 := goodIn_r _ [7, 8, 37, 38, 39] (by decide +kernel) (by decide +kernel)
set_option maxRecDepth 20000 in
theorem gX0_isStable_Jx4a65c_size_8abf5 : GoodIn wsX0_isStable (wsV RX0 18 RJx4a65c yJx4a65c_size_8abf5 wsJx4a65c_size_8abf5) := goodIn_app (goodIn_of _ (by decide +kernel)) ggX0_isStable_Jx4a65c_size_8abf5
set_option maxRecDepth 20000 in
theorem ggX0_isStable_Jx4a65c_get_915e3 : GoodIn wsX0_isStable wsJx4a65c_get_915e3 := goodIn_r _ [12, 8, 13, 14, 15, 16, 17, 18, 19, 20, 21, 22, 23, 6, 24, 25, 37, 38, 39] (by decide +kernel) (by decide +kernel)
set_option maxRecDepth 20000 in
theorem gX0_isStable_Jx4a65c_get_915e3 : GoodIn wsX0_isStable (wsV RX0 22 RJx4a65c yJx4a65c_get_915e3 wsJx4a65c_get_915e3) := goodIn_app (goodIn_of _ (by decide +kernel)) ggX0_isStable_Jx4a65c_get_915e3
set_option maxRecDepth 20000 in
theorem ggX0_isStable_X4_isStable : GoodIn wsX0_isStable wsX4_isStable := goodIn_r _ [30, 31, 32, 33, 34, 35, 40, 41, 42, 43, 44, 45, 46] (by decide +kernel) (by decide +kernel)
set_option maxRecDepth 20000 in
theorem gX0_isStable_X4_isStable : GoodIn wsX0_isStable (wsV RX0 54 RX4 yX4_isStable wsX4_isStable) := goodIn_app (goodIn_of _ (by decide +kernel)) ggX0_isStable_X4_isStable
set_option maxRecDepth 20000 in
theorem ggX0_gainAt_X2_init : GoodIn wsX0_gainAt wsX2_init := goodIn_r _ [8, 9, 10, 11, 12, 13, 66, 67] (by decide +kernel) (by decide +kernel)
set_option maxRecDepth 20000 in
theorem gX0_gainAt_X2_init : GoodIn wsX0_gainAt (wsX2_init) := ggX0_gainAt_X2_init
set_option maxRecDepth 20000 in
theorem ggX0_gainAt_Jx4a65c_size_8abf5 : GoodIn wsX0_gainAt wsJx4a65c_size_8abf5 := goodIn_r _ [18, 19, 69, 70, 71] (by decide +kernel) (by decide +kernel)
set_option maxRecDepth 20000 in
theorem gX0_gainAt_Jx4a65c_size_8abf5 : GoodIn wsX0_gainAt (wsV RX0 18 RJx4a65c yJx4a65c_size_8abf5 wsJx4a65c_size_8abf5) := goodIn_app (goodIn_of _ (by decide +kernel)) ggX0_gainAt_Jx4a65c_size_8abf5
set_option maxRecDepth 20000 in
theorem ggX0_gainAt_Jx4a65c_get_915e3 : GoodIn wsX0_gainAt wsJx4a65c_get_915e3 := goodIn_r _ [23, 19, 24, 25, 26, 27, 28, 29, 30, 31, 32, 33, 34, 17, 35, 36, 69, 70, 71] (by decide +kernel) (by decide +kernel)
set_option maxRecDepth 20000 in
theorem gX0_gainAt_Jx4a65c_get_915e3 : GoodIn wsX0_gainAt (wsV RX0 22 RJx4a65c yJx4a65c_get_915e3 wsJx4a65c_get_915e3) := goodIn_app (goodIn_of _ (by decide +kernel)) ggX0_gainAt_Jx4a65c_get_915e3
set_option maxRecDepth 20000 in
theorem ggX0_gainAt_X4_gainNumber : GoodIn wsX0_gainAt wsX4_gainNumber := goodIn_r _ [41, 42, 43, 44, 40, 45, 72, 73, 74, 75, 76, 77, 78] (by decide +kernel) (by decide +kernel)
set_option maxRecDepth 20000 in
theorem gX0_gainAt_X4_gainNumber : GoodIn wsX0_gainAt (wsV RX0 61 RX4 yX4_gainNumber wsX4_gainNumber) := goodIn_app (goodIn_of _ (by decide +kernel)) ggX0_gainAt_X4_gainNumber
set_option maxRecDepth 20000 in
theorem ggX0_gainAt_X4_gainDivisor : GoodIn wsX0_gainAt wsX4_gainDivisor := goodIn_r _ [49, 50, 42, 43, 44, 40, 45, 72, 73, 74, 75, 76, 77, 78] (by decide +kernel) (by decide +kernel)
set_option maxRecDepth 20000 in
theorem gX0_gainAt_X4_gainDivisor : GoodIn wsX0_gainAt (wsV RX0 65 RX4 yX4_gainDivisor wsX4_gainDivisor) := goodIn_app (goodIn_of _ (by decide +kernel)) ggX0_gainAt_X4_gainDivisor
set_option maxRecDepth 20000 in
theorem ggX0_gainAt_X2_multiply : GoodIn wsX0_gainAt wsX2_multiply := goodIn_r _ [54, 12, 13, 66, 67] (by decide +kernel) (by decide +kernel)
set_option maxRecDepth 20000 in
theorem gX0_gainAt_X2_multiply : GoodIn wsX0_gainAt (wsV RX0 68 RX2 yX2_multiply wsX2_multiply) := goodIn_app (goodIn_of _ (by decide +kernel)) ggX0_gainAt_X2_multiply
set_option maxRecDepth 20000 in
theorem ggX0_gainAt_X2_makeSmall : GoodIn wsX0_gainAt wsX2_makeSmall := goodIn_r _ [58, 13, 12, 59, 60, 61, 62, 63, 64, 3, 65, 66, 67] (by decide +kernel) (by decide +kernel)
set_option maxRecDepth 20000 in
theorem gX0_gainAt_X2_makeSmall : GoodIn wsX0_gainAt (wsV RX0 72 RX2 yX2_makeSmall wsX2_makeSmall) := goodIn_app (goodIn_of _ (by decide +kernel)) ggX0_gainAt_X2_makeSmall
set_option maxRecDepth 20000 in
theorem ggX1_tryAll_J7_fill_d0a16 : GoodIn wsX1_tryAll wsJ7_fill_d0a16 := goodIn_r _ [9] (by decide +kernel) (by decide +kernel)
set_option maxRecDepth 20000 in
theorem gX1_tryAll_J7_fill_d0a16 : GoodIn wsX1_tryAll (va_wsS RX1 13 yJ7_fill_d0a16 wsJ7_fill_d0a16) := goodIn_app (goodIn_of _ (by decide +kernel)) ggX1_tryAll_J7_fill_d0a16
set_option maxRecDepth 20000 in
theorem ggX1_tryAll_X1_stateOf : GoodIn wsX1_tryAll wsX1_stateOf := goodIn_r _ [13, 14, 15, 16, 17] (by decide +kernel) (by decide +kernel)
set_option maxRecDepth 20000 in
theorem gX1_tryAll_X1_stateOf : GoodIn wsX1_tryAll (va_wsS RX1 32 yX1_stateOf wsX1_stateOf) := goodIn_app (goodIn_of _ (by decide +kernel)) ggX1_tryAll_X1_stateOf
set_option maxRecDepth 20000 in
theorem ggX1_tryAll_X1_tryFrom : GoodIn wsX1_tryAll wsX1_tryFrom := goodIn_r _ [21, 5, 22, 23, 24, 12, 25, 26, 27, 28, 29, 30, 1, 31, 32, 33, 34, 35, 36, 37, 38, 39, 40, 41, 42, 43, 44, 45, 46, 47, 48, 49, 50, 51, 52, 53, 54, 55, 56, 16, 57, 58, 59, 60, 61, 62, 63, 64, 65, 66, 67, 68, 69, 10, 11, 13, 14, 15, 17, 70, 71, 72, 73, 4, 74, 2, 3, 75, 76, 77, 78, 79, 80, 81, 82, 83, 84, 85, 86] (by decide +kernel) (by decide +kernel)
set_option maxRecDepth 20000 in
theorem gX1_tryAll_X1_tryFrom : GoodIn wsX1_tryAll (wsV RX1 36 RX1 yX1_tryFrom wsX1_tryFrom) := goodIn_app (goodIn_of _ (by decide +kernel)) ggX1_tryAll_X1_tryFrom
set_option maxRecDepth 20000 in
theorem ggX1_tryFrom_X1_walk : GoodIn wsX1_tryFrom wsX1_walk := goodIn_r _ [6, 7, 8, 9, 10, 5, 11, 12, 13, 14, 15, 16, 17, 18, 19, 20, 21, 22, 23, 24, 25, 26, 27, 28, 29, 30, 31, 32, 33, 34, 35, 36, 37, 38, 39, 40, 41, 42, 43, 44, 45, 46, 47, 48, 49, 50, 51, 52, 53, 54, 55, 56, 57, 58, 67, 68, 69, 70, 71, 72, 73, 74, 75, 76, 77, 78] (by decide +kernel) (by decide +kernel)
set_option maxRecDepth 20000 in
theorem gX1_tryFrom_X1_walk : GoodIn wsX1_tryFrom (wsV RX1 40 RX1 yX1_walk wsX1_walk) := goodIn_app (goodIn_of _ (by decide +kernel)) ggX1_tryFrom_X1_walk
set_option maxRecDepth 20000 in
theorem ggX1_tryFrom_X1_markOf : GoodIn wsX1_tryFrom wsX1_markOf := goodIn_r _ [11, 7, 12, 13, 14, 5, 15, 67, 68, 69, 70, 71] (by decide +kernel) (by decide +kernel)
set_option maxRecDepth 20000 in
theorem gX1_tryFrom_X1_markOf : GoodIn wsX1_tryFrom (wsV RX1 44 RX1 yX1_markOf wsX1_markOf) := goodIn_app (goodIn_of _ (by decide +kernel)) ggX1_tryFrom_X1_markOf
set_option maxRecDepth 20000 in
theorem ggX1_tryFrom_X1_countCycle : GoodIn wsX1_tryFrom wsX1_countCycle := goodIn_r _ [62, 63, 56, 57, 39, 58, 64, 42, 43, 7, 65, 66, 25, 26, 5, 27, 22, 23, 24, 28, 29, 30, 31, 32, 33, 34, 35, 36, 37, 38, 40, 41, 44, 45, 46, 47, 48, 49, 50, 51, 52, 53, 54, 55, 67, 68, 69, 70, 71, 72, 73, 74, 75, 76, 77, 78] (by decide +kernel) (by decide +kernel)
set_option maxRecDepth 20000 in
theorem gX1_tryFrom_X1_countCycle : GoodIn wsX1_tryFrom (wsV RX1 48 RX1 yX1_countCycle wsX1_countCycle) := goodIn_app (goodIn_of _ (by decide +kernel)) ggX1_tryFrom_X1_countCycle
set_option maxRecDepth 20000 in
theorem ggX1_walk_X1_markOf : GoodIn wsX1_walk wsX1_markOf := goodIn_r _ [6, 1, 7, 8, 9, 5, 10, 54, 55, 56, 57, 58] (by decide +kernel) (by decide +kernel)
set_option maxRecDepth 20000 in
theorem gX1_walk_X1_markOf : GoodIn wsX1_walk (wsV RX1 44 RX1 yX1_markOf wsX1_markOf) := goodIn_app (goodIn_of _ (by decide +kernel)) ggX1_walk_X1_markOf
set_option maxRecDepth 20000 in
theorem ggX1_walk_X1_mark : GoodIn wsX1_walk wsX1_mark := goodIn_r _ [14, 1, 7, 15, 16, 8, 9, 5, 10, 54, 55, 56, 57, 58] (by decide +kernel) (by decide +kernel)
set_option maxRecDepth 20000 in
theorem gX1_walk_X1_mark : GoodIn wsX1_walk (wsV RX1 52 RX1 yX1_mark wsX1_mark) := goodIn_app (goodIn_of _ (by decide +kernel)) ggX1_walk_X1_mark
set_option maxRecDepth 20000 in
theorem ggX1_walk_X1_next : GoodIn wsX1_walk wsX1_next := goodIn_r _ [19, 20, 21, 5, 22, 23, 24, 25, 26, 27, 28, 29, 30, 31, 32, 33, 34, 35, 36, 37, 38, 39, 40, 41, 42, 43, 44, 45, 46, 47, 48, 49, 50, 51, 52, 53, 59, 60, 61, 62, 63, 64, 65] (by decide +kernel) (by decide +kernel)
set_option maxRecDepth 20000 in
theorem gX1_walk_X1_next : GoodIn wsX1_walk (va_wsS RX1 56 yX1_next wsX1_next) := goodIn_app (goodIn_of _ (by decide +kernel)) ggX1_walk_X1_next
set_option maxRecDepth 20000 in
theorem ggX1_countCycle_X1_lastOf : GoodIn wsX1_countCycle wsX1_lastOf := goodIn_r _ [15] (by decide +kernel) (by decide +kernel)
set_option maxRecDepth 20000 in
theorem gX1_countCycle_X1_lastOf : GoodIn wsX1_countCycle (va_wsS RX1 60 yX1_lastOf wsX1_lastOf) := goodIn_app (goodIn_of _ (by decide +kernel)) ggX1_countCycle_X1_lastOf
set_option maxRecDepth 20000 in
theorem ggX1_countCycle_X1_next : GoodIn wsX1_countCycle wsX1_next := goodIn_r _ [18, 12, 13, 14, 15, 19, 20, 21, 22, 23, 24, 25, 26, 27, 28, 29, 4, 30, 31, 7, 8, 32, 33, 34, 35, 36, 37, 38, 39, 40, 41, 42, 43, 2, 3, 5, 49, 50, 51, 52, 53, 54, 55] (by decide +kernel) (by decide +kernel)
set_option maxRecDepth 20000 in
theorem gX1_countCycle_X1_next : GoodIn wsX1_countCycle (va_wsS RX1 56 yX1_next wsX1_next) := goodIn_app (goodIn_of _ (by decide +kernel)) ggX1_countCycle_X1_next
set_option maxRecDepth 20000 in
theorem ggX1_next_X1_lastOf : GoodIn wsX1_next wsX1_lastOf := goodIn_r _ [4] (by decide +kernel) (by decide +kernel)
set_option maxRecDepth 20000 in
theorem gX1_next_X1_lastOf : GoodIn wsX1_next (va_wsS RX1 60 yX1_lastOf wsX1_lastOf) := goodIn_app (goodIn_of _ (by decide +kernel)) ggX1_next_X1_lastOf
set_option maxRecDepth 20000 in
theorem ggX1_next_X1_aheadOf : GoodIn wsX1_next wsX1_aheadOf := goodIn_r _ [7] (by decide +kernel) (by decide +kernel)
set_option maxRecDepth 20000 in
theorem gX1_next_X1_aheadOf : GoodIn wsX1_next (va_wsS RX1 71 yX1_aheadOf wsX1_aheadOf) := goodIn_app (goodIn_of _ (by decide +kernel)) ggX1_next_X1_aheadOf
set_option maxRecDepth 20000 in
theorem ggX1_next_X4_outputFrom : GoodIn wsX1_next wsX4_outputFrom := goodIn_r _ [12, 13, 14, 15, 16, 17, 18, 19, 20, 21, 22, 23, 11, 24, 25, 26, 27, 28, 29, 36, 37, 38, 39, 40, 41, 42] (by decide +kernel) (by decide +kernel)
set_option maxRecDepth 20000 in
theorem gX1_next_X4_outputFrom : GoodIn wsX1_next (wsV RX1 74 RX4 yX4_outputFrom wsX4_outputFrom) := goodIn_app (goodIn_of _ (by decide +kernel)) ggX1_next_X4_outputFrom
set_option maxRecDepth 20000 in
theorem ggX1_next_X1_stateOf : GoodIn wsX1_next wsX1_stateOf := goodIn_r _ [32, 33, 34, 16, 35] (by decide +kernel) (by decide +kernel)
set_option maxRecDepth 20000 in
theorem gX1_next_X1_stateOf : GoodIn wsX1_next (va_wsS RX1 32 yX1_stateOf wsX1_stateOf) := goodIn_app (goodIn_of _ (by decide +kernel)) ggX1_next_X1_stateOf
set_option maxRecDepth 20000 in
theorem ggX1_markOf_X1_shiftOf : GoodIn wsX1_markOf wsX1_shiftOf := goodIn_r _ [6] (by decide +kernel) (by decide +kernel)
set_option maxRecDepth 20000 in
theorem gX1_markOf_X1_shiftOf : GoodIn wsX1_markOf (va_wsS RX1 80 yX1_shiftOf wsX1_shiftOf) := goodIn_app (goodIn_of _ (by decide +kernel)) ggX1_markOf_X1_shiftOf
set_option maxRecDepth 20000 in
theorem ggX1_mark_X1_shiftOf : GoodIn wsX1_mark wsX1_shiftOf := goodIn_r _ [8] (by decide +kernel) (by decide +kernel)
set_option maxRecDepth 20000 in
theorem gX1_mark_X1_shiftOf : GoodIn wsX1_mark (va_wsS RX1 80 yX1_shiftOf wsX1_shiftOf) := goodIn_app (goodIn_of _ (by decide +kernel)) ggX1_mark_X1_shiftOf
set_option maxRecDepth 20000 in
theorem ggX2_makeSmall_X2_commonDivisor : GoodIn wsX2_makeSmall wsX2_commonDivisor := goodIn_r _ [10] (by decide +kernel) (by decide +kernel)
set_option maxRecDepth 20000 in
theorem gX2_makeSmall_X2_commonDivisor : GoodIn wsX2_makeSmall (va_wsS RX2 22 yX2_commonDivisor wsX2_commonDivisor) := goodIn_app (goodIn_of _ (by decide +kernel)) ggX2_makeSmall_X2_commonDivisor
set_option maxRecDepth 20000 in
theorem ggX4_replace_X4_coefficient : GoodIn wsX4_replace wsX4_coefficient := goodIn_r _ [6, 1, 7, 8, 9, 10, 11, 12, 13] (by decide +kernel) (by decide +kernel)
set_option maxRecDepth 20000 in
theorem gX4_replace_X4_coefficient : GoodIn wsX4_replace (wsV RX4 22 RX4 yX4_coefficient wsX4_coefficient) := goodIn_app (goodIn_of _ (by decide +kernel)) ggX4_replace_X4_coefficient
set_option maxRecDepth 20000 in
theorem ggX4_take_X4_outputFrom : GoodIn wsX4_take wsX4_outputFrom := goodIn_r _ [10, 1, 11, 12, 13, 14, 15, 16, 17, 18, 19, 20, 9, 21, 22, 23, 24, 25, 26, 27, 28, 29, 30, 31, 32, 33] (by decide +kernel) (by decide +kernel)
set_option maxRecDepth 20000 in
theorem gX4_take_X4_outputFrom : GoodIn wsX4_take (wsV RX4 38 RX4 yX4_outputFrom wsX4_outputFrom) := goodIn_app (goodIn_of _ (by decide +kernel)) ggX4_take_X4_outputFrom
set_option maxRecDepth 20000 in
theorem ggX4_outputFrom_X4_rounded : GoodIn wsX4_outputFrom wsX4_rounded := goodIn_r _ [13, 14, 15, 16, 17, 18, 19, 20, 21, 22, 23, 24, 25] (by decide +kernel) (by decide +kernel)
set_option maxRecDepth 20000 in
theorem gX4_outputFrom_X4_rounded : GoodIn wsX4_outputFrom (wsV RX4 42 RX4 yX4_rounded wsX4_rounded) := goodIn_app (goodIn_of _ (by decide +kernel)) ggX4_outputFrom_X4_rounded
set_option maxRecDepth 20000 in
theorem ggX4_rounded_J9_floorDiv_7cf53 : GoodIn wsX4_rounded wsJ9_floorDiv_7cf53 := goodIn_r _ [5] (by decide +kernel) (by decide +kernel)
set_option maxRecDepth 20000 in
theorem gX4_rounded_J9_floorDiv_7cf53 : GoodIn wsX4_rounded (va_wsS RX4 54 yJ9_floorDiv_7cf53 wsJ9_floorDiv_7cf53) := goodIn_app (goodIn_of _ (by decide +kernel)) ggX4_rounded_J9_floorDiv_7cf53
set_option maxRecDepth 20000 in
theorem ggX4_gainNumber_X4_valueAt : GoodIn wsX4_gainNumber wsX4_valueAt := goodIn_r _ [5] (by decide +kernel) (by decide +kernel)
set_option maxRecDepth 20000 in
theorem gX4_gainNumber_X4_valueAt : GoodIn wsX4_gainNumber (va_wsS RX4 60 yX4_valueAt wsX4_valueAt) := goodIn_app (goodIn_of _ (by decide +kernel)) ggX4_gainNumber_X4_valueAt
set_option maxRecDepth 20000 in
theorem ggX4_gainDivisor_X4_valueAt : GoodIn wsX4_gainDivisor wsX4_valueAt := goodIn_r _ [6] (by decide +kernel) (by decide +kernel)
set_option maxRecDepth 20000 in
theorem gX4_gainDivisor_X4_valueAt : GoodIn wsX4_gainDivisor (va_wsS RX4 60 yX4_valueAt wsX4_valueAt) := goodIn_app (goodIn_of _ (by decide +kernel)) ggX4_gainDivisor_X4_valueAt
set_option maxRecDepth 20000 in
theorem ggX5_rootOf_J9_floorMod_7cf53 : GoodIn wsX5_rootOf wsJ9_floorMod_7cf53 := goodIn_r _ [5] (by decide +kernel) (by decide +kernel)
set_option maxRecDepth 20000 in
theorem gX5_rootOf_J9_floorMod_7cf53 : GoodIn wsX5_rootOf (va_wsS RX5 19 yJ9_floorMod_7cf53 wsJ9_floorMod_7cf53) := goodIn_app (goodIn_of _ (by decide +kernel)) ggX5_rootOf_J9_floorMod_7cf53
set_option maxRecDepth 20000 in
theorem ggX5_replaceTap_X5_replaceIn : GoodIn wsX5_replaceTap wsX5_replaceIn := goodIn_r _ [5, 6, 7, 8, 9] (by decide +kernel) (by decide +kernel)
set_option maxRecDepth 20000 in
theorem gX5_replaceTap_X5_replaceIn : GoodIn wsX5_replaceTap (va_wsS RX5 25 yX5_replaceIn wsX5_replaceIn) := goodIn_app (goodIn_of _ (by decide +kernel)) ggX5_replaceTap_X5_replaceIn
set_option maxRecDepth 20000 in
theorem ggX5_replaceAsked_X5_replaceIn : GoodIn wsX5_replaceAsked wsX5_replaceIn := goodIn_r _ [5, 6, 7, 8, 9] (by decide +kernel) (by decide +kernel)
set_option maxRecDepth 20000 in
theorem gX5_replaceAsked_X5_replaceIn : GoodIn wsX5_replaceAsked (va_wsS RX5 25 yX5_replaceIn wsX5_replaceIn) := goodIn_app (goodIn_of _ (by decide +kernel)) ggX5_replaceAsked_X5_replaceIn
set_option maxRecDepth 20000 in
theorem ggX5_replaceIn_J9_floorMod_7cf53 : GoodIn wsX5_replaceIn wsJ9_floorMod_7cf53 := goodIn_r _ [4] (by decide +kernel) (by decide +kernel)
set_option maxRecDepth 20000 in
theorem gX5_replaceIn_J9_floorMod_7cf53 : GoodIn wsX5_replaceIn (va_wsS RX5 19 yJ9_floorMod_7cf53 wsJ9_floorMod_7cf53) := goodIn_app (goodIn_of _ (by decide +kernel)) ggX5_replaceIn_J9_floorMod_7cf53
set_option maxRecDepth 20000 in
theorem ggX5_takeDesign_X5_rootOf : GoodIn wsX5_takeDesign wsX5_rootOf := goodIn_r _ [6, 7, 8, 9, 10, 11, 20, 21, 22] (by decide +kernel) (by decide +kernel)
set_option maxRecDepth 20000 in
theorem gX5_takeDesign_X5_rootOf : GoodIn wsX5_takeDesign (wsV RX5 29 RX5 yX5_rootOf wsX5_rootOf) := goodIn_app (goodIn_of _ (by decide +kernel)) ggX5_takeDesign_X5_rootOf
set_option maxRecDepth 20000 in
theorem ggX5_takeDesign_X5_replaceTap : GoodIn wsX5_takeDesign wsX5_replaceTap := goodIn_r _ [15, 16, 17, 18, 5, 19, 8, 9, 10, 11, 20, 21, 22] (by decide +kernel) (by decide +kernel)
set_option maxRecDepth 20000 in
theorem gX5_takeDesign_X5_replaceTap : GoodIn wsX5_takeDesign (wsV RX5 32 RX5 yX5_replaceTap wsX5_replaceTap) := goodIn_app (goodIn_of _ (by decide +kernel)) ggX5_takeDesign_X5_replaceTap
set_option maxRecDepth 20000 in
theorem ggX5_answerBySum_X5_rootOf : GoodIn wsX5_answerBySum wsX5_rootOf := goodIn_r _ [6, 7, 8, 9, 10, 11, 12, 13, 14] (by decide +kernel) (by decide +kernel)
set_option maxRecDepth 20000 in
theorem gX5_answerBySum_X5_rootOf : GoodIn wsX5_answerBySum (wsV RX5 29 RX5 yX5_rootOf wsX5_rootOf) := goodIn_app (goodIn_of _ (by decide +kernel)) ggX5_answerBySum_X5_rootOf
set_option maxRecDepth 20000 in
theorem ggX5_answerByTwo_X5_rootOf : GoodIn wsX5_answerByTwo wsX5_rootOf := goodIn_r _ [6, 7, 8, 9, 10, 11, 12, 13, 14] (by decide +kernel) (by decide +kernel)
set_option maxRecDepth 20000 in
theorem gX5_answerByTwo_X5_rootOf : GoodIn wsX5_answerByTwo (wsV RX5 29 RX5 yX5_rootOf wsX5_rootOf) := goodIn_app (goodIn_of _ (by decide +kernel)) ggX5_answerByTwo_X5_rootOf
set_option maxRecDepth 20000 in
theorem ggX5_answerByTwo_J9_floorMod_7cf53 : GoodIn wsX5_answerByTwo wsJ9_floorMod_7cf53 := goodIn_r _ [11] (by decide +kernel) (by decide +kernel)
set_option maxRecDepth 20000 in
theorem gX5_answerByTwo_J9_floorMod_7cf53 : GoodIn wsX5_answerByTwo (va_wsS RX5 19 yJ9_floorMod_7cf53 wsJ9_floorMod_7cf53) := goodIn_app (goodIn_of _ (by decide +kernel)) ggX5_answerByTwo_J9_floorMod_7cf53
set_option maxRecDepth 20000 in
theorem ggX5_sift_X3_at : GoodIn wsX5_sift wsX3_at := goodIn_r _ [6, 7, 8, 16, 17] (by decide +kernel) (by decide +kernel)
set_option maxRecDepth 20000 in
theorem gX5_sift_X3_at : GoodIn wsX5_sift (wsV RX5 35 RX3 yX3_at wsX3_at) := goodIn_app (goodIn_of _ (by decide +kernel)) ggX5_sift_X3_at
set_option maxRecDepth 20000 in
theorem ggX5_sift_J9_floorMod_7cf53 : GoodIn wsX5_sift wsJ9_floorMod_7cf53 := goodIn_r _ [12] (by decide +kernel) (by decide +kernel)
set_option maxRecDepth 20000 in
theorem gX5_sift_J9_floorMod_7cf53 : GoodIn wsX5_sift (va_wsS RX5 19 yJ9_floorMod_7cf53 wsJ9_floorMod_7cf53) := goodIn_app (goodIn_of _ (by decide +kernel)) ggX5_sift_J9_floorMod_7cf53
set_option maxRecDepth 20000 in
theorem ggX6_init_Jx4a65c_init_da8c8 : GoodIn wsX6_init wsJx4a65c_init_da8c8 := goodIn_r _ [27, 28, 29, 30, 31, 32, 33, 34, 35, 36, 37, 38, 39, 2, 3, 70, 71, 72] (by decide +kernel) (by decide +kernel)
set_option maxRecDepth 20000 in
theorem gX6_init_Jx4a65c_init_da8c8 : GoodIn wsX6_init (wsJx4a65c_init_da8c8) := ggX6_init_Jx4a65c_init_da8c8
set_option maxRecDepth 20000 in
theorem ggX6_init_X0_init : GoodIn wsX6_init wsX0_init := goodIn_r _ [42, 43, 2, 3, 44, 5, 6, 45, 46, 26, 27, 28, 29, 30, 31, 32, 33, 34, 35, 36, 37, 38, 39, 70, 71, 72, 79] (by decide +kernel) (by decide +kernel)
set_option maxRecDepth 20000 in
theorem gX6_init_X0_init : GoodIn wsX6_init (wsX0_init) := ggX6_init_X0_init
set_option maxRecDepth 20000 in
theorem ggX6_init_X3_init : GoodIn wsX6_init wsX3_init := goodIn_r _ [49, 50, 2, 3, 51, 52, 53, 54, 55, 56, 80, 81] (by decide +kernel) (by decide +kernel)
set_option maxRecDepth 20000 in
theorem gX6_init_X3_init : GoodIn wsX6_init (wsX3_init) := ggX6_init_X3_init
set_option maxRecDepth 20000 in
theorem ggX6_init_X1_init : GoodIn wsX6_init wsX1_init := goodIn_r _ [59, 60, 2, 3, 61, 62, 82, 83, 84, 85, 86] (by decide +kernel) (by decide +kernel)
set_option maxRecDepth 20000 in
theorem gX6_init_X1_init : GoodIn wsX6_init (wsX1_init) := ggX6_init_X1_init
set_option maxRecDepth 20000 in
theorem ggX6_init_X5_init : GoodIn wsX6_init wsX5_init := goodIn_r _ [65, 66, 2, 3, 55, 67, 68, 69, 87, 88, 89] (by decide +kernel) (by decide +kernel)
set_option maxRecDepth 20000 in
theorem gX6_init_X5_init : GoodIn wsX6_init (wsX5_init) := ggX6_init_X5_init
set_option maxRecDepth 20000 in
theorem ggX6_section_X6_requireWithin : GoodIn wsX6_section wsX6_requireWithin := goodIn_ca (goodIn_r _ [10, 11, 12] (by decide +kernel) (by decide +kernel)) (goodIn_sub (fun _ h => List.mem_cons_of_mem _ (List.mem_append_right _ h)) (by decide +kernel))
set_option maxRecDepth 20000 in
theorem gX6_section_X6_requireWithin : GoodIn wsX6_section (va_wsS RX6 51 yX6_requireWithin wsX6_requireWithin) := goodIn_app (goodIn_of _ (by decide +kernel)) ggX6_section_X6_requireWithin
set_option maxRecDepth 20000 in
theorem ggX6_section_Jx4a65c_size_8abf5 : GoodIn wsX6_section wsJx4a65c_size_8abf5 := goodIn_r _ [17, 18, 96, 97, 98] (by decide +kernel) (by decide +kernel)
set_option maxRecDepth 20000 in
theorem gX6_section_Jx4a65c_size_8abf5 : GoodIn wsX6_section (wsV RX6 55 RJx4a65c yJx4a65c_size_8abf5 wsJx4a65c_size_8abf5) := goodIn_app (goodIn_of _ (by decide +kernel)) ggX6_section_Jx4a65c_size_8abf5
set_option maxRecDepth 20000 in
theorem ggX6_section_X4_init : GoodIn wsX6_section wsX4_init := goodIn_r _ [21, 22, 23, 24, 25, 26, 27, 28, 89, 90, 91, 92, 93, 94, 95] (by decide +kernel) (by decide +kernel)
set_option maxRecDepth 20000 in
theorem gX6_section_X4_init : GoodIn wsX6_section (wsX4_init) := ggX6_section_X4_init
set_option maxRecDepth 20000 in
theorem ggX6_section_Jx4a65c_add_9ea2d : GoodIn wsX6_section wsJx4a65c_add_9ea2d := goodIn_r _ [32, 33, 34, 35, 18, 36, 37, 38, 16, 39, 40, 41, 42, 43, 44, 45, 46, 47, 48, 49, 50, 51, 52, 53, 54, 55, 56, 57, 58, 59, 60, 61, 62, 63, 64, 65, 66, 67, 68, 69, 70, 71, 72, 73, 74, 75, 76, 77, 78, 79, 80, 81, 82, 96, 97, 98] (by decide +kernel) (by decide +kernel)
set_option maxRecDepth 20000 in
theorem gX6_section_Jx4a65c_add_9ea2d : GoodIn wsX6_section (wsV RX6 69 RJx4a65c yJx4a65c_add_9ea2d wsJx4a65c_add_9ea2d) := goodIn_app (goodIn_of _ (by decide +kernel)) ggX6_section_Jx4a65c_add_9ea2d
set_option maxRecDepth 20000 in
theorem ggX6_set_Jx4a65c_size_8abf5 : GoodIn wsX6_set wsJx4a65c_size_8abf5 := goodIn_r _ [7, 8, 53, 54, 55] (by decide +kernel) (by decide +kernel)
set_option maxRecDepth 20000 in
theorem gX6_set_Jx4a65c_size_8abf5 : GoodIn wsX6_set (wsV RX6 55 RJx4a65c yJx4a65c_size_8abf5 wsJx4a65c_size_8abf5) := goodIn_app (goodIn_of _ (by decide +kernel)) ggX6_set_Jx4a65c_size_8abf5
set_option maxRecDepth 20000 in
theorem ggX6_set_X6_requirePlace : GoodIn wsX6_set wsX6_requirePlace := goodIn_ca (goodIn_r _ [12, 13, 14] (by decide +kernel) (by decide +kernel)) (goodIn_sub (fun _ h => List.mem_cons_of_mem _ (List.mem_append_left _ (List.mem_append_right _ h))) (by decide +kernel))
set_option maxRecDepth 20000 in
theorem gX6_set_X6_requirePlace : GoodIn wsX6_set (va_wsS RX6 73 yX6_requirePlace wsX6_requirePlace) := goodIn_app (goodIn_of _ (by decide +kernel)) ggX6_set_X6_requirePlace
set_option maxRecDepth 20000 in
theorem ggX6_set_X6_requireWithin : GoodIn wsX6_set wsX6_requireWithin := goodIn_ca (goodIn_r _ [17, 18, 19] (by decide +kernel) (by decide +kernel)) (goodIn_sub (fun _ h => List.mem_cons_of_mem _ (List.mem_append_right _ h)) (by decide +kernel))
set_option maxRecDepth 20000 in
theorem gX6_set_X6_requireWithin : GoodIn wsX6_set (va_wsS RX6 51 yX6_requireWithin wsX6_requireWithin) := goodIn_app (goodIn_of _ (by decide +kernel)) ggX6_set_X6_requireWithin
set_option maxRecDepth 20000 in
theorem ggX6_set_Jx4a65c_get_915e3 : GoodIn wsX6_set wsJx4a65c_get_915e3 := goodIn_r _ [23, 8, 24, 25, 26, 27, 28, 29, 30, 31, 32, 33, 34, 6, 35, 36, 53, 54, 55] (by decide +kernel) (by decide +kernel)
set_option maxRecDepth 20000 in
theorem gX6_set_Jx4a65c_get_915e3 : GoodIn wsX6_set (wsV RX6 76 RJx4a65c yJx4a65c_get_915e3 wsJx4a65c_get_915e3) := goodIn_app (goodIn_of _ (by decide +kernel)) ggX6_set_Jx4a65c_get_915e3
set_option maxRecDepth 20000 in
theorem ggX6_set_X4_replace : GoodIn wsX6_set wsX4_replace := goodIn_r _ [41, 42, 43, 44, 45, 40, 46, 56, 57, 58, 59, 60, 61, 62] (by decide +kernel) (by decide +kernel)
set_option maxRecDepth 20000 in
theorem gX6_set_X4_replace : GoodIn wsX6_set (wsV RX6 80 RX4 yX4_replace wsX4_replace) := goodIn_app (goodIn_of _ (by decide +kernel)) ggX6_set_X4_replace
set_option maxRecDepth 20000 in
theorem ggX6_chain_Jx4a65c_size_8abf5 : GoodIn wsX6_chain wsJx4a65c_size_8abf5 := goodIn_r _ [8, 9, 113, 114, 115] (by decide +kernel) (by decide +kernel)
set_option maxRecDepth 20000 in
theorem gX6_chain_Jx4a65c_size_8abf5 : GoodIn wsX6_chain (wsV RX6 55 RJx4a65c yJx4a65c_size_8abf5 wsJx4a65c_size_8abf5) := goodIn_app (goodIn_of _ (by decide +kernel)) ggX6_chain_Jx4a65c_size_8abf5
set_option maxRecDepth 20000 in
theorem ggX6_chain_X6_requirePlace : GoodIn wsX6_chain wsX6_requirePlace := goodIn_ca (goodIn_r _ [13, 14, 15] (by decide +kernel) (by decide +kernel)) (goodIn_sub (fun _ h => List.mem_cons_of_mem _ (List.mem_append_right _ h)) (by decide +kernel))
set_option maxRecDepth 20000 in
theorem gX6_chain_X6_requirePlace : GoodIn wsX6_chain (va_wsS RX6 73 yX6_requirePlace wsX6_requirePlace) := goodIn_app (goodIn_of _ (by decide +kernel)) ggX6_chain_X6_requirePlace
set_option maxRecDepth 20000 in
theorem ggX6_chain_Jx4a65c_get_915e3 : GoodIn wsX6_chain wsJx4a65c_get_915e3 := goodIn_r _ [19, 9, 20, 21, 22, 23, 24, 25, 26, 27, 28, 29, 30, 7, 31, 32, 113, 114, 115] (by decide +kernel) (by decide +kernel)
set_option maxRecDepth 20000 in
theorem gX6_chain_Jx4a65c_get_915e3 : GoodIn wsX6_chain (wsV RX6 76 RJx4a65c yJx4a65c_get_915e3 wsJx4a65c_get_915e3) := goodIn_app (goodIn_of _ (by decide +kernel)) ggX6_chain_Jx4a65c_get_915e3
set_option maxRecDepth 20000 in
theorem ggX6_chain_X0_toggle : GoodIn wsX6_chain wsX0_toggle := goodIn_r _ [37, 38, 39, 40, 41, 36, 42, 43, 5, 6, 7, 8, 9, 44, 17, 18, 19, 20, 21, 22, 23, 24, 25, 26, 27, 28, 29, 30, 31, 32, 45, 46, 47, 48, 49, 50, 51, 52, 53, 54, 55, 56, 57, 58, 59, 60, 61, 62, 63, 64, 65, 66, 67, 68, 69, 70, 71, 72, 73, 74, 75, 76, 77, 78, 79, 80, 81, 82, 83, 84, 85, 86, 87, 88, 89, 90, 91, 92, 93, 94, 95, 96, 97, 98, 99, 100, 101, 102, 103, 104, 105, 106, 116, 113, 114, 115] (by decide +kernel) (by decide +kernel)
set_option maxRecDepth 20000 in
theorem gX6_chain_X0_toggle : GoodIn wsX6_chain (wsV RX6 84 RX0 yX0_toggle wsX0_toggle) := goodIn_app (goodIn_of _ (by decide +kernel)) ggX6_chain_X0_toggle
set_option maxRecDepth 20000 in
theorem ggX6_arrange_X0_putInOrder : GoodIn wsX6_arrange wsX0_putInOrder := goodIn_r _ [6, 7, 8, 9, 10, 11, 12, 13, 14, 15, 16, 17, 18, 19, 20, 21, 22, 23, 24, 25, 26, 27, 28, 29, 30, 31, 32, 33, 34, 35, 36, 37, 38, 39, 40, 41, 42, 43, 44, 45, 46, 47, 48, 49, 50, 51, 5, 52, 53, 54, 55, 56, 57, 58, 59, 60, 61, 62, 63, 64, 65, 66, 67, 68, 69, 70, 71, 72, 73, 74, 75, 76, 77, 78, 79, 80, 81, 82, 83, 84, 85, 86, 87, 88, 89, 90, 91, 92, 93, 94, 95, 96, 97, 98, 99, 100, 101, 102, 103, 104, 105, 106, 107, 108, 109, 110, 111, 112, 113, 114, 115, 122, 123, 124, 125, 126, 127, 128, 129, 130, 131, 132] (by decide +kernel) (by decide +kernel)
set_option maxRecDepth 20000 in
theorem gX6_arrange_X0_putInOrder : GoodIn wsX6_arrange (wsV RX6 88 RX0 yX0_putInOrder wsX0_putInOrder) := goodIn_app (goodIn_of _ (by decide +kernel)) ggX6_arrange_X0_putInOrder
set_option maxRecDepth 20000 in
theorem ggX6_run_X6_requireWithin : GoodIn wsX6_run wsX6_requireWithin := goodIn_ca (goodIn_r _ [6, 7, 8] (by decide +kernel) (by decide +kernel)) (goodIn_sub (fun _ h => List.mem_cons_of_mem _ (List.mem_append_right _ h)) (by decide +kernel))
set_option maxRecDepth 20000 in
theorem gX6_run_X6_requireWithin : GoodIn wsX6_run (va_wsS RX6 51 yX6_requireWithin wsX6_requireWithin) := goodIn_app (goodIn_of _ (by decide +kernel)) ggX6_run_X6_requireWithin
set_option maxRecDepth 20000 in
theorem ggX6_run_X0_letThrough : GoodIn wsX6_run wsX0_letThrough := goodIn_r _ [13, 14, 15, 16, 17, 18, 19, 20, 21, 22, 23, 24, 25, 26, 27, 28, 29, 30, 31, 32, 33, 34, 35, 36, 37, 38, 39, 40, 41, 42, 43, 44, 45, 46, 47, 48, 49, 50, 51, 52, 53, 54, 55, 56, 57, 58, 59, 60, 61, 62, 63, 64, 65, 66, 67, 68, 87, 88, 89, 90, 91, 92, 93, 94, 95, 96, 97] (by decide +kernel) (by decide +kernel)
set_option maxRecDepth 20000 in
theorem gX6_run_X0_letThrough : GoodIn wsX6_run (wsV RX6 91 RX0 yX0_letThrough wsX0_letThrough) := goodIn_app (goodIn_of _ (by decide +kernel)) ggX6_run_X0_letThrough
set_option maxRecDepth 20000 in
theorem ggX6_run_X3_add : GoodIn wsX6_run wsX3_add := goodIn_r _ [73, 74, 75, 76, 77, 78, 79, 80, 54, 55, 56, 98, 99] (by decide +kernel) (by decide +kernel)
set_option maxRecDepth 20000 in
theorem gX6_run_X3_add : GoodIn wsX6_run (wsV RX6 95 RX3 yX3_add wsX3_add) := goodIn_app (goodIn_of _ (by decide +kernel)) ggX6_run_X3_add
set_option maxRecDepth 20000 in
theorem ggX6_rest_Jx4a65c_size_8abf5 : GoodIn wsX6_rest wsJx4a65c_size_8abf5 := goodIn_r _ [8, 9, 52, 53, 54] (by decide +kernel) (by decide +kernel)
set_option maxRecDepth 20000 in
theorem gX6_rest_Jx4a65c_size_8abf5 : GoodIn wsX6_rest (wsV RX6 55 RJx4a65c yJx4a65c_size_8abf5 wsJx4a65c_size_8abf5) := goodIn_app (goodIn_of _ (by decide +kernel)) ggX6_rest_Jx4a65c_size_8abf5
set_option maxRecDepth 20000 in
theorem ggX6_rest_Jx4a65c_get_915e3 : GoodIn wsX6_rest wsJx4a65c_get_915e3 := goodIn_r _ [13, 9, 14, 15, 16, 17, 18, 19, 20, 21, 22, 23, 24, 7, 25, 26, 52, 53, 54] (by decide +kernel) (by decide +kernel)
set_option maxRecDepth 20000 in
theorem gX6_rest_Jx4a65c_get_915e3 : GoodIn wsX6_rest (wsV RX6 76 RJx4a65c yJx4a65c_get_915e3 wsJx4a65c_get_915e3) := goodIn_app (goodIn_of _ (by decide +kernel)) ggX6_rest_Jx4a65c_get_915e3
set_option maxRecDepth 20000 in
theorem ggX6_rest_X4_calm : GoodIn wsX6_rest wsX4_calm := goodIn_r _ [31, 32, 33, 34, 35, 55, 56, 57, 58, 59, 60, 61] (by decide +kernel) (by decide +kernel)
set_option maxRecDepth 20000 in
theorem gX6_rest_X4_calm : GoodIn wsX6_rest (wsV RX6 97 RX4 yX4_calm wsX4_calm) := goodIn_app (goodIn_of _ (by decide +kernel)) ggX6_rest_X4_calm
set_option maxRecDepth 20000 in
theorem ggX6_rest_X3_count : GoodIn wsX6_rest wsX3_count := goodIn_r _ [40, 41, 62, 63] (by decide +kernel) (by decide +kernel)
set_option maxRecDepth 20000 in
theorem gX6_rest_X3_count : GoodIn wsX6_rest (wsV RX6 100 RX3 yX3_count wsX3_count) := goodIn_app (goodIn_of _ (by decide +kernel)) ggX6_rest_X3_count
set_option maxRecDepth 20000 in
theorem ggX6_rest_X3_forget : GoodIn wsX6_rest wsX3_forget := goodIn_r _ [45, 41, 62, 63] (by decide +kernel) (by decide +kernel)
set_option maxRecDepth 20000 in
theorem gX6_rest_X3_forget : GoodIn wsX6_rest (wsV RX6 103 RX3 yX3_forget wsX3_forget) := goodIn_app (goodIn_of _ (by decide +kernel)) ggX6_rest_X3_forget
set_option maxRecDepth 20000 in
theorem ggX6_tap_X6_requirePlace : GoodIn wsX6_tap wsX6_requirePlace := goodIn_ca (goodIn_r _ [5, 6, 7] (by decide +kernel) (by decide +kernel)) (goodIn_sub (fun _ h => List.mem_cons_of_mem _ (List.mem_append_left _ (List.mem_append_right _ h))) (by decide +kernel))
set_option maxRecDepth 20000 in
theorem gX6_tap_X6_requirePlace : GoodIn wsX6_tap (va_wsS RX6 73 yX6_requirePlace wsX6_requirePlace) := goodIn_app (goodIn_of _ (by decide +kernel)) ggX6_tap_X6_requirePlace
set_option maxRecDepth 20000 in
theorem ggX6_tap_X6_requireRemainder : GoodIn wsX6_tap wsX6_requireRemainder := goodIn_ca (goodIn_r _ [10, 11, 12, 4, 13, 14, 15] (by decide +kernel) (by decide +kernel)) (goodIn_sub (fun _ h => List.mem_cons_of_mem _ (List.mem_append_right _ h)) (by decide +kernel))
set_option maxRecDepth 20000 in
theorem gX6_tap_X6_requireRemainder : GoodIn wsX6_tap (va_wsS RX6 106 yX6_requireRemainder wsX6_requireRemainder) := goodIn_app (goodIn_of _ (by decide +kernel)) ggX6_tap_X6_requireRemainder
set_option maxRecDepth 20000 in
theorem ggX6_tap_X5_replaceTap : GoodIn wsX6_tap wsX5_replaceTap := goodIn_r _ [20, 21, 22, 23, 19, 24, 25, 26, 27, 28, 35, 36, 37] (by decide +kernel) (by decide +kernel)
set_option maxRecDepth 20000 in
theorem gX6_tap_X5_replaceTap : GoodIn wsX6_tap (wsV RX6 109 RX5 yX5_replaceTap wsX5_replaceTap) := goodIn_app (goodIn_of _ (by decide +kernel)) ggX6_tap_X5_replaceTap
set_option maxRecDepth 20000 in
theorem ggX6_ask_X6_requirePlace : GoodIn wsX6_ask wsX6_requirePlace := goodIn_ca (goodIn_r _ [5, 6, 7] (by decide +kernel) (by decide +kernel)) (goodIn_sub (fun _ h => List.mem_cons_of_mem _ (List.mem_append_left _ (List.mem_append_right _ h))) (by decide +kernel))
set_option maxRecDepth 20000 in
theorem gX6_ask_X6_requirePlace : GoodIn wsX6_ask (va_wsS RX6 73 yX6_requirePlace wsX6_requirePlace) := goodIn_app (goodIn_of _ (by decide +kernel)) ggX6_ask_X6_requirePlace
set_option maxRecDepth 20000 in
theorem ggX6_ask_X6_requireRemainder : GoodIn wsX6_ask wsX6_requireRemainder := goodIn_ca (goodIn_r _ [10, 11, 12, 4, 13, 14, 15] (by decide +kernel) (by decide +kernel)) (goodIn_sub (fun _ h => List.mem_cons_of_mem _ (List.mem_append_right _ h)) (by decide +kernel))
set_option maxRecDepth 20000 in
theorem gX6_ask_X6_requireRemainder : GoodIn wsX6_ask (va_wsS RX6 106 yX6_requireRemainder wsX6_requireRemainder) := goodIn_app (goodIn_of _ (by decide +kernel)) ggX6_ask_X6_requireRemainder
set_option maxRecDepth 20000 in
theorem ggX6_ask_X5_replaceAsked : GoodIn wsX6_ask wsX5_replaceAsked := goodIn_r _ [20, 21, 22, 23, 19, 24, 25, 26, 27, 28, 35, 36, 37] (by decide +kernel) (by decide +kernel)
set_option maxRecDepth 20000 in
theorem gX6_ask_X5_replaceAsked : GoodIn wsX6_ask (wsV RX6 112 RX5 yX5_replaceAsked wsX5_replaceAsked) := goodIn_app (goodIn_of _ (by decide +kernel)) ggX6_ask_X5_replaceAsked
set_option maxRecDepth 20000 in
theorem ggX6_design_X5_takeDesign : GoodIn wsX6_design wsX5_takeDesign := goodIn_r _ [6, 7, 8, 9, 10, 5, 11, 12, 13, 14, 15, 16, 17, 18, 19, 20, 21, 22, 23, 24, 31, 32, 33] (by decide +kernel) (by decide +kernel)
set_option maxRecDepth 20000 in
theorem gX6_design_X5_takeDesign : GoodIn wsX6_design (wsV RX6 115 RX5 yX5_takeDesign wsX5_takeDesign) := goodIn_app (goodIn_of _ (by decide +kernel)) ggX6_design_X5_takeDesign
set_option maxRecDepth 20000 in
theorem ggX6_sample_X6_requireRemainder : GoodIn wsX6_sample wsX6_requireRemainder := goodIn_ca (goodIn_r _ [5, 6, 7, 4, 8, 9, 10] (by decide +kernel) (by decide +kernel)) (goodIn_sub (fun _ h => List.mem_cons_of_mem _ (List.mem_append_right _ h)) (by decide +kernel))
set_option maxRecDepth 20000 in
theorem gX6_sample_X6_requireRemainder : GoodIn wsX6_sample (va_wsS RX6 106 yX6_requireRemainder wsX6_requireRemainder) := goodIn_app (goodIn_of _ (by decide +kernel)) ggX6_sample_X6_requireRemainder
set_option maxRecDepth 20000 in
theorem ggX6_sample_X3_add : GoodIn wsX6_sample wsX3_add := goodIn_r _ [15, 16, 17, 18, 19, 20, 21, 22, 23, 24, 25, 36, 37] (by decide +kernel) (by decide +kernel)
set_option maxRecDepth 20000 in
theorem gX6_sample_X3_add : GoodIn wsX6_sample (wsV RX6 95 RX3 yX3_add wsX3_add) := goodIn_app (goodIn_of _ (by decide +kernel)) ggX6_sample_X3_add
set_option maxRecDepth 20000 in
theorem ggX6_sample_X3_count : GoodIn wsX6_sample wsX3_count := goodIn_r _ [29, 21, 36, 37] (by decide +kernel) (by decide +kernel)
set_option maxRecDepth 20000 in
theorem gX6_sample_X3_count : GoodIn wsX6_sample (wsV RX6 100 RX3 yX3_count wsX3_count) := goodIn_app (goodIn_of _ (by decide +kernel)) ggX6_sample_X3_count
set_option maxRecDepth 20000 in
theorem ggX6_of_Jx4a65c_size_8abf5 : GoodIn wsX6_of wsJx4a65c_size_8abf5 := goodIn_r _ [11, 12, 76, 77, 78] (by decide +kernel) (by decide +kernel)
set_option maxRecDepth 20000 in
theorem gX6_of_Jx4a65c_size_8abf5 : GoodIn wsX6_of (wsV RX6 55 RJx4a65c yJx4a65c_size_8abf5 wsJx4a65c_size_8abf5) := goodIn_app (goodIn_of _ (by decide +kernel)) ggX6_of_Jx4a65c_size_8abf5
set_option maxRecDepth 20000 in
theorem ggX6_of_X6_requirePlace : GoodIn wsX6_of wsX6_requirePlace := goodIn_ca (goodIn_r _ [16, 17, 18] (by decide +kernel) (by decide +kernel)) (goodIn_sub (fun _ h => List.mem_cons_of_mem _ (List.mem_append_left _ (List.mem_append_right _ h))) (by decide +kernel))
set_option maxRecDepth 20000 in
theorem gX6_of_X6_requirePlace : GoodIn wsX6_of (va_wsS RX6 73 yX6_requirePlace wsX6_requirePlace) := goodIn_app (goodIn_of _ (by decide +kernel)) ggX6_of_X6_requirePlace
set_option maxRecDepth 20000 in
theorem ggX6_of_X6_requireWithin : GoodIn wsX6_of wsX6_requireWithin := goodIn_ca (goodIn_r _ [21, 22, 23] (by decide +kernel) (by decide +kernel)) (goodIn_sub (fun _ h => List.mem_cons_of_mem _ (List.mem_append_right _ h)) (by decide +kernel))
set_option maxRecDepth 20000 in
theorem gX6_of_X6_requireWithin : GoodIn wsX6_of (va_wsS RX6 51 yX6_requireWithin wsX6_requireWithin) := goodIn_app (goodIn_of _ (by decide +kernel)) ggX6_of_X6_requireWithin
set_option maxRecDepth 20000 in
theorem ggX6_of_Jx4a65c_get_915e3 : GoodIn wsX6_of wsJx4a65c_get_915e3 := goodIn_r _ [27, 12, 28, 29, 30, 31, 32, 33, 34, 35, 36, 37, 38, 10, 39, 40, 76, 77, 78] (by decide +kernel) (by decide +kernel)
set_option maxRecDepth 20000 in
theorem gX6_of_Jx4a65c_get_915e3 : GoodIn wsX6_of (wsV RX6 76 RJx4a65c yJx4a65c_get_915e3 wsJx4a65c_get_915e3) := goodIn_app (goodIn_of _ (by decide +kernel)) ggX6_of_Jx4a65c_get_915e3
set_option maxRecDepth 20000 in
theorem ggX6_of_X4_isStable : GoodIn wsX6_of wsX4_isStable := goodIn_r _ [45, 46, 47, 48, 49, 50, 69, 70, 71, 72, 73, 74, 75] (by decide +kernel) (by decide +kernel)
set_option maxRecDepth 20000 in
theorem gX6_of_X4_isStable : GoodIn wsX6_of (wsV RX6 118 RX4 yX4_isStable wsX4_isStable) := goodIn_app (goodIn_of _ (by decide +kernel)) ggX6_of_X4_isStable
set_option maxRecDepth 20000 in
theorem ggX6_of_X0_placeOf : GoodIn wsX6_of wsX0_placeOf := goodIn_r _ [55, 56, 57, 8, 9, 10, 11, 12, 58, 25, 26, 27, 28, 29, 30, 31, 32, 33, 34, 35, 36, 37, 38, 39, 40, 79, 76, 77, 78] (by decide +kernel) (by decide +kernel)
set_option maxRecDepth 20000 in
theorem gX6_of_X0_placeOf : GoodIn wsX6_of (wsV RX6 122 RX0 yX0_placeOf wsX0_placeOf) := goodIn_app (goodIn_of _ (by decide +kernel)) ggX6_of_X0_placeOf
set_option maxRecDepth 20000 in
theorem ggX6_of_X4_coefficient : GoodIn wsX6_of wsX4_coefficient := goodIn_r _ [62, 46, 69, 70, 71, 72, 73, 74, 75] (by decide +kernel) (by decide +kernel)
set_option maxRecDepth 20000 in
theorem gX6_of_X4_coefficient : GoodIn wsX6_of (wsV RX6 135 RX4 yX4_coefficient wsX4_coefficient) := goodIn_app (goodIn_of _ (by decide +kernel)) ggX6_of_X4_coefficient
set_option maxRecDepth 20000 in
theorem ggX6_output_X6_requireBack : GoodIn wsX6_output wsX6_requireBack := goodIn_ca (goodIn_r _ [5, 6, 7] (by decide +kernel) (by decide +kernel)) (goodIn_sub (fun _ h => List.mem_cons_of_mem _ (List.mem_append_right _ h)) (by decide +kernel))
set_option maxRecDepth 20000 in
theorem gX6_output_X6_requireBack : GoodIn wsX6_output (va_wsS RX6 138 yX6_requireBack wsX6_requireBack) := goodIn_app (goodIn_of _ (by decide +kernel)) ggX6_output_X6_requireBack
set_option maxRecDepth 20000 in
theorem ggX6_output_X3_at : GoodIn wsX6_output wsX3_at := goodIn_r _ [12, 13, 14, 21, 22] (by decide +kernel) (by decide +kernel)
set_option maxRecDepth 20000 in
theorem gX6_output_X3_at : GoodIn wsX6_output (wsV RX6 141 RX3 yX3_at wsX3_at) := goodIn_app (goodIn_of _ (by decide +kernel)) ggX6_output_X3_at
set_option maxRecDepth 20000 in
theorem ggX6_gain_X6_requireWithin : GoodIn wsX6_gain wsX6_requireWithin := goodIn_ca (goodIn_r _ [7, 8, 9] (by decide +kernel) (by decide +kernel)) (goodIn_sub (fun _ h => List.mem_cons_of_mem _ (List.mem_append_left _ (List.mem_append_right _ h))) (by decide +kernel))
set_option maxRecDepth 20000 in
theorem gX6_gain_X6_requireWithin : GoodIn wsX6_gain (va_wsS RX6 51 yX6_requireWithin wsX6_requireWithin) := goodIn_app (goodIn_of _ (by decide +kernel)) ggX6_gain_X6_requireWithin
set_option maxRecDepth 20000 in
theorem ggX6_gain_X6_requireShortChain : GoodIn wsX6_gain wsX6_requireShortChain := goodIn_ca (goodIn_r _ [13, 14, 15, 1, 16, 17, 18, 19, 20, 21, 22, 23, 24, 25, 26, 27, 90, 91, 92, 93, 94, 95, 98, 99, 100, 101] (by decide +kernel) (by decide +kernel)) (goodIn_sub (fun _ h => List.mem_cons_of_mem _ (List.mem_append_right _ h)) (by decide +kernel))
set_option maxRecDepth 20000 in
theorem gX6_gain_X6_requireShortChain : GoodIn wsX6_gain (wsV RX6 144 RX6 yX6_requireShortChain wsX6_requireShortChain) := goodIn_app (goodIn_of _ (by decide +kernel)) ggX6_gain_X6_requireShortChain
set_option maxRecDepth 20000 in
theorem ggX6_gain_X0_gainAt : GoodIn wsX6_gain wsX0_gainAt := goodIn_r _ [31, 32, 33, 34, 21, 35, 36, 37, 38, 39, 40, 41, 42, 43, 22, 23, 24, 25, 26, 27, 44, 45, 46, 47, 48, 49, 50, 51, 52, 53, 54, 55, 56, 57, 58, 59, 60, 61, 62, 63, 64, 65, 66, 67, 68, 69, 70, 71, 72, 73, 74, 75, 76, 77, 78, 79, 80, 81, 82, 83, 84, 85, 86, 87, 88, 89, 96, 97, 98, 99, 100, 101, 102, 103, 104, 105, 106, 107, 108] (by decide +kernel) (by decide +kernel)
set_option maxRecDepth 20000 in
theorem gX6_gain_X0_gainAt : GoodIn wsX6_gain (wsV RX6 147 RX0 yX0_gainAt wsX0_gainAt) := goodIn_app (goodIn_of _ (by decide +kernel)) ggX6_gain_X0_gainAt
set_option maxRecDepth 20000 in
theorem ggX6_meets_X6_requireWithin : GoodIn wsX6_meets wsX6_requireWithin := goodIn_ca (goodIn_r _ [7, 8, 9] (by decide +kernel) (by decide +kernel)) (goodIn_sub (fun _ h => List.mem_cons_of_mem _ (List.mem_append_left _ (List.mem_append_right _ h))) (by decide +kernel))
set_option maxRecDepth 20000 in
theorem gX6_meets_X6_requireWithin : GoodIn wsX6_meets (va_wsS RX6 51 yX6_requireWithin wsX6_requireWithin) := goodIn_app (goodIn_of _ (by decide +kernel)) ggX6_meets_X6_requireWithin
set_option maxRecDepth 20000 in
theorem ggX6_meets_X6_requireShortChain : GoodIn wsX6_meets wsX6_requireShortChain := goodIn_ca (goodIn_r _ [13, 14, 15, 1, 16, 17, 18, 19, 20, 21, 22, 23, 24, 25, 26, 27, 105, 106, 107, 108, 109, 110, 111, 112, 113, 114] (by decide +kernel) (by decide +kernel)) (goodIn_sub (fun _ h => List.mem_cons_of_mem _ (List.mem_append_right _ h)) (by decide +kernel))
set_option maxRecDepth 20000 in
theorem gX6_meets_X6_requireShortChain : GoodIn wsX6_meets (wsV RX6 144 RX6 yX6_requireShortChain wsX6_requireShortChain) := goodIn_app (goodIn_of _ (by decide +kernel)) ggX6_meets_X6_requireShortChain
set_option maxRecDepth 20000 in
theorem ggX6_meets_X0_isStable : GoodIn wsX6_meets wsX0_isStable := goodIn_r _ [31, 21, 32, 22, 23, 24, 25, 26, 27, 33, 34, 35, 36, 37, 38, 39, 40, 41, 42, 43, 44, 45, 46, 47, 48, 49, 50, 51, 52, 53, 54, 55, 56, 57, 58, 59, 111, 112, 113, 114, 115, 116, 117, 118, 119, 120, 121] (by decide +kernel) (by decide +kernel)
set_option maxRecDepth 20000 in
theorem gX6_meets_X0_isStable : GoodIn wsX6_meets (wsV RX6 160 RX0 yX0_isStable wsX0_isStable) := goodIn_app (goodIn_of _ (by decide +kernel)) ggX6_meets_X0_isStable
set_option maxRecDepth 20000 in
theorem ggX6_meets_X0_gainAt : GoodIn wsX6_meets wsX0_gainAt := goodIn_r _ [63, 64, 65, 66, 21, 32, 67, 68, 69, 70, 71, 72, 73, 74, 22, 23, 24, 25, 26, 27, 33, 34, 35, 36, 37, 38, 39, 40, 41, 42, 43, 44, 45, 46, 47, 48, 49, 75, 76, 77, 53, 78, 55, 79, 80, 81, 82, 83, 84, 85, 86, 87, 88, 89, 90, 91, 92, 93, 94, 95, 96, 58, 97, 98, 99, 100, 122, 123, 111, 112, 113, 114, 115, 116, 117, 118, 119, 120, 121] (by decide +kernel) (by decide +kernel)
set_option maxRecDepth 20000 in
theorem gX6_meets_X0_gainAt : GoodIn wsX6_meets (wsV RX6 147 RX0 yX0_gainAt wsX0_gainAt) := goodIn_app (goodIn_of _ (by decide +kernel)) ggX6_meets_X0_gainAt
set_option maxRecDepth 20000 in
theorem ggX6_meets_X2_isWithin : GoodIn wsX6_meets wsX2_isWithin := goodIn_r _ [104, 73, 95, 96, 58, 97, 74, 122, 123] (by decide +kernel) (by decide +kernel)
set_option maxRecDepth 20000 in
theorem gX6_meets_X2_isWithin : GoodIn wsX6_meets (wsV RX6 163 RX2 yX2_isWithin wsX2_isWithin) := goodIn_app (goodIn_of _ (by decide +kernel)) ggX6_meets_X2_isWithin
set_option maxRecDepth 20000 in
theorem ggX6_cycles_Jx4a65c_size_8abf5 : GoodIn wsX6_cycles wsJx4a65c_size_8abf5 := goodIn_r _ [8, 9, 126, 127, 128] (by decide +kernel) (by decide +kernel)
set_option maxRecDepth 20000 in
theorem gX6_cycles_Jx4a65c_size_8abf5 : GoodIn wsX6_cycles (wsV RX6 55 RJx4a65c yJx4a65c_size_8abf5 wsJx4a65c_size_8abf5) := goodIn_app (goodIn_of _ (by decide +kernel)) ggX6_cycles_Jx4a65c_size_8abf5
set_option maxRecDepth 20000 in
theorem ggX6_cycles_X6_requirePlace : GoodIn wsX6_cycles wsX6_requirePlace := goodIn_ca (goodIn_r _ [13, 14, 15] (by decide +kernel) (by decide +kernel)) (goodIn_sub (fun _ h => List.mem_cons_of_mem _ (List.mem_append_left _ (List.mem_append_right _ h))) (by decide +kernel))
set_option maxRecDepth 20000 in
theorem gX6_cycles_X6_requirePlace : GoodIn wsX6_cycles (va_wsS RX6 73 yX6_requirePlace wsX6_requirePlace) := goodIn_app (goodIn_of _ (by decide +kernel)) ggX6_cycles_X6_requirePlace
set_option maxRecDepth 20000 in
theorem ggX6_cycles_X6_requireWithin : GoodIn wsX6_cycles wsX6_requireWithin := goodIn_ca (goodIn_r _ [18, 19, 20] (by decide +kernel) (by decide +kernel)) (goodIn_sub (fun _ h => List.mem_cons_of_mem _ (List.mem_append_right _ h)) (by decide +kernel))
set_option maxRecDepth 20000 in
theorem gX6_cycles_X6_requireWithin : GoodIn wsX6_cycles (va_wsS RX6 51 yX6_requireWithin wsX6_requireWithin) := goodIn_app (goodIn_of _ (by decide +kernel)) ggX6_cycles_X6_requireWithin
set_option maxRecDepth 20000 in
theorem ggX6_cycles_Jx4a65c_get_915e3 : GoodIn wsX6_cycles wsJx4a65c_get_915e3 := goodIn_r _ [24, 9, 25, 26, 27, 28, 29, 30, 31, 32, 33, 34, 35, 7, 36, 37, 126, 127, 128] (by decide +kernel) (by decide +kernel)
set_option maxRecDepth 20000 in
theorem gX6_cycles_Jx4a65c_get_915e3 : GoodIn wsX6_cycles (wsV RX6 76 RJx4a65c yJx4a65c_get_915e3 wsJx4a65c_get_915e3) := goodIn_app (goodIn_of _ (by decide +kernel)) ggX6_cycles_Jx4a65c_get_915e3
set_option maxRecDepth 20000 in
theorem ggX6_cycles_X1_tryAll : GoodIn wsX6_cycles wsX1_tryAll := goodIn_r _ [42, 43, 44, 45, 46, 47, 48, 49, 50, 51, 52, 53, 41, 54, 55, 56, 57, 58, 59, 60, 61, 62, 63, 64, 65, 66, 67, 68, 69, 70, 71, 72, 73, 74, 75, 76, 77, 78, 79, 80, 81, 82, 83, 84, 85, 86, 87, 88, 89, 90, 91, 92, 93, 94, 95, 96, 97, 98, 99, 100, 101, 102, 103, 104, 105, 106, 107, 108, 109, 110, 111, 112, 113, 114, 115, 129, 130, 131, 132, 133, 134, 135, 136, 137, 138, 139, 140] (by decide +kernel) (by decide +kernel)
set_option maxRecDepth 20000 in
theorem gX6_cycles_X1_tryAll : GoodIn wsX6_cycles (wsV RX6 169 RX1 yX1_tryAll wsX1_tryAll) := goodIn_app (goodIn_of _ (by decide +kernel)) ggX6_cycles_X1_tryAll
set_option maxRecDepth 20000 in
theorem ggX6_cycles_X1_found : GoodIn wsX6_cycles wsX1_found := goodIn_r _ [119, 44, 45, 46, 47, 129, 130, 131, 132, 133] (by decide +kernel) (by decide +kernel)
set_option maxRecDepth 20000 in
theorem gX6_cycles_X1_found : GoodIn wsX6_cycles (wsV RX6 173 RX1 yX1_found wsX1_found) := goodIn_app (goodIn_of _ (by decide +kernel)) ggX6_cycles_X1_found
set_option maxRecDepth 20000 in
theorem ggX6_tapOf_X6_requirePlace : GoodIn wsX6_tapOf wsX6_requirePlace := goodIn_ca (goodIn_r _ [5, 6, 7] (by decide +kernel) (by decide +kernel)) (goodIn_sub (fun _ h => List.mem_cons_of_mem _ (List.mem_append_right _ h)) (by decide +kernel))
set_option maxRecDepth 20000 in
theorem gX6_tapOf_X6_requirePlace : GoodIn wsX6_tapOf (va_wsS RX6 73 yX6_requirePlace wsX6_requirePlace) := goodIn_app (goodIn_of _ (by decide +kernel)) ggX6_tapOf_X6_requirePlace
set_option maxRecDepth 20000 in
theorem ggX6_tapOf_X5_tapAt : GoodIn wsX6_tapOf wsX5_tapAt := goodIn_r _ [12, 13, 20, 21, 22] (by decide +kernel) (by decide +kernel)
set_option maxRecDepth 20000 in
theorem gX6_tapOf_X5_tapAt : GoodIn wsX6_tapOf (wsV RX6 176 RX5 yX5_tapAt wsX5_tapAt) := goodIn_app (goodIn_of _ (by decide +kernel)) ggX6_tapOf_X5_tapAt
set_option maxRecDepth 20000 in
theorem ggX6_answer_X6_requirePlace : GoodIn wsX6_answer wsX6_requirePlace := goodIn_ca (goodIn_r _ [5, 6, 7] (by decide +kernel) (by decide +kernel)) (goodIn_sub (fun _ h => List.mem_cons_of_mem _ (List.mem_append_right _ h)) (by decide +kernel))
set_option maxRecDepth 20000 in
theorem gX6_answer_X6_requirePlace : GoodIn wsX6_answer (va_wsS RX6 73 yX6_requirePlace wsX6_requirePlace) := goodIn_app (goodIn_of _ (by decide +kernel)) ggX6_answer_X6_requirePlace
set_option maxRecDepth 20000 in
theorem ggX6_answer_X5_answerBySum : GoodIn wsX6_answer wsX5_answerBySum := goodIn_r _ [12, 13, 14, 15, 16, 11, 17, 18, 19, 20, 21, 22, 29, 30, 31] (by decide +kernel) (by decide +kernel)
set_option maxRecDepth 20000 in
theorem gX6_answer_X5_answerBySum : GoodIn wsX6_answer (wsV RX6 179 RX5 yX5_answerBySum wsX5_answerBySum) := goodIn_app (goodIn_of _ (by decide +kernel)) ggX6_answer_X5_answerBySum
set_option maxRecDepth 20000 in
theorem ggX6_answerAnew_X6_requirePlace : GoodIn wsX6_answerAnew wsX6_requirePlace := goodIn_ca (goodIn_r _ [5, 6, 7] (by decide +kernel) (by decide +kernel)) (goodIn_sub (fun _ h => List.mem_cons_of_mem _ (List.mem_append_right _ h)) (by decide +kernel))
set_option maxRecDepth 20000 in
theorem gX6_answerAnew_X6_requirePlace : GoodIn wsX6_answerAnew (va_wsS RX6 73 yX6_requirePlace wsX6_requirePlace) := goodIn_app (goodIn_of _ (by decide +kernel)) ggX6_answerAnew_X6_requirePlace
set_option maxRecDepth 20000 in
theorem ggX6_answerAnew_X5_answerByTwo : GoodIn wsX6_answerAnew wsX5_answerByTwo := goodIn_r _ [12, 13, 14, 15, 16, 11, 17, 18, 19, 20, 21, 22, 29, 30, 31] (by decide +kernel) (by decide +kernel)
set_option maxRecDepth 20000 in
theorem gX6_answerAnew_X5_answerByTwo : GoodIn wsX6_answerAnew (wsV RX6 182 RX5 yX5_answerByTwo wsX5_answerByTwo) := goodIn_app (goodIn_of _ (by decide +kernel)) ggX6_answerAnew_X5_answerByTwo
set_option maxRecDepth 20000 in
theorem ggX6_sifted_X6_requireBack : GoodIn wsX6_sifted wsX6_requireBack := goodIn_ca (goodIn_r _ [6, 7, 8] (by decide +kernel) (by decide +kernel)) (goodIn_sub (fun _ h => List.mem_cons_of_mem _ (List.mem_append_right _ h)) (by decide +kernel))
set_option maxRecDepth 20000 in
theorem gX6_sifted_X6_requireBack : GoodIn wsX6_sifted (va_wsS RX6 138 yX6_requireBack wsX6_requireBack) := goodIn_app (goodIn_of _ (by decide +kernel)) ggX6_sifted_X6_requireBack
set_option maxRecDepth 20000 in
theorem ggX6_sifted_X3_count : GoodIn wsX6_sifted wsX3_count := goodIn_r _ [13, 14, 36, 37] (by decide +kernel) (by decide +kernel)
set_option maxRecDepth 20000 in
theorem gX6_sifted_X3_count : GoodIn wsX6_sifted (wsV RX6 100 RX3 yX3_count wsX3_count) := goodIn_app (goodIn_of _ (by decide +kernel)) ggX6_sifted_X3_count
set_option maxRecDepth 20000 in
theorem ggX6_sifted_X5_sift : GoodIn wsX6_sifted wsX5_sift := goodIn_r _ [19, 20, 21, 22, 23, 12, 24, 14, 25, 26, 27, 28, 29, 38, 39, 40, 36, 37] (by decide +kernel) (by decide +kernel)
set_option maxRecDepth 20000 in
theorem gX6_sifted_X5_sift : GoodIn wsX6_sifted (wsV RX6 185 RX5 yX5_sift wsX5_sift) := goodIn_app (goodIn_of _ (by decide +kernel)) ggX6_sifted_X5_sift
set_option maxRecDepth 20000 in
theorem ggX6_requireRemainder_X6_requireWithin : GoodIn wsX6_requireRemainder wsX6_requireWithin := goodIn_ca (goodIn_r _ [4, 5, 6] (by decide +kernel) (by decide +kernel)) (goodIn_sub (fun _ h => List.mem_cons_of_mem _ (List.mem_append_right _ h)) (by decide +kernel))
set_option maxRecDepth 20000 in
theorem gX6_requireRemainder_X6_requireWithin : GoodIn wsX6_requireRemainder (va_wsS RX6 51 yX6_requireWithin wsX6_requireWithin) := goodIn_app (goodIn_of _ (by decide +kernel)) ggX6_requireRemainder_X6_requireWithin
set_option maxRecDepth 20000 in
theorem ggX6_requireShortChain_X0_length : GoodIn wsX6_requireShortChain wsX0_length := goodIn_r _ [8, 9, 10, 11, 12, 13, 14, 15, 22, 23, 24, 25] (by decide +kernel) (by decide +kernel)
set_option maxRecDepth 20000 in
theorem gX6_requireShortChain_X0_length : GoodIn wsX6_requireShortChain (wsV RX6 201 RX0 yX0_length wsX0_length) := goodIn_app (goodIn_of _ (by decide +kernel)) ggX6_requireShortChain_X0_length
set_option maxRecDepth 20000 in
theorem ggJx4a65c_init_da8c8_Jxc12de_init_da8c8 : GoodIn wsJx4a65c_init_da8c8 wsJxc12de_init_da8c8 := goodIn_r _ [6, 7, 8, 9, 10, 11, 12, 13, 14, 15, 16, 17] (by decide +kernel) (by decide +kernel)
set_option maxRecDepth 20000 in
theorem gJx4a65c_init_da8c8_Jxc12de_init_da8c8 : GoodIn wsJx4a65c_init_da8c8 (wsJxc12de_init_da8c8) := ggJx4a65c_init_da8c8_Jxc12de_init_da8c8
set_option maxRecDepth 20000 in
theorem ggJx4a65c_grow_92f84_J8_newLength_cabcc : GoodIn wsJx4a65c_grow_92f84 wsJ8_newLength_cabcc := goodIn_r _ [11, 12, 4, 5, 6, 13, 14, 15, 10, 16] (by decide +kernel) (by decide +kernel)
set_option maxRecDepth 20000 in
theorem gJx4a65c_grow_92f84_J8_newLength_cabcc : GoodIn wsJx4a65c_grow_92f84 (va_wsS RJx4a65c 73 yJ8_newLength_cabcc wsJ8_newLength_cabcc) := goodIn_app (goodIn_of _ (by decide +kernel)) ggJx4a65c_grow_92f84_J8_newLength_cabcc
set_option maxRecDepth 20000 in
theorem ggJx4a65c_grow_92f84_J7_copyOf_1904c : GoodIn wsJx4a65c_grow_92f84 wsJ7_copyOf_1904c := goodIn_r _ [20, 21, 22, 23, 24, 25, 26, 19, 27, 28, 29, 30, 31, 5, 32, 33, 34, 35, 36] (by decide +kernel) (by decide +kernel)
set_option maxRecDepth 20000 in
theorem gJx4a65c_grow_92f84_J7_copyOf_1904c : GoodIn wsJx4a65c_grow_92f84 (va_wsS RJx4a65c 66 yJ7_copyOf_1904c wsJ7_copyOf_1904c) := goodIn_app (goodIn_of _ (by decide +kernel)) ggJx4a65c_grow_92f84_J7_copyOf_1904c
set_option maxRecDepth 20000 in
theorem ggJx4a65c_grow_d5877_Jx4a65c_grow_92f84 : GoodIn wsJx4a65c_grow_d5877 wsJx4a65c_grow_92f84 := goodIn_r _ [6, 7, 8, 9, 10, 11, 12, 13, 14, 15, 16, 17, 18, 19, 20, 21, 22, 23, 24, 25, 26, 27, 28, 29, 30, 31, 32, 33, 34, 35, 36, 37, 38, 39, 40, 41, 42, 43, 44, 45] (by decide +kernel) (by decide +kernel)
set_option maxRecDepth 20000 in
theorem gJx4a65c_grow_d5877_Jx4a65c_grow_92f84 : GoodIn wsJx4a65c_grow_d5877 (wsV RJx4a65c 69 RJx4a65c yJx4a65c_grow_92f84 wsJx4a65c_grow_92f84) := goodIn_app (goodIn_of _ (by decide +kernel)) ggJx4a65c_grow_d5877_Jx4a65c_grow_92f84
set_option maxRecDepth 20000 in
theorem ggJx4a65c_get_915e3_J15_checkIndex_7cf53 : GoodIn wsJx4a65c_get_915e3 wsJ15_checkIndex_7cf53 := goodIn_r _ [5, 6, 7, 8, 9] (by decide +kernel) (by decide +kernel)
set_option maxRecDepth 20000 in
theorem gJx4a65c_get_915e3_J15_checkIndex_7cf53 : GoodIn wsJx4a65c_get_915e3 (va_wsS RJx4a65c 118 yJ15_checkIndex_7cf53 wsJ15_checkIndex_7cf53) := goodIn_app (goodIn_of _ (by decide +kernel)) ggJx4a65c_get_915e3_J15_checkIndex_7cf53
set_option maxRecDepth 20000 in
theorem ggJx4a65c_get_915e3_Jx4a65c_elementData_915e3 : GoodIn wsJx4a65c_get_915e3 wsJx4a65c_elementData_915e3 := goodIn_r _ [14, 15, 16, 17, 18] (by decide +kernel) (by decide +kernel)
set_option maxRecDepth 20000 in
theorem gJx4a65c_get_915e3_Jx4a65c_elementData_915e3 : GoodIn wsJx4a65c_get_915e3 (wsV RJx4a65c 123 RJx4a65c yJx4a65c_elementData_915e3 wsJx4a65c_elementData_915e3) := goodIn_app (goodIn_of _ (by decide +kernel)) ggJx4a65c_get_915e3_Jx4a65c_elementData_915e3
set_option maxRecDepth 20000 in
theorem ggJx4a65c_add_72be8_Jx4a65c_grow_d5877 : GoodIn wsJx4a65c_add_72be8 wsJx4a65c_grow_d5877 := goodIn_r _ [6, 1, 7, 8, 9, 5, 10, 11, 12, 13, 14, 15, 16, 17, 18, 19, 20, 21, 22, 23, 24, 25, 26, 27, 28, 29, 30, 31, 32, 33, 34, 35, 36, 37, 38, 39, 40, 41, 42, 43, 44, 45, 46, 47, 48, 49] (by decide +kernel) (by decide +kernel)
set_option maxRecDepth 20000 in
theorem gJx4a65c_add_72be8_Jx4a65c_grow_d5877 : GoodIn wsJx4a65c_add_72be8 (wsV RJx4a65c 129 RJx4a65c yJx4a65c_grow_d5877 wsJx4a65c_grow_d5877) := goodIn_app (goodIn_of _ (by decide +kernel)) ggJx4a65c_add_72be8_Jx4a65c_grow_d5877
set_option maxRecDepth 20000 in
theorem ggJx4a65c_add_9ea2d_Jx4a65c_add_72be8 : GoodIn wsJx4a65c_add_9ea2d wsJx4a65c_add_72be8 := goodIn_r _ [9, 4, 10, 11, 12, 8, 13, 14, 15, 16, 17, 3, 18, 19, 20, 21, 22, 23, 24, 25, 26, 27, 28, 29, 30, 31, 32, 33, 34, 35, 36, 37, 38, 39, 40, 41, 42, 43, 44, 45, 46, 47, 48, 49, 50, 51, 52, 53, 54, 55] (by decide +kernel) (by decide +kernel)
set_option maxRecDepth 20000 in
theorem gJx4a65c_add_9ea2d_Jx4a65c_add_72be8 : GoodIn wsJx4a65c_add_9ea2d (wsV RJx4a65c 131 RJx4a65c yJx4a65c_add_72be8 wsJx4a65c_add_72be8) := goodIn_app (goodIn_of _ (by decide +kernel)) ggJx4a65c_add_9ea2d_Jx4a65c_add_72be8
set_option maxRecDepth 20000 in
theorem ggJx4a65c_add_7a177_Jx4a65c_rangeCheckForAdd_d00df : GoodIn wsJx4a65c_add_7a177 wsJx4a65c_rangeCheckForAdd_d00df := goodIn_r _ [13, 3, 54, 55, 56] (by decide +kernel) (by decide +kernel)
set_option maxRecDepth 20000 in
theorem gJx4a65c_add_7a177_Jx4a65c_rangeCheckForAdd_d00df : GoodIn wsJx4a65c_add_7a177 (wsV RJx4a65c 135 RJx4a65c yJx4a65c_rangeCheckForAdd_d00df wsJx4a65c_rangeCheckForAdd_d00df) := goodIn_app (goodIn_of _ (by decide +kernel)) ggJx4a65c_add_7a177_Jx4a65c_rangeCheckForAdd_d00df
set_option maxRecDepth 20000 in
theorem ggJx4a65c_add_7a177_Jx4a65c_grow_d5877 : GoodIn wsJx4a65c_add_7a177 wsJx4a65c_grow_d5877 := goodIn_r _ [17, 3, 18, 19, 20, 12, 21, 4, 22, 23, 24, 25, 26, 27, 28, 29, 30, 31, 32, 33, 34, 35, 36, 37, 38, 39, 40, 41, 42, 43, 44, 45, 46, 47, 48, 49, 50, 51, 52, 53, 6, 7, 8, 54, 55, 56] (by decide +kernel) (by decide +kernel)
set_option maxRecDepth 20000 in
theorem gJx4a65c_add_7a177_Jx4a65c_grow_d5877 : GoodIn wsJx4a65c_add_7a177 (wsV RJx4a65c 129 RJx4a65c yJx4a65c_grow_d5877 wsJx4a65c_grow_d5877) := goodIn_app (goodIn_of _ (by decide +kernel)) ggJx4a65c_add_7a177_Jx4a65c_grow_d5877
set_option maxRecDepth 20000 in
theorem ggJx4a65c_remove_915e3_J15_checkIndex_7cf53 : GoodIn wsJx4a65c_remove_915e3 wsJ15_checkIndex_7cf53 := goodIn_r _ [6, 7, 8, 9, 10] (by decide +kernel) (by decide +kernel)
set_option maxRecDepth 20000 in
theorem gJx4a65c_remove_915e3_J15_checkIndex_7cf53 : GoodIn wsJx4a65c_remove_915e3 (va_wsS RJx4a65c 118 yJ15_checkIndex_7cf53 wsJ15_checkIndex_7cf53) := goodIn_app (goodIn_of _ (by decide +kernel)) ggJx4a65c_remove_915e3_J15_checkIndex_7cf53
set_option maxRecDepth 20000 in
theorem ggJx4a65c_remove_915e3_Jx4a65c_fastRemove_b59b0 : GoodIn wsJx4a65c_remove_915e3 wsJx4a65c_fastRemove_b59b0 := goodIn_r _ [15, 16, 17, 1, 18, 19, 20, 21, 22, 23, 24] (by decide +kernel) (by decide +kernel)
set_option maxRecDepth 20000 in
theorem gJx4a65c_remove_915e3_Jx4a65c_fastRemove_b59b0 : GoodIn wsJx4a65c_remove_915e3 (wsV RJx4a65c 144 RJx4a65c yJx4a65c_fastRemove_b59b0 wsJx4a65c_fastRemove_b59b0) := goodIn_app (goodIn_of _ (by decide +kernel)) ggJx4a65c_remove_915e3_Jx4a65c_fastRemove_b59b0
set_option maxRecDepth 20000 in
theorem ggJx4a65c_outOfBoundsMsg_b52d3_J4_init_da8c8 : GoodIn wsJx4a65c_outOfBoundsMsg_b52d3 wsJ4_init_da8c8 := goodIn_r _ [7, 8, 9, 10, 11, 12, 13, 14, 15, 16, 17, 18, 19, 20, 21, 22, 23, 24, 25, 26, 237, 238, 239, 240] (by decide +kernel) (by decide +kernel)
set_option maxRecDepth 20000 in
theorem gJx4a65c_outOfBoundsMsg_b52d3_J4_init_da8c8 : GoodIn wsJx4a65c_outOfBoundsMsg_b52d3 (wsJ4_init_da8c8) := ggJx4a65c_outOfBoundsMsg_b52d3_J4_init_da8c8
set_option maxRecDepth 20000 in
theorem ggJx4a65c_outOfBoundsMsg_b52d3_J4_append_15ec4 : GoodIn wsJx4a65c_outOfBoundsMsg_b52d3 wsJ4_append_15ec4 := goodIn_r _ [30, 31, 32, 33, 34, 10, 35, 36, 37, 38, 39, 40, 41, 17, 42, 43, 44, 45, 46, 18, 47, 48, 49, 50, 51, 52, 53, 54, 55, 56, 57, 58, 59, 60, 61, 62, 63, 64, 65, 66, 67, 68, 69, 70, 71, 72, 73, 74, 16, 75, 76, 77, 78, 79, 80, 81, 82, 83, 84, 85, 86, 15, 87, 88, 21, 89, 90, 91, 92, 93, 94, 95, 96, 97, 98, 99, 100, 101, 102, 103, 104, 105, 106, 107, 108, 109, 110, 111, 112, 113, 114, 115, 116, 117, 118, 119, 120, 121, 122, 123, 124, 125, 126, 127, 128, 129, 130, 131, 132, 133, 134, 135, 136, 137, 19, 20, 22, 23, 24, 25, 26, 138, 139, 140, 141, 142, 143, 144, 145, 146, 147, 148, 149, 150, 151, 152, 153, 154, 155, 156, 157, 158, 159, 237, 238, 239, 240, 244, 245, 246, 247] (by decide +kernel) (by decide +kernel)
set_option maxRecDepth 20000 in
theorem gJx4a65c_outOfBoundsMsg_b52d3_J4_append_15ec4 : GoodIn wsJx4a65c_outOfBoundsMsg_b52d3 (wsV RJx4a65c 25 RJ4 yJ4_append_15ec4 wsJ4_append_15ec4) := goodIn_app (goodIn_of _ (by decide +kernel)) ggJx4a65c_outOfBoundsMsg_b52d3_J4_append_15ec4
set_option maxRecDepth 20000 in
theorem ggJx4a65c_outOfBoundsMsg_b52d3_J4_append_bf812 : GoodIn wsJx4a65c_outOfBoundsMsg_b52d3 wsJ4_append_bf812 := goodIn_r _ [163, 164, 165, 33, 166, 10, 167, 36, 17, 168, 169, 170, 171, 42, 43, 44, 45, 46, 18, 47, 48, 49, 50, 51, 52, 53, 54, 55, 56, 57, 58, 59, 60, 61, 62, 63, 64, 65, 66, 67, 68, 69, 70, 71, 72, 73, 74, 16, 75, 76, 77, 78, 79, 80, 81, 82, 83, 84, 85, 86, 15, 172, 173, 174, 175, 176, 177, 178, 21, 179, 90, 91, 92, 93, 94, 95, 96, 97, 98, 99, 100, 101, 102, 103, 104, 105, 180, 181, 182, 183, 184, 106, 107, 108, 109, 110, 237, 238, 239, 240] (by decide +kernel) (by decide +kernel)
set_option maxRecDepth 20000 in
theorem gJx4a65c_outOfBoundsMsg_b52d3_J4_append_bf812 : GoodIn wsJx4a65c_outOfBoundsMsg_b52d3 (wsV RJx4a65c 29 RJ4 yJ4_append_bf812 wsJ4_append_bf812) := goodIn_app (goodIn_of _ (by decide +kernel)) ggJx4a65c_outOfBoundsMsg_b52d3_J4_append_bf812
set_option maxRecDepth 20000 in
theorem ggJx4a65c_outOfBoundsMsg_b52d3_J4_toString_0e30d : GoodIn wsJx4a65c_outOfBoundsMsg_b52d3 wsJ4_toString_0e30d := goodIn_r _ [188, 189, 190, 99, 191, 192, 193, 194, 195, 196, 197, 13, 14, 121, 115, 120, 198, 199, 200, 201, 202, 10, 203, 17, 204, 205, 206, 207, 208, 3, 209, 210, 33, 211, 212, 36, 213, 83, 84, 85, 86, 15, 18, 214, 215, 67, 216, 69, 70, 71, 72, 73, 74, 217, 218, 219, 16, 75, 76, 59, 77, 78, 79, 80, 81, 220, 221, 222, 223, 2, 224, 225, 21, 226, 227, 228, 229, 145, 146, 147, 94, 95, 96, 148, 149, 150, 101, 151, 152, 104, 153, 230, 231, 232, 90, 109, 110, 23, 24, 25, 26, 233, 234, 235, 236, 244, 245, 246, 247, 237, 238, 239, 240] (by decide +kernel) (by decide +kernel)
set_option maxRecDepth 20000 in
theorem gJx4a65c_outOfBoundsMsg_b52d3_J4_toString_0e30d : GoodIn wsJx4a65c_outOfBoundsMsg_b52d3 (wsV RJx4a65c 32 RJ4 yJ4_toString_0e30d wsJ4_toString_0e30d) := goodIn_app (goodIn_of _ (by decide +kernel)) ggJx4a65c_outOfBoundsMsg_b52d3_J4_toString_0e30d
set_option maxRecDepth 20000 in
theorem ggJ15_checkIndex_7cf53_J3_checkIndex_8e157 : GoodIn wsJ15_checkIndex_7cf53 wsJ3_checkIndex_8e157 := goodIn_r _ [4] (by decide +kernel) (by decide +kernel)
set_option maxRecDepth 20000 in
theorem gJ15_checkIndex_7cf53_J3_checkIndex_8e157 : GoodIn wsJ15_checkIndex_7cf53 (va_wsS RJ15 105 yJ3_checkIndex_8e157 wsJ3_checkIndex_8e157) := goodIn_app (goodIn_of _ (by decide +kernel)) ggJ15_checkIndex_7cf53_J3_checkIndex_8e157
set_option maxRecDepth 20000 in
theorem ggL_run_L_output : GoodIn wsL_run wsL_output := goodIn_r _ [4] (by decide +kernel) (by decide +kernel)
set_option maxRecDepth 20000 in
theorem gL_run_L_output : GoodIn wsL_run (va_wsS RL 9 yL_output wsL_output) := goodIn_app (goodIn_of _ (by decide +kernel)) ggL_run_L_output
set_option maxRecDepth 20000 in
theorem ggL_isStable_L_abs : GoodIn wsL_isStable wsL_abs := goodIn_r _ [4] (by decide +kernel) (by decide +kernel)
set_option maxRecDepth 20000 in
theorem gL_isStable_L_abs : GoodIn wsL_isStable (va_wsS RL 15 yL_abs wsL_abs) := goodIn_app (goodIn_of _ (by decide +kernel)) ggL_isStable_L_abs
set_option maxRecDepth 20000 in
theorem ggL_areGains_L_gain : GoodIn wsL_areGains wsL_gain := goodIn_r _ [6, 7] (by decide +kernel) (by decide +kernel)
set_option maxRecDepth 20000 in
theorem gL_areGains_L_gain : GoodIn wsL_areGains (va_wsS RL 21 yL_gain wsL_gain) := goodIn_app (goodIn_of _ (by decide +kernel)) ggL_areGains_L_gain
set_option maxRecDepth 20000 in
theorem ggL_areGains_L_isStable : GoodIn wsL_areGains wsL_isStable := goodIn_r _ [10, 11, 12, 5, 13] (by decide +kernel) (by decide +kernel)
set_option maxRecDepth 20000 in
theorem gL_areGains_L_isStable : GoodIn wsL_areGains (va_wsS RL 25 yL_isStable wsL_isStable) := goodIn_app (goodIn_of _ (by decide +kernel)) ggL_areGains_L_isStable
set_option maxRecDepth 20000 in
theorem ggL_areGains_L_common : GoodIn wsL_areGains wsL_common := goodIn_r _ [16] (by decide +kernel) (by decide +kernel)
set_option maxRecDepth 20000 in
theorem gL_areGains_L_common : GoodIn wsL_areGains (va_wsS RL 29 yL_common wsL_common) := goodIn_app (goodIn_of _ (by decide +kernel)) ggL_areGains_L_common
set_option maxRecDepth 20000 in
theorem ggL_areGains_X6_gain : GoodIn wsL_areGains wsX6_gain := goodIn_ca (goodIn_ca (goodIn_r _ [21, 22, 23, 24, 25, 26, 20, 27, 28, 29, 30, 31, 32, 33, 34, 35, 36, 37, 38, 39, 40, 41, 42, 43, 44, 45, 46, 47, 48, 49, 50, 51, 52, 53, 54, 55, 56, 57, 58, 59, 60, 61, 62, 63, 64, 65, 66, 67, 68, 69, 70, 71, 72, 73, 74, 75, 76, 77, 78, 79, 80, 81, 82, 83, 84, 85, 86, 87, 88, 89, 90, 91, 92, 93, 94, 95, 96, 97, 98, 99, 100, 101, 102, 103, 104, 105, 106, 107, 108, 109, 131, 132, 133, 134, 135, 136, 137, 138, 139, 140, 141, 142, 143, 144, 145, 146, 147, 148, 149] (by decide +kernel) (by decide +kernel)) (goodIn_sub (fun _ h => List.mem_cons_of_mem _ (List.mem_append_left _ (List.mem_append_right _ h))) (by decide +kernel))) (goodIn_sub (fun _ h => List.mem_cons_of_mem _ (List.mem_append_right _ h)) (by decide +kernel))
set_option maxRecDepth 20000 in
theorem gL_areGains_X6_gain : GoodIn wsL_areGains (wsV RL 33 RX6 yX6_gain wsX6_gain) := goodIn_app (goodIn_of _ (by decide +kernel)) ggL_areGains_X6_gain
set_option maxRecDepth 20000 in
theorem ggL_areGains_X6_meets : GoodIn wsL_areGains wsX6_meets := goodIn_ca (goodIn_ca (goodIn_r _ [113, 22, 114, 115, 25, 26, 20, 27, 28, 29, 30, 31, 32, 33, 34, 35, 36, 37, 38, 39, 40, 41, 42, 43, 44, 45, 46, 47, 116, 117, 118, 119, 55, 64, 65, 66, 67, 68, 69, 70, 71, 72, 73, 74, 75, 76, 77, 78, 79, 80, 120, 121, 122, 84, 123, 86, 124, 125, 105, 126, 48, 49, 50, 51, 52, 53, 54, 56, 57, 58, 59, 60, 61, 62, 63, 81, 82, 83, 85, 87, 88, 89, 90, 91, 92, 93, 94, 95, 96, 97, 98, 99, 100, 101, 102, 103, 104, 106, 107, 108, 109, 127, 128, 129, 130, 131, 132, 133, 134, 135, 136, 139, 140, 141, 142, 143, 144, 145, 146, 147, 148, 149, 137, 138] (by decide +kernel) (by decide +kernel)) (goodIn_sub (fun _ h => List.mem_cons_of_mem _ (List.mem_append_left _ (List.mem_append_right _ h))) (by decide +kernel))) (goodIn_sub (fun _ h => List.mem_cons_of_mem _ (List.mem_append_right _ h)) (by decide +kernel))
set_option maxRecDepth 20000 in
theorem gL_areGains_X6_meets : GoodIn wsL_areGains (wsV RL 42 RX6 yX6_meets wsX6_meets) := goodIn_app (goodIn_of _ (by decide +kernel)) ggL_areGains_X6_meets
set_option maxRecDepth 20000 in
theorem ggL_cycle_L_next : GoodIn wsL_cycle wsL_next := goodIn_r _ [4] (by decide +kernel) (by decide +kernel)
set_option maxRecDepth 20000 in
theorem gL_cycle_L_next : GoodIn wsL_cycle (va_wsS RL 46 yL_next wsL_next) := goodIn_app (goodIn_of _ (by decide +kernel)) ggL_cycle_L_next
set_option maxRecDepth 20000 in
theorem ggL_areCycles_L_cycle : GoodIn wsL_areCycles wsL_cycle := goodIn_r _ [6, 7, 8, 5, 9] (by decide +kernel) (by decide +kernel)
set_option maxRecDepth 20000 in
theorem gL_areCycles_L_cycle : GoodIn wsL_areCycles (va_wsS RL 49 yL_cycle wsL_cycle) := goodIn_app (goodIn_of _ (by decide +kernel)) ggL_areCycles_L_cycle
set_option maxRecDepth 20000 in
theorem ggL_areCycles_L_abs : GoodIn wsL_areCycles wsL_abs := goodIn_r _ [12] (by decide +kernel) (by decide +kernel)
set_option maxRecDepth 20000 in
theorem gL_areCycles_L_abs : GoodIn wsL_areCycles (va_wsS RL 15 yL_abs wsL_abs) := goodIn_app (goodIn_of _ (by decide +kernel)) ggL_areCycles_L_abs
set_option maxRecDepth 20000 in
theorem ggL_areCycles_L_next : GoodIn wsL_areCycles wsL_next := goodIn_r _ [9] (by decide +kernel) (by decide +kernel)
set_option maxRecDepth 20000 in
theorem gL_areCycles_L_next : GoodIn wsL_areCycles (va_wsS RL 46 yL_next wsL_next) := goodIn_app (goodIn_of _ (by decide +kernel)) ggL_areCycles_L_next
set_option maxRecDepth 20000 in
theorem ggL_areCycles_X6_cycles : GoodIn wsL_areCycles wsX6_cycles := goodIn_ca (goodIn_ca (goodIn_r _ [17, 18, 19, 20, 21, 22, 23, 24, 25, 26, 27, 28, 16, 29, 30, 31, 32, 33, 34, 35, 36, 37, 38, 39, 40, 41, 42, 43, 44, 45, 46, 47, 48, 49, 50, 51, 52, 53, 54, 55, 56, 57, 58, 59, 60, 61, 62, 63, 64, 65, 66, 67, 68, 69, 70, 71, 72, 73, 74, 75, 76, 77, 78, 79, 80, 81, 82, 83, 84, 85, 86, 87, 88, 89, 90, 91, 92, 93, 94, 95, 96, 97, 98, 99, 100, 101, 102, 103, 104, 105, 106, 107, 108, 109, 110, 111, 112, 113, 114, 115, 116, 117, 118, 119, 120, 121, 122, 123, 124, 125, 126, 127, 128, 129, 130, 131, 132, 133, 134, 135, 136, 137, 138, 139, 140, 141, 142, 143, 144, 145, 146, 147, 148, 149, 150, 151, 152, 153, 154, 155, 156] (by decide +kernel) (by decide +kernel)) (goodIn_sub (fun _ h => List.mem_cons_of_mem _ (List.mem_append_left _ (List.mem_append_right _ h))) (by decide +kernel))) (goodIn_sub (fun _ h => List.mem_cons_of_mem _ (List.mem_append_right _ h)) (by decide +kernel))
set_option maxRecDepth 20000 in
theorem gL_areCycles_X6_cycles : GoodIn wsL_areCycles (wsV RL 53 RX6 yX6_cycles wsX6_cycles) := goodIn_app (goodIn_of _ (by decide +kernel)) ggL_areCycles_X6_cycles
set_option maxRecDepth 20000 in
theorem ggL_answer_L_power : GoodIn wsL_answer wsL_power := goodIn_r _ [4] (by decide +kernel) (by decide +kernel)
set_option maxRecDepth 20000 in
theorem gL_answer_L_power : GoodIn wsL_answer (va_wsS RL 57 yL_power wsL_power) := goodIn_app (goodIn_of _ (by decide +kernel)) ggL_answer_L_power
set_option maxRecDepth 20000 in
theorem ggL_isDesigned_X6_design : GoodIn wsL_isDesigned wsX6_design := goodIn_r _ [5, 6, 7, 8, 9, 10, 11, 12, 13, 14, 15, 16, 17, 18, 19, 20, 21, 22, 23, 24, 25, 26, 27, 28, 29, 37, 38, 39, 40, 41, 42, 43, 44, 45] (by decide +kernel) (by decide +kernel)
set_option maxRecDepth 20000 in
theorem gL_isDesigned_X6_design : GoodIn wsL_isDesigned (wsV RL 60 RX6 yX6_design wsX6_design) := goodIn_app (goodIn_of _ (by decide +kernel)) ggL_isDesigned_X6_design
set_option maxRecDepth 20000 in
theorem ggL_isDesigned_L_answer : GoodIn wsL_isDesigned wsL_answer := goodIn_r _ [33, 34, 35, 32, 36] (by decide +kernel) (by decide +kernel)
set_option maxRecDepth 20000 in
theorem gL_isDesigned_L_answer : GoodIn wsL_isDesigned (va_wsS RL 64 yL_answer wsL_answer) := goodIn_app (goodIn_of _ (by decide +kernel)) ggL_isDesigned_L_answer
set_option maxRecDepth 20000 in
theorem ggL_isSame_X6_output : GoodIn wsL_isSame wsX6_output := goodIn_ca (goodIn_r _ [5, 6, 7, 8, 4, 9, 10, 11, 12, 13, 14, 15, 16, 17, 18, 148, 149, 150, 151, 152, 153, 154, 155] (by decide +kernel) (by decide +kernel)) (goodIn_sub (fun _ h => List.mem_cons_of_mem _ (List.mem_append_left _ (List.mem_append_right _ h))) (by decide +kernel))
set_option maxRecDepth 20000 in
theorem gL_isSame_X6_output : GoodIn wsL_isSame (wsV RL 68 RX6 yX6_output wsX6_output) := goodIn_app (goodIn_of _ (by decide +kernel)) ggL_isSame_X6_output
set_option maxRecDepth 20000 in
theorem ggL_isSame_X6_tapOf : GoodIn wsL_isSame wsX6_tapOf := goodIn_ca (goodIn_r _ [22, 23, 24, 25, 4, 26, 10, 11, 27, 28, 29, 30, 31, 32, 148, 149, 150, 151, 152, 153, 156, 157, 158] (by decide +kernel) (by decide +kernel)) (goodIn_sub (fun _ h => List.mem_cons_of_mem _ (List.mem_append_left _ (List.mem_append_right _ h))) (by decide +kernel))
set_option maxRecDepth 20000 in
theorem gL_isSame_X6_tapOf : GoodIn wsL_isSame (wsV RL 70 RX6 yX6_tapOf wsX6_tapOf) := goodIn_app (goodIn_of _ (by decide +kernel)) ggL_isSame_X6_tapOf
set_option maxRecDepth 20000 in
theorem ggL_isSame_X6_sifted : GoodIn wsL_isSame wsX6_sifted := goodIn_ca (goodIn_r _ [36, 37, 23, 7, 8, 4, 9, 10, 11, 38, 39, 40, 15, 41, 17, 42, 43, 44, 30, 45, 32, 46, 13, 14, 16, 18, 47, 48, 49, 50, 148, 149, 150, 151, 152, 153, 154, 155, 156, 157, 158] (by decide +kernel) (by decide +kernel)) (goodIn_sub (fun _ h => List.mem_cons_of_mem _ (List.mem_append_left _ (List.mem_append_right _ h))) (by decide +kernel))
set_option maxRecDepth 20000 in
theorem gL_isSame_X6_sifted : GoodIn wsL_isSame (wsV RL 73 RX6 yX6_sifted wsX6_sifted) := goodIn_app (goodIn_of _ (by decide +kernel)) ggL_isSame_X6_sifted
set_option maxRecDepth 20000 in
theorem ggL_isSame_L_sifted : GoodIn wsL_isSame wsL_sifted := goodIn_r _ [54] (by decide +kernel) (by decide +kernel)
set_option maxRecDepth 20000 in
theorem gL_isSame_L_sifted : GoodIn wsL_isSame (va_wsS RL 76 yL_sifted wsL_sifted) := goodIn_app (goodIn_of _ (by decide +kernel)) ggL_isSame_L_sifted
set_option maxRecDepth 20000 in
theorem ggL_isSame_X6_answer : GoodIn wsL_isSame wsX6_answer := goodIn_ca (goodIn_r _ [58, 23, 24, 25, 4, 26, 10, 11, 59, 60, 61, 30, 62, 32, 63, 64, 65, 66, 67, 47, 48, 49, 50, 148, 149, 150, 151, 152, 153, 156, 157, 158] (by decide +kernel) (by decide +kernel)) (goodIn_sub (fun _ h => List.mem_cons_of_mem _ (List.mem_append_left _ (List.mem_append_right _ h))) (by decide +kernel))
set_option maxRecDepth 20000 in
theorem gL_isSame_X6_answer : GoodIn wsL_isSame (wsV RL 79 RX6 yX6_answer wsX6_answer) := goodIn_app (goodIn_of _ (by decide +kernel)) ggL_isSame_X6_answer
set_option maxRecDepth 20000 in
theorem ggL_isSame_L_answer : GoodIn wsL_isSame wsL_answer := goodIn_r _ [70, 71, 72, 53, 73] (by decide +kernel) (by decide +kernel)
set_option maxRecDepth 20000 in
theorem gL_isSame_L_answer : GoodIn wsL_isSame (va_wsS RL 64 yL_answer wsL_answer) := goodIn_app (goodIn_of _ (by decide +kernel)) ggL_isSame_L_answer
set_option maxRecDepth 20000 in
theorem ggL_isSame_X6_answerAnew : GoodIn wsL_isSame wsX6_answerAnew := goodIn_ca (goodIn_r _ [77, 23, 24, 25, 4, 26, 10, 11, 78, 79, 80, 30, 81, 32, 63, 64, 65, 66, 67, 47, 48, 49, 50, 148, 149, 150, 151, 152, 153, 156, 157, 158] (by decide +kernel) (by decide +kernel)) (goodIn_sub (fun _ h => List.mem_cons_of_mem _ (List.mem_append_left _ (List.mem_append_right _ h))) (by decide +kernel))
set_option maxRecDepth 20000 in
theorem gL_isSame_X6_answerAnew : GoodIn wsL_isSame (wsV RL 81 RX6 yX6_answerAnew wsX6_answerAnew) := goodIn_app (goodIn_of _ (by decide +kernel)) ggL_isSame_X6_answerAnew
set_option maxRecDepth 20000 in
theorem ggL_isSame_X6_of : GoodIn wsL_isSame wsX6_of := goodIn_ca (goodIn_ca (goodIn_r _ [85, 86, 87, 88, 89, 90, 91, 92, 93, 94, 95, 96, 97, 24, 25, 4, 26, 10, 11, 98, 99, 100, 101, 102, 103, 104, 105, 106, 107, 108, 109, 110, 111, 112, 113, 114, 115, 116, 117, 118, 119, 120, 121, 122, 123, 124, 125, 126, 127, 128, 129, 130, 131, 132, 133, 134, 135, 136, 137, 138, 139, 140, 141, 148, 149, 150, 151, 152, 153, 159, 160, 161, 162, 163, 164, 165, 166, 167, 168, 169] (by decide +kernel) (by decide +kernel)) (goodIn_sub (fun _ h => List.mem_cons_of_mem _ (List.mem_append_left _ (List.mem_append_right _ h))) (by decide +kernel))) (goodIn_sub (fun _ h => List.mem_cons_of_mem _ (List.mem_append_right _ h)) (by decide +kernel))
set_option maxRecDepth 20000 in
theorem gL_isSame_X6_of : GoodIn wsL_isSame (wsV RL 84 RX6 yX6_of wsX6_of) := goodIn_app (goodIn_of _ (by decide +kernel)) ggL_isSame_X6_of
set_option maxRecDepth 20000 in
theorem ggL_isSame_L_isStable : GoodIn wsL_isSame wsL_isStable := goodIn_r _ [144, 145, 146, 53, 147] (by decide +kernel) (by decide +kernel)
set_option maxRecDepth 20000 in
theorem gL_isSame_L_isStable : GoodIn wsL_isSame (va_wsS RL 25 yL_isStable wsL_isStable) := goodIn_app (goodIn_of _ (by decide +kernel)) ggL_isSame_L_isStable
set_option maxRecDepth 20000 in
theorem ggL_isChained_X6_chain : GoodIn wsL_isChained wsX6_chain := goodIn_ca (goodIn_r _ [5, 6, 7, 8, 9, 10, 11, 12, 13, 14, 15, 16, 4, 17, 18, 19, 20, 21, 22, 23, 24, 25, 26, 27, 28, 29, 30, 31, 32, 33, 34, 35, 36, 37, 38, 39, 40, 41, 42, 43, 44, 45, 46, 47, 48, 49, 50, 51, 52, 53, 54, 55, 56, 57, 58, 59, 60, 61, 62, 63, 64, 65, 66, 67, 68, 69, 70, 71, 72, 73, 74, 75, 76, 77, 78, 79, 80, 81, 82, 83, 84, 85, 86, 87, 88, 89, 90, 91, 92, 93, 94, 95, 96, 97, 98, 99, 100, 101, 102, 103, 104, 105, 106, 107, 108, 109, 110, 111, 112, 113, 114, 115, 116, 117, 118, 119, 120] (by decide +kernel) (by decide +kernel)) (goodIn_sub (fun _ h => List.mem_cons_of_mem _ (List.mem_append_right _ h)) (by decide +kernel))
set_option maxRecDepth 20000 in
theorem gL_isChained_X6_chain : GoodIn wsL_isChained (wsV RL 88 RX6 yX6_chain wsX6_chain) := goodIn_app (goodIn_of _ (by decide +kernel)) ggL_isChained_X6_chain
set_option maxRecDepth 20000 in
theorem ggL_isArranged_L_abs : GoodIn wsL_isArranged wsL_abs := goodIn_r _ [5] (by decide +kernel) (by decide +kernel)
set_option maxRecDepth 20000 in
theorem gL_isArranged_L_abs : GoodIn wsL_isArranged (va_wsS RL 15 yL_abs wsL_abs) := goodIn_app (goodIn_of _ (by decide +kernel)) ggL_isArranged_L_abs
set_option maxRecDepth 20000 in
theorem ggL_isArranged_X6_arrange : GoodIn wsL_isArranged wsX6_arrange := goodIn_r _ [10, 11, 12, 13, 14, 15, 16, 17, 18, 19, 20, 21, 22, 23, 24, 25, 26, 27, 28, 29, 30, 31, 32, 33, 34, 35, 36, 37, 38, 39, 40, 41, 42, 43, 44, 45, 46, 47, 48, 49, 50, 51, 52, 53, 54, 55, 56, 57, 58, 59, 60, 61, 62, 63, 64, 65, 66, 67, 68, 69, 70, 71, 72, 73, 74, 75, 76, 77, 78, 79, 80, 81, 82, 83, 84, 85, 86, 87, 88, 89, 90, 91, 92, 93, 94, 95, 96, 97, 98, 99, 100, 101, 102, 103, 104, 105, 106, 107, 108, 109, 110, 111, 112, 113, 114, 115, 116, 117, 118, 119, 120, 121, 122, 123, 124, 125, 126, 127, 128, 129, 130, 131, 132, 133, 134, 135, 136, 137, 138, 139, 140, 141, 142] (by decide +kernel) (by decide +kernel)
set_option maxRecDepth 20000 in
theorem gL_isArranged_X6_arrange : GoodIn wsL_isArranged (wsV RL 91 RX6 yX6_arrange wsX6_arrange) := goodIn_app (goodIn_of _ (by decide +kernel)) ggL_isArranged_X6_arrange
set_option maxRecDepth 20000 in
theorem ggL_isActed_X6_section : GoodIn wsL_isActed wsX6_section := goodIn_ca (goodIn_ca (goodIn_r _ [6, 7, 8, 9, 10, 11, 12, 13, 14, 5, 15, 16, 17, 18, 19, 20, 21, 22, 23, 24, 25, 26, 27, 28, 29, 30, 31, 32, 33, 34, 35, 36, 37, 38, 39, 40, 41, 42, 43, 44, 45, 46, 47, 48, 49, 50, 51, 52, 53, 54, 55, 56, 57, 58, 59, 60, 61, 62, 63, 64, 65, 66, 67, 68, 69, 70, 71, 72, 73, 74, 75, 76, 77, 78, 79, 80, 81, 82, 83, 84, 85, 86, 87, 323, 324, 325, 326, 327, 328, 329, 330, 331, 332, 333, 334, 335, 336, 337, 338] (by decide +kernel) (by decide +kernel)) (goodIn_sub (fun _ h => List.mem_cons_of_mem _ (List.mem_append_left _ (List.mem_append_left _ (List.mem_append_right _ h)))) (by decide +kernel))) (goodIn_sub (fun _ h => List.mem_cons_of_mem _ (List.mem_append_left _ (List.mem_append_right _ h))) (by decide +kernel))
set_option maxRecDepth 20000 in
theorem gL_isActed_X6_section : GoodIn wsL_isActed (wsV RL 94 RX6 yX6_section wsX6_section) := goodIn_app (goodIn_of _ (by decide +kernel)) ggL_isActed_X6_section
set_option maxRecDepth 20000 in
theorem ggL_isActed_X6_set : GoodIn wsL_isActed wsX6_set := goodIn_ca (goodIn_ca (goodIn_r _ [91, 9, 92, 18, 19, 20, 21, 22, 23, 93, 94, 5, 95, 96, 97, 13, 14, 15, 16, 17, 98, 99, 100, 101, 102, 103, 104, 105, 106, 107, 108, 109, 110, 111, 112, 113, 40, 114, 115, 116, 12, 117, 33, 118, 119, 120, 121, 323, 324, 325, 326, 327, 328, 336, 337, 338, 329, 330, 331, 332, 333, 334, 335] (by decide +kernel) (by decide +kernel)) (goodIn_sub (fun _ h => List.mem_cons_of_mem _ (List.mem_append_right _ h)) (by decide +kernel))) (goodIn_sub (fun _ h => List.mem_cons_of_mem _ (List.mem_append_left _ (List.mem_append_right _ h))) (by decide +kernel))
set_option maxRecDepth 20000 in
theorem gL_isActed_X6_set : GoodIn wsL_isActed (wsV RL 97 RX6 yX6_set wsX6_set) := goodIn_app (goodIn_of _ (by decide +kernel)) ggL_isActed_X6_set
set_option maxRecDepth 20000 in
theorem ggL_isActed_L_isChained : GoodIn wsL_isActed wsL_isChained := goodIn_ca (goodIn_r _ [125, 126, 127, 128, 5, 129, 9, 130, 92, 18, 19, 20, 21, 22, 23, 93, 94, 95, 96, 97, 98, 99, 100, 101, 102, 103, 104, 105, 106, 107, 108, 109, 110, 111, 112, 113, 40, 131, 132, 133, 134, 135, 136, 137, 138, 139, 140, 141, 142, 143, 35, 36, 37, 38, 39, 41, 42, 43, 44, 45, 46, 47, 48, 49, 50, 51, 52, 53, 54, 55, 56, 57, 58, 59, 60, 61, 62, 63, 64, 65, 66, 67, 68, 69, 70, 71, 72, 73, 74, 75, 76, 77, 78, 79, 80, 81, 82, 83, 84, 85, 86, 87, 144, 145, 146, 147, 148, 149, 150, 151, 152, 323, 324, 325, 326, 327, 328, 336, 337, 338, 339] (by decide +kernel) (by decide +kernel)) (goodIn_sub (fun _ h => List.mem_cons_of_mem _ (List.mem_append_right _ h)) (by decide +kernel))
set_option maxRecDepth 20000 in
theorem gL_isActed_L_isChained : GoodIn wsL_isActed (va_wsS RL 100 yL_isChained wsL_isChained) := goodIn_app (goodIn_of _ (by decide +kernel)) ggL_isActed_L_isChained
set_option maxRecDepth 20000 in
theorem ggL_isActed_L_isArranged : GoodIn wsL_isActed wsL_isArranged := goodIn_r _ [155, 32, 156, 157, 124, 158, 159, 160, 161, 5, 162, 130, 163, 164, 165, 134, 166, 167, 168, 21, 136, 169, 170, 171, 172, 53, 40, 173, 174, 175, 176, 177, 178, 179, 180, 181, 182, 28, 29, 141, 19, 20, 22, 23, 142, 99, 100, 101, 102, 103, 104, 105, 106, 107, 108, 109, 110, 111, 112, 113, 183, 184, 185, 186, 187, 188, 12, 189, 33, 190, 191, 56, 192, 30, 193, 194, 195, 196, 38, 39, 152, 85, 86, 87, 197, 198, 199, 200, 45, 46, 47, 48, 49, 50, 51, 52, 54, 55, 57, 58, 59, 60, 61, 62, 63, 64, 65, 66, 67, 68, 69, 70, 71, 72, 73, 74, 75, 76, 77, 78, 79, 80, 81, 82, 83, 84, 323, 324, 325, 326, 327, 328, 336, 337, 338, 339, 329, 330, 331, 332, 333, 334, 335] (by decide +kernel) (by decide +kernel)
set_option maxRecDepth 20000 in
theorem gL_isActed_L_isArranged : GoodIn wsL_isActed (va_wsS RL 104 yL_isArranged wsL_isArranged) := goodIn_app (goodIn_of _ (by decide +kernel)) ggL_isActed_L_isArranged
set_option maxRecDepth 20000 in
theorem ggL_isActed_X6_run : GoodIn wsL_isActed wsX6_run := goodIn_ca (goodIn_r _ [204, 130, 205, 13, 14, 5, 15, 16, 17, 206, 207, 208, 134, 209, 136, 169, 141, 19, 20, 21, 22, 23, 142, 99, 100, 101, 102, 103, 104, 105, 106, 107, 108, 109, 110, 111, 112, 113, 40, 210, 211, 212, 12, 213, 33, 214, 215, 216, 217, 218, 219, 220, 221, 222, 82, 56, 83, 223, 55, 57, 224, 225, 226, 227, 31, 228, 229, 230, 231, 232, 233, 234, 235, 236, 237, 238, 85, 86, 87, 239, 240, 323, 324, 325, 326, 327, 328, 339, 336, 337, 338, 329, 330, 331, 332, 333, 334, 335, 340, 341] (by decide +kernel) (by decide +kernel)) (goodIn_sub (fun _ h => List.mem_cons_of_mem _ (List.mem_append_left _ (List.mem_append_right _ h))) (by decide +kernel))
set_option maxRecDepth 20000 in
theorem gL_isActed_X6_run : GoodIn wsL_isActed (wsV RL 109 RX6 yX6_run wsX6_run) := goodIn_app (goodIn_of _ (by decide +kernel)) ggL_isActed_X6_run
set_option maxRecDepth 20000 in
theorem ggL_isActed_L_run : GoodIn wsL_isActed wsL_run := goodIn_r _ [243, 244, 245, 124, 246] (by decide +kernel) (by decide +kernel)
set_option maxRecDepth 20000 in
theorem gL_isActed_L_run : GoodIn wsL_isActed (va_wsS RL 112 yL_run wsL_run) := goodIn_app (goodIn_of _ (by decide +kernel)) ggL_isActed_L_run
set_option maxRecDepth 20000 in
theorem ggL_isActed_X6_rest : GoodIn wsL_isActed wsX6_rest := goodIn_r _ [250, 9, 92, 205, 18, 19, 20, 21, 22, 23, 98, 99, 100, 101, 102, 103, 104, 105, 106, 107, 108, 109, 110, 111, 112, 113, 40, 251, 252, 253, 12, 254, 214, 215, 216, 217, 255, 256, 257, 235, 258, 239, 259, 260, 261, 262, 323, 324, 325, 326, 327, 328, 336, 337, 338, 329, 330, 331, 332, 333, 334, 335, 340, 341] (by decide +kernel) (by decide +kernel)
set_option maxRecDepth 20000 in
theorem gL_isActed_X6_rest : GoodIn wsL_isActed (wsV RL 115 RX6 yX6_rest wsX6_rest) := goodIn_app (goodIn_of _ (by decide +kernel)) ggL_isActed_X6_rest
set_option maxRecDepth 20000 in
theorem ggL_isActed_L_rest : GoodIn wsL_isActed wsL_rest := goodIn_r _ [265] (by decide +kernel) (by decide +kernel)
set_option maxRecDepth 20000 in
theorem gL_isActed_L_rest : GoodIn wsL_isActed (va_wsS RL 118 yL_rest wsL_rest) := goodIn_app (goodIn_of _ (by decide +kernel)) ggL_isActed_L_rest
set_option maxRecDepth 20000 in
theorem ggL_isActed_X6_tap : GoodIn wsL_isActed wsX6_tap := goodIn_ca (goodIn_ca (goodIn_r _ [269, 270, 93, 94, 5, 95, 96, 97, 271, 272, 273, 13, 14, 15, 16, 17, 274, 275, 276, 277, 278, 279, 280, 281, 282, 283, 284, 230, 285, 323, 324, 325, 326, 327, 328, 342, 343, 344] (by decide +kernel) (by decide +kernel)) (goodIn_sub (fun _ h => List.mem_cons_of_mem _ (List.mem_append_right _ h)) (by decide +kernel))) (goodIn_sub (fun _ h => List.mem_cons_of_mem _ (List.mem_append_left _ (List.mem_append_right _ h))) (by decide +kernel))
set_option maxRecDepth 20000 in
theorem gL_isActed_X6_tap : GoodIn wsL_isActed (wsV RL 120 RX6 yX6_tap wsX6_tap) := goodIn_app (goodIn_of _ (by decide +kernel)) ggL_isActed_X6_tap
set_option maxRecDepth 20000 in
theorem ggL_isActed_X6_ask : GoodIn wsL_isActed wsX6_ask := goodIn_ca (goodIn_ca (goodIn_r _ [289, 270, 93, 94, 5, 95, 96, 97, 271, 272, 273, 13, 14, 15, 16, 17, 290, 291, 292, 277, 293, 294, 280, 281, 282, 283, 284, 230, 285, 323, 324, 325, 326, 327, 328, 342, 343, 344] (by decide +kernel) (by decide +kernel)) (goodIn_sub (fun _ h => List.mem_cons_of_mem _ (List.mem_append_right _ h)) (by decide +kernel))) (goodIn_sub (fun _ h => List.mem_cons_of_mem _ (List.mem_append_left _ (List.mem_append_right _ h))) (by decide +kernel))
set_option maxRecDepth 20000 in
theorem gL_isActed_X6_ask : GoodIn wsL_isActed (wsV RL 123 RX6 yX6_ask wsX6_ask) := goodIn_app (goodIn_of _ (by decide +kernel)) ggL_isActed_X6_ask
set_option maxRecDepth 20000 in
theorem ggL_isActed_L_isDesigned : GoodIn wsL_isActed wsL_isDesigned := goodIn_r _ [297, 298, 299, 300, 5, 301, 270, 302, 303, 304, 277, 305, 294, 306, 307, 308, 309, 310, 283, 284, 230, 285, 311, 275, 276, 278, 279, 280, 281, 282, 312, 313, 124, 314, 315, 316, 317, 323, 324, 325, 326, 327, 328, 342, 343, 344] (by decide +kernel) (by decide +kernel)
set_option maxRecDepth 20000 in
theorem gL_isActed_L_isDesigned : GoodIn wsL_isActed (va_wsS RL 126 yL_isDesigned wsL_isDesigned) := goodIn_app (goodIn_of _ (by decide +kernel)) ggL_isActed_L_isDesigned
set_option maxRecDepth 20000 in
theorem ggL_isActed_X6_sample : GoodIn wsL_isActed wsX6_sample := goodIn_ca (goodIn_r _ [321, 322, 271, 272, 5, 273, 13, 14, 15, 16, 17, 232, 233, 234, 235, 236, 237, 238, 85, 86, 87, 239, 240, 82, 56, 83, 255, 256, 257, 258, 323, 324, 325, 326, 327, 328, 340, 341] (by decide +kernel) (by decide +kernel)) (goodIn_sub (fun _ h => List.mem_cons_of_mem _ (List.mem_append_left _ (List.mem_append_right _ h))) (by decide +kernel))
set_option maxRecDepth 20000 in
theorem gL_isActed_X6_sample : GoodIn wsL_isActed (wsV RL 130 RX6 yX6_sample wsX6_sample) := goodIn_app (goodIn_of _ (by decide +kernel)) ggL_isActed_X6_sample
set_option maxRecDepth 20000 in
theorem ggL_holds_X6_init : GoodIn wsL_holds wsX6_init := goodIn_r _ [8, 9, 10, 11, 12, 13, 14, 15, 16, 17, 18, 19, 20, 21, 22, 23, 24, 25, 26, 27, 28, 29, 30, 31, 32, 33, 34, 35, 36, 37, 38, 39, 40, 41, 42, 43, 44, 45, 46, 47, 48, 49, 50, 51, 52, 53, 54, 55, 56, 57, 58, 59, 60, 61, 62, 4, 63, 64, 65, 66, 67, 68, 69, 70, 71, 72, 73, 74, 75, 76, 591, 592, 593, 585, 586, 587, 588, 589, 590, 594, 595, 596, 597, 598, 599, 600, 601, 602, 603, 604] (by decide +kernel) (by decide +kernel)
set_option maxRecDepth 20000 in
theorem gL_holds_X6_init : GoodIn wsL_holds (wsX6_init) := ggL_holds_X6_init
set_option maxRecDepth 20000 in
theorem ggL_holds_L_from : GoodIn wsL_holds wsL_from := goodIn_r _ [80, 81, 82] (by decide +kernel) (by decide +kernel)
set_option maxRecDepth 20000 in
theorem gL_holds_L_from : GoodIn wsL_holds (va_wsS RL 135 yL_from wsL_from) := goodIn_app (goodIn_of _ (by decide +kernel)) ggL_holds_L_from
set_option maxRecDepth 20000 in
theorem ggL_holds_L_isSame : GoodIn wsL_holds wsL_isSame := goodIn_ca (goodIn_ca (goodIn_r _ [371, 372, 373, 374, 3, 375, 23, 376, 377, 378, 170, 171, 379, 380, 381, 22, 382, 291, 63, 383, 384, 385, 386, 31, 167, 168, 169, 387, 388, 389, 30, 390, 74, 391, 392, 393, 394, 32, 307, 308, 309, 310, 395, 396, 397, 398, 399, 332, 333, 284, 334, 400, 401, 79, 402, 403, 404, 405, 406, 407, 408, 409, 410, 354, 355, 356, 357, 76, 359, 360, 361, 362, 363, 364, 411, 412, 413, 414, 415, 416, 417, 418, 419, 420, 421, 422, 15, 166, 19, 423, 424, 425, 101, 102, 103, 14, 104, 105, 96, 97, 98, 99, 100, 172, 173, 174, 175, 176, 177, 178, 179, 180, 181, 182, 183, 184, 185, 186, 187, 37, 426, 427, 428, 95, 429, 112, 245, 246, 61, 247, 430, 208, 209, 18, 210, 53, 211, 212, 431, 193, 194, 195, 432, 433, 434, 226, 227, 228, 585, 586, 587, 588, 589, 590, 595, 596, 602, 603, 604, 605, 606, 607, 608, 609, 610, 611, 591, 592, 593, 594] (by decide +kernel) (by decide +kernel)) (goodIn_sub (fun _ h => List.mem_cons_of_mem _ (List.mem_append_right _ h)) (by decide +kernel))) (goodIn_sub (fun _ h => List.mem_cons_of_mem _ (List.mem_append_left _ (List.mem_append_right _ h))) (by decide +kernel))
set_option maxRecDepth 20000 in
theorem gL_holds_L_isSame : GoodIn wsL_holds (va_wsS RL 142 yL_isSame wsL_isSame) := goodIn_app (goodIn_of _ (by decide +kernel)) ggL_holds_L_isSame
set_option maxRecDepth 20000 in
theorem ggL_holds_L_areGains : GoodIn wsL_holds wsL_areGains := goodIn_ca (goodIn_ca (goodIn_r _ [437, 438, 439, 440, 441, 79, 442, 443, 432, 433, 434, 226, 227, 228, 444, 445, 446, 447, 448, 449, 3, 450, 19, 451, 452, 96, 97, 98, 99, 100, 453, 454, 455, 456, 91, 92, 457, 458, 459, 18, 460, 53, 211, 102, 103, 14, 104, 105, 461, 462, 463, 464, 465, 466, 467, 237, 468, 469, 470, 471, 10, 11, 472, 473, 212, 173, 174, 175, 176, 177, 178, 179, 180, 181, 182, 183, 184, 185, 186, 187, 37, 474, 475, 476, 95, 477, 112, 478, 479, 480, 481, 482, 483, 484, 485, 486, 487, 488, 489, 490, 491, 492, 493, 494, 495, 61, 496, 497, 498, 499, 500, 501, 502, 503, 504, 505, 506, 507, 508, 509, 510, 427, 428, 429, 245, 246, 247, 511, 512, 513, 514, 585, 586, 587, 588, 589, 590, 612, 613, 594, 591, 592, 593, 605, 606, 607, 608, 609, 610, 611] (by decide +kernel) (by decide +kernel)) (goodIn_sub (fun _ h => List.mem_cons_of_mem _ (List.mem_append_left _ (List.mem_append_right _ h))) (by decide +kernel))) (goodIn_sub (fun _ h => List.mem_cons_of_mem _ (List.mem_append_left _ (List.mem_append_left _ (List.mem_append_right _ h)))) (by decide +kernel))
set_option maxRecDepth 20000 in
theorem gL_holds_L_areGains : GoodIn wsL_holds (va_wsS RL 146 yL_areGains wsL_areGains) := goodIn_app (goodIn_of _ (by decide +kernel)) ggL_holds_L_areGains
set_option maxRecDepth 20000 in
theorem ggL_holds_L_areCycles : GoodIn wsL_holds wsL_areCycles := goodIn_ca (goodIn_ca (goodIn_r _ [517, 4, 518, 519, 520, 79, 521, 522, 523, 524, 226, 227, 228, 525, 526, 527, 3, 528, 15, 27, 166, 101, 102, 103, 14, 104, 105, 167, 168, 169, 170, 171, 96, 97, 98, 99, 100, 172, 173, 174, 175, 176, 177, 178, 179, 180, 181, 182, 183, 184, 185, 186, 187, 37, 529, 530, 531, 26, 532, 69, 533, 534, 535, 536, 537, 538, 144, 539, 540, 541, 542, 543, 246, 61, 247, 544, 545, 546, 547, 548, 549, 550, 551, 552, 553, 554, 555, 556, 557, 558, 559, 560, 561, 562, 563, 564, 565, 566, 567, 568, 569, 570, 571, 572, 573, 574, 575, 273, 274, 95, 275, 112, 276, 156, 157, 277, 60, 62, 278, 279, 280, 281, 111, 282, 283, 284, 285, 576, 577, 578, 579, 580, 581, 582, 583, 584, 585, 586, 587, 588, 589, 590, 591, 592, 593, 597, 598, 599, 600, 601, 605, 606, 607, 608, 609, 610, 611] (by decide +kernel) (by decide +kernel)) (goodIn_sub (fun _ h => List.mem_cons_of_mem _ (List.mem_append_right _ h)) (by decide +kernel))) (goodIn_sub (fun _ h => List.mem_cons_of_mem _ (List.mem_append_left _ (List.mem_append_right _ h))) (by decide +kernel))
set_option maxRecDepth 20000 in
theorem gL_holds_L_areCycles : GoodIn wsL_holds (va_wsS RL 150 yL_areCycles wsL_areCycles) := goodIn_app (goodIn_of _ (by decide +kernel)) ggL_holds_L_areCycles
