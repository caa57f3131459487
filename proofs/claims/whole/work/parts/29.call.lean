set_option maxRecDepth 100000 in
theorem dX0_forget {d : Nat} {S : Mem}  : mm_runD (d + 1) 0 [.inr 23] S = mm_E (mm_runD d) pX0_forget 0 0 [some (.inr 23)] [] S 0 0 := mm_runD_eq (q := (0, yX0_forget, cX0_forget, 1, 0, 0, pX0_forget, qX0_forget)) (by decide) rfl rfl rfl rfl
set_option maxRecDepth 100000 in
theorem dX0_shown {d : Nat} {S : Mem}  : mm_runD (d + 1) 1 [.inr 23] S = mm_E (mm_runD d) pX0_shown 1 0 [some (.inr 23)] [] S 0 0 := mm_runD_eq (q := (0, yX0_shown, cX0_shown, 1, 1, 0, pX0_shown, qX0_shown)) (by decide) rfl rfl rfl rfl
set_option maxRecDepth 100000 in
theorem dX0_show {d : Nat} {S : Mem} {x1 : Int32} {x2 : Int32} : mm_runD (d + 1) 2 [.inr 23, .inl x1, .inl x2] S = mm_E (mm_runD d) pX0_show 0 0 [some (.inr 23), some (.inl x1), some (.inl x2), none, none, none, none] [] S 0 0 := mm_runD_eq (q := (0, yX0_show, cX0_show, 7, 0, 2, pX0_show, qX0_show)) (by decide) rfl rfl rfl rfl
set_option maxRecDepth 100000 in
theorem dX0_signAt {d : Nat} {S : Mem} {x1 : Int32} : mm_runD (d + 1) 3 [.inr 23, .inl x1] S = mm_E (mm_runD d) pX0_signAt 1 0 [some (.inr 23), some (.inl x1)] [] S 0 0 := mm_runD_eq (q := (0, yX0_signAt, cX0_signAt, 2, 1, 1, pX0_signAt, qX0_signAt)) (by decide) rfl rfl rfl rfl
set_option maxRecDepth 100000 in
theorem dX0_putFound {d : Nat} {S : Mem} {x1 : Int32} {x2 : Int32} : mm_runD (d + 1) 4 [.inr 23, .inl x1, .inl x2] S = mm_E (mm_runD d) pX0_putFound 0 0 [some (.inr 23), some (.inl x1), some (.inl x2), none, none, none] [] S 0 0 := mm_runD_eq (q := (0, yX0_putFound, cX0_putFound, 6, 0, 2, pX0_putFound, qX0_putFound)) (by decide) rfl rfl rfl rfl
set_option maxRecDepth 100000 in
theorem dX0_anyOf {d : Nat} {S : Mem} {x1 : Int32} : mm_runD (d + 1) 5 [.inr 23, .inl x1] S = mm_E (mm_runD d) pX0_anyOf 1 0 [some (.inr 23), some (.inl x1), none, none] [] S 0 0 := mm_runD_eq (q := (0, yX0_anyOf, cX0_anyOf, 4, 1, 1, pX0_anyOf, qX0_anyOf)) (by decide) rfl rfl rfl rfl
set_option maxRecDepth 100000 in
theorem dX1_begin_11 {d : Nat} {S : Mem} {x2 : Int32} : mm_runD (d + 1) 6 [.inr 11, .inr 7, .inl x2] S = mm_E (mm_runD d) pX1_begin 0 0 [some (.inr 11), some (.inr 7), some (.inl x2), none] [] S 0 0 := mm_runD_eq (q := (1, yX1_begin, cX1_begin, 4, 0, 2, pX1_begin, qX1_begin)) (by decide) rfl rfl rfl rfl
set_option maxRecDepth 100000 in
theorem dX1_begin_15 {d : Nat} {S : Mem} {x2 : Int32} : mm_runD (d + 1) 6 [.inr 15, .inr 7, .inl x2] S = mm_E (mm_runD d) pX1_begin 0 0 [some (.inr 15), some (.inr 7), some (.inl x2), none] [] S 0 0 := mm_runD_eq (q := (1, yX1_begin, cX1_begin, 4, 0, 2, pX1_begin, qX1_begin)) (by decide) rfl rfl rfl rfl
set_option maxRecDepth 100000 in
theorem dX1_count_11 {d : Nat} {S : Mem}  : mm_runD (d + 1) 7 [.inr 11] S = mm_E (mm_runD d) pX1_count 1 0 [some (.inr 11)] [] S 0 0 := mm_runD_eq (q := (1, yX1_count, cX1_count, 1, 1, 0, pX1_count, qX1_count)) (by decide) rfl rfl rfl rfl
set_option maxRecDepth 100000 in
theorem dX1_count_15 {d : Nat} {S : Mem}  : mm_runD (d + 1) 7 [.inr 15] S = mm_E (mm_runD d) pX1_count 1 0 [some (.inr 15)] [] S 0 0 := mm_runD_eq (q := (1, yX1_count, cX1_count, 1, 1, 0, pX1_count, qX1_count)) (by decide) rfl rfl rfl rfl
set_option maxRecDepth 100000 in
theorem dX1_isFull_11 {d : Nat} {S : Mem}  : mm_runD (d + 1) 8 [.inr 11] S = mm_E (mm_runD d) pX1_isFull 2 0 [some (.inr 11)] [] S 0 0 := mm_runD_eq (q := (1, yX1_isFull, cX1_isFull, 1, 2, 0, pX1_isFull, qX1_isFull)) (by decide) rfl rfl rfl rfl
set_option maxRecDepth 100000 in
theorem dX1_isFull_15 {d : Nat} {S : Mem}  : mm_runD (d + 1) 8 [.inr 15] S = mm_E (mm_runD d) pX1_isFull 2 0 [some (.inr 15)] [] S 0 0 := mm_runD_eq (q := (1, yX1_isFull, cX1_isFull, 1, 2, 0, pX1_isFull, qX1_isFull)) (by decide) rfl rfl rfl rfl
set_option maxRecDepth 100000 in
theorem dX1_asks_11 {d : Nat} {S : Mem}  : mm_runD (d + 1) 9 [.inr 11] S = mm_E (mm_runD d) pX1_asks 2 0 [some (.inr 11)] [] S 0 0 := mm_runD_eq (q := (1, yX1_asks, cX1_asks, 1, 2, 0, pX1_asks, qX1_asks)) (by decide) rfl rfl rfl rfl
set_option maxRecDepth 100000 in
theorem dX1_asks_15 {d : Nat} {S : Mem}  : mm_runD (d + 1) 9 [.inr 15] S = mm_E (mm_runD d) pX1_asks 2 0 [some (.inr 15)] [] S 0 0 := mm_runD_eq (q := (1, yX1_asks, cX1_asks, 1, 2, 0, pX1_asks, qX1_asks)) (by decide) rfl rfl rfl rfl
set_option maxRecDepth 100000 in
theorem dX1_takesMaker_11 {d : Nat} {S : Mem} {x1 : Int32} : mm_runD (d + 1) 10 [.inr 11, .inl x1] S = mm_E (mm_runD d) pX1_takesMaker 2 0 [some (.inr 11), some (.inl x1)] [] S 0 0 := mm_runD_eq (q := (1, yX1_takesMaker, cX1_takesMaker, 2, 2, 1, pX1_takesMaker, qX1_takesMaker)) (by decide) rfl rfl rfl rfl
set_option maxRecDepth 100000 in
theorem dX1_takesMaker_15 {d : Nat} {S : Mem} {x1 : Int32} : mm_runD (d + 1) 10 [.inr 15, .inl x1] S = mm_E (mm_runD d) pX1_takesMaker 2 0 [some (.inr 15), some (.inl x1)] [] S 0 0 := mm_runD_eq (q := (1, yX1_takesMaker, cX1_takesMaker, 2, 2, 1, pX1_takesMaker, qX1_takesMaker)) (by decide) rfl rfl rfl rfl
set_option maxRecDepth 100000 in
theorem dX1_put_11 {d : Nat} {S : Mem} {x1 : Int32} : mm_runD (d + 1) 11 [.inr 11, .inl x1] S = mm_E (mm_runD d) pX1_put 1 0 [some (.inr 11), some (.inl x1), none, none] [] S 0 0 := mm_runD_eq (q := (1, yX1_put, cX1_put, 4, 1, 1, pX1_put, qX1_put)) (by decide) rfl rfl rfl rfl
set_option maxRecDepth 100000 in
theorem dX1_put_15 {d : Nat} {S : Mem} {x1 : Int32} : mm_runD (d + 1) 11 [.inr 15, .inl x1] S = mm_E (mm_runD d) pX1_put 1 0 [some (.inr 15), some (.inl x1), none, none] [] S 0 0 := mm_runD_eq (q := (1, yX1_put, cX1_put, 4, 1, 1, pX1_put, qX1_put)) (by decide) rfl rfl rfl rfl
set_option maxRecDepth 100000 in
theorem dX1_signAt_11 {d : Nat} {S : Mem} {x1 : Int32} : mm_runD (d + 1) 12 [.inr 11, .inl x1] S = mm_E (mm_runD d) pX1_signAt 1 0 [some (.inr 11), some (.inl x1)] [] S 0 0 := mm_runD_eq (q := (1, yX1_signAt, cX1_signAt, 2, 1, 1, pX1_signAt, qX1_signAt)) (by decide) rfl rfl rfl rfl
set_option maxRecDepth 100000 in
theorem dX1_signAt_15 {d : Nat} {S : Mem} {x1 : Int32} : mm_runD (d + 1) 12 [.inr 15, .inl x1] S = mm_E (mm_runD d) pX1_signAt 1 0 [some (.inr 15), some (.inl x1)] [] S 0 0 := mm_runD_eq (q := (1, yX1_signAt, cX1_signAt, 2, 1, 1, pX1_signAt, qX1_signAt)) (by decide) rfl rfl rfl rfl
set_option maxRecDepth 100000 in
theorem dX1_endAt_11 {d : Nat} {S : Mem} {x1 : Int32} : mm_runD (d + 1) 13 [.inr 11, .inl x1] S = mm_E (mm_runD d) pX1_endAt 1 0 [some (.inr 11), some (.inl x1)] [] S 0 0 := mm_runD_eq (q := (1, yX1_endAt, cX1_endAt, 2, 1, 1, pX1_endAt, qX1_endAt)) (by decide) rfl rfl rfl rfl
set_option maxRecDepth 100000 in
theorem dX1_endAt_15 {d : Nat} {S : Mem} {x1 : Int32} : mm_runD (d + 1) 13 [.inr 15, .inl x1] S = mm_E (mm_runD d) pX1_endAt 1 0 [some (.inr 15), some (.inl x1)] [] S 0 0 := mm_runD_eq (q := (1, yX1_endAt, cX1_endAt, 2, 1, 1, pX1_endAt, qX1_endAt)) (by decide) rfl rfl rfl rfl
set_option maxRecDepth 100000 in
theorem dX1_findEnds_11 {d : Nat} {S : Mem}  : mm_runD (d + 1) 14 [.inr 11] S = mm_E (mm_runD d) pX1_findEnds 0 0 [some (.inr 11), none, none, none, none, none] [] S 0 0 := mm_runD_eq (q := (1, yX1_findEnds, cX1_findEnds, 6, 0, 0, pX1_findEnds, qX1_findEnds)) (by decide) rfl rfl rfl rfl
set_option maxRecDepth 100000 in
theorem dX1_findEnds_15 {d : Nat} {S : Mem}  : mm_runD (d + 1) 14 [.inr 15] S = mm_E (mm_runD d) pX1_findEnds 0 0 [some (.inr 15), none, none, none, none, none] [] S 0 0 := mm_runD_eq (q := (1, yX1_findEnds, cX1_findEnds, 6, 0, 0, pX1_findEnds, qX1_findEnds)) (by decide) rfl rfl rfl rfl
set_option maxRecDepth 100000 in
theorem dX1_nextAsked_11 {d : Nat} {S : Mem}  : mm_runD (d + 1) 15 [.inr 11] S = mm_E (mm_runD d) pX1_nextAsked 1 0 [some (.inr 11)] [] S 0 0 := mm_runD_eq (q := (1, yX1_nextAsked, cX1_nextAsked, 1, 1, 0, pX1_nextAsked, qX1_nextAsked)) (by decide) rfl rfl rfl rfl
set_option maxRecDepth 100000 in
theorem dX1_nextAsked_15 {d : Nat} {S : Mem}  : mm_runD (d + 1) 15 [.inr 15] S = mm_E (mm_runD d) pX1_nextAsked 1 0 [some (.inr 15)] [] S 0 0 := mm_runD_eq (q := (1, yX1_nextAsked, cX1_nextAsked, 1, 1, 0, pX1_nextAsked, qX1_nextAsked)) (by decide) rfl rfl rfl rfl
set_option maxRecDepth 100000 in
theorem dX1_ask_11 {d : Nat} {S : Mem} {x1 : Int32} : mm_runD (d + 1) 16 [.inr 11, .inl x1] S = mm_E (mm_runD d) pX1_ask 0 0 [some (.inr 11), some (.inl x1)] [] S 0 0 := mm_runD_eq (q := (1, yX1_ask, cX1_ask, 2, 0, 1, pX1_ask, qX1_ask)) (by decide) rfl rfl rfl rfl
set_option maxRecDepth 100000 in
theorem dX1_ask_15 {d : Nat} {S : Mem} {x1 : Int32} : mm_runD (d + 1) 16 [.inr 15, .inl x1] S = mm_E (mm_runD d) pX1_ask 0 0 [some (.inr 15), some (.inl x1)] [] S 0 0 := mm_runD_eq (q := (1, yX1_ask, cX1_ask, 2, 0, 1, pX1_ask, qX1_ask)) (by decide) rfl rfl rfl rfl
set_option maxRecDepth 100000 in
theorem dX2_typeCount {d : Nat} {S : Mem}  : mm_runD (d + 1) 17 [.inr 1] S = mm_E (mm_runD d) pX2_typeCount 1 0 [some (.inr 1)] [] S 0 0 := mm_runD_eq (q := (2, yX2_typeCount, cX2_typeCount, 1, 1, 0, pX2_typeCount, qX2_typeCount)) (by decide) rfl rfl rfl rfl
set_option maxRecDepth 100000 in
theorem dX2_makerCount {d : Nat} {S : Mem}  : mm_runD (d + 1) 18 [.inr 1] S = mm_E (mm_runD d) pX2_makerCount 1 0 [some (.inr 1)] [] S 0 0 := mm_runD_eq (q := (2, yX2_makerCount, cX2_makerCount, 1, 1, 0, pX2_makerCount, qX2_makerCount)) (by decide) rfl rfl rfl rfl
set_option maxRecDepth 100000 in
theorem dX2_hasType {d : Nat} {S : Mem} {x1 : Int32} : mm_runD (d + 1) 19 [.inr 1, .inl x1] S = mm_E (mm_runD d) pX2_hasType 2 0 [some (.inr 1), some (.inl x1)] [] S 0 0 := mm_runD_eq (q := (2, yX2_hasType, cX2_hasType, 2, 2, 1, pX2_hasType, qX2_hasType)) (by decide) rfl rfl rfl rfl
set_option maxRecDepth 100000 in
theorem dX2_hasMaker {d : Nat} {S : Mem} {x1 : Int32} : mm_runD (d + 1) 20 [.inr 1, .inl x1] S = mm_E (mm_runD d) pX2_hasMaker 2 0 [some (.inr 1), some (.inl x1)] [] S 0 0 := mm_runD_eq (q := (2, yX2_hasMaker, cX2_hasMaker, 2, 2, 1, pX2_hasMaker, qX2_hasMaker)) (by decide) rfl rfl rfl rfl
set_option maxRecDepth 100000 in
theorem dX2_hasRoomForMaker {d : Nat} {S : Mem} {x1 : Int32} : mm_runD (d + 1) 21 [.inr 1, .inl x1] S = mm_E (mm_runD d) pX2_hasRoomForMaker 2 0 [some (.inr 1), some (.inl x1)] [] S 0 0 := mm_runD_eq (q := (2, yX2_hasRoomForMaker, cX2_hasRoomForMaker, 2, 2, 1, pX2_hasRoomForMaker, qX2_hasRoomForMaker)) (by decide) rfl rfl rfl rfl
set_option maxRecDepth 100000 in
theorem dX2_hasValue {d : Nat} {S : Mem} {x1 : Int32} : mm_runD (d + 1) 22 [.inr 1, .inl x1] S = mm_E (mm_runD d) pX2_hasValue 2 0 [some (.inr 1), some (.inl x1)] [] S 0 0 := mm_runD_eq (q := (2, yX2_hasValue, cX2_hasValue, 2, 2, 1, pX2_hasValue, qX2_hasValue)) (by decide) rfl rfl rfl rfl
set_option maxRecDepth 100000 in
theorem dX2_typeOf {d : Nat} {S : Mem} {x1 : Int32} : mm_runD (d + 1) 23 [.inr 1, .inl x1] S = mm_E (mm_runD d) pX2_typeOf 1 0 [some (.inr 1), some (.inl x1)] [] S 0 0 := mm_runD_eq (q := (2, yX2_typeOf, cX2_typeOf, 2, 1, 1, pX2_typeOf, qX2_typeOf)) (by decide) rfl rfl rfl rfl
set_option maxRecDepth 100000 in
theorem dX2_fieldCount {d : Nat} {S : Mem} {x1 : Int32} : mm_runD (d + 1) 24 [.inr 1, .inl x1] S = mm_E (mm_runD d) pX2_fieldCount 1 0 [some (.inr 1), some (.inl x1)] [] S 0 0 := mm_runD_eq (q := (2, yX2_fieldCount, cX2_fieldCount, 2, 1, 1, pX2_fieldCount, qX2_fieldCount)) (by decide) rfl rfl rfl rfl
set_option maxRecDepth 100000 in
theorem dX2_fieldType {d : Nat} {S : Mem} {x1 : Int32} {x2 : Int32} : mm_runD (d + 1) 25 [.inr 1, .inl x1, .inl x2] S = mm_E (mm_runD d) pX2_fieldType 1 0 [some (.inr 1), some (.inl x1), some (.inl x2), none] [] S 0 0 := mm_runD_eq (q := (2, yX2_fieldType, cX2_fieldType, 4, 1, 2, pX2_fieldType, qX2_fieldType)) (by decide) rfl rfl rfl rfl
set_option maxRecDepth 100000 in
theorem dX2_isDead {d : Nat} {S : Mem} {x1 : Int32} : mm_runD (d + 1) 26 [.inr 1, .inl x1] S = mm_E (mm_runD d) pX2_isDead 2 0 [some (.inr 1), some (.inl x1), none] [] S 0 0 := mm_runD_eq (q := (2, yX2_isDead, cX2_isDead, 3, 2, 1, pX2_isDead, qX2_isDead)) (by decide) rfl rfl rfl rfl
set_option maxRecDepth 100000 in
theorem dX2_addType {d : Nat} {S : Mem}  : mm_runD (d + 1) 27 [.inr 1] S = mm_E (mm_runD d) pX2_addType 1 0 [some (.inr 1), none] [] S 0 0 := mm_runD_eq (q := (2, yX2_addType, cX2_addType, 2, 1, 0, pX2_addType, qX2_addType)) (by decide) rfl rfl rfl rfl
set_option maxRecDepth 100000 in
theorem dX2_addMaker {d : Nat} {S : Mem} {x1 : Int32} {x2 : Int32} {x3 : Int32} {x4 : Int32} {x5 : Int32} : mm_runD (d + 1) 28 [.inr 1, .inl x1, .inl x2, .inl x3, .inl x4, .inl x5] S = mm_E (mm_runD d) pX2_addMaker 1 0 [some (.inr 1), some (.inl x1), some (.inl x2), some (.inl x3), some (.inl x4), some (.inl x5), none] [] S 0 0 := mm_runD_eq (q := (2, yX2_addMaker, cX2_addMaker, 7, 1, 5, pX2_addMaker, qX2_addMaker)) (by decide) rfl rfl rfl rfl
set_option maxRecDepth 100000 in
theorem dX2_findValued {d : Nat} {S : Mem}  : mm_runD (d + 1) 29 [.inr 1] S = mm_E (mm_runD d) pX2_findValued 0 0 [some (.inr 1), none, none, none, none] [] S 0 0 := mm_runD_eq (q := (2, yX2_findValued, cX2_findValued, 5, 0, 0, pX2_findValued, qX2_findValued)) (by decide) rfl rfl rfl rfl
set_option maxRecDepth 100000 in
theorem dX3_clear {d : Nat} {S : Mem}  : mm_runD (d + 1) 30 [.inr 8] S = mm_E (mm_runD d) pX3_clear 0 0 [some (.inr 8)] [] S 0 0 := mm_runD_eq (q := (3, yX3_clear, cX3_clear, 1, 0, 0, pX3_clear, qX3_clear)) (by decide) rfl rfl rfl rfl
set_option maxRecDepth 100000 in
theorem dX3_count {d : Nat} {S : Mem}  : mm_runD (d + 1) 31 [.inr 8] S = mm_E (mm_runD d) pX3_count 1 0 [some (.inr 8)] [] S 0 0 := mm_runD_eq (q := (3, yX3_count, cX3_count, 1, 1, 0, pX3_count, qX3_count)) (by decide) rfl rfl rfl rfl
set_option maxRecDepth 100000 in
theorem dX3_add {d : Nat} {S : Mem}  : mm_runD (d + 1) 32 [.inr 8, .inr 11] S = mm_E (mm_runD d) pX3_add 1 0 [some (.inr 8), some (.inr 11), none, none, none] [] S 0 0 := mm_runD_eq (q := (3, yX3_add, cX3_add, 5, 1, 1, pX3_add, qX3_add)) (by decide) rfl rfl rfl rfl
set_option maxRecDepth 100000 in
theorem dX3_startOf {d : Nat} {S : Mem} {x1 : Int32} : mm_runD (d + 1) 33 [.inr 8, .inl x1] S = mm_E (mm_runD d) pX3_startOf 1 0 [some (.inr 8), some (.inl x1)] [] S 0 0 := mm_runD_eq (q := (3, yX3_startOf, cX3_startOf, 2, 1, 1, pX3_startOf, qX3_startOf)) (by decide) rfl rfl rfl rfl
set_option maxRecDepth 100000 in
theorem dX3_signAt {d : Nat} {S : Mem} {x1 : Int32} : mm_runD (d + 1) 34 [.inr 8, .inl x1] S = mm_E (mm_runD d) pX3_signAt 1 0 [some (.inr 8), some (.inl x1)] [] S 0 0 := mm_runD_eq (q := (3, yX3_signAt, cX3_signAt, 2, 1, 1, pX3_signAt, qX3_signAt)) (by decide) rfl rfl rfl rfl
set_option maxRecDepth 100000 in
theorem dX3_endAt {d : Nat} {S : Mem} {x1 : Int32} : mm_runD (d + 1) 35 [.inr 8, .inl x1] S = mm_E (mm_runD d) pX3_endAt 1 0 [some (.inr 8), some (.inl x1)] [] S 0 0 := mm_runD_eq (q := (3, yX3_endAt, cX3_endAt, 2, 1, 1, pX3_endAt, qX3_endAt)) (by decide) rfl rfl rfl rfl
set_option maxRecDepth 100000 in
theorem dX4_begin {d : Nat} {S : Mem} {x1 : Int32} : mm_runD (d + 1) 36 [.inr 25, .inl x1] S = mm_E (mm_runD d) pX4_begin 0 0 [some (.inr 25), some (.inl x1), none, none] [] S 0 0 := mm_runD_eq (q := (4, yX4_begin, cX4_begin, 4, 0, 1, pX4_begin, qX4_begin)) (by decide) rfl rfl rfl rfl
set_option maxRecDepth 100000 in
theorem dX4_makerAt {d : Nat} {S : Mem} {x1 : Int32} : mm_runD (d + 1) 37 [.inr 25, .inl x1] S = mm_E (mm_runD d) pX4_makerAt 1 0 [some (.inr 25), some (.inl x1)] [] S 0 0 := mm_runD_eq (q := (4, yX4_makerAt, cX4_makerAt, 2, 1, 1, pX4_makerAt, qX4_makerAt)) (by decide) rfl rfl rfl rfl
set_option maxRecDepth 100000 in
theorem dX4_openUp {d : Nat} {S : Mem} {x1 : Int32} {x2 : Int32} : mm_runD (d + 1) 38 [.inr 25, .inl x1, .inl x2] S = mm_E (mm_runD d) pX4_openUp 0 0 [some (.inr 25), some (.inl x1), some (.inl x2), none, none, none] [] S 0 0 := mm_runD_eq (q := (4, yX4_openUp, cX4_openUp, 6, 0, 2, pX4_openUp, qX4_openUp)) (by decide) rfl rfl rfl rfl
set_option maxRecDepth 100000 in
theorem dX4_makeGap {d : Nat} {S : Mem} {x1 : Int32} {x2 : Int32} : mm_runD (d + 1) 39 [.inr 25, .inl x1, .inl x2] S = mm_E (mm_runD d) pX4_makeGap 0 0 [some (.inr 25), some (.inl x1), some (.inl x2), none, none] [] S 0 0 := mm_runD_eq (q := (4, yX4_makeGap, cX4_makeGap, 5, 0, 2, pX4_makeGap, qX4_makeGap)) (by decide) rfl rfl rfl rfl
set_option maxRecDepth 100000 in
theorem dX4_isSeat {d : Nat} {S : Mem} {x1 : Int32} : mm_runD (d + 1) 40 [.inr 25, .inl x1] S = mm_E (mm_runD d) pX4_isSeat 2 0 [some (.inr 25), some (.inl x1)] [] S 0 0 := mm_runD_eq (q := (4, yX4_isSeat, cX4_isSeat, 2, 2, 1, pX4_isSeat, qX4_isSeat)) (by decide) rfl rfl rfl rfl
set_option maxRecDepth 100000 in
theorem dX5_begin {d : Nat} {S : Mem} {x2 : Int32} : mm_runD (d + 1) 41 [.inr 21, .inr 7, .inl x2] S = mm_E (mm_runD d) pX5_begin 0 0 [some (.inr 21), some (.inr 7), some (.inl x2), none, none, none, none] [] S 0 0 := mm_runD_eq (q := (5, yX5_begin, cX5_begin, 7, 0, 2, pX5_begin, qX5_begin)) (by decide) rfl rfl rfl rfl
set_option maxRecDepth 100000 in
theorem dX5_hasOpen {d : Nat} {S : Mem}  : mm_runD (d + 1) 42 [.inr 21] S = mm_E (mm_runD d) pX5_hasOpen 2 0 [some (.inr 21)] [] S 0 0 := mm_runD_eq (q := (5, yX5_hasOpen, cX5_hasOpen, 1, 2, 0, pX5_hasOpen, qX5_hasOpen)) (by decide) rfl rfl rfl rfl
set_option maxRecDepth 100000 in
theorem dX5_drop {d : Nat} {S : Mem}  : mm_runD (d + 1) 43 [.inr 21] S = mm_E (mm_runD d) pX5_drop 0 0 [some (.inr 21)] [] S 0 0 := mm_runD_eq (q := (5, yX5_drop, cX5_drop, 1, 0, 0, pX5_drop, qX5_drop)) (by decide) rfl rfl rfl rfl
set_option maxRecDepth 100000 in
theorem dX5_placeCount {d : Nat} {S : Mem}  : mm_runD (d + 1) 44 [.inr 21] S = mm_E (mm_runD d) pX5_placeCount 1 0 [some (.inr 21)] [] S 0 0 := mm_runD_eq (q := (5, yX5_placeCount, cX5_placeCount, 1, 1, 0, pX5_placeCount, qX5_placeCount)) (by decide) rfl rfl rfl rfl
set_option maxRecDepth 100000 in
theorem dX5_lineCount {d : Nat} {S : Mem}  : mm_runD (d + 1) 45 [.inr 21] S = mm_E (mm_runD d) pX5_lineCount 1 0 [some (.inr 21)] [] S 0 0 := mm_runD_eq (q := (5, yX5_lineCount, cX5_lineCount, 1, 1, 0, pX5_lineCount, qX5_lineCount)) (by decide) rfl rfl rfl rfl
set_option maxRecDepth 100000 in
theorem dX5_openNode {d : Nat} {S : Mem}  : mm_runD (d + 1) 46 [.inr 21] S = mm_E (mm_runD d) pX5_openNode 1 0 [some (.inr 21)] [] S 0 0 := mm_runD_eq (q := (5, yX5_openNode, cX5_openNode, 1, 1, 0, pX5_openNode, qX5_openNode)) (by decide) rfl rfl rfl rfl
set_option maxRecDepth 100000 in
theorem dX5_typeAt {d : Nat} {S : Mem} {x1 : Int32} : mm_runD (d + 1) 47 [.inr 21, .inl x1] S = mm_E (mm_runD d) pX5_typeAt 1 0 [some (.inr 21), some (.inl x1)] [] S 0 0 := mm_runD_eq (q := (5, yX5_typeAt, cX5_typeAt, 2, 1, 1, pX5_typeAt, qX5_typeAt)) (by decide) rfl rfl rfl rfl
set_option maxRecDepth 100000 in
theorem dX5_firstRow {d : Nat} {S : Mem}  : mm_runD (d + 1) 48 [.inr 21] S = mm_E (mm_runD d) pX5_firstRow 1 0 [some (.inr 21)] [] S 0 0 := mm_runD_eq (q := (5, yX5_firstRow, cX5_firstRow, 1, 1, 0, pX5_firstRow, qX5_firstRow)) (by decide) rfl rfl rfl rfl
set_option maxRecDepth 100000 in
theorem dX5_splitEithers {d : Nat} {S : Mem}  : mm_runD (d + 1) 49 [.inr 21] S = mm_E (mm_runD d) pX5_splitEithers 2 0 [some (.inr 21), none, none] [] S 0 0 := mm_runD_eq (q := (5, yX5_splitEithers, cX5_splitEithers, 3, 2, 0, pX5_splitEithers, qX5_splitEithers)) (by decide) rfl rfl rfl rfl
set_option maxRecDepth 100000 in
theorem dX5_firstTested {d : Nat} {S : Mem}  : mm_runD (d + 1) 50 [.inr 21] S = mm_E (mm_runD d) pX5_firstTested 1 0 [some (.inr 21), none] [] S 0 0 := mm_runD_eq (q := (5, yX5_firstTested, cX5_firstTested, 2, 1, 0, pX5_firstTested, qX5_firstTested)) (by decide) rfl rfl rfl rfl
set_option maxRecDepth 100000 in
theorem dX5_keepFor {d : Nat} {S : Mem} {x1 : Int32} {x2 : Int32} : mm_runD (d + 1) 51 [.inr 21, .inl x1, .inl x2] S = mm_E (mm_runD d) pX5_keepFor 0 0 [some (.inr 21), some (.inl x1), some (.inl x2)] [] S 0 0 := mm_runD_eq (q := (5, yX5_keepFor, cX5_keepFor, 3, 0, 2, pX5_keepFor, qX5_keepFor)) (by decide) rfl rfl rfl rfl
set_option maxRecDepth 100000 in
theorem dX5_nextBranch {d : Nat} {S : Mem}  : mm_runD (d + 1) 52 [.inr 21] S = mm_E (mm_runD d) pX5_nextBranch 1 0 [some (.inr 21), none, none] [] S 0 0 := mm_runD_eq (q := (5, yX5_nextBranch, cX5_nextBranch, 3, 1, 0, pX5_nextBranch, qX5_nextBranch)) (by decide) rfl rfl rfl rfl
set_option maxRecDepth 100000 in
theorem dX5_openBranch {d : Nat} {S : Mem} {x1 : Int32} {x2 : Int32} : mm_runD (d + 1) 53 [.inr 21, .inl x1, .inl x2] S = mm_E (mm_runD d) pX5_openBranch 2 0 [some (.inr 21), some (.inl x1), some (.inl x2), none, none, none, none, none, none, none, none] [] S 0 0 := mm_runD_eq (q := (5, yX5_openBranch, cX5_openBranch, 11, 2, 2, pX5_openBranch, qX5_openBranch)) (by decide) rfl rfl rfl rfl
set_option maxRecDepth 100000 in
theorem dX5_pile {d : Nat} {S : Mem} {x1 : Int32} {x2 : Int32} : mm_runD (d + 1) 54 [.inr 21, .inl x1, .inl x2] S = mm_E (mm_runD d) pX5_pile 0 0 [some (.inr 21), some (.inl x1), some (.inl x2)] [] S 0 0 := mm_runD_eq (q := (5, yX5_pile, cX5_pile, 3, 0, 2, pX5_pile, qX5_pile)) (by decide) rfl rfl rfl rfl
set_option maxRecDepth 100000 in
theorem dX5_addLine {d : Nat} {S : Mem} {x1 : Int32} : mm_runD (d + 1) 55 [.inr 21, .inl x1] S = mm_E (mm_runD d) pX5_addLine 1 0 [some (.inr 21), some (.inl x1), none] [] S 0 0 := mm_runD_eq (q := (5, yX5_addLine, cX5_addLine, 3, 1, 1, pX5_addLine, qX5_addLine)) (by decide) rfl rfl rfl rfl
set_option maxRecDepth 100000 in
theorem dX5_splitAt {d : Nat} {S : Mem} {x1 : Int32} {x2 : Int32} : mm_runD (d + 1) 56 [.inr 21, .inl x1, .inl x2] S = mm_E (mm_runD d) pX5_splitAt 2 0 [some (.inr 21), some (.inl x1), some (.inl x2), none, none, none, none] [] S 0 0 := mm_runD_eq (q := (5, yX5_splitAt, cX5_splitAt, 7, 2, 2, pX5_splitAt, qX5_splitAt)) (by decide) rfl rfl rfl rfl
set_option maxRecDepth 100000 in
theorem dX5_isEither {d : Nat} {S : Mem} {x1 : Int32} : mm_runD (d + 1) 57 [.inr 21, .inl x1] S = mm_E (mm_runD d) pX5_isEither 2 0 [some (.inr 21), some (.inl x1)] [] S 0 0 := mm_runD_eq (q := (5, yX5_isEither, cX5_isEither, 2, 2, 1, pX5_isEither, qX5_isEither)) (by decide) rfl rfl rfl rfl
set_option maxRecDepth 100000 in
theorem dX5_doubleLine {d : Nat} {S : Mem} {x1 : Int32} : mm_runD (d + 1) 58 [.inr 21, .inl x1] S = mm_E (mm_runD d) pX5_doubleLine 0 0 [some (.inr 21), some (.inl x1), none, none] [] S 0 0 := mm_runD_eq (q := (5, yX5_doubleLine, cX5_doubleLine, 4, 0, 1, pX5_doubleLine, qX5_doubleLine)) (by decide) rfl rfl rfl rfl
set_option maxRecDepth 100000 in
theorem dX5_copyAround {d : Nat} {S : Mem} {x1 : Int32} {x2 : Int32} {x3 : Int32} {x4 : Int32} {x5 : Int32} : mm_runD (d + 1) 59 [.inr 21, .inl x1, .inl x2, .inl x3, .inl x4, .inl x5] S = mm_E (mm_runD d) pX5_copyAround 0 0 [some (.inr 21), some (.inl x1), some (.inl x2), some (.inl x3), some (.inl x4), some (.inl x5)] [] S 0 0 := mm_runD_eq (q := (5, yX5_copyAround, cX5_copyAround, 6, 0, 5, pX5_copyAround, qX5_copyAround)) (by decide) rfl rfl rfl rfl
set_option maxRecDepth 100000 in
theorem dX5_putFields {d : Nat} {S : Mem} {x1 : Int32} {x2 : Int32} {x3 : Int32} : mm_runD (d + 1) 60 [.inr 21, .inl x1, .inl x2, .inl x3] S = mm_E (mm_runD d) pX5_putFields 0 0 [some (.inr 21), some (.inl x1), some (.inl x2), some (.inl x3), none, none] [] S 0 0 := mm_runD_eq (q := (5, yX5_putFields, cX5_putFields, 6, 0, 3, pX5_putFields, qX5_putFields)) (by decide) rfl rfl rfl rfl
set_option maxRecDepth 100000 in
theorem dX5_cellOf {d : Nat} {S : Mem} {x1 : Int32} : mm_runD (d + 1) 61 [.inr 21, .inl x1] S = mm_E (mm_runD d) pX5_cellOf 1 0 [some (.inr 21), some (.inl x1)] [] S 0 0 := mm_runD_eq (q := (5, yX5_cellOf, cX5_cellOf, 2, 1, 1, pX5_cellOf, qX5_cellOf)) (by decide) rfl rfl rfl rfl
set_option maxRecDepth 100000 in
theorem dX5_lineAt {d : Nat} {S : Mem} {x1 : Int32} : mm_runD (d + 1) 62 [.inr 21, .inl x1] S = mm_E (mm_runD d) pX5_lineAt 1 0 [some (.inr 21), some (.inl x1)] [] S 0 0 := mm_runD_eq (q := (5, yX5_lineAt, cX5_lineAt, 2, 1, 1, pX5_lineAt, qX5_lineAt)) (by decide) rfl rfl rfl rfl
set_option maxRecDepth 100000 in
theorem dX5_head {d : Nat} {S : Mem} {x1 : Int32} : mm_runD (d + 1) 63 [.inr 21, .inl x1] S = mm_E (mm_runD d) pX5_head 1 0 [some (.inr 21), some (.inl x1)] [] S 0 0 := mm_runD_eq (q := (5, yX5_head, cX5_head, 2, 1, 1, pX5_head, qX5_head)) (by decide) rfl rfl rfl rfl
set_option maxRecDepth 100000 in
theorem dX5_get {d : Nat} {S : Mem} {x1 : Int32} : mm_runD (d + 1) 64 [.inr 21, .inl x1] S = mm_E (mm_runD d) pX5_get 1 0 [some (.inr 21), some (.inl x1)] [] S 0 0 := mm_runD_eq (q := (5, yX5_get, cX5_get, 2, 1, 1, pX5_get, qX5_get)) (by decide) rfl rfl rfl rfl
set_option maxRecDepth 100000 in
theorem dX5_set {d : Nat} {S : Mem} {x1 : Int32} {x2 : Int32} : mm_runD (d + 1) 65 [.inr 21, .inl x1, .inl x2] S = mm_E (mm_runD d) pX5_set 0 0 [some (.inr 21), some (.inl x1), some (.inl x2)] [] S 0 0 := mm_runD_eq (q := (5, yX5_set, cX5_set, 3, 0, 2, pX5_set, qX5_set)) (by decide) rfl rfl rfl rfl
set_option maxRecDepth 100000 in
theorem dX5_copy {d : Nat} {S : Mem} {x1 : Int32} {x2 : Int32} {x3 : Int32} : mm_runD (d + 1) 66 [.inr 21, .inl x1, .inl x2, .inl x3] S = mm_E (mm_runD d) pX5_copy 0 0 [some (.inr 21), some (.inl x1), some (.inl x2), some (.inl x3), none] [] S 0 0 := mm_runD_eq (q := (5, yX5_copy, cX5_copy, 5, 0, 3, pX5_copy, qX5_copy)) (by decide) rfl rfl rfl rfl
set_option maxRecDepth 100000 in
theorem dX6_fell {d : Nat} {S : Mem}  : mm_runD (d + 1) 68 [.inr 19] S = mm_E (mm_runD d) pX6_fell 0 0 [some (.inr 19)] [] S 0 0 := mm_runD_eq (q := (6, yX6_fell, cX6_fell, 1, 0, 0, pX6_fell, qX6_fell)) (by decide) rfl rfl rfl rfl
set_option maxRecDepth 100000 in
theorem dX6_stand {d : Nat} {S : Mem}  : mm_runD (d + 1) 69 [.inr 19] S = mm_E (mm_runD d) pX6_stand 0 0 [some (.inr 19)] [] S 0 0 := mm_runD_eq (q := (6, yX6_stand, cX6_stand, 1, 0, 0, pX6_stand, qX6_stand)) (by decide) rfl rfl rfl rfl
set_option maxRecDepth 100000 in
theorem dX6_stands {d : Nat} {S : Mem}  : mm_runD (d + 1) 70 [.inr 19] S = mm_E (mm_runD d) pX6_stands 2 0 [some (.inr 19)] [] S 0 0 := mm_runD_eq (q := (6, yX6_stands, cX6_stands, 1, 2, 0, pX6_stands, qX6_stands)) (by decide) rfl rfl rfl rfl
set_option maxRecDepth 100000 in
theorem dX6_count {d : Nat} {S : Mem}  : mm_runD (d + 1) 71 [.inr 19] S = mm_E (mm_runD d) pX6_count 1 0 [some (.inr 19)] [] S 0 0 := mm_runD_eq (q := (6, yX6_count, cX6_count, 1, 1, 0, pX6_count, qX6_count)) (by decide) rfl rfl rfl rfl
set_option maxRecDepth 100000 in
theorem dX6_failCount {d : Nat} {S : Mem}  : mm_runD (d + 1) 72 [.inr 19] S = mm_E (mm_runD d) pX6_failCount 1 0 [some (.inr 19)] [] S 0 0 := mm_runD_eq (q := (6, yX6_failCount, cX6_failCount, 1, 1, 0, pX6_failCount, qX6_failCount)) (by decide) rfl rfl rfl rfl
set_option maxRecDepth 100000 in
theorem dX6_add {d : Nat} {S : Mem} {x1 : Int32} {x2 : Int32} : mm_runD (d + 1) 73 [.inr 19, .inl x1, .inl x2] S = mm_E (mm_runD d) pX6_add 1 0 [some (.inr 19), some (.inl x1), some (.inl x2), none, none] [] S 0 0 := mm_runD_eq (q := (6, yX6_add, cX6_add, 5, 1, 2, pX6_add, qX6_add)) (by decide) rfl rfl rfl rfl
set_option maxRecDepth 100000 in
theorem dX6_makeFail {d : Nat} {S : Mem} {x1 : Int32} : mm_runD (d + 1) 74 [.inr 19, .inl x1] S = mm_E (mm_runD d) pX6_makeFail 0 0 [some (.inr 19), some (.inl x1)] [] S 0 0 := mm_runD_eq (q := (6, yX6_makeFail, cX6_makeFail, 2, 0, 1, pX6_makeFail, qX6_makeFail)) (by decide) rfl rfl rfl rfl
set_option maxRecDepth 100000 in
theorem dX6_makeLeaf {d : Nat} {S : Mem} {x1 : Int32} {x2 : Int32} : mm_runD (d + 1) 75 [.inr 19, .inl x1, .inl x2] S = mm_E (mm_runD d) pX6_makeLeaf 0 0 [some (.inr 19), some (.inl x1), some (.inl x2)] [] S 0 0 := mm_runD_eq (q := (6, yX6_makeLeaf, cX6_makeLeaf, 3, 0, 2, pX6_makeLeaf, qX6_makeLeaf)) (by decide) rfl rfl rfl rfl
set_option maxRecDepth 100000 in
theorem dX6_makeTest {d : Nat} {S : Mem} {x1 : Int32} {x2 : Int32} {x3 : Int32} {x4 : Int32} : mm_runD (d + 1) 76 [.inr 19, .inl x1, .inl x2, .inl x3, .inl x4] S = mm_E (mm_runD d) pX6_makeTest 0 0 [some (.inr 19), some (.inl x1), some (.inl x2), some (.inl x3), some (.inl x4)] [] S 0 0 := mm_runD_eq (q := (6, yX6_makeTest, cX6_makeTest, 5, 0, 4, pX6_makeTest, qX6_makeTest)) (by decide) rfl rfl rfl rfl
set_option maxRecDepth 100000 in
theorem dX6_kindOf {d : Nat} {S : Mem} {x1 : Int32} : mm_runD (d + 1) 77 [.inr 19, .inl x1] S = mm_E (mm_runD d) pX6_kindOf 1 0 [some (.inr 19), some (.inl x1)] [] S 0 0 := mm_runD_eq (q := (6, yX6_kindOf, cX6_kindOf, 2, 1, 1, pX6_kindOf, qX6_kindOf)) (by decide) rfl rfl rfl rfl
set_option maxRecDepth 100000 in
theorem dX6_testedPlace {d : Nat} {S : Mem} {x1 : Int32} : mm_runD (d + 1) 78 [.inr 19, .inl x1] S = mm_E (mm_runD d) pX6_testedPlace 1 0 [some (.inr 19), some (.inl x1)] [] S 0 0 := mm_runD_eq (q := (6, yX6_testedPlace, cX6_testedPlace, 2, 1, 1, pX6_testedPlace, qX6_testedPlace)) (by decide) rfl rfl rfl rfl
set_option maxRecDepth 100000 in
theorem dX6_makerOf {d : Nat} {S : Mem} {x1 : Int32} : mm_runD (d + 1) 79 [.inr 19, .inl x1] S = mm_E (mm_runD d) pX6_makerOf 1 0 [some (.inr 19), some (.inl x1)] [] S 0 0 := mm_runD_eq (q := (6, yX6_makerOf, cX6_makerOf, 2, 1, 1, pX6_makerOf, qX6_makerOf)) (by decide) rfl rfl rfl rfl
set_option maxRecDepth 100000 in
theorem dX6_tell {d : Nat} {S : Mem} {x1 : Int32} {x2 : Int32} : mm_runD (d + 1) 80 [.inr 19, .inl x1, .inl x2] S = mm_E (mm_runD d) pX6_tell 1 0 [some (.inr 19), some (.inl x1), some (.inl x2)] [] S 0 0 := mm_runD_eq (q := (6, yX6_tell, cX6_tell, 3, 1, 2, pX6_tell, qX6_tell)) (by decide) rfl rfl rfl rfl
set_option maxRecDepth 100000 in
theorem dX6_branchOf {d : Nat} {S : Mem} {x1 : Int32} {x2 : Int32} : mm_runD (d + 1) 81 [.inr 19, .inl x1, .inl x2] S = mm_E (mm_runD d) pX6_branchOf 1 0 [some (.inr 19), some (.inl x1), some (.inl x2), none, none] [] S 0 0 := mm_runD_eq (q := (6, yX6_branchOf, cX6_branchOf, 5, 1, 2, pX6_branchOf, qX6_branchOf)) (by decide) rfl rfl rfl rfl
set_option maxRecDepth 100000 in
theorem dX6_branchTowards {d : Nat} {S : Mem} {x1 : Int32} {x2 : Int32} : mm_runD (d + 1) 82 [.inr 19, .inl x1, .inl x2] S = mm_E (mm_runD d) pX6_branchTowards 1 0 [some (.inr 19), some (.inl x1), some (.inl x2), none, none, none] [] S 0 0 := mm_runD_eq (q := (6, yX6_branchTowards, cX6_branchTowards, 6, 1, 2, pX6_branchTowards, qX6_branchTowards)) (by decide) rfl rfl rfl rfl
set_option maxRecDepth 100000 in
theorem dX6_failNode {d : Nat} {S : Mem} {x1 : Int32} : mm_runD (d + 1) 83 [.inr 19, .inl x1] S = mm_E (mm_runD d) pX6_failNode 1 0 [some (.inr 19), some (.inl x1), none, none] [] S 0 0 := mm_runD_eq (q := (6, yX6_failNode, cX6_failNode, 4, 1, 1, pX6_failNode, qX6_failNode)) (by decide) rfl rfl rfl rfl
set_option maxRecDepth 100000 in
theorem dX6_hasLeafOf {d : Nat} {S : Mem} {x1 : Int32} : mm_runD (d + 1) 84 [.inr 19, .inl x1] S = mm_E (mm_runD d) pX6_hasLeafOf 2 0 [some (.inr 19), some (.inl x1), none] [] S 0 0 := mm_runD_eq (q := (6, yX6_hasLeafOf, cX6_hasLeafOf, 3, 2, 1, pX6_hasLeafOf, qX6_hasLeafOf)) (by decide) rfl rfl rfl rfl
set_option maxRecDepth 100000 in
theorem dX6_branchAt {d : Nat} {S : Mem} {x1 : Int32} {x2 : Int32} : mm_runD (d + 1) 85 [.inr 19, .inl x1, .inl x2] S = mm_E (mm_runD d) pX6_branchAt 1 0 [some (.inr 19), some (.inl x1), some (.inl x2), none, none] [] S 0 0 := mm_runD_eq (q := (6, yX6_branchAt, cX6_branchAt, 5, 1, 2, pX6_branchAt, qX6_branchAt)) (by decide) rfl rfl rfl rfl
set_option maxRecDepth 100000 in
theorem dX6_hang {d : Nat} {S : Mem} {x1 : Int32} {x2 : Int32} : mm_runD (d + 1) 86 [.inr 19, .inl x1, .inl x2] S = mm_E (mm_runD d) pX6_hang 0 0 [some (.inr 19), some (.inl x1), some (.inl x2), none] [] S 0 0 := mm_runD_eq (q := (6, yX6_hang, cX6_hang, 4, 0, 2, pX6_hang, qX6_hang)) (by decide) rfl rfl rfl rfl
set_option maxRecDepth 100000 in
theorem dX6_get {d : Nat} {S : Mem} {x1 : Int32} {x2 : Int32} : mm_runD (d + 1) 87 [.inr 19, .inl x1, .inl x2] S = mm_E (mm_runD d) pX6_get 1 0 [some (.inr 19), some (.inl x1), some (.inl x2), none] [] S 0 0 := mm_runD_eq (q := (6, yX6_get, cX6_get, 4, 1, 2, pX6_get, qX6_get)) (by decide) rfl rfl rfl rfl
set_option maxRecDepth 100000 in
theorem dX6_set {d : Nat} {S : Mem} {x1 : Int32} {x2 : Int32} {x3 : Int32} : mm_runD (d + 1) 88 [.inr 19, .inl x1, .inl x2, .inl x3] S = mm_E (mm_runD d) pX6_set 0 0 [some (.inr 19), some (.inl x1), some (.inl x2), some (.inl x3)] [] S 0 0 := mm_runD_eq (q := (6, yX6_set, cX6_set, 4, 0, 3, pX6_set, qX6_set)) (by decide) rfl rfl rfl rfl
set_option maxRecDepth 100000 in
theorem dX7_type {d : Nat} {S : Mem}  : mm_runD (d + 1) 89 [.inr 0] S = mm_E (mm_runD d) pX7_type 1 0 [some (.inr 0)] [] S 0 0 := mm_runD_eq (q := (7, yX7_type, cX7_type, 1, 1, 0, pX7_type, qX7_type)) (by decide) rfl rfl rfl rfl
set_option maxRecDepth 100000 in
theorem dX7_maker {d : Nat} {S : Mem} {x1 : Int32} {x2 : Int32} {x3 : Int32} {x4 : Int32} : mm_runD (d + 1) 90 [.inr 0, .inl x1, .inl x2, .inl x3, .inl x4] S = mm_E (mm_runD d) pX7_maker 1 0 [some (.inr 0), some (.inl x1), some (.inl x2), some (.inl x3), some (.inl x4), none] [] S 0 0 := mm_runD_eq (q := (7, yX7_maker, cX7_maker, 6, 1, 4, pX7_maker, qX7_maker)) (by decide) rfl rfl rfl rfl
set_option maxRecDepth 100000 in
theorem dX7_isEmpty {d : Nat} {S : Mem} {x1 : Int32} : mm_runD (d + 1) 91 [.inr 0, .inl x1] S = mm_E (mm_runD d) pX7_isEmpty 2 0 [some (.inr 0), some (.inl x1)] [] S 0 0 := mm_runD_eq (q := (7, yX7_isEmpty, cX7_isEmpty, 2, 2, 1, pX7_isEmpty, qX7_isEmpty)) (by decide) rfl rfl rfl rfl
set_option maxRecDepth 100000 in
theorem dX7_match {d : Nat} {S : Mem} {x1 : Int32} {x2 : Int32} {x3 : Int32} : mm_runD (d + 1) 92 [.inr 0, .inl x1, .inl x2, .inl x3] S = mm_E (mm_runD d) pX7_match 0 0 [some (.inr 0), some (.inl x1), some (.inl x2), some (.inl x3), none] [] S 0 0 := mm_runD_eq (q := (7, yX7_match, cX7_match, 5, 0, 3, pX7_match, qX7_match)) (by decide) rfl rfl rfl rfl
set_option maxRecDepth 100000 in
theorem dX7_sign {d : Nat} {S : Mem} {x1 : Int32} : mm_runD (d + 1) 93 [.inr 0, .inl x1] S = mm_E (mm_runD d) pX7_sign 1 0 [some (.inr 0), some (.inl x1), none] [] S 0 0 := mm_runD_eq (q := (7, yX7_sign, cX7_sign, 3, 1, 1, pX7_sign, qX7_sign)) (by decide) rfl rfl rfl rfl
set_option maxRecDepth 100000 in
theorem dX7_row {d : Nat} {S : Mem}  : mm_runD (d + 1) 94 [.inr 0] S = mm_E (mm_runD d) pX7_row 1 0 [some (.inr 0), none] [] S 0 0 := mm_runD_eq (q := (7, yX7_row, cX7_row, 2, 1, 0, pX7_row, qX7_row)) (by decide) rfl rfl rfl rfl
set_option maxRecDepth 100000 in
theorem dX7_compile {d : Nat} {S : Mem}  : mm_runD (d + 1) 95 [.inr 0] S = mm_E (mm_runD d) pX7_compile 1 0 [some (.inr 0), none] [] S 0 0 := mm_runD_eq (q := (7, yX7_compile, cX7_compile, 2, 1, 0, pX7_compile, qX7_compile)) (by decide) rfl rfl rfl rfl
set_option maxRecDepth 100000 in
theorem dX7_node {d : Nat} {S : Mem} {x1 : Int32} {x2 : Int32} : mm_runD (d + 1) 96 [.inr 0, .inl x1, .inl x2] S = mm_E (mm_runD d) pX7_node 1 0 [some (.inr 0), some (.inl x1), some (.inl x2)] [] S 0 0 := mm_runD_eq (q := (7, yX7_node, cX7_node, 3, 1, 2, pX7_node, qX7_node)) (by decide) rfl rfl rfl rfl
set_option maxRecDepth 100000 in
theorem dX7_missing {d : Nat} {S : Mem}  : mm_runD (d + 1) 97 [.inr 0] S = mm_E (mm_runD d) pX7_missing 1 0 [some (.inr 0)] [] S 0 0 := mm_runD_eq (q := (7, yX7_missing, cX7_missing, 1, 1, 0, pX7_missing, qX7_missing)) (by decide) rfl rfl rfl rfl
set_option maxRecDepth 100000 in
theorem dX7_missingSign {d : Nat} {S : Mem} {x1 : Int32} {x2 : Int32} : mm_runD (d + 1) 98 [.inr 0, .inl x1, .inl x2] S = mm_E (mm_runD d) pX7_missingSign 1 0 [some (.inr 0), some (.inl x1), some (.inl x2)] [] S 0 0 := mm_runD_eq (q := (7, yX7_missingSign, cX7_missingSign, 3, 1, 2, pX7_missingSign, qX7_missingSign)) (by decide) rfl rfl rfl rfl
set_option maxRecDepth 100000 in
theorem dX7_isIdle {d : Nat} {S : Mem} {x1 : Int32} : mm_runD (d + 1) 99 [.inr 0, .inl x1] S = mm_E (mm_runD d) pX7_isIdle 2 0 [some (.inr 0), some (.inl x1)] [] S 0 0 := mm_runD_eq (q := (7, yX7_isIdle, cX7_isIdle, 2, 2, 1, pX7_isIdle, qX7_isIdle)) (by decide) rfl rfl rfl rfl
set_option maxRecDepth 100000 in
theorem dX7_give {d : Nat} {S : Mem} {x1 : Int32} : mm_runD (d + 1) 100 [.inr 0, .inl x1] S = mm_E (mm_runD d) pX7_give 1 0 [some (.inr 0), some (.inl x1)] [] S 0 0 := mm_runD_eq (q := (7, yX7_give, cX7_give, 2, 1, 1, pX7_give, qX7_give)) (by decide) rfl rfl rfl rfl
set_option maxRecDepth 100000 in
theorem dX7_answer {d : Nat} {S : Mem}  : mm_runD (d + 1) 101 [.inr 0] S = mm_E (mm_runD d) pX7_answer 1 0 [some (.inr 0), none] [] S 0 0 := mm_runD_eq (q := (7, yX7_answer, cX7_answer, 2, 1, 0, pX7_answer, qX7_answer)) (by decide) rfl rfl rfl rfl
set_option maxRecDepth 100000 in
theorem dX7_tests {d : Nat} {S : Mem}  : mm_runD (d + 1) 102 [.inr 0] S = mm_E (mm_runD d) pX7_tests 1 0 [some (.inr 0)] [] S 0 0 := mm_runD_eq (q := (7, yX7_tests, cX7_tests, 1, 1, 0, pX7_tests, qX7_tests)) (by decide) rfl rfl rfl rfl
set_option maxRecDepth 100000 in
theorem dX7_empty {d : Nat} {S : Mem}  : mm_runD (d + 1) 103 [.inr 0] S = mm_E (mm_runD d) pX7_empty 0 0 [some (.inr 0)] [] S 0 0 := mm_runD_eq (q := (7, yX7_empty, cX7_empty, 1, 0, 0, pX7_empty, qX7_empty)) (by decide) rfl rfl rfl rfl
set_option maxRecDepth 100000 in
theorem dX7_about {d : Nat} {S : Mem} {x1 : Int32} : mm_runD (d + 1) 104 [.inr 0, .inl x1] S = mm_E (mm_runD d) pX7_about 1 0 [some (.inr 0), some (.inl x1)] [] S 0 0 := mm_runD_eq (q := (7, yX7_about, cX7_about, 2, 1, 1, pX7_about, qX7_about)) (by decide) rfl rfl rfl rfl
set_option maxRecDepth 100000 in
theorem dX7_countTypes {d : Nat} {S : Mem} {x1 : Int32} {x2 : Int32} {x3 : Int32} : mm_runD (d + 1) 105 [.inr 0, .inl x1, .inl x2, .inl x3] S = mm_E (mm_runD d) pX7_countTypes 1 0 [some (.inr 0), some (.inl x1), some (.inl x2), some (.inl x3)] [] S 0 0 := mm_runD_eq (q := (7, yX7_countTypes, cX7_countTypes, 4, 1, 3, pX7_countTypes, qX7_countTypes)) (by decide) rfl rfl rfl rfl
set_option maxRecDepth 100000 in
theorem dX7_beginMatch {d : Nat} {S : Mem} {x1 : Int32} {x2 : Int32} {x3 : Int32} {x4 : Int32} : mm_runD (d + 1) 106 [.inr 0, .inl x1, .inl x2, .inl x3, .inl x4] S = mm_E (mm_runD d) pX7_beginMatch 0 0 [some (.inr 0), some (.inl x1), some (.inl x2), some (.inl x3), some (.inl x4)] [] S 0 0 := mm_runD_eq (q := (7, yX7_beginMatch, cX7_beginMatch, 5, 0, 4, pX7_beginMatch, qX7_beginMatch)) (by decide) rfl rfl rfl rfl
set_option maxRecDepth 100000 in
theorem dX7_refuseWithoutMatch {d : Nat} {S : Mem}  : mm_runD (d + 1) 107 [.inr 0] S = mm_E (mm_runD d) pX7_refuseWithoutMatch 0 0 [some (.inr 0)] [] S 0 0 := mm_runD_eq (q := (7, yX7_refuseWithoutMatch, cX7_refuseWithoutMatch, 1, 0, 0, pX7_refuseWithoutMatch, qX7_refuseWithoutMatch)) (by decide) rfl rfl rfl rfl
set_option maxRecDepth 100000 in
theorem dX7_refuseWithoutWholeValues {d : Nat} {S : Mem}  : mm_runD (d + 1) 108 [.inr 0] S = mm_E (mm_runD d) pX7_refuseWithoutWholeValues 0 0 [some (.inr 0)] [] S 0 0 := mm_runD_eq (q := (7, yX7_refuseWithoutWholeValues, cX7_refuseWithoutWholeValues, 1, 0, 0, pX7_refuseWithoutWholeValues, qX7_refuseWithoutWholeValues)) (by decide) rfl rfl rfl rfl
set_option maxRecDepth 100000 in
theorem dX7_rowTakesValues {d : Nat} {S : Mem} {x1 : Int32} : mm_runD (d + 1) 109 [.inr 0, .inl x1] S = mm_E (mm_runD d) pX7_rowTakesValues 2 0 [some (.inr 0), some (.inl x1), none, none, none] [] S 0 0 := mm_runD_eq (q := (7, yX7_rowTakesValues, cX7_rowTakesValues, 5, 2, 1, pX7_rowTakesValues, qX7_rowTakesValues)) (by decide) rfl rfl rfl rfl
set_option maxRecDepth 100000 in
theorem dX7_takes {d : Nat} {S : Mem} {x1 : Int32} {x2 : Int32} {x3 : Int32} : mm_runD (d + 1) 110 [.inr 0, .inl x1, .inl x2, .inl x3] S = mm_E (mm_runD d) pX7_takes 2 0 [some (.inr 0), some (.inl x1), some (.inl x2), some (.inl x3), none, none, none, none, none] [] S 0 0 := mm_runD_eq (q := (7, yX7_takes, cX7_takes, 9, 2, 3, pX7_takes, qX7_takes)) (by decide) rfl rfl rfl rfl
set_option maxRecDepth 100000 in
theorem dX7_countTests {d : Nat} {S : Mem}  : mm_runD (d + 1) 111 [.inr 0] S = mm_E (mm_runD d) pX7_countTests 1 0 [some (.inr 0), none, none, none, none] [] S 0 0 := mm_runD_eq (q := (7, yX7_countTests, cX7_countTests, 5, 1, 0, pX7_countTests, qX7_countTests)) (by decide) rfl rfl rfl rfl
set_option maxRecDepth 100000 in
theorem dX7_growTree {d : Nat} {S : Mem}  : mm_runD (d + 1) 112 [.inr 0] S = mm_E (mm_runD d) pX7_growTree 2 0 [some (.inr 0), none, none, none, none] [] S 0 0 := mm_runD_eq (q := (7, yX7_growTree, cX7_growTree, 5, 2, 0, pX7_growTree, qX7_growTree)) (by decide) rfl rfl rfl rfl
set_option maxRecDepth 100000 in
theorem dX7_addNode {d : Nat} {S : Mem} {x1 : Int32} {x2 : Int32} : mm_runD (d + 1) 113 [.inr 0, .inl x1, .inl x2] S = mm_E (mm_runD d) pX7_addNode 2 0 [some (.inr 0), some (.inl x1), some (.inl x2), none, none, none] [] S 0 0 := mm_runD_eq (q := (7, yX7_addNode, cX7_addNode, 6, 2, 2, pX7_addNode, qX7_addNode)) (by decide) rfl rfl rfl rfl
set_option maxRecDepth 100000 in
theorem dX8_thrown {d : Nat} {S : Mem}  : mm_runD (d + 1) 114 [.inr 27] S = mm_E (mm_runD d) pX8_thrown 1 0 [some (.inr 27)] [] S 0 0 := mm_runD_eq (q := (8, yX8_thrown, cX8_thrown, 1, 1, 0, pX8_thrown, qX8_thrown)) (by decide) rfl rfl rfl rfl
set_option maxRecDepth 100000 in
theorem dX8_isType {d : Nat} {S : Mem} {x1 : Int32} : mm_runD (d + 1) 115 [.inr 27, .inl x1] S = mm_E (mm_runD d) pX8_isType 2 0 [some (.inr 27), some (.inl x1)] [] S 0 0 := mm_runD_eq (q := (8, yX8_isType, cX8_isType, 2, 2, 1, pX8_isType, qX8_isType)) (by decide) rfl rfl rfl rfl
set_option maxRecDepth 100000 in
theorem dX8_makersOf {d : Nat} {S : Mem} {x1 : Int32} : mm_runD (d + 1) 116 [.inr 27, .inl x1] S = mm_E (mm_runD d) pX8_makersOf 1 0 [some (.inr 27), some (.inl x1), none, none] [] S 0 0 := mm_runD_eq (q := (8, yX8_makersOf, cX8_makersOf, 4, 1, 1, pX8_makersOf, qX8_makersOf)) (by decide) rfl rfl rfl rfl
set_option maxRecDepth 100000 in
theorem dX8_fields {d : Nat} {S : Mem} {x1 : Int32} : mm_runD (d + 1) 117 [.inr 27, .inl x1] S = mm_E (mm_runD d) pX8_fields 1 0 [some (.inr 27), some (.inl x1)] [] S 0 0 := mm_runD_eq (q := (8, yX8_fields, cX8_fields, 2, 1, 1, pX8_fields, qX8_fields)) (by decide) rfl rfl rfl rfl
set_option maxRecDepth 100000 in
theorem dX8_type {d : Nat} {S : Mem}  : mm_runD (d + 1) 118 [.inr 27] S = mm_E (mm_runD d) pX8_type 1 0 [some (.inr 27)] [] S 0 0 := mm_runD_eq (q := (8, yX8_type, cX8_type, 1, 1, 0, pX8_type, qX8_type)) (by decide) rfl rfl rfl rfl
set_option maxRecDepth 100000 in
theorem dX8_areTypes {d : Nat} {S : Mem} {x1 : Int32} {x2 : Int32} {x3 : Int32} : mm_runD (d + 1) 119 [.inr 27, .inl x1, .inl x2, .inl x3] S = mm_E (mm_runD d) pX8_areTypes 2 0 [some (.inr 27), some (.inl x1), some (.inl x2), some (.inl x3)] [] S 0 0 := mm_runD_eq (q := (8, yX8_areTypes, cX8_areTypes, 4, 2, 3, pX8_areTypes, qX8_areTypes)) (by decide) rfl rfl rfl rfl
set_option maxRecDepth 100000 in
theorem dX8_maker {d : Nat} {S : Mem} {x1 : Int32} {x2 : Int32} {x3 : Int32} {x4 : Int32} : mm_runD (d + 1) 120 [.inr 27, .inl x1, .inl x2, .inl x3, .inl x4] S = mm_E (mm_runD d) pX8_maker 1 0 [some (.inr 27), some (.inl x1), some (.inl x2), some (.inl x3), some (.inl x4)] [] S 0 0 := mm_runD_eq (q := (8, yX8_maker, cX8_maker, 5, 1, 4, pX8_maker, qX8_maker)) (by decide) rfl rfl rfl rfl
set_option maxRecDepth 100000 in
theorem dX8_find {d : Nat} {S : Mem}  : mm_runD (d + 1) 121 [.inr 27] S = mm_E (mm_runD d) pX8_find 0 0 [some (.inr 27), none, none] [] S 0 0 := mm_runD_eq (q := (8, yX8_find, cX8_find, 3, 0, 0, pX8_find, qX8_find)) (by decide) rfl rfl rfl rfl
set_option maxRecDepth 100000 in
theorem dX8_isDead {d : Nat} {S : Mem} {x1 : Int32} : mm_runD (d + 1) 122 [.inr 27, .inl x1] S = mm_E (mm_runD d) pX8_isDead 2 0 [some (.inr 27), some (.inl x1), none, none] [] S 0 0 := mm_runD_eq (q := (8, yX8_isDead, cX8_isDead, 4, 2, 1, pX8_isDead, qX8_isDead)) (by decide) rfl rfl rfl rfl
set_option maxRecDepth 100000 in
theorem dX8_isEmpty {d : Nat} {S : Mem} {x1 : Int32} : mm_runD (d + 1) 123 [.inr 27, .inl x1] S = mm_E (mm_runD d) pX8_isEmpty 2 0 [some (.inr 27), some (.inl x1)] [] S 0 0 := mm_runD_eq (q := (8, yX8_isEmpty, cX8_isEmpty, 2, 2, 1, pX8_isEmpty, qX8_isEmpty)) (by decide) rfl rfl rfl rfl
set_option maxRecDepth 100000 in
theorem dX8_forget {d : Nat} {S : Mem}  : mm_runD (d + 1) 124 [.inr 27] S = mm_E (mm_runD d) pX8_forget 0 0 [some (.inr 27)] [] S 0 0 := mm_runD_eq (q := (8, yX8_forget, cX8_forget, 1, 0, 0, pX8_forget, qX8_forget)) (by decide) rfl rfl rfl rfl
set_option maxRecDepth 100000 in
theorem dX8_match {d : Nat} {S : Mem} {x1 : Int32} {x2 : Int32} {x3 : Int32} : mm_runD (d + 1) 125 [.inr 27, .inl x1, .inl x2, .inl x3] S = mm_E (mm_runD d) pX8_match 0 0 [some (.inr 27), some (.inl x1), some (.inl x2), some (.inl x3)] [] S 0 0 := mm_runD_eq (q := (8, yX8_match, cX8_match, 4, 0, 3, pX8_match, qX8_match)) (by decide) rfl rfl rfl rfl
set_option maxRecDepth 100000 in
theorem dX8_next_34 {d : Nat} {S : Mem} {x2 : Int32} : mm_runD (d + 1) 126 [.inr 27, .inr 34, .inl x2] S = mm_E (mm_runD d) pX8_next 1 0 [some (.inr 27), some (.inr 34), some (.inl x2), none, none, none, none, none] [] S 0 0 := mm_runD_eq (q := (8, yX8_next, cX8_next, 8, 1, 2, pX8_next, qX8_next)) (by decide) rfl rfl rfl rfl
set_option maxRecDepth 100000 in
theorem dX8_next_35 {d : Nat} {S : Mem} {x2 : Int32} : mm_runD (d + 1) 126 [.inr 27, .inr 35, .inl x2] S = mm_E (mm_runD d) pX8_next 1 0 [some (.inr 27), some (.inr 35), some (.inl x2), none, none, none, none, none] [] S 0 0 := mm_runD_eq (q := (8, yX8_next, cX8_next, 8, 1, 2, pX8_next, qX8_next)) (by decide) rfl rfl rfl rfl
set_option maxRecDepth 100000 in
theorem dX8_isMakerOf {d : Nat} {S : Mem} {x1 : Int32} {x2 : Int32} : mm_runD (d + 1) 127 [.inr 27, .inl x1, .inl x2] S = mm_E (mm_runD d) pX8_isMakerOf 2 0 [some (.inr 27), some (.inl x1), some (.inl x2)] [] S 0 0 := mm_runD_eq (q := (8, yX8_isMakerOf, cX8_isMakerOf, 3, 2, 2, pX8_isMakerOf, qX8_isMakerOf)) (by decide) rfl rfl rfl rfl
set_option maxRecDepth 100000 in
theorem dX8_sign {d : Nat} {S : Mem} {x1 : Int32} : mm_runD (d + 1) 128 [.inr 27, .inl x1] S = mm_E (mm_runD d) pX8_sign 1 0 [some (.inr 27), some (.inl x1), none] [] S 0 0 := mm_runD_eq (q := (8, yX8_sign, cX8_sign, 3, 1, 1, pX8_sign, qX8_sign)) (by decide) rfl rfl rfl rfl
set_option maxRecDepth 100000 in
theorem dX8_row {d : Nat} {S : Mem}  : mm_runD (d + 1) 129 [.inr 27] S = mm_E (mm_runD d) pX8_row 1 0 [some (.inr 27), none, none] [] S 0 0 := mm_runD_eq (q := (8, yX8_row, cX8_row, 3, 1, 0, pX8_row, qX8_row)) (by decide) rfl rfl rfl rfl
set_option maxRecDepth 100000 in
theorem dX8_give {d : Nat} {S : Mem} {x1 : Int32} : mm_runD (d + 1) 130 [.inr 27, .inl x1] S = mm_E (mm_runD d) pX8_give 1 0 [some (.inr 27), some (.inl x1)] [] S 0 0 := mm_runD_eq (q := (8, yX8_give, cX8_give, 2, 1, 1, pX8_give, qX8_give)) (by decide) rfl rfl rfl rfl
set_option maxRecDepth 100000 in
theorem dX8_empty {d : Nat} {S : Mem}  : mm_runD (d + 1) 131 [.inr 27] S = mm_E (mm_runD d) pX8_empty 0 0 [some (.inr 27)] [] S 0 0 := mm_runD_eq (q := (8, yX8_empty, cX8_empty, 1, 0, 0, pX8_empty, qX8_empty)) (by decide) rfl rfl rfl rfl
set_option maxRecDepth 100000 in
theorem dX8_behind_32 {d : Nat} {S : Mem} {x2 : Int32} : mm_runD (d + 1) 132 [.inr 27, .inr 32, .inl x2] S = mm_E (mm_runD d) pX8_behind 1 0 [some (.inr 27), some (.inr 32), some (.inl x2), none, none, none] [] S 0 0 := mm_runD_eq (q := (8, yX8_behind, cX8_behind, 6, 1, 2, pX8_behind, qX8_behind)) (by decide) rfl rfl rfl rfl
set_option maxRecDepth 100000 in
theorem dX8_behind_35 {d : Nat} {S : Mem} {x2 : Int32} : mm_runD (d + 1) 132 [.inr 27, .inr 35, .inl x2] S = mm_E (mm_runD d) pX8_behind 1 0 [some (.inr 27), some (.inr 35), some (.inl x2), none, none, none] [] S 0 0 := mm_runD_eq (q := (8, yX8_behind, cX8_behind, 6, 1, 2, pX8_behind, qX8_behind)) (by decide) rfl rfl rfl rfl
set_option maxRecDepth 100000 in
theorem dX8_rowTakes {d : Nat} {S : Mem} {x1 : Int32} : mm_runD (d + 1) 133 [.inr 27, .inl x1] S = mm_E (mm_runD d) pX8_rowTakes 2 0 [some (.inr 27), some (.inl x1), none, none, none, none] [] S 0 0 := mm_runD_eq (q := (8, yX8_rowTakes, cX8_rowTakes, 6, 2, 1, pX8_rowTakes, qX8_rowTakes)) (by decide) rfl rfl rfl rfl
set_option maxRecDepth 100000 in
theorem dX8_fieldsTake {d : Nat} {S : Mem} {x1 : Int32} {x2 : Int32} : mm_runD (d + 1) 134 [.inr 27, .inl x1, .inl x2] S = mm_E (mm_runD d) pX8_fieldsTake 2 0 [some (.inr 27), some (.inl x1), some (.inl x2), none, none, none, none] [] S 0 0 := mm_runD_eq (q := (8, yX8_fieldsTake, cX8_fieldsTake, 7, 2, 2, pX8_fieldsTake, qX8_fieldsTake)) (by decide) rfl rfl rfl rfl
set_option maxRecDepth 100000 in
theorem dX8_canAnswer {d : Nat} {S : Mem}  : mm_runD (d + 1) 135 [.inr 27] S = mm_E (mm_runD d) pX8_canAnswer 2 0 [some (.inr 27)] [] S 0 0 := mm_runD_eq (q := (8, yX8_canAnswer, cX8_canAnswer, 1, 2, 0, pX8_canAnswer, qX8_canAnswer)) (by decide) rfl rfl rfl rfl
set_option maxRecDepth 100000 in
theorem dX8_answer {d : Nat} {S : Mem}  : mm_runD (d + 1) 136 [.inr 27] S = mm_E (mm_runD d) pX8_answer 1 0 [some (.inr 27), none] [] S 0 0 := mm_runD_eq (q := (8, yX8_answer, cX8_answer, 2, 1, 0, pX8_answer, qX8_answer)) (by decide) rfl rfl rfl rfl
set_option maxRecDepth 100000 in
theorem dX8_signOf {d : Nat} {S : Mem} {x1 : Int32} : mm_runD (d + 1) 137 [.inr 27, .inl x1] S = mm_E (mm_runD d) pX8_signOf 1 0 [some (.inr 27), some (.inl x1)] [] S 0 0 := mm_runD_eq (q := (8, yX8_signOf, cX8_signOf, 2, 1, 1, pX8_signOf, qX8_signOf)) (by decide) rfl rfl rfl rfl
set_option maxRecDepth 100000 in
theorem dX8_firstTable {d : Nat} {S : Mem}  : mm_runD (d + 1) 138 [.inr 27] S = mm_E (mm_runD d) pX8_firstTable 0 0 [some (.inr 27), none, none, none] [] S 0 0 := mm_runD_eq (q := (8, yX8_firstTable, cX8_firstTable, 4, 0, 0, pX8_firstTable, qX8_firstTable)) (by decide) rfl rfl rfl rfl
set_option maxRecDepth 100000 in
theorem dX8_part {d : Nat} {S : Mem}  : mm_runD (d + 1) 139 [.inr 27] S = mm_E (mm_runD d) pX8_part 0 0 [some (.inr 27), none, none, none, none] [] S 0 0 := mm_runD_eq (q := (8, yX8_part, cX8_part, 5, 0, 0, pX8_part, qX8_part)) (by decide) rfl rfl rfl rfl
set_option maxRecDepth 100000 in
theorem dX8_doubled {d : Nat} {S : Mem} {x1 : Int32} {x2 : Int32} {x3 : Int32} : mm_runD (d + 1) 140 [.inr 27, .inl x1, .inl x2, .inl x3] S = mm_E (mm_runD d) pX8_doubled 0 0 [some (.inr 27), some (.inl x1), some (.inl x2), some (.inl x3), none, none] [] S 0 0 := mm_runD_eq (q := (8, yX8_doubled, cX8_doubled, 6, 0, 3, pX8_doubled, qX8_doubled)) (by decide) rfl rfl rfl rfl
set_option maxRecDepth 100000 in
theorem dX8_branch {d : Nat} {S : Mem} {x1 : Int32} {x2 : Int32} : mm_runD (d + 1) 141 [.inr 27, .inl x1, .inl x2] S = mm_E (mm_runD d) pX8_branch 0 0 [some (.inr 27), some (.inl x1), some (.inl x2), none, none, none, none, none] [] S 0 0 := mm_runD_eq (q := (8, yX8_branch, cX8_branch, 8, 0, 2, pX8_branch, qX8_branch)) (by decide) rfl rfl rfl rfl
set_option maxRecDepth 100000 in
theorem dX8_widen {d : Nat} {S : Mem} {x1 : Int32} {x2 : Int32} {x3 : Int32} {x4 : Int32} {x5 : Int32} : mm_runD (d + 1) 142 [.inr 27, .inl x1, .inl x2, .inl x3, .inl x4, .inl x5] S = mm_E (mm_runD d) pX8_widen 0 0 [some (.inr 27), some (.inl x1), some (.inl x2), some (.inl x3), some (.inl x4), some (.inl x5), none, none] [] S 0 0 := mm_runD_eq (q := (8, yX8_widen, cX8_widen, 8, 0, 5, pX8_widen, qX8_widen)) (by decide) rfl rfl rfl rfl
set_option maxRecDepth 100000 in
theorem dX8_tableOf {d : Nat} {S : Mem} {x1 : Int32} {x2 : Int32} : mm_runD (d + 1) 143 [.inr 27, .inl x1, .inl x2] S = mm_E (mm_runD d) pX8_tableOf 0 0 [some (.inr 27), some (.inl x1), some (.inl x2), none, none] [] S 0 0 := mm_runD_eq (q := (8, yX8_tableOf, cX8_tableOf, 5, 0, 2, pX8_tableOf, qX8_tableOf)) (by decide) rfl rfl rfl rfl
set_option maxRecDepth 100000 in
theorem dX8_begin {d : Nat} {S : Mem} {x1 : Int32} {x2 : Int32} : mm_runD (d + 1) 144 [.inr 27, .inl x1, .inl x2] S = mm_E (mm_runD d) pX8_begin 0 0 [some (.inr 27), some (.inl x1), some (.inl x2), none, none, none] [] S 0 0 := mm_runD_eq (q := (8, yX8_begin, cX8_begin, 6, 0, 2, pX8_begin, qX8_begin)) (by decide) rfl rfl rfl rfl
set_option maxRecDepth 100000 in
theorem dX8_compile {d : Nat} {S : Mem}  : mm_runD (d + 1) 145 [.inr 27] S = mm_E (mm_runD d) pX8_compile 1 0 [some (.inr 27)] [] S 0 0 := mm_runD_eq (q := (8, yX8_compile, cX8_compile, 1, 1, 0, pX8_compile, qX8_compile)) (by decide) rfl rfl rfl rfl
set_option maxRecDepth 100000 in
theorem dX8_isNode {d : Nat} {S : Mem} {x1 : Int32} : mm_runD (d + 1) 146 [.inr 27, .inl x1] S = mm_E (mm_runD d) pX8_isNode 2 0 [some (.inr 27), some (.inl x1)] [] S 0 0 := mm_runD_eq (q := (8, yX8_isNode, cX8_isNode, 2, 2, 1, pX8_isNode, qX8_isNode)) (by decide) rfl rfl rfl rfl
set_option maxRecDepth 100000 in
theorem dX8_branchOf {d : Nat} {S : Mem} {x1 : Int32} {x2 : Int32} : mm_runD (d + 1) 147 [.inr 27, .inl x1, .inl x2] S = mm_E (mm_runD d) pX8_branchOf 1 0 [some (.inr 27), some (.inl x1), some (.inl x2), none, none] [] S 0 0 := mm_runD_eq (q := (8, yX8_branchOf, cX8_branchOf, 5, 1, 2, pX8_branchOf, qX8_branchOf)) (by decide) rfl rfl rfl rfl
set_option maxRecDepth 100000 in
theorem dX8_node {d : Nat} {S : Mem} {x1 : Int32} {x2 : Int32} : mm_runD (d + 1) 148 [.inr 27, .inl x1, .inl x2] S = mm_E (mm_runD d) pX8_node 1 0 [some (.inr 27), some (.inl x1), some (.inl x2), none] [] S 0 0 := mm_runD_eq (q := (8, yX8_node, cX8_node, 4, 1, 2, pX8_node, qX8_node)) (by decide) rfl rfl rfl rfl
set_option maxRecDepth 100000 in
theorem dX8_missing {d : Nat} {S : Mem}  : mm_runD (d + 1) 149 [.inr 27] S = mm_E (mm_runD d) pX8_missing 1 0 [some (.inr 27), none, none] [] S 0 0 := mm_runD_eq (q := (8, yX8_missing, cX8_missing, 3, 1, 0, pX8_missing, qX8_missing)) (by decide) rfl rfl rfl rfl
set_option maxRecDepth 100000 in
theorem dX8_missingSign {d : Nat} {S : Mem} {x1 : Int32} {x2 : Int32} : mm_runD (d + 1) 150 [.inr 27, .inl x1, .inl x2] S = mm_E (mm_runD d) pX8_missingSign 1 0 [some (.inr 27), some (.inl x1), some (.inl x2), none, none, none] [] S 0 0 := mm_runD_eq (q := (8, yX8_missingSign, cX8_missingSign, 6, 1, 2, pX8_missingSign, qX8_missingSign)) (by decide) rfl rfl rfl rfl
set_option maxRecDepth 100000 in
theorem dX8_tell {d : Nat} {S : Mem} {x1 : Int32} : mm_runD (d + 1) 151 [.inr 27, .inl x1] S = mm_E (mm_runD d) pX8_tell 1 0 [some (.inr 27), some (.inl x1), none, none, none, none, none, none, none, none] [] S 0 0 := mm_runD_eq (q := (8, yX8_tell, cX8_tell, 10, 1, 1, pX8_tell, qX8_tell)) (by decide) rfl rfl rfl rfl
set_option maxRecDepth 100000 in
theorem dX8_isIdle {d : Nat} {S : Mem} {x1 : Int32} : mm_runD (d + 1) 152 [.inr 27, .inl x1] S = mm_E (mm_runD d) pX8_isIdle 2 0 [some (.inr 27), some (.inl x1), none, none] [] S 0 0 := mm_runD_eq (q := (8, yX8_isIdle, cX8_isIdle, 4, 2, 1, pX8_isIdle, qX8_isIdle)) (by decide) rfl rfl rfl rfl
set_option maxRecDepth 100000 in
theorem dX8_tests {d : Nat} {S : Mem}  : mm_runD (d + 1) 153 [.inr 27] S = mm_E (mm_runD d) pX8_tests 1 0 [some (.inr 27), none, none, none, none, none, none, none, none, none, none] [] S 0 0 := mm_runD_eq (q := (8, yX8_tests, cX8_tests, 11, 1, 0, pX8_tests, qX8_tests)) (by decide) rfl rfl rfl rfl
set_option maxRecDepth 100000 in
theorem dX8_about {d : Nat} {S : Mem} {x1 : Int32} : mm_runD (d + 1) 154 [.inr 27, .inl x1] S = mm_E (mm_runD d) pX8_about 1 0 [some (.inr 27), some (.inl x1)] [] S 0 0 := mm_runD_eq (q := (8, yX8_about, cX8_about, 2, 1, 1, pX8_about, qX8_about)) (by decide) rfl rfl rfl rfl
