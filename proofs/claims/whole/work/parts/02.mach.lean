/-! ===== an abstract machine over a world of fixed cells: values, memory, what a method's code asks for ===== -/
/-- a value: a constant int, an int, a long, a cell (group, number in it) -/
abbrev ab_V : Type := Int ⊕ (Int32 ⊕ (Int64 ⊕ (Nat × Nat)))
abbrev ab_ki (n : Int) : ab_V := .inl n
abbrev vi (x : Int32) : ab_V := .inr (.inl x)
abbrev vl (x : Int64) : ab_V := .inr (.inr (.inl x))
abbrev vr (g i : Nat) : ab_V := .inr (.inr (.inr (g, i)))
/-- memory: ints, longs, the references that change (numbers in their group) -/
abbrev ab_M : Type := (Nat → Nat → Nat → Int32) × (Nat → Nat → Nat → Int64) × (Nat → Nat → Nat → Nat)
abbrev ab_L : Type := List (Option ab_V)
abbrev ab_K : Type := Option ab_V → ab_M → Prop
abbrev ab_P : Type := ab_L → List ab_V → ab_M → Prop
/-- an instruction: pc, itself, its length, what it is linked to -/
abbrev ab_E : Type := Nat × Instr × Nat × Nat × Nat × Int
abbrev ab_I : Type := MethodName × ByteArray × Nat × Option FieldType
/-- the tables' numbers, the addresses of the cells, the classes of arrays -/
abbrev ab_G : Type := (Nat → ClassId) × (Nat → Nat → Nat) × (Nat → Nat) × (Nat → ClassId)
def ab_cv : Int → Int32
  | .ofNat k => nI (@OfNat.ofNat Nat k (instOfNatNat k))
  | .negSucc k => -nI (@OfNat.ofNat Nat k (instOfNatNat k) + 1)
def ab_gT : List (Nat × Nat × Nat × Nat × Nat × Nat) := [(5, 1, 8, 0, 0, 0), (5, 1, 6, 0, 0, 0), (3, 1, 6, 3, 0, 0), (0, 6, 40, 0, 0, 0), (0, 1, 6, 0, 0, 0), (5, 1, 6, 0, 0, 0), (3, 1, 4, 7, 0, 0), (6, 5, 80, 0, 0, 0), (0, 1, 4, 0, 0, 0), (5, 2, 2, 0, 0, 0), (0, 2, 4, 0, 0, 0), (3, 2, 7, 12, 7, 0), (0, 14, 7, 0, 0, 0), (5, 1, 5, 0, 0, 0), (5, 5, 1, 0, 0, 0), (0, 5, 7, 0, 0, 0), (0, 5, 8, 0, 0, 0), (0, 5, 8, 0, 0, 0), (0, 5, 8, 0, 0, 0), (4, 1, 3, 14, 0, 1), (1, 1, 3, 0, 0, 0), (5, 1, 0, 0, 0, 0), (0, 1, 4, 0, 0, 0), (1, 1, 4, 0, 0, 0), (0, 1, 7, 0, 0, 0), (1, 1, 7, 0, 0, 0), (0, 1, 7, 0, 0, 0), (0, 1, 7, 0, 0, 0), (0, 1, 7, 0, 0, 0), (0, 1, 7, 0, 0, 0), (0, 1, 7, 0, 0, 0), (3, 1, 4, 32, 0, 0), (0, 4, 7, 0, 0, 0), (3, 1, 4, 34, 0, 0), (0, 4, 7, 0, 0, 0), (0, 1, 4, 0, 0, 0), (0, 1, 4, 0, 0, 0), (0, 1, 4, 0, 0, 0), (0, 1, 4, 0, 0, 0), (5, 1, 4, 0, 0, 0), (0, 1, 24, 0, 0, 0), (0, 1, 3, 0, 0, 0), (0, 1, 9, 0, 0, 0), (5, 1, 7, 0, 0, 0), (0, 1, 7, 0, 0, 0), (0, 1, 7, 0, 0, 0), (5, 1, 3, 0, 0, 0), (0, 1, 7, 0, 0, 0), (0, 1, 6, 0, 0, 0), (5, 1, 9, 0, 0, 0), (0, 1, 6, 0, 0, 0), (0, 1, 240, 0, 0, 0), (0, 1, 4, 0, 0, 0), (0, 1, 320, 0, 0, 0), (0, 1, 78, 0, 0, 0), (0, 1, 234, 0, 0, 0), (1, 1, 3, 0, 0, 0), (0, 1, 6, 0, 0, 0), (0, 1, 78, 0, 0, 0), (0, 1, 28, 0, 0, 0), (0, 1, 28, 0, 0, 0), (1, 1, 28, 0, 0, 0), (0, 1, 49, 0, 0, 0), (0, 1, 8, 0, 0, 0), (0, 1, 8, 0, 0, 0), (0, 1, 78, 0, 0, 0), (0, 1, 9, 0, 0, 0), (2, 2, 128, 0, 0, 0), (9, 0, 0, 0, 0, 0), (9, 0, 0, 0, 0, 0), (8, 1, 6, 0, 0, 0), (7, 1, 0, 0, 0, 0)]
def ab_fT : List (List (Nat × Nat × Nat × Nat)) := [[(2, 1, 0, 0), (2, 5, 0, 0), (2, 9, 0, 0), (2, 9, 0, 1), (2, 13, 0, 0), (2, 14, 0, 0), (2, 19, 0, 0), (2, 20, 0, 0), (2, 21, 0, 0), (2, 39, 0, 0), (2, 43, 0, 0), (2, 46, 0, 0), (2, 48, 0, 0), (0, 0, 0, 0), (0, 0, 0, 0), (1, 0, 0, 0), (1, 0, 0, 0)], [(2, 2, 1, 0), (2, 4, 1, 0)], [], [], [], [(2, 6, 1, 0), (2, 8, 1, 0)], [], [], [], [(0, 0, 0, 0), (0, 0, 0, 0), (0, 0, 0, 0), (2, 10, 1, 0), (2, 11, 1, 0)], [], [], [], [(2, 9, 0, 1), (0, 0, 0, 0), (3, 7, 0, 0), (0, 0, 0, 0), (0, 0, 0, 0)], [(0, 0, 0, 0), (0, 0, 0, 0), (0, 0, 0, 0), (0, 0, 0, 0), (2, 15, 1, 0), (2, 16, 1, 0), (2, 17, 1, 0), (2, 18, 1, 0)], [], [], [], [], [], [], [(0, 0, 0, 0), (0, 0, 0, 0), (2, 22, 0, 0), (2, 23, 0, 0), (2, 24, 0, 0), (2, 25, 0, 0), (2, 26, 0, 0), (2, 27, 0, 0), (2, 28, 0, 0), (2, 29, 0, 0), (2, 30, 0, 0), (2, 31, 0, 0), (2, 33, 0, 0), (2, 35, 0, 0), (2, 36, 0, 0), (2, 37, 0, 0), (2, 38, 0, 0)], [], [], [], [], [], [], [], [], [], [], [], [], [], [], [], [], [], [(2, 9, 0, 0), (2, 14, 0, 0), (2, 14, 0, 4), (2, 21, 0, 0), (2, 40, 0, 0), (0, 0, 0, 0), (2, 41, 0, 0), (2, 42, 0, 0), (0, 0, 0, 0)], [], [], [], [(2, 9, 0, 0), (2, 14, 0, 4), (2, 21, 0, 0), (2, 44, 0, 0), (2, 45, 0, 0), (0, 0, 0, 0), (0, 0, 0, 0)], [], [], [(2, 9, 0, 0), (2, 14, 0, 0), (2, 47, 0, 0), (1, 0, 0, 0), (1, 0, 0, 0), (1, 0, 0, 0), (0, 0, 0, 0), (0, 0, 0, 0)], [], [], [(2, 50, 0, 0), (2, 51, 0, 0), (2, 52, 0, 0), (2, 53, 0, 0), (2, 54, 0, 0), (2, 55, 0, 0), (2, 56, 0, 0), (0, 0, 0, 0), (1, 0, 0, 0), (1, 0, 0, 0), (0, 0, 0, 0), (2, 57, 0, 0), (2, 58, 0, 0), (0, 0, 0, 0), (2, 59, 0, 0), (2, 60, 0, 0), (2, 61, 0, 0), (2, 62, 0, 0), (0, 0, 0, 0), (2, 63, 0, 0), (0, 0, 0, 0), (0, 0, 0, 0), (0, 0, 0, 0), (2, 64, 0, 0), (0, 0, 0, 0), (2, 65, 0, 0), (2, 66, 0, 0), (3, 67, 0, 0), (3, 67, 0, 0)], [], [], [], [], [], [], [], [], [], [], [], [], [], [], [], [], [], [], [], [], [], []]
def ab_of : List Nat := [0, 1, 2, 3, 9, 10, 11, 12, 17, 18, 20, 22, 24, 38, 39, 44, 49, 54, 59, 64, 65, 66, 67, 68, 69, 70, 71, 72, 73, 74, 75, 76, 77, 81, 82, 86, 87, 88, 89, 90, 91, 92, 93, 94, 95, 96, 97, 98, 99, 100, 101, 102, 103, 104, 105, 106, 107, 108, 109, 110, 111, 112, 113, 114, 115, 116, 117, 118, 120, 120, 120, 121]
def ab_gs : List Nat := [0, 1, 2, 3, 3, 3, 3, 3, 3, 4, 5, 6, 7, 7, 7, 7, 7, 8, 9, 9, 10, 10, 11, 11, 12, 12, 12, 12, 12, 12, 12, 12, 12, 12, 12, 12, 12, 12, 13, 14, 14, 14, 14, 14, 15, 15, 15, 15, 15, 16, 16, 16, 16, 16, 17, 17, 17, 17, 17, 18, 18, 18, 18, 18, 19, 20, 21, 22, 23, 24, 25, 26, 27, 28, 29, 30, 31, 32, 32, 32, 32, 33, 34, 34, 34, 34, 35, 36, 37, 38, 39, 40, 41, 42, 43, 44, 45, 46, 47, 48, 49, 50, 51, 52, 53, 54, 55, 56, 57, 58, 59, 60, 61, 62, 63, 64, 65, 66, 67, 67]
def ab_is : List Nat := [0, 0, 0, 0, 1, 2, 3, 4, 5, 0, 0, 0, 0, 1, 2, 3, 4, 0, 0, 1, 0, 1, 0, 1, 0, 1, 2, 3, 4, 5, 6, 7, 8, 9, 10, 11, 12, 13, 0, 0, 1, 2, 3, 4, 0, 1, 2, 3, 4, 0, 1, 2, 3, 4, 0, 1, 2, 3, 4, 0, 1, 2, 3, 4, 0, 0, 0, 0, 0, 0, 0, 0, 0, 0, 0, 0, 0, 0, 1, 2, 3, 0, 0, 1, 2, 3, 0, 0, 0, 0, 0, 0, 0, 0, 0, 0, 0, 0, 0, 0, 0, 0, 0, 0, 0, 0, 0, 0, 0, 0, 0, 0, 0, 0, 0, 0, 0, 0, 0, 1]
def miX0_init : ab_I := (yX0_init, cX0_init, 1, none)
def miX0_gather : ab_I := (yX0_gather, cX0_gather, 3, none)
def miX0_gatherOne : ab_I := (yX0_gatherOne, cX0_gatherOne, 2, none)
def miX0_enter : ab_I := (yX0_enter, cX0_enter, 3, none)
def miX0_pursueAll : ab_I := (yX0_pursueAll, cX0_pursueAll, 4, none)
def miX0_pursueTillCaught : ab_I := (yX0_pursueTillCaught, cX0_pursueTillCaught, 4, (some .int))
def miX0_begin : ab_I := (yX0_begin, cX0_begin, 4, none)
def miX0_survey : ab_I := (yX0_survey, cX0_survey, 4, none)
def miX0_surveyEnd : ab_I := (yX0_surveyEnd, cX0_surveyEnd, 6, none)
def miX0_goOn : ab_I := (yX0_goOn, cX0_goOn, 3, none)
def miX0_leaveCheck : ab_I := (yX0_leaveCheck, cX0_leaveCheck, 6, none)
def miX0_tryEnds : ab_I := (yX0_tryEnds, cX0_tryEnds, 3, (some .int))
def miX0_sortAt : ab_I := (yX0_sortAt, cX0_sortAt, 4, none)
def miX0_isCaughtAt : ab_I := (yX0_isCaughtAt, cX0_isCaughtAt, 3, (some .boolean))
def miX0_caughtAt : ab_I := (yX0_caughtAt, cX0_caughtAt, 2, (some .int))
def miX0_firstAt : ab_I := (yX0_firstAt, cX0_firstAt, 4, (some .int))
def miX0_firstMinute : ab_I := (yX0_firstMinute, cX0_firstMinute, 1, (some .int))
def miX0_lead : ab_I := (yX0_lead, cX0_lead, 1, (some .int))
def miX0_firstCallers : ab_I := (yX0_firstCallers, cX0_firstCallers, 5, (some .int))
def miX0_agrees : ab_I := (yX0_agrees, cX0_agrees, 3, (some .boolean))
def miX1_init : ab_I := (yX1_init, cX1_init, 1, none)
def miX1_startAnew : ab_I := (yX1_startAnew, cX1_startAnew, 2, none)
def miX1_take : ab_I := (yX1_take, cX1_take, 2, none)
def miX1_follow : ab_I := (yX1_follow, cX1_follow, 3, none)
def miX1_addEnd : ab_I := (yX1_addEnd, cX1_addEnd, 4, none)
def miX1_setEnd : ab_I := (yX1_setEnd, cX1_setEnd, 5, none)
def miX1_isLaid : ab_I := (yX1_isLaid, cX1_isLaid, 1, (some .boolean))
def miX1_isFull : ab_I := (yX1_isFull, cX1_isFull, 1, (some .boolean))
def miX1_last : ab_I := (yX1_last, cX1_last, 1, (some .int))
def miX1_indexOf : ab_I := (yX1_indexOf, cX1_indexOf, 3, (some .int))
def miX1_endBetween : ab_I := (yX1_endBetween, cX1_endBetween, 4, (some .int))
def miX1_admits : ab_I := (yX1_admits, cX1_admits, 5, (some .boolean))
def miX1_isWindy : ab_I := (yX1_isWindy, cX1_isWindy, 2, (some .boolean))
def miX1_endsAt : ab_I := (yX1_endsAt, cX1_endsAt, 4, (some .int))
def miX1_lengthAt : ab_I := (yX1_lengthAt, cX1_lengthAt, 4, (some .int))
def miX1_lengthOf : ab_I := (yX1_lengthOf, cX1_lengthOf, 4, (some .int))
def miX1_windMinutes : ab_I := (yX1_windMinutes, cX1_windMinutes, 3, (some .int))
def miX1_nextPath : ab_I := (yX1_nextPath, cX1_nextPath, 3, (some .int))
def miX1_haresAt : ab_I := (yX1_haresAt, cX1_haresAt, 5, (some .int))
def miX1_minutesFor : ab_I := (yX1_minutesFor, cX1_minutesFor, 5, (some .int))
def miX1_paperFor : ab_I := (yX1_paperFor, cX1_paperFor, 4, (some .int))
def miX1_emptyAt : ab_I := (yX1_emptyAt, cX1_emptyAt, 5, (some .int))
def miX1_foldInto : ab_I := (yX1_foldInto, cX1_foldInto, 6, (some .long))
def miX2_ofLetter : ab_I := (yX2_ofLetter, cX2_ofLetter, 1, (some .int))
def miX2_isA : ab_I := (yX2_isA, cX2_isA, 2, (some .boolean))
def miX2_pace : ab_I := (yX2_pace, cX2_pace, 2, (some .int))
def miX3_init : ab_I := (yX3_init, cX3_init, 1, none)
def miX3_clear : ab_I := (yX3_clear, cX3_clear, 3, none)
def miX3_take : ab_I := (yX3_take, cX3_take, 3, none)
def miX3_isBare : ab_I := (yX3_isBare, cX3_isBare, 1, (some .boolean))
def miX3_hasPlace : ab_I := (yX3_hasPlace, cX3_hasPlace, 2, (some .boolean))
def miX3_hasHound : ab_I := (yX3_hasHound, cX3_hasHound, 2, (some .boolean))
def miX3_hasPath : ab_I := (yX3_hasPath, cX3_hasPath, 3, (some .boolean))
def miX3_inn : ab_I := (yX3_inn, cX3_inn, 1, (some .int))
def miX3_addHound : ab_I := (yX3_addHound, cX3_addHound, 2, none)
def miX3_addPath : ab_I := (yX3_addPath, cX3_addPath, 4, none)
def miX3_quickOnes : ab_I := (yX3_quickOnes, cX3_quickOnes, 3, (some .int))
def miX3_isTrail : ab_I := (yX3_isTrail, cX3_isTrail, 6, (some .boolean))
def miX4_init : ab_I := (yX4_init, cX4_init, 3, none)
def miX4_leastMinute : ab_I := (yX4_leastMinute, cX4_leastMinute, 2, (some .int))
def miX4_meanMinute : ab_I := (yX4_meanMinute, cX4_meanMinute, 4, (some .int))
def miX4_weigh : ab_I := (yX4_weigh, cX4_weigh, 5, none)
def miX4_ordersOf : ab_I := (yX4_ordersOf, cX4_ordersOf, 7, (some .long))
def miX4_drawAll : ab_I := (yX4_drawAll, cX4_drawAll, 4, none)
def miX4_drawOne : ab_I := (yX4_drawOne, cX4_drawOne, 5, (some .int))
def miX4_commonOf : ab_I := (yX4_commonOf, cX4_commonOf, 11, (some .long))
def miX5_init : ab_I := (yX5_init, cX5_init, 5, none)
def miX5_prepare : ab_I := (yX5_prepare, cX5_prepare, 3, none)
def miX5_bestEnd : ab_I := (yX5_bestEnd, cX5_bestEnd, 4, (some .int))
def miX5_fewestEnds : ab_I := (yX5_fewestEnds, cX5_fewestEnds, 3, (some .int))
def miX5_choose : ab_I := (yX5_choose, cX5_choose, 7, (some .boolean))
def miX5_minutesParted : ab_I := (yX5_minutesParted, cX5_minutesParted, 7, (some .int))
def miX5_soonestFree : ab_I := (yX5_soonestFree, cX5_soonestFree, 4, (some .int))
def miX6_init : ab_I := (yX6_init, cX6_init, 2, none)
def miX6_faultOf : ab_I := (yX6_faultOf, cX6_faultOf, 4, (some .int))
def miX6_skipBlanks : ab_I := (yX6_skipBlanks, cX6_skipBlanks, 1, none)
def miX6_sign : ab_I := (yX6_sign, cX6_sign, 1, (some .int))
def miX6_readFigure : ab_I := (yX6_readFigure, cX6_readFigure, 4, (some .int))
def miX6_readOpening : ab_I := (yX6_readOpening, cX6_readOpening, 2, (some .boolean))
def miX6_readItem : ab_I := (yX6_readItem, cX6_readItem, 1, (some .boolean))
def miX6_readHound : ab_I := (yX6_readHound, cX6_readHound, 2, (some .boolean))
def miX6_readPath : ab_I := (yX6_readPath, cX6_readPath, 4, (some .boolean))
def miX7_init : ab_I := (yX7_init, cX7_init, 4, none)
def miX7_has : ab_I := (yX7_has, cX7_has, 2, (some .boolean))
def miX7_isThere : ab_I := (yX7_isThere, cX7_isThere, 2, (some .boolean))
def miX7_holds : ab_I := (yX7_holds, cX7_holds, 3, (some .boolean))
def miX7_spans : ab_I := (yX7_spans, cX7_spans, 4, (some .boolean))
def miX7_open : ab_I := (yX7_open, cX7_open, 5, none)
def miX7_fill : ab_I := (yX7_fill, cX7_fill, 4, none)
def miX7_remove : ab_I := (yX7_remove, cX7_remove, 2, none)
def miX7_exchange : ab_I := (yX7_exchange, cX7_exchange, 5, (some .int))
def miX7_sum : ab_I := (yX7_sum, cX7_sum, 5, (some .long))
def miX7_manyThere : ab_I := (yX7_manyThere, cX7_manyThere, 3, (some .int))
def miX7_foldInto : ab_I := (yX7_foldInto, cX7_foldInto, 7, (some .long))
def miX8_init : ab_I := (yX8_init, cX8_init, 4, none)
def miX8_countAll : ab_I := (yX8_countAll, cX8_countAll, 2, (some .int))
def miX8_findLeast : ab_I := (yX8_findLeast, cX8_findLeast, 2, (some .boolean))
def miX8_findFurthest : ab_I := (yX8_findFurthest, cX8_findFurthest, 3, (some .boolean))
def miX8_begin : ab_I := (yX8_begin, cX8_begin, 1, none)
def miX8_findNext : ab_I := (yX8_findNext, cX8_findNext, 3, (some .boolean))
def miX8_nextPlace : ab_I := (yX8_nextPlace, cX8_nextPlace, 3, (some .int))
def miX8_weigh : ab_I := (yX8_weigh, cX8_weigh, 2, none)
def miX9_init : ab_I := (yX9_init, cX9_init, 2, none)
def miX9_row : ab_I := (yX9_row, cX9_row, 3, (some .int))
def miX9_lay : ab_I := (yX9_lay, cX9_lay, 5, (some .int))
def miX9_at : ab_I := (yX9_at, cX9_at, 4, (some .int))
def miX9_tear : ab_I := (yX9_tear, cX9_tear, 3, (some .int))
def miX9_copy : ab_I := (yX9_copy, cX9_copy, 6, (some .int))
def miX9_mean : ab_I := (yX9_mean, cX9_mean, 4, (some .int))
def miX9_text : ab_I := (yX9_text, cX9_text, 3, (some .int))
def miX9_put : ab_I := (yX9_put, cX9_put, 5, (some .int))
def miX9_fault : ab_I := (yX9_fault, cX9_fault, 3, (some .int))
def miX9_country : ab_I := (yX9_country, cX9_country, 4, (some .int))
def miX9_hound : ab_I := (yX9_hound, cX9_hound, 3, (some .int))
def miX9_mark : ab_I := (yX9_mark, cX9_mark, 3, (some .int))
def miX9_minutes : ab_I := (yX9_minutes, cX9_minutes, 3, (some .int))
def miX9_head : ab_I := (yX9_head, cX9_head, 3, (some .int))
def miX9_trail : ab_I := (yX9_trail, cX9_trail, 2, (some .int))
def miX9_lure : ab_I := (yX9_lure, cX9_lure, 4, (some .int))
def miX9_off : ab_I := (yX9_off, cX9_off, 3, (some .int))
def miX9_wind : ab_I := (yX9_wind, cX9_wind, 3, (some .int))
def miX9_paper : ab_I := (yX9_paper, cX9_paper, 1, (some .int))
def miX9_empty : ab_I := (yX9_empty, cX9_empty, 2, (some .int))
def miX9_keep : ab_I := (yX9_keep, cX9_keep, 2, (some .int))
def miX9_on : ab_I := (yX9_on, cX9_on, 2, (some .int))
def miX9_hares : ab_I := (yX9_hares, cX9_hares, 3, (some .int))
def miX9_comes : ab_I := (yX9_comes, cX9_comes, 4, (some .int))
def miX9_pack : ab_I := (yX9_pack, cX9_pack, 4, (some .int))
def miX9_caught : ab_I := (yX9_caught, cX9_caught, 2, (some .int))
def miX9_ahead : ab_I := (yX9_ahead, cX9_ahead, 1, (some .int))
def miX9_call : ab_I := (yX9_call, cX9_call, 3, (some .int))
def miX9_best : ab_I := (yX9_best, cX9_best, 2, (some .int))
def miX9_fewest : ab_I := (yX9_fewest, cX9_fewest, 3, (some .int))
def miX9_trails : ab_I := (yX9_trails, cX9_trails, 1, (some .int))
def miX9_least : ab_I := (yX9_least, cX9_least, 2, (some .int))
def miX9_route : ab_I := (yX9_route, cX9_route, 2, (some .int))
def miX9_across : ab_I := (yX9_across, cX9_across, 7, (some .int))
def miX9_parted : ab_I := (yX9_parted, cX9_parted, 4, (some .int))
def miX9_chance : ab_I := (yX9_chance, cX9_chance, 3, (some .int))
def miX9_mid : ab_I := (yX9_mid, cX9_mid, 2, (some .int))
def miX9_run : ab_I := (yX9_run, cX9_run, 2, (some .int))
def miX9_kinds : ab_I := (yX9_kinds, cX9_kinds, 4, (some .int))
def miX9_gone : ab_I := (yX9_gone, cX9_gone, 2, (some .int))
def miX9_asked : ab_I := (yX9_asked, cX9_asked, 1, (some .int))
def miX9_upper : ab_I := (yX9_upper, cX9_upper, 1, (some .long))
def miX9_lower : ab_I := (yX9_lower, cX9_lower, 1, (some .long))
def miX9_count : ab_I := (yX9_count, cX9_count, 2, (some .int))
def miX9_finding : ab_I := (yX9_finding, cX9_finding, 1, (some .int))
def miX9_findings : ab_I := (yX9_findings, cX9_findings, 2, (some .int))
def miX9_digest : ab_I := (yX9_digest, cX9_digest, 5, (some .long))
def miX9_refuse : ab_I := (yX9_refuse, cX9_refuse, 2, (some .int))
def miX9_tell : ab_I := (yX9_tell, cX9_tell, 2, (some .int))
def miX9_tellFraction : ab_I := (yX9_tellFraction, cX9_tellFraction, 7, (some .int))
def miX9_refusalOf : ab_I := (yX9_refusalOf, cX9_refusalOf, 3, (some .int))
def miX9_refusalOf_ : ab_I := (yX9_refusalOf_, cX9_refusalOf_, 5, (some .int))
def miX9_refusalAt : ab_I := (yX9_refusalAt, cX9_refusalAt, 2, (some .int))
def miX9_pursue : ab_I := (yX9_pursue, cX9_pursue, 1, none)
def miX9_ofHound : ab_I := (yX9_ofHound, cX9_ofHound, 3, (some .int))
def miX9_manyKept : ab_I := (yX9_manyKept, cX9_manyKept, 3, (some .int))
def miX9_areSeen : ab_I := (yX9_areSeen, cX9_areSeen, 3, (some .boolean))
def miX10_init : ab_I := (yX10_init, cX10_init, 2, none)
def miX10_in : ab_I := (yX10_in, cX10_in, 6, (some .boolean))
def miX10_found : ab_I := (yX10_found, cX10_found, 2, (some .int))
def miX10_tell : ab_I := (yX10_tell, cX10_tell, 2, (some .int))
def miX10_answer : ab_I := (yX10_answer, cX10_answer, 3, (some .int))
def miX10_isRow : ab_I := (yX10_isRow, cX10_isRow, 1, (some .boolean))
def miX10_isText : ab_I := (yX10_isText, cX10_isText, 1, (some .boolean))
def miX10_row : ab_I := (yX10_row, cX10_row, 4, (some .int))
def miX10_lay : ab_I := (yX10_lay, cX10_lay, 5, (some .int))
def miX10_at : ab_I := (yX10_at, cX10_at, 3, (some .int))
def miX10_tear : ab_I := (yX10_tear, cX10_tear, 2, (some .int))
def miX10_copy : ab_I := (yX10_copy, cX10_copy, 8, (some .int))
def miX10_mean : ab_I := (yX10_mean, cX10_mean, 5, (some .int))
def miX10_text : ab_I := (yX10_text, cX10_text, 4, (some .int))
def miX10_put : ab_I := (yX10_put, cX10_put, 5, (some .int))
def miX10_byteAt : ab_I := (yX10_byteAt, cX10_byteAt, 2, (some .int))
def miX10_takes : ab_I := (yX10_takes, cX10_takes, 6, (some .boolean))
def miX10_kindOf : ab_I := (yX10_kindOf, cX10_kindOf, 1, (some .int))
def miX10_takesHound : ab_I := (yX10_takesHound, cX10_takesHound, 3, (some .boolean))
def miX10_pathOf : ab_I := (yX10_pathOf, cX10_pathOf, 5, (some .int))
def miX10_takesPath : ab_I := (yX10_takesPath, cX10_takesPath, 5, (some .boolean))
def miX10_takesFirst : ab_I := (yX10_takesFirst, cX10_takesFirst, 2, (some .boolean))
def miX10_reads : ab_I := (yX10_reads, cX10_reads, 3, (some .int))
def miX10_fault : ab_I := (yX10_fault, cX10_fault, 2, (some .int))
def miX10_copies : ab_I := (yX10_copies, cX10_copies, 5, none)
def miX10_country : ab_I := (yX10_country, cX10_country, 3, (some .int))
def miX10_isPlace : ab_I := (yX10_isPlace, cX10_isPlace, 2, (some .boolean))
def miX10_isHound : ab_I := (yX10_isHound, cX10_isHound, 2, (some .boolean))
def miX10_hasTrail : ab_I := (yX10_hasTrail, cX10_hasTrail, 1, (some .boolean))
def miX10_isWindy : ab_I := (yX10_isWindy, cX10_isWindy, 2, (some .boolean))
def miX10_isOf : ab_I := (yX10_isOf, cX10_isOf, 2, (some .boolean))
def miX10_pace : ab_I := (yX10_pace, cX10_pace, 2, (some .int))
def miX10_takesOf : ab_I := (yX10_takesOf, cX10_takesOf, 3, (some .int))
def miX10_stretch : ab_I := (yX10_stretch, cX10_stretch, 2, (some .int))
def miX10_isCheck : ab_I := (yX10_isCheck, cX10_isCheck, 4, (some .boolean))
def miX10_goes : ab_I := (yX10_goes, cX10_goes, 8, (some .int))
def miX10_lasting : ab_I := (yX10_lasting, cX10_lasting, 4, (some .int))
def miX10_loses : ab_I := (yX10_loses, cX10_loses, 3, (some .int))
def miX10_leavesIt : ab_I := (yX10_leavesIt, cX10_leavesIt, 6, none)
def miX10_runs : ab_I := (yX10_runs, cX10_runs, 8, none)
def miX10_inn : ab_I := (yX10_inn, cX10_inn, 2, (some .int))
def miX10_told : ab_I := (yX10_told, cX10_told, 5, (some .int))
def miX10_hound : ab_I := (yX10_hound, cX10_hound, 3, (some .int))
def miX10_bits : ab_I := (yX10_bits, cX10_bits, 3, (some .int))
def miX10_mark : ab_I := (yX10_mark, cX10_mark, 5, (some .int))
def miX10_minutes : ab_I := (yX10_minutes, cX10_minutes, 3, (some .int))
def miX10_head : ab_I := (yX10_head, cX10_head, 3, (some .int))
def miX10_isTrail : ab_I := (yX10_isTrail, cX10_isTrail, 6, (some .boolean))
def miX10_trail : ab_I := (yX10_trail, cX10_trail, 3, (some .int))
def miX10_spotOf : ab_I := (yX10_spotOf, cX10_spotOf, 4, (some .int))
def miX10_mayLure : ab_I := (yX10_mayLure, cX10_mayLure, 6, (some .boolean))
def miX10_lays : ab_I := (yX10_lays, cX10_lays, 5, none)
def miX10_lure : ab_I := (yX10_lure, cX10_lure, 4, (some .int))
def miX10_off : ab_I := (yX10_off, cX10_off, 3, (some .int))
def miX10_wind : ab_I := (yX10_wind, cX10_wind, 3, (some .int))
def miX10_paperAt : ab_I := (yX10_paperAt, cX10_paperAt, 4, (some .int))
def miX10_paper : ab_I := (yX10_paper, cX10_paper, 3, (some .int))
def miX10_empty : ab_I := (yX10_empty, cX10_empty, 4, (some .int))
def miX10_keep : ab_I := (yX10_keep, cX10_keep, 2, (some .int))
def miX10_on : ab_I := (yX10_on, cX10_on, 2, (some .int))
def miX10_haresAt : ab_I := (yX10_haresAt, cX10_haresAt, 4, (some .int))
def miX10_refuses : ab_I := (yX10_refuses, cX10_refuses, 2, (some .int))
def miX10_hares : ab_I := (yX10_hares, cX10_hares, 3, (some .int))
def miX10_comes : ab_I := (yX10_comes, cX10_comes, 4, (some .int))
def miX10_pack : ab_I := (yX10_pack, cX10_pack, 9, (some .int))
def miX10_firstAt : ab_I := (yX10_firstAt, cX10_firstAt, 4, (some .int))
def miX10_caughtAt : ab_I := (yX10_caughtAt, cX10_caughtAt, 2, (some .int))
def miX10_caught : ab_I := (yX10_caught, cX10_caught, 2, (some .int))
def miX10_aheadNow : ab_I := (yX10_aheadNow, cX10_aheadNow, 1, (some .int))
def miX10_ahead : ab_I := (yX10_ahead, cX10_ahead, 1, (some .int))
def miX10_call : ab_I := (yX10_call, cX10_call, 7, (some .int))
def miX10_best : ab_I := (yX10_best, cX10_best, 9, (some .int))
def miX10_layLures : ab_I := (yX10_layLures, cX10_layLures, 2, none)
def miX10_areHome : ab_I := (yX10_areHome, cX10_areHome, 1, (some .boolean))
def miX10_laysFive : ab_I := (yX10_laysFive, cX10_laysFive, 2, none)
def miX10_toRow : ab_I := (yX10_toRow, cX10_toRow, 8, (some .int))
def miX10_homeBy : ab_I := (yX10_homeBy, cX10_homeBy, 9, (some .boolean))
def miX10_fewest : ab_I := (yX10_fewest, cX10_fewest, 3, (some .int))
def miX10_firstWalk : ab_I := (yX10_firstWalk, cX10_firstWalk, 1, none)
def miX10_nextWalk : ab_I := (yX10_nextWalk, cX10_nextWalk, 3, (some .boolean))
def miX10_trails : ab_I := (yX10_trails, cX10_trails, 2, (some .int))
def miX10_walkMinutes : ab_I := (yX10_walkMinutes, cX10_walkMinutes, 3, (some .int))
def miX10_keepWalk : ab_I := (yX10_keepWalk, cX10_keepWalk, 2, none)
def miX10_walkToRow : ab_I := (yX10_walkToRow, cX10_walkToRow, 4, none)
def miX10_least : ab_I := (yX10_least, cX10_least, 4, (some .int))
def miX10_route : ab_I := (yX10_route, cX10_route, 4, (some .int))
def miX10_across : ab_I := (yX10_across, cX10_across, 6, (some .int))
def miX10_parted : ab_I := (yX10_parted, cX10_parted, 7, (some .int))
def miX10_factorial : ab_I := (yX10_factorial, cX10_factorial, 4, (some .long))
def miX10_fraction : ab_I := (yX10_fraction, cX10_fraction, 11, (some .int))
def miX10_endsAt : ab_I := (yX10_endsAt, cX10_endsAt, 4, (some .int))
def miX10_spreads : ab_I := (yX10_spreads, cX10_spreads, 10, none)
def miX10_straight : ab_I := (yX10_straight, cX10_straight, 4, (some .int))
def miX10_chance : ab_I := (yX10_chance, cX10_chance, 8, (some .int))
def miX10_mid : ab_I := (yX10_mid, cX10_mid, 4, (some .int))
def miX10_run : ab_I := (yX10_run, cX10_run, 11, (some .int))
def miX10_kinds : ab_I := (yX10_kinds, cX10_kinds, 8, (some .int))
def miX10_gone : ab_I := (yX10_gone, cX10_gone, 4, (some .int))
def miX10_asked : ab_I := (yX10_asked, cX10_asked, 1, (some .int))
def miX10_upper : ab_I := (yX10_upper, cX10_upper, 1, (some .long))
def miX10_lower : ab_I := (yX10_lower, cX10_lower, 1, (some .long))
def miX10_counted : ab_I := (yX10_counted, cX10_counted, 4, (some .int))
def miX10_count : ab_I := (yX10_count, cX10_count, 2, (some .int))
def miX10_finding : ab_I := (yX10_finding, cX10_finding, 1, (some .int))
def miX10_findings : ab_I := (yX10_findings, cX10_findings, 2, (some .int))
def miX10_digest : ab_I := (yX10_digest, cX10_digest, 5, (some .long))
def miJ6_bitCount_0f7a4 : ab_I := (yJ6_bitCount_0f7a4, cJ6_bitCount_0f7a4, 1, (some .int))
def miJ9_min_7cf53 : ab_I := (yJ9_min_7cf53, cJ9_min_7cf53, 2, (some .int))
def miL_law : ab_I := (yL_law, cL_law, 4, (some .boolean))
def ab_mT : List ab_I := [miX0_init, miX0_gather, miX0_gatherOne, miX0_enter, miX0_pursueAll, miX0_pursueTillCaught, miX0_begin, miX0_survey, miX0_surveyEnd, miX0_goOn, miX0_leaveCheck, miX0_tryEnds, miX0_sortAt, miX0_isCaughtAt, miX0_caughtAt, miX0_firstAt, miX0_firstMinute, miX0_lead, miX0_firstCallers, miX0_agrees, miX1_init, miX1_startAnew, miX1_take, miX1_follow, miX1_addEnd, miX1_setEnd, miX1_isLaid, miX1_isFull, miX1_last, miX1_indexOf, miX1_endBetween, miX1_admits, miX1_isWindy, miX1_endsAt, miX1_lengthAt, miX1_lengthOf, miX1_windMinutes, miX1_nextPath, miX1_haresAt, miX1_minutesFor, miX1_paperFor, miX1_emptyAt, miX1_foldInto, miX2_ofLetter, miX2_isA, miX2_pace, miX3_init, miX3_clear, miX3_take, miX3_isBare, miX3_hasPlace, miX3_hasHound, miX3_hasPath, miX3_inn, miX3_addHound, miX3_addPath, miX3_quickOnes, miX3_isTrail, miX4_init, miX4_leastMinute, miX4_meanMinute, miX4_weigh, miX4_ordersOf, miX4_drawAll, miX4_drawOne, miX4_commonOf, miX5_init, miX5_prepare, miX5_bestEnd, miX5_fewestEnds, miX5_choose, miX5_minutesParted, miX5_soonestFree, miX6_init, miX6_faultOf, miX6_skipBlanks, miX6_sign, miX6_readFigure, miX6_readOpening, miX6_readItem, miX6_readHound, miX6_readPath, miX7_init, miX7_has, miX7_isThere, miX7_holds, miX7_spans, miX7_open, miX7_fill, miX7_remove, miX7_exchange, miX7_sum, miX7_manyThere, miX7_foldInto, miX8_init, miX8_countAll, miX8_findLeast, miX8_findFurthest, miX8_begin, miX8_findNext, miX8_nextPlace, miX8_weigh, miX9_init, miX9_row, miX9_lay, miX9_at, miX9_tear, miX9_copy, miX9_mean, miX9_text, miX9_put, miX9_fault, miX9_country, miX9_hound, miX9_mark, miX9_minutes, miX9_head, miX9_trail, miX9_lure, miX9_off, miX9_wind, miX9_paper, miX9_empty, miX9_keep, miX9_on, miX9_hares, miX9_comes, miX9_pack, miX9_caught, miX9_ahead, miX9_call, miX9_best, miX9_fewest, miX9_trails, miX9_least, miX9_route, miX9_across, miX9_parted, miX9_chance, miX9_mid, miX9_run, miX9_kinds, miX9_gone, miX9_asked, miX9_upper, miX9_lower, miX9_count, miX9_finding, miX9_findings, miX9_digest, miX9_refuse, miX9_tell, miX9_tellFraction, miX9_refusalOf, miX9_refusalOf_, miX9_refusalAt, miX9_pursue, miX9_ofHound, miX9_manyKept, miX9_areSeen, miX10_init, miX10_in, miX10_found, miX10_tell, miX10_answer, miX10_isRow, miX10_isText, miX10_row, miX10_lay, miX10_at, miX10_tear, miX10_copy, miX10_mean, miX10_text, miX10_put, miX10_byteAt, miX10_takes, miX10_kindOf, miX10_takesHound, miX10_pathOf, miX10_takesPath, miX10_takesFirst, miX10_reads, miX10_fault, miX10_copies, miX10_country, miX10_isPlace, miX10_isHound, miX10_hasTrail, miX10_isWindy, miX10_isOf, miX10_pace, miX10_takesOf, miX10_stretch, miX10_isCheck, miX10_goes, miX10_lasting, miX10_loses, miX10_leavesIt, miX10_runs, miX10_inn, miX10_told, miX10_hound, miX10_bits, miX10_mark, miX10_minutes, miX10_head, miX10_isTrail, miX10_trail, miX10_spotOf, miX10_mayLure, miX10_lays, miX10_lure, miX10_off, miX10_wind, miX10_paperAt, miX10_paper, miX10_empty, miX10_keep, miX10_on, miX10_haresAt, miX10_refuses, miX10_hares, miX10_comes, miX10_pack, miX10_firstAt, miX10_caughtAt, miX10_caught, miX10_aheadNow, miX10_ahead, miX10_call, miX10_best, miX10_layLures, miX10_areHome, miX10_laysFive, miX10_toRow, miX10_homeBy, miX10_fewest, miX10_firstWalk, miX10_nextWalk, miX10_trails, miX10_walkMinutes, miX10_keepWalk, miX10_walkToRow, miX10_least, miX10_route, miX10_across, miX10_parted, miX10_factorial, miX10_fraction, miX10_endsAt, miX10_spreads, miX10_straight, miX10_chance, miX10_mid, miX10_run, miX10_kinds, miX10_gone, miX10_asked, miX10_upper, miX10_lower, miX10_counted, miX10_count, miX10_finding, miX10_findings, miX10_digest, miJ6_bitCount_0f7a4, miJ9_min_7cf53, miL_law]
abbrev ab_gi (g : Nat) : Nat × Nat × Nat × Nat × Nat × Nat := ab_gT.getD g (9, 0, 0, 0, 0, 0)
abbrev ab_fd (g k : Nat) : Nat × Nat × Nat × Nat := (ab_fT.getD g []).getD k (9, 0, 0, 0)
abbrev ab_mi (id : Nat) : ab_I := ab_mT.getD id (⟨"", "", ""⟩, ⟨#[]⟩, 0, none)
abbrev ab_cnt (g : Nat) : Nat := (ab_gi g).2.1
def ab_pl (g i : Nat) : Nat := ab_of.getD g 0 + i
def ab_pg (n : Nat) : Nat := ab_gs.getD n 0
def ab_pi (n : Nat) : Nat := ab_is.getD n 0
/-- a reference field's cell -/
def ab_id (mul i add : Nat) : Nat := match mul with
  | 0 => add
  | _ + 1 => i
/-- an element's cell -/
def ab_ej (em ea i j : Nat) : Nat := match em, ea with
  | 0, 0 => j
  | 0, ea + 1 => ea + 1 + j
  | em + 1, _ => (em + 1) * i + j
def ab_ls (g i : Nat) : Nat := match (ab_gi g).1 with
  | 6 => if i = 4 then 0 else 80
  | _ => (ab_gi g).2.2.1
def ab_rv (G : ab_G) : ab_V → Value
  | .inl n => .int (ab_cv n)
  | .inr (.inl x) => .int x
  | .inr (.inr (.inl x)) => .long x
  | .inr (.inr (.inr q)) => .ref (G.2.2.1 (ab_pl q.1 q.2))
def ab_okV : ab_V → Prop
  | .inl n => -32768 ≤ n ∧ n ≤ 32767
  | .inr (.inl _) => True
  | .inr (.inr (.inl _)) => True
  | .inr (.inr (.inr q)) => q.2 < ab_cnt q.1
def ab_nr : ab_V → ab_V
  | .inl (.ofNat k) => vi (nI (@OfNat.ofNat Nat k (instOfNatNat k)))
  | .inl (.negSucc k) => vi (-nI (@OfNat.ofNat Nat k (instOfNatNat k) + 1))
  | .inr v => .inr v
/-- a field's value -/
def ab_fv (G : ab_G) (M : ab_M) (g i k : Nat) : Value := match ab_fd g k with
  | (0, _, _, _) => .int (M.1 g i k)
  | (1, _, _, _) => .long (M.2.1 g i k)
  | (2, h, mul, add) => .ref (G.2.2.1 (ab_pl h (ab_id mul i add)))
  | (3, h, _, _) => .ref (G.2.2.1 (ab_pl h (M.2.2 g i k)))
  | _ => .null
def ab_fs (G : ab_G) (M : ab_M) (g i : Nat) : List Value := (List.range (ab_fT.getD g []).length).map (ab_fv G M g i)
/-- a cell of the world -/
def ab_cel (G : ab_G) (M : ab_M) (g i : Nat) : va_E := match ab_gi g with
  | (0, _, n, _, _, _) => .inl (G.2.2.2 0, n, .inl (M.1 g i))
  | (1, _, n, _, _, _) => .inl (G.2.2.2 1, n, .inl (M.1 g i))
  | (2, _, n, _, _, _) => .inl (G.2.2.2 2, n, .inr (.inl (M.2.1 g i)))
  | (3, _, n, eg, em, ea) => .inl (G.2.2.2 3, n, .inr (.inr (.inr (.inr (fun j => if j < n then some (G.2.2.1 (ab_pl eg (ab_ej em ea i j))) else none)))))
  | (4, _, n, eg, em, ea) => .inl (G.2.2.2 4, n, .inr (.inr (.inr (.inr (fun j => if j < n then some (G.2.2.1 (ab_pl eg (ab_ej em ea i j))) else none)))))
  | (5, _, ci, _, _, _) => .inr (ci, ab_fs G M g i)
  | (6, _, _, _, _, _) => .inl (G.2.2.2 0, (if i = 4 then 0 else 80), .inl (M.1 g i))
  | _ => .inr (0, [])
def ab_ws (G : ab_G) (M : ab_M) : va_W := (List.range 120).map (fun n => (G.2.2.1 n, ab_cel G M (ab_pg n) (ab_pi n)))
abbrev ab_D (G : ab_G) : va_G := (G.1, G.2.1)
abbrev ab_ty (G : ab_G) : List (ClassId × FieldType) := [(G.2.2.2 0, .int), (G.2.2.2 1, .boolean), (G.2.2.2 2, .long), (G.2.2.2 3, .array .int), (G.2.2.2 4, .object "PaperTrail$Course")]
def ab_A (G : ab_G) : Nat → Prop := fun q => ∃ n, n < 120 ∧ q = G.2.2.1 n
/-- the changing references are in their groups -/
def ab_X (M : ab_M) : Prop := M.2.2 13 0 2 < 5 ∧ M.2.2 49 0 27 < 2 ∧ M.2.2 49 0 28 < 2 ∧ M.2.2 71 0 0 < 2 ^ 31
/-- the cells that are only read: the static row of factorials, the script -/
def ab_T (G : ab_G) (M : ab_M) (U : State) (H : Heap) : Prop :=
  va_T .int (G.2.2.1 120) 6 (fun j => .int (M.1 70 0 j)) (ab_A G) U H ∧ va_T .int (G.2.2.1 121) (M.2.2 71 0 0) (fun j => .int (M.1 71 0 j)) (ab_A G) U H
abbrev ab_Z (G : ab_G) (U : State) (H : Heap) : Prop := va_Z "PaperTrail$Odds" "FACTORIALS" "[I" (.ref (G.2.2.1 120)) (ab_A G) U H
def ab_W1 (G : ab_G) (M : ab_M) (U : State) : Prop :=
  va_P (ab_D G) vwCl (ab_ws G M) U.heap ∧ va_K (ab_D G) vwCl (ab_ty G) U ∧ va_D (ab_A G) (ab_ws G M) ∧ ab_T G M U U.heap ∧ ab_Z G U U.heap ∧ ab_X M
def ab_Q (G : ab_G) (K : ab_K) : Array Value → State → Outcome → State → Prop := fun _ st o t =>
  ∃ (r : Option ab_V) (M : ab_M), o = .returned (r.map (ab_rv G)) ∧ (∀ v, r = some v → ab_okV v) ∧ K r M ∧ va_P (ab_D G) vwCl (ab_ws G M) t.heap ∧ va_D (ab_A G) (ab_ws G M) ∧ ab_T G M t t.heap ∧ ab_X M ∧ va_F (ab_A G) st t
def ab_R (d : Nat) : Room := { frames := d, cells := 0, slots := 0, locals := 41 * d }
/-- the tables' words that stay as they are -/
def ab_tb : List Cond := lw_tbl.filter goodWord
def ab_wd (mi : ab_I) : List Cond := .code mi.1 mi.2.1 mi.2.2.1 mi.2.2.2 :: ab_tb
/-- a method, called with so many frames of room: it returns, and K holds of its answer and the memory behind it -/
def ab_Call (d id : Nat) (args : List ab_V) (M : ab_M) (K : ab_K) : Prop :=
  (∀ v ∈ args, ab_okV v) → ∀ (l : Launch) (G : ab_G), Met l (ab_mi id).1 (ab_wd (ab_mi id)) (ab_R d) (va_Pc (args.map (ab_rv G)) (ab_W1 G M)) (ab_Q G K) 0 0 (ab_A G)
/-- what holds in a method's body -/
def ab_Cx (mi : ab_I) (p : Program) (s : State) (m : MethodId) (args : Array Value) (meth : Method) (c : Code) : Prop :=
  p.tables.exec = Jvm.exec ∧ c.code = mi.2.1 ∧ meth.sig.returnType = mi.2.2.2 ∧ c.maxLocals = mi.2.2.1 ∧ s.vm.findClass mi.1.cls = some m.cls ∧ (∀ w ∈ ab_tb, w.before args s = true) ∧ meth.locks = false
def ab_W0 (G : ab_G) (M : ab_M) (s : State) (H : Heap) (locs : List Loc) : Prop :=
  va_P (ab_D G) vwCl (ab_ws G M) H ∧ va_K (ab_D G) vwCl (ab_ty G) s ∧ va_D (ab_A G) (ab_ws G M) ∧ va_S (ab_A G) s.heap H locs ∧ ab_T G M s H ∧ ab_Z G s s.heap ∧ ab_X M ∧ G.2.2.1 120 < s.heap.size ∧ G.2.2.1 121 < s.heap.size
def ab_gl : ab_L → Nat → Option ab_V
  | [], _ => none
  | x :: _, 0 => x
  | _ :: xs, k + 1 => ab_gl xs k
def ab_sl : ab_L → Nat → Option ab_V → ab_L
  | [], 0, v => [v]
  | [], k + 1, v => none :: ab_sl [] k v
  | _ :: xs, 0, v => v :: xs
  | x :: xs, k + 1, v => x :: ab_sl xs k v
def ab_lr (G : ab_G) (lr : Array Slot) (nL : Nat) (ls : ab_L) : Prop := lr.size = nL ∧ lv_wf lr ∧ ∀ (k : Nat) (v : ab_V), ab_gl ls k = some v → lr[k]? = some (.val (ab_rv G v))
def ab_ok (ls : ab_L) (st : List ab_V) : Prop := (∀ (k : Nat) (v : ab_V), ab_gl ls k = some v → ab_okV v) ∧ ∀ v ∈ st, ab_okV v
/-- the machine, at pc of a method with so many frames of room, comes to its end, and K holds there -/
def ab_At (mi : ab_I) (d pc : Nat) (ls : ab_L) (st : List ab_V) (M : ab_M) (K : ab_K) : Prop :=
  ∀ (p : Program) (l : Launch) (e : Env) (s : State) (m : MethodId) (args : Array Value) (below : List Frame) (meth : Method) (c : Code) (G : ab_G) (H : Heap) (locs : List Loc) (lr : Array Slot),
    ab_Cx mi p s m args meth c → ab_W0 G M s H locs → ab_lr G lr mi.2.2.1 ls → ab_ok ls st →
    W p l e (ab_R d) s m args below meth c H locs 0 0 (MQ below (ab_Q G K) args s 0 0 (ab_A G)) (F0 m pc lr (st.map (ab_rv G)))
/-! what an instruction asks for -/
def ab_nv : ab_V → Option Int32
  | .inl (.ofNat k) => some (nI (@OfNat.ofNat Nat k (instOfNatNat k)))
  | .inl (.negSucc k) => some (-nI (@OfNat.ofNat Nat k (instOfNatNat k) + 1))
  | .inr (.inl x) => some x
  | .inr (.inr _) => none
def ab_sI (M : ab_M) (g i k : Nat) (v : Int32) : ab_M := (fun a b c => if a = g ∧ b = i ∧ c = k then v else M.1 a b c, M.2)
def ab_sJ (M : ab_M) (g i k : Nat) (v : Int64) : ab_M := (M.1, fun a b c => if a = g ∧ b = i ∧ c = k then v else M.2.1 a b c, M.2.2)
def ab_sX (M : ab_M) (g i k : Nat) (v : Nat) : ab_M := (M.1, M.2.1, fun a b c => if a = g ∧ b = i ∧ c = k then v else M.2.2 a b c)
def ab_sC (M : ab_M) (g i a h j b n : Nat) : ab_M := (fun x y k => if x = h ∧ y = j ∧ b ≤ k ∧ k < b + n then M.1 g i (a + (k - b)) else M.1 x y k, M.2)
def ab_cc (c : ClassFile.Cond) (a b : Int) : Bool := match c with
  | .eq => decide (a = b)
  | .ne => !decide (a = b)
  | .lt => decide (a < b)
  | .ge => !decide (a < b)
  | .gt => decide (b < a)
  | .le => !decide (b < a)
def ab_cp (c : ClassFile.Cond) (x y : Int32) (A B : Prop) : Prop := match c with
  | .eq => (x = y → A) ∧ (¬ x = y → B)
  | .ne => (¬ x = y → A) ∧ (x = y → B)
  | .lt => (x < y → A) ∧ (y ≤ x → B)
  | .ge => (y ≤ x → A) ∧ (x < y → B)
  | .gt => (y < x → A) ∧ (x ≤ y → B)
  | .le => (x ≤ y → A) ∧ (y < x → B)
def ab_br (c : ClassFile.Cond) (a b : ab_V) (A B : Prop) : Prop := match a, b with
  | .inl m, .inl n => (match ab_cc c m n with
    | true => A
    | false => B)
  | a, b => (match ab_nv a, ab_nv b with
    | some x, some y => ab_cp c x y A B
    | _, _ => False)
def ab_shl (x y : Int32) : Int32 := x <<< (y &&& 31)
def ab_shr (x y : Int32) : Int32 := x >>> (y &&& 31)
def ab_ushr (x y : Int32) : Int32 := (x.toUInt32 >>> (y.toUInt32 &&& Int32.toUInt32 31)).toInt32
def ab_rem (x y : Int32) : Int32 := x - x / y * y
def ab_remL (x y : Int64) : Int64 := x - x / y * y
def ab_bin (f : Int32 → Int32 → Int32) (nx : ab_P) : ab_P := fun ls st M => match st with
  | b :: a :: st => (match ab_nv a, ab_nv b with
    | some x, some y => nx ls (vi (f x y) :: st) M
    | _, _ => False)
  | _ => False
def ab_dv (f : Int32 → Int32 → Int32) (nx : ab_P) : ab_P := fun ls st M => match st with
  | b :: a :: st => (match ab_nv a, ab_nv b with
    | some x, some y => ¬ y = 0 ∧ nx ls (vi (f x y) :: st) M
    | _, _ => False)
  | _ => False
def ab_lbin (f : Int64 → Int64 → Int64) (nx : ab_P) : ab_P := fun ls st M => match st with
  | .inr (.inr (.inl y)) :: .inr (.inr (.inl x)) :: st => nx ls (vl (f x y) :: st) M
  | _ => False
def ab_ldv (f : Int64 → Int64 → Int64) (nx : ab_P) : ab_P := fun ls st M => match st with
  | .inr (.inr (.inl y)) :: .inr (.inr (.inl x)) :: st => ¬ y = 0 ∧ nx ls (vl (f x y) :: st) M
  | _ => False
def ab_un (f : Int32 → ab_V) (nx : ab_P) : ab_P := fun ls st M => match st with
  | a :: st => (match ab_nv a with
    | some x => nx ls (f x :: st) M
    | none => False)
  | _ => False
def ab_ild (k : Nat) (nx : ab_P) : ab_P := fun ls st M => match ab_gl ls k with
  | some (.inl n) => nx ls (.inl n :: st) M
  | some (.inr (.inl x)) => nx ls (vi x :: st) M
  | _ => False
def ab_lld (k : Nat) (nx : ab_P) : ab_P := fun ls st M => match ab_gl ls k with
  | some (.inr (.inr (.inl x))) => nx ls (vl x :: st) M
  | _ => False
def ab_ald (k : Nat) (nx : ab_P) : ab_P := fun ls st M => match ab_gl ls k with
  | some (.inr (.inr (.inr q))) => nx ls (.inr (.inr (.inr q)) :: st) M
  | _ => False
/-- a local is written: a long that ended there is gone -/
def ab_kp (ls : ab_L) (k : Nat) : ab_L := match k with
  | 0 => ls
  | k + 1 => (match ab_gl ls k with
    | some (.inr (.inr (.inl _))) => ab_sl ls k none
    | _ => ls)
def ab_s1 (ls : ab_L) (k : Nat) (v : ab_V) : ab_L := ab_sl (ab_kp ls k) k (some v)
def ab_s2 (ls : ab_L) (k : Nat) (v : ab_V) : ab_L := ab_sl (ab_sl (ab_kp ls k) k (some v)) (k + 1) none
def ab_ist (k : Nat) (nx : ab_P) : ab_P := fun ls st M => match st with
  | .inl n :: st => nx (ab_s1 ls k (.inl n)) st M
  | .inr (.inl x) :: st => nx (ab_s1 ls k (vi x)) st M
  | _ => False
def ab_lst (k : Nat) (nx : ab_P) : ab_P := fun ls st M => match st with
  | .inr (.inr (.inl x)) :: st => nx (ab_s2 ls k (vl x)) st M
  | _ => False
def ab_ast (k : Nat) (nx : ab_P) : ab_P := fun ls st M => match st with
  | .inr (.inr (.inr q)) :: st => nx (ab_s1 ls k (.inr (.inr (.inr q)))) st M
  | _ => False
/-- a place of an array -/
def ab_ix (v : ab_V) (n : Nat) (f : Nat → Prop) : Prop := match v with
  | .inl (.ofNat j) => (match Nat.blt j n with
    | true => f (@OfNat.ofNat Nat j (instOfNatNat j))
    | false => False)
  | .inl (.negSucc _) => False
  | .inr (.inl x) => ∃ j : Nat, x = nI j ∧ j < n ∧ f j
  | .inr (.inr _) => False
def ab_iald (nx : ab_P) : ab_P := fun ls st M => match st with
  | v :: .inr (.inr (.inr (g, i))) :: st => (match ab_gi g with
    | (0, _, n, _, _, _) => ab_ix v n (fun j => nx ls (vi (M.1 g i j) :: st) M)
    | (6, _, _, _, _, _) => ab_ix v (if i = 4 then 0 else 80) (fun j => nx ls (vi (M.1 g i j) :: st) M)
    | (7, _, _, _, _, _) => ab_ix v (M.2.2 71 0 0) (fun j => nx ls (vi (M.1 71 0 j) :: st) M)
    | (8, _, _, _, _, _) => ab_ix v 6 (fun j => nx ls (vi (M.1 70 0 j) :: st) M)
    | _ => False)
  | _ => False
def ab_zald (nx : ab_P) : ab_P := fun ls st M => match st with
  | v :: .inr (.inr (.inr (g, i))) :: st => (match ab_gi g with
    | (1, _, n, _, _, _) => ab_ix v n (fun j => nx ls (vi (M.1 g i j) :: st) M)
    | _ => False)
  | _ => False
def ab_lald (nx : ab_P) : ab_P := fun ls st M => match st with
  | v :: .inr (.inr (.inr (g, i))) :: st => (match ab_gi g with
    | (2, _, n, _, _, _) => ab_ix v n (fun j => nx ls (vl (M.2.1 g i j) :: st) M)
    | _ => False)
  | _ => False
def ab_aald (nx : ab_P) : ab_P := fun ls st M => match st with
  | v :: .inr (.inr (.inr (g, i))) :: st => (match ab_gi g with
    | (3, _, n, eg, em, ea) => ab_ix v n (fun j => (match em, ea with
      | 0, 0 => nx ls (vr eg j :: st) M
      | 0, ea + 1 => nx ls (vr eg (ea + 1 + j) :: st) M
      | em + 1, _ => nx ls (vr eg ((em + 1) * i + j) :: st) M))
    | (4, _, n, eg, em, ea) => ab_ix v n (fun j => (match em, ea with
      | 0, 0 => nx ls (vr eg j :: st) M
      | 0, ea + 1 => nx ls (vr eg (ea + 1 + j) :: st) M
      | em + 1, _ => nx ls (vr eg ((em + 1) * i + j) :: st) M))
    | _ => False)
  | _ => False
def ab_alen (nx : ab_P) : ab_P := fun ls st M => match st with
  | .inr (.inr (.inr (g, i))) :: st => (match ab_gi g with
    | (0, _, n, _, _, _) => nx ls (vi (nI n) :: st) M
    | (7, _, _, _, _, _) => nx ls (vi (nI (M.2.2 71 0 0)) :: st) M
    | (8, _, _, _, _, _) => nx ls (vi (nI 6) :: st) M
    | _ => False)
  | _ => False
def ab_iast (nx : ab_P) : ab_P := fun ls st M => match st with
  | x :: v :: .inr (.inr (.inr (g, i))) :: st => (match ab_nv x with
    | some x => (match ab_gi g with
      | (0, _, n, _, _, _) => ab_ix v n (fun j => nx ls st (ab_sI M g i j x))
      | (6, _, _, _, _, _) => ab_ix v (if i = 4 then 0 else 80) (fun j => nx ls st (ab_sI M g i j x))
      | _ => False)
    | none => False)
  | _ => False
def ab_zast (nx : ab_P) : ab_P := fun ls st M => match st with
  | x :: v :: .inr (.inr (.inr (g, i))) :: st => (match ab_nv x with
    | some x => (match ab_gi g with
      | (1, _, n, _, _, _) => ab_ix v n (fun j => nx ls st (ab_sI M g i j (vp_nar .boolean x)))
      | _ => False)
    | none => False)
  | _ => False
def ab_last (nx : ab_P) : ab_P := fun ls st M => match st with
  | .inr (.inr (.inl x)) :: v :: .inr (.inr (.inr (g, i))) :: st => (match ab_gi g with
    | (2, _, n, _, _, _) => ab_ix v n (fun j => nx ls st (ab_sJ M g i j x))
    | _ => False)
  | _ => False
def ab_getf (a b : Nat) (nx : ab_P) : ab_P := fun ls st M => match st with
  | .inr (.inr (.inr (g, i))) :: st => (match ab_gi g with
    | (5, _, ci, _, _, _) => (match Nat.beq ci a with
      | true => (match ab_fd g b with
        | (0, _, _, _) => nx ls (vi (M.1 g i b) :: st) M
        | (1, _, _, _) => nx ls (vl (M.2.1 g i b) :: st) M
        | (2, h, mul, add) => (match mul with
          | 0 => nx ls (vr h add :: st) M
          | _ + 1 => nx ls (vr h i :: st) M)
        | (3, h, _, _) => nx ls (vr h (M.2.2 g i b) :: st) M
        | _ => False)
      | false => False)
    | _ => False)
  | _ => False
def ab_putf (a b : Nat) (nx : ab_P) : ab_P := fun ls st M => match st with
  | v :: .inr (.inr (.inr (g, i))) :: st => (match ab_gi g with
    | (5, _, ci, _, _, _) => (match Nat.beq ci a with
      | true => (match ab_fd g b with
        | (0, _, _, _) => (match ab_nv v with
          | some x => nx ls st (ab_sI M g i b x)
          | none => False)
        | (1, _, _, _) => (match v with
          | .inr (.inr (.inl x)) => nx ls st (ab_sJ M g i b x)
          | _ => False)
        | (3, h, _, _) => (match v with
          | .inr (.inr (.inr q)) => (match Nat.beq q.1 h with
            | true => nx ls st (ab_sX M g i b q.2)
            | false => False)
          | _ => False)
        | _ => False)
      | false => False)
    | _ => False)
  | _ => False
/-- the arguments off the stack, first one first -/
def ab_tk : Nat → List ab_V → List ab_V → Option (List ab_V × List ab_V)
  | 0, acc, st => some (acc, st)
  | n + 1, acc, v :: st => ab_tk n (v :: acc) st
  | _ + 1, _, [] => none
def ab_sz : List ab_V → Nat
  | [] => 0
  | .inr (.inr (.inl _)) :: st => 2 + ab_sz st
  | _ :: st => 1 + ab_sz st
def ab_pu (r : Option ab_V) (st : List ab_V) : List ab_V := match r with
  | some v => v :: st
  | none => st
def ab_inv (d id n : Nat) (nx : ab_P) (ok : List ab_V → Bool) : ab_P := fun ls st M => match ab_tk n [] st with
  | some (as, st) => (match ok as && Nat.ble (ab_sz st) 8 with
    | true => (match d with
      | d + 1 => ab_Call d id (as.map ab_nr) M (fun r M => nx ls (ab_pu r st) M)
      | 0 => False)
    | false => False)
  | none => False
def ab_rc (c : Nat) (as : List ab_V) : Bool := match as with
  | .inr (.inr (.inr (g, _))) :: _ => (match ab_gi g with
    | (5, _, ci, _, _, _) => Nat.beq ci c
    | _ => false)
  | _ => false
def ab_acp (d : Nat) (nx : ab_P) : ab_P := fun ls st M => match d with
  | 0 => False
  | _ + 1 => (match st with
    | n :: b :: .inr (.inr (.inr (h, j))) :: a :: .inr (.inr (.inr (g, i))) :: st => (match ab_nv n, ab_nv b, ab_nv a with
      | some n, some b, some a => (match Nat.ble (ab_sz st) 8, Nat.beq (ab_gi h).1 0 || Nat.beq (ab_gi h).1 6, Nat.beq (ab_gi g).1 0 || Nat.beq (ab_gi g).1 6 with
        | true, true, true => ∃ a' b' n' : Nat, a = nI a' ∧ b = nI b' ∧ n = nI n' ∧ a' + n' ≤ ab_ls g i ∧ b' + n' ≤ ab_ls h j ∧ nx ls st (ab_sC M g i a' h j b' n')
        | _, _, _ => False)
      | _, _, _ => False)
    | _ => False)
/-- the lesser of two -/
def ab_mn (d : Nat) (nx : ab_P) : ab_P := fun ls st M => match d, st with
  | _ + 1, y :: x :: st => (match ab_nv x, ab_nv y, Nat.ble (ab_sz st) 8 with
    | some x, some y, true => nx ls (vi (if y < x then y else x) :: st) M
    | _, _, _ => False)
  | _, _ => False
def ab_if0 (c : ClassFile.Cond) (tg nx : ab_P) : ab_P := fun ls st M => match st with
  | a :: st => ab_br c a (.inl 0) (tg ls st M) (nx ls st M)
  | _ => False
def ab_if2 (c : ClassFile.Cond) (tg nx : ab_P) : ab_P := fun ls st M => match st with
  | b :: a :: st => ab_br c a b (tg ls st M) (nx ls st M)
  | _ => False
def ab_sw (x : Int32) (jp : Int → Prop) : Int → List Int → Prop
  | _, [] => True
  | k, o :: os => (x = ab_cv k → jp o) ∧ ab_sw x jp (k + 1) os
def ab_dup (nx : ab_P) : ab_P := fun ls st M => match st with
  | .inr (.inr (.inl _)) :: _ => False
  | a :: st => nx ls (a :: a :: st) M
  | _ => False
def ab_dup2 (nx : ab_P) : ab_P := fun ls st M => match st with
  | .inr (.inr (.inl x)) :: st => nx ls (vl x :: vl x :: st) M
  | _ :: .inr (.inr (.inl _)) :: _ => False
  | a :: b :: st => nx ls (a :: b :: a :: b :: st) M
  | _ => False
def ab_lcmp (nx : ab_P) : ab_P := fun ls st M => match st with
  | .inr (.inr (.inl y)) :: .inr (.inr (.inl x)) :: st => (x < y → nx ls (.inl (-1) :: st) M) ∧ (x = y → nx ls (.inl 0 :: st) M) ∧ (y < x → nx ls (.inl 1 :: st) M)
  | _ => False
def ab_ret (mi : ab_I) (K : ab_K) : ab_P := fun _ st M => match st with
  | [v] => (match mi.2.2.2 with
    | some .int => (match v with
      | .inl _ => K (some v) M
      | .inr (.inl _) => K (some v) M
      | _ => False)
    | some .boolean => (match v with
      | .inl (.ofNat 0) => K (some v) M
      | .inl (.ofNat 1) => K (some v) M
      | .inr (.inl x) => (x = 0 ∨ x = 1) ∧ K (some v) M
      | _ => False)
    | some .long => (match v with
      | .inr (.inr (.inl _)) => K (some v) M
      | _ => False)
    | _ => False)
  | [] => (match mi.2.2.2 with
    | none => K none M
    | some _ => False)
  | _ => False
def ab_stp (mi : ab_I) (d : Nat) (K : ab_K) (nx : ab_P) (jp : Int → ab_P) (a b : Nat) (c : Int) (ins : Instr) : ab_P := match ins with
  | .iconst n => fun ls st M => nx ls (.inl n :: st) M
  | .bipush n => fun ls st M => nx ls (.inl n :: st) M
  | .sipush n => fun ls st M => nx ls (.inl n :: st) M
  | .lconst n => fun ls st M => nx ls (vl (lN n.val) :: st) M
  | .ldc _ => fun ls st M => nx ls (vi (ab_cv c) :: st) M
  | .ldc_w _ => fun ls st M => nx ls (vi (ab_cv c) :: st) M
  | .ldc2_w _ => fun ls st M => nx ls (vl (Int64.ofInt c) :: st) M
  | .iload_n k => ab_ild k.val nx
  | .iload k => ab_ild k nx
  | .lload_n k => ab_lld k.val nx
  | .lload k => ab_lld k nx
  | .aload_n k => ab_ald k.val nx
  | .aload k => ab_ald k nx
  | .istore_n k => ab_ist k.val nx
  | .istore k => ab_ist k nx
  | .lstore_n k => ab_lst k.val nx
  | .lstore k => ab_lst k nx
  | .astore_n k => ab_ast k.val nx
  | .astore k => ab_ast k nx
  | .iinc k n => fun ls st M => (match ab_gl ls k with
    | some v => (match ab_nv v with
      | some x => nx (ab_s1 ls k (vi (x + ab_cv n))) st M
      | none => False)
    | none => False)
  | .iadd => ab_bin HAdd.hAdd nx
  | .isub => ab_bin HSub.hSub nx
  | .imul => ab_bin HMul.hMul nx
  | .iand => ab_bin HAnd.hAnd nx
  | .ior => ab_bin HOr.hOr nx
  | .ixor => ab_bin HXor.hXor nx
  | .ishl => ab_bin ab_shl nx
  | .ishr => ab_bin ab_shr nx
  | .iushr => ab_bin ab_ushr nx
  | .idiv => ab_dv HDiv.hDiv nx
  | .irem => ab_dv ab_rem nx
  | .ineg => ab_un (fun x => vi (-x)) nx
  | .i2l => ab_un (fun x => vl x.toInt64) nx
  | .i2b => ab_un (fun x => vi x.toInt8.toInt32) nx
  | .l2i => fun ls st M => (match st with
    | .inr (.inr (.inl x)) :: st => nx ls (vi x.toInt32 :: st) M
    | _ => False)
  | .ladd => ab_lbin HAdd.hAdd nx
  | .lsub => ab_lbin HSub.hSub nx
  | .lmul => ab_lbin HMul.hMul nx
  | .ldiv => ab_ldv HDiv.hDiv nx
  | .lrem => ab_ldv ab_remL nx
  | .lcmp => ab_lcmp nx
  | .dup => ab_dup nx
  | .dup2 => ab_dup2 nx
  | .iaload => ab_iald nx
  | .baload => ab_zald nx
  | .laload => ab_lald nx
  | .aaload => ab_aald nx
  | .arraylength => ab_alen nx
  | .iastore => ab_iast nx
  | .bastore => ab_zast nx
  | .lastore => ab_last nx
  | .getfield _ => ab_getf a b nx
  | .putfield _ => ab_putf a b nx
  | .getstatic _ => fun ls st M => nx ls (vr 70 0 :: st) M
  | .invokevirtual _ => ab_inv d a b nx (ab_rc c.toNat)
  | .invokestatic _ => (match Nat.beq b 99 with
    | true => ab_acp d nx
    | false => (match Nat.beq b 98 with
      | true => ab_mn d nx
      | false => ab_inv d a b nx (fun _ => true)))
  | .ifCond cd off => ab_if0 cd (jp off) nx
  | .if_icmp cd off => ab_if2 cd (jp off) nx
  | .goto off => jp off
  | .tableswitch df lo _ os => fun ls st M => (match st with
    | v :: st => (match ab_nv v with
      | some x => (x.toInt < lo ∨ lo + os.toList.length ≤ x.toInt → jp df ls st M) ∧ ab_sw x (fun o => jp o ls st M) lo os.toList
      | none => False)
    | _ => False)
  | .ireturn => ab_ret mi K
  | .lreturn => ab_ret mi K
  | .return_ => ab_ret mi K
  | _ => fun _ _ _ => False
def ab_lk : List (Nat × ab_P) → Nat → ab_P
  | [], _ => fun _ _ _ => False
  | (p, f) :: r, t => (match Nat.beq p t with
    | true => f
    | false => ab_lk r t)
def ab_jp (cut : Nat → ab_P) (r : List (Nat × ab_P)) (pc : Nat) (off : Int) : ab_P := match off with
  | .ofNat k => ab_lk r (pc + k)
  | .negSucc k => cut (pc - (k + 1))
def ab_step (mi : ab_I) (d : Nat) (K : ab_K) (cut : Nat → ab_P) (e : ab_E) (r : List (Nat × ab_P)) : ab_P := match e with
  | (pc, ins, len, a, b, c) => ab_stp mi d K (ab_lk r (pc + len)) (ab_jp cut r pc) a b c ins
abbrev ab_C : Type := List (Nat × List Bool)
def ab_has : ab_C → Nat → Option (List Bool)
  | [], _ => none
  | (p, n) :: r, t => (match Nat.beq p t with
    | true => some n
    | false => ab_has r t)
/-- a loop's head: the locals that are still read -/
def ab_mk : List Bool → ab_L → ab_L
  | [], _ => []
  | _ :: bs, [] => none :: ab_mk bs []
  | true :: bs, x :: xs => x.map ab_nr :: ab_mk bs xs
  | false :: bs, _ :: xs => none :: ab_mk bs xs
def ab_cut (mi : ab_I) (cs : ab_C) (d : Nat) (K : ab_K) (pc : Nat) : ab_P := fun ls st M => match ab_has cs pc, st with
  | some n, [] => ab_At mi d pc (ab_mk n ls) [] M K
  | _, _ => False
def ab_sm (mi : ab_I) (cs : ab_C) (d : Nat) (K : ab_K) : List ab_E → List (Nat × ab_P)
  | [] => []
  | e :: es => (e.1, match ab_has cs e.1 with
    | some _ => ab_cut mi cs d K e.1
    | none => ab_step mi d K (ab_cut mi cs d K) e (ab_sm mi cs d K es)) :: ab_sm mi cs d K es
/-- what the code asks for from pc on -/
def ab_vc (mi : ab_I) (cs : ab_C) (d : Nat) (K : ab_K) : List ab_E → Nat → ab_P
  | [], _ => fun _ _ _ => False
  | e :: es, pc => (match Nat.beq e.1 pc with
    | true => ab_step mi d K (ab_cut mi cs d K) e (ab_sm mi cs d K es)
    | false => ab_vc mi cs d K es pc)
/-- the locals that a call's arguments are -/
def ab_lo : List ab_V → ab_L
  | [] => []
  | .inr (.inr (.inl x)) :: as => some (vl x) :: none :: ab_lo as
  | v :: as => some v :: ab_lo as
