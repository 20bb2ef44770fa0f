abbrev kX4_init : xK := (cX4_init, RX4, "<init>", 1, 1, 12, (none : Option FieldType), (none : Option (Nat × (Nat → Int32))))
abbrev kX0_init : xK := (cX0_init, RX0, "<init>", 2, 2, 32, (none : Option FieldType), (none : Option (Nat × (Nat → Int32))))
abbrev kX5_init : xK := (cX5_init, RX5, "<init>", 1, 1, 12, (none : Option FieldType), (none : Option (Nat × (Nat → Int32))))
abbrev kX1_init : xK := (cX1_init, RX1, "<init>", 2, 1, 12, (none : Option FieldType), (none : Option (Nat × (Nat → Int32))))
abbrev kX2_init : xK := (cX2_init, RX2, "<init>", 1, 1, 12, (none : Option FieldType), (none : Option (Nat × (Nat → Int32))))
abbrev kX3_init : xK := (cX3_init, RX3, "<init>", 1, 2, 32, (none : Option FieldType), (none : Option (Nat × (Nat → Int32))))
abbrev kX6_init : xK := (cX6_init, RX6, "<init>", 2, 3, 53, (none : Option FieldType), (none : Option (Nat × (Nat → Int32))))
abbrev kX7_init : xK := (cX7_init, RX7, "<init>", 1, 1, 12, (none : Option FieldType), (none : Option (Nat × (Nat → Int32))))
abbrev kX5_appendWord : xK := (cX5_appendWord, RX5, "appendWord", 3, 0, 0, (none : Option FieldType), (none : Option (Nat × (Nat → Int32))))
abbrev kX6_feed : xK := (cX6_feed, RX6, "feed", 6, 1, 22, ((some .int) : Option FieldType), (none : Option (Nat × (Nat → Int32))))
abbrev kX7_comes : xK := (cX7_comes, RX7, "comes", 3, 0, 0, (none : Option FieldType), (none : Option (Nat × (Nat → Int32))))
abbrev kX7_feed : xK := (cX7_feed, RX7, "feed", 6, 1, 22, ((some .int) : Option FieldType), (none : Option (Nat × (Nat → Int32))))
abbrev kX6_end : xK := (cX6_end, RX6, "end", 2, 0, 0, ((some .int) : Option FieldType), (none : Option (Nat × (Nat → Int32))))
abbrev kX7_in : xK := (cX7_in, RX7, "in", 6, 0, 0, ((some .boolean) : Option FieldType), (none : Option (Nat × (Nat → Int32))))
abbrev kX7_end_ : xK := (cX7_end_, RX7, "end", 2, 1, 25, ((some .int) : Option FieldType), (none : Option (Nat × (Nat → Int32))))
abbrev kX6_isStore : xK := (cX6_isStore, RX6, "isStore", 1, 0, 0, ((some .boolean) : Option FieldType), (none : Option (Nat × (Nat → Int32))))
abbrev kX6_refuse : xK := (cX6_refuse, RX6, "refuse", 2, 0, 0, ((some .int) : Option FieldType), (none : Option (Nat × (Nat → Int32))))
abbrev kX1_start : xK := (cX1_start, RX1, "start", 1, 0, 0, (none : Option FieldType), (none : Option (Nat × (Nat → Int32))))
abbrev kX5_skipBlanks : xK := (cX5_skipBlanks, RX5, "skipBlanks", 1, 0, 0, (none : Option FieldType), (none : Option (Nat × (Nat → Int32))))
abbrev kX5_fail : xK := (cX5_fail, RX5, "fail", 2, 0, 0, ((some .boolean) : Option FieldType), (none : Option (Nat × (Nat → Int32))))
abbrev kX5_takeSign : xK := (cX5_takeSign, RX5, "takeSign", 2, 0, 0, ((some .boolean) : Option FieldType), (none : Option (Nat × (Nat → Int32))))
abbrev kX5_isDigit : xK := (cX5_isDigit, RX5, "isDigit", 1, 0, 0, ((some .boolean) : Option FieldType), (none : Option (Nat × (Nat → Int32))))
abbrev kJ9_min_7cf53 : xK := (cJ9_min_7cf53, RJ9, "min", 2, 0, 0, ((some .int) : Option FieldType), (none : Option (Nat × (Nat → Int32))))
abbrev kX5_readNumber : xK := (cX5_readNumber, RX5, "readNumber", 5, 1, 21, ((some .boolean) : Option FieldType), (none : Option (Nat × (Nat → Int32))))
abbrev kX5_readFraction : xK := (cX5_readFraction, RX5, "readFraction", 4, 2, 45, ((some .boolean) : Option FieldType), (none : Option (Nat × (Nat → Int32))))
abbrev kX1_addLine : xK := (cX1_addLine, RX1, "addLine", 9, 0, 0, (none : Option FieldType), (none : Option (Nat × (Nat → Int32))))
abbrev kX1_addBetween : xK := (cX1_addBetween, RX1, "addBetween", 9, 1, 28, (none : Option FieldType), (none : Option (Nat × (Nat → Int32))))
abbrev kX5_addReadKnot : xK := (cX5_addReadKnot, RX5, "addReadKnot", 4, 2, 56, (none : Option FieldType), (none : Option (Nat × (Nat → Int32))))
abbrev kX5_readKnot : xK := (cX5_readKnot, RX5, "readKnot", 4, 3, 79, ((some .boolean) : Option FieldType), (none : Option (Nat × (Nat → Int32))))
abbrev kX5_endPart : xK := (cX5_endPart, RX5, "endPart", 2, 2, 56, (none : Option FieldType), (none : Option (Nat × (Nat → Int32))))
abbrev kX5_readText : xK := (cX5_readText, RX5, "readText", 3, 4, 102, ((some .boolean) : Option FieldType), (none : Option (Nat × (Nat → Int32))))
abbrev kX4_wipe : xK := (cX4_wipe, RX4, "wipe", 1, 0, 0, (none : Option FieldType), (none : Option (Nat × (Nat → Int32))))
abbrev kJ9_floorDiv_f86c9 : xK := (cJ9_floorDiv_f86c9, RJ9, "floorDiv", 6, 0, 0, ((some .long) : Option FieldType), (none : Option (Nat × (Nat → Int32))))
abbrev kJ13_compare_74951 : xK := (cJ13_compare_74951, RJ13, "compare", 4, 0, 0, ((some .int) : Option FieldType), (none : Option (Nat × (Nat → Int32))))
abbrev kX2_order : xK := (cX2_order, RX2, "order", 12, 1, 25, ((some .int) : Option FieldType), (none : Option (Nat × (Nat → Int32))))
abbrev kX1_orderAt : xK := (cX1_orderAt, RX1, "orderAt", 4, 2, 56, ((some .int) : Option FieldType), (none : Option (Nat × (Nat → Int32))))
abbrev kX1_lookAt : xK := (cX1_lookAt, RX1, "lookAt", 3, 3, 79, (none : Option FieldType), (none : Option (Nat × (Nat → Int32))))
abbrev kX1_steepness : xK := (cX1_steepness, RX1, "steepness", 3, 1, 23, ((some .int) : Option FieldType), (none : Option (Nat × (Nat → Int32))))
abbrev kX1_lowestLive : xK := (cX1_lowestLive, RX1, "lowestLive", 6, 3, 79, ((some .int) : Option FieldType), (none : Option (Nat × (Nat → Int32))))
abbrev kJ9_abs_067f4 : xK := (cJ9_abs_067f4, RJ9, "abs", 2, 0, 0, ((some .long) : Option FieldType), (none : Option (Nat × (Nat → Int32))))
abbrev kX2_commonDivisor : xK := (cX2_commonDivisor, RX2, "commonDivisor", 11, 1, 21, ((some .long) : Option FieldType), (none : Option (Nat × (Nat → Int32))))
abbrev kJ9_max_7cf53 : xK := (cJ9_max_7cf53, RJ9, "max", 2, 0, 0, ((some .int) : Option FieldType), (none : Option (Nat × (Nat → Int32))))
abbrev kJ7_copyOf_c38d5 : xK := (cJ7_copyOf_c38d5, RJ7, "copyOf", 3, 1, 30, ((some (.array .long)) : Option FieldType), (none : Option (Nat × (Nat → Int32))))
abbrev kJ7_copyOf_59c91 : xK := (cJ7_copyOf_59c91, RJ7, "copyOf", 3, 1, 30, ((some (.array .int)) : Option FieldType), (none : Option (Nat × (Nat → Int32))))
abbrev kX4_makeRoom : xK := (cX4_makeRoom, RX4, "makeRoom", 3, 2, 52, (none : Option FieldType), (none : Option (Nat × (Nat → Int32))))
abbrev kX4_addKnot : xK := (cX4_addKnot, RX4, "addKnot", 14, 3, 74, (none : Option FieldType), (none : Option (Nat × (Nat → Int32))))
abbrev kX1_addEnd : xK := (cX1_addEnd, RX1, "addEnd", 5, 4, 107, (none : Option FieldType), (none : Option (Nat × (Nat → Int32))))
abbrev kX1_meetAt : xK := (cX1_meetAt, RX1, "meetAt", 6, 5, 131, (none : Option FieldType), (none : Option (Nat × (Nat → Int32))))
abbrev kX1_crossingBottom : xK := (cX1_crossingBottom, RX1, "crossingBottom", 3, 0, 0, ((some .long) : Option FieldType), (none : Option (Nat × (Nat → Int32))))
abbrev kX1_crossingTop : xK := (cX1_crossingTop, RX1, "crossingTop", 3, 0, 0, ((some .long) : Option FieldType), (none : Option (Nat × (Nat → Int32))))
abbrev kX1_firstCrossing : xK := (cX1_firstCrossing, RX1, "firstCrossing", 14, 2, 56, ((some .int) : Option FieldType), (none : Option (Nat × (Nat → Int32))))
abbrev kX1_follow : xK := (cX1_follow, RX1, "follow", 10, 4, 107, ((some .int) : Option FieldType), (none : Option (Nat × (Nat → Int32))))
abbrev kX1_lowestInto : xK := (cX1_lowestInto, RX1, "lowestInto", 6, 6, 156, (none : Option FieldType), (none : Option (Nat × (Nat → Int32))))
abbrev kX0_keep : xK := (cX0_keep, RX0, "keep", 5, 1, 21, ((some (.object "LeastSums$Shape")) : Option FieldType), (none : Option (Nat × (Nat → Int32))))
abbrev kX6_settle : xK := (cX6_settle, RX6, "settle", 4, 2, 45, ((some .int) : Option FieldType), (none : Option (Nat × (Nat → Int32))))
abbrev kX6_read : xK := (cX6_read, RX6, "read", 3, 7, 181, ((some .int) : Option FieldType), (none : Option (Nat × (Nat → Int32))))
abbrev kX7_isStore : xK := (cX7_isStore, RX7, "isStore", 1, 1, 25, ((some .boolean) : Option FieldType), (none : Option (Nat × (Nat → Int32))))
abbrev kX7_refuse : xK := (cX7_refuse, RX7, "refuse", 2, 0, 0, ((some .int) : Option FieldType), (none : Option (Nat × (Nat → Int32))))
abbrev kX7_sign : xK := (cX7_sign, RX7, "sign", 1, 0, 0, ((some .int) : Option FieldType), (none : Option (Nat × (Nat → Int32))))
abbrev kX7_wrong : xK := (cX7_wrong, RX7, "wrong", 2, 0, 0, (none : Option FieldType), (none : Option (Nat × (Nat → Int32))))
abbrev kX7_isDigit : xK := (cX7_isDigit, RX7, "isDigit", 1, 1, 25, ((some .boolean) : Option FieldType), (none : Option (Nat × (Nat → Int32))))
abbrev kX7_number : xK := (cX7_number, RX7, "number", 5, 2, 45, ((some .int) : Option FieldType), (none : Option (Nat × (Nat → Int32))))
abbrev kX7_fraction : xK := (cX7_fraction, RX7, "fraction", 5, 3, 69, ((some .int) : Option FieldType), (none : Option (Nat × (Nat → Int32))))
abbrev kX7_readKnot : xK := (cX7_readKnot, RX7, "readKnot", 4, 4, 93, (none : Option FieldType), (none : Option (Nat × (Nat → Int32))))
abbrev kX7_readPart : xK := (cX7_readPart, RX7, "readPart", 1, 5, 116, (none : Option FieldType), (none : Option (Nat × (Nat → Int32))))
abbrev kX7_lay : xK := (cX7_lay, RX7, "lay", 8, 0, 0, (none : Option FieldType), (none : Option (Nat × (Nat → Int32))))
abbrev kX7_remember : xK := (cX7_remember, RX7, "remember", 3, 1, 27, (none : Option FieldType), (none : Option (Nat × (Nat → Int32))))
abbrev kX7_line : xK := (cX7_line, RX7, "line", 9, 0, 0, (none : Option FieldType), (none : Option (Nat × (Nat → Int32))))
abbrev kX7_lineBy : xK := (cX7_lineBy, RX7, "lineBy", 9, 1, 28, (none : Option FieldType), (none : Option (Nat × (Nat → Int32))))
abbrev kX7_down : xK := (cX7_down, RX7, "down", 6, 0, 0, ((some .long) : Option FieldType), (none : Option (Nat × (Nat → Int32))))
abbrev kX7_lie : xK := (cX7_lie, RX7, "lie", 25, 1, 25, ((some .int) : Option FieldType), (none : Option (Nat × (Nat → Int32))))
abbrev kX7_addNew : xK := (cX7_addNew, RX7, "addNew", 12, 2, 69, (none : Option FieldType), (none : Option (Nat × (Nat → Int32))))
abbrev kX7_lieAt : xK := (cX7_lieAt, RX7, "lieAt", 7, 2, 69, ((some .int) : Option FieldType), (none : Option (Nat × (Nat → Int32))))
abbrev kX7_common : xK := (cX7_common, RX7, "common", 10, 0, 0, ((some .long) : Option FieldType), (none : Option (Nat × (Nat → Int32))))
abbrev kX7_meet : xK := (cX7_meet, RX7, "meet", 23, 3, 100, (none : Option FieldType), (none : Option (Nat × (Nat → Int32))))
abbrev kX7_under : xK := (cX7_under, RX7, "under", 27, 4, 142, (none : Option FieldType), (none : Option (Nat × (Nat → Int32))))
abbrev kX7_addBreak : xK := (cX7_addBreak, RX7, "addBreak", 7, 2, 69, (none : Option FieldType), (none : Option (Nat × (Nat → Int32))))
abbrev kX7_layBreaks : xK := (cX7_layBreaks, RX7, "layBreaks", 2, 3, 95, (none : Option FieldType), (none : Option (Nat × (Nat → Int32))))
abbrev kX7_leastAt : xK := (cX7_leastAt, RX7, "leastAt", 8, 3, 95, ((some .int) : Option FieldType), (none : Option (Nat × (Nat → Int32))))
abbrev kX7_knot : xK := (cX7_knot, RX7, "knot", 14, 1, 29, (none : Option FieldType), (none : Option (Nat × (Nat → Int32))))
abbrev kX7_end : xK := (cX7_end, RX7, "end", 11, 4, 122, (none : Option FieldType), (none : Option (Nat × (Nat → Int32))))
abbrev kX7_layPaper : xK := (cX7_layPaper, RX7, "layPaper", 2, 5, 188, (none : Option FieldType), (none : Option (Nat × (Nat → Int32))))
abbrev kX7_store : xK := (cX7_store, RX7, "store", 3, 0, 0, (none : Option FieldType), (none : Option (Nat × (Nat → Int32))))
abbrev kX7_bringPaper : xK := (cX7_bringPaper, RX7, "bringPaper", 4, 0, 0, (none : Option FieldType), (none : Option (Nat × (Nat → Int32))))
abbrev kX7_tell : xK := (cX7_tell, RX7, "tell", 2, 0, 0, ((some .int) : Option FieldType), (none : Option (Nat × (Nat → Int32))))
abbrev kX7_read : xK := (cX7_read, RX7, "read", 5, 6, 209, ((some .int) : Option FieldType), (none : Option (Nat × (Nat → Int32))))
abbrev kX6_fault : xK := (cX6_fault, RX6, "fault", 1, 0, 0, ((some .int) : Option FieldType), (none : Option (Nat × (Nat → Int32))))
abbrev kX7_fault : xK := (cX7_fault, RX7, "fault", 1, 0, 0, ((some .int) : Option FieldType), (none : Option (Nat × (Nat → Int32))))
abbrev kX6_isPlace : xK := (cX6_isPlace, RX6, "isPlace", 2, 0, 0, ((some .boolean) : Option FieldType), (none : Option (Nat × (Nat → Int32))))
abbrev kX6_dot : xK := (cX6_dot, RX6, "dot", 4, 4, 107, ((some .int) : Option FieldType), (none : Option (Nat × (Nat → Int32))))
abbrev kX7_isPlace : xK := (cX7_isPlace, RX7, "isPlace", 2, 1, 25, ((some .boolean) : Option FieldType), (none : Option (Nat × (Nat → Int32))))
abbrev kX7_dot : xK := (cX7_dot, RX7, "dot", 4, 2, 49, ((some .int) : Option FieldType), (none : Option (Nat × (Nat → Int32))))
abbrev kX6_clear : xK := (cX6_clear, RX6, "clear", 3, 3, 68, ((some .int) : Option FieldType), (none : Option (Nat × (Nat → Int32))))
abbrev kX7_many : xK := (cX7_many, RX7, "many", 2, 0, 0, ((some .int) : Option FieldType), (none : Option (Nat × (Nat → Int32))))
abbrev kX7_clear : xK := (cX7_clear, RX7, "clear", 3, 2, 49, ((some .int) : Option FieldType), (none : Option (Nat × (Nat → Int32))))
abbrev kX4_hasLine : xK := (cX4_hasLine, RX4, "hasLine", 2, 0, 0, ((some .boolean) : Option FieldType), (none : Option (Nat × (Nat → Int32))))
abbrev kX4_beginsPiece : xK := (cX4_beginsPiece, RX4, "beginsPiece", 2, 1, 21, ((some .boolean) : Option FieldType), (none : Option (Nat × (Nat → Int32))))
abbrev kX4_runOf : xK := (cX4_runOf, RX4, "runOf", 2, 1, 21, ((some .long) : Option FieldType), (none : Option (Nat × (Nat → Int32))))
abbrev kX4_riseOf : xK := (cX4_riseOf, RX4, "riseOf", 2, 1, 21, ((some .long) : Option FieldType), (none : Option (Nat × (Nat → Int32))))
abbrev kX1_addShape : xK := (cX1_addShape, RX1, "addShape", 3, 2, 56, (none : Option FieldType), (none : Option (Nat × (Nat → Int32))))
abbrev kX6_loadOne : xK := (cX6_loadOne, RX6, "loadOne", 2, 3, 78, (none : Option FieldType), (none : Option (Nat × (Nat → Int32))))
abbrev kX6_loadPair : xK := (cX6_loadPair, RX6, "loadPair", 3, 4, 99, (none : Option FieldType), (none : Option (Nat × (Nat → Int32))))
abbrev kX1_addSum : xK := (cX1_addSum, RX1, "addSum", 11, 1, 28, (none : Option FieldType), (none : Option (Nat × (Nat → Int32))))
abbrev kX6_ontoPaper : xK := (cX6_ontoPaper, RX6, "ontoPaper", 2, 7, 181, ((some .int) : Option FieldType), (none : Option (Nat × (Nat → Int32))))
abbrev kX6_sum : xK := (cX6_sum, RX6, "sum", 5, 8, 202, ((some .int) : Option FieldType), (none : Option (Nat × (Nat → Int32))))
abbrev kX7_goes : xK := (cX7_goes, RX7, "goes", 3, 0, 0, ((some .boolean) : Option FieldType), (none : Option (Nat × (Nat → Int32))))
abbrev kX7_isLone : xK := (cX7_isLone, RX7, "isLone", 3, 1, 22, ((some .boolean) : Option FieldType), (none : Option (Nat × (Nat → Int32))))
abbrev kX7_xOf : xK := (cX7_xOf, RX7, "xOf", 3, 0, 0, ((some .int) : Option FieldType), (none : Option (Nat × (Nat → Int32))))
abbrev kX7_yOf : xK := (cX7_yOf, RX7, "yOf", 3, 0, 0, ((some .int) : Option FieldType), (none : Option (Nat × (Nat → Int32))))
abbrev kX7_laySpans : xK := (cX7_laySpans, RX7, "laySpans", 7, 2, 44, (none : Option FieldType), (none : Option (Nat × (Nat → Int32))))
abbrev kX7_linesOf : xK := (cX7_linesOf, RX7, "linesOf", 3, 3, 70, (none : Option FieldType), (none : Option (Nat × (Nat → Int32))))
abbrev kX7_forget : xK := (cX7_forget, RX7, "forget", 3, 0, 0, (none : Option FieldType), (none : Option (Nat × (Nat → Int32))))
abbrev kX7_onto : xK := (cX7_onto, RX7, "onto", 2, 6, 209, ((some .int) : Option FieldType), (none : Option (Nat × (Nat → Int32))))
abbrev kX7_sum : xK := (cX7_sum, RX7, "sum", 9, 7, 230, ((some .int) : Option FieldType), (none : Option (Nat × (Nat → Int32))))
abbrev kX6_under : xK := (cX6_under, RX6, "under", 3, 8, 202, ((some .int) : Option FieldType), (none : Option (Nat × (Nat → Int32))))
abbrev kX7_under_ : xK := (cX7_under_, RX7, "under", 3, 7, 230, ((some .int) : Option FieldType), (none : Option (Nat × (Nat → Int32))))
abbrev kX1_firstY : xK := (cX1_firstY, RX1, "firstY", 4, 0, 0, ((some .long) : Option FieldType), (none : Option (Nat × (Nat → Int32))))
abbrev kX1_addJoined : xK := (cX1_addJoined, RX1, "addJoined", 13, 2, 56, (none : Option FieldType), (none : Option (Nat × (Nat → Int32))))
abbrev kX6_join : xK := (cX6_join, RX6, "join", 5, 8, 202, ((some .int) : Option FieldType), (none : Option (Nat × (Nat → Int32))))
abbrev kX7_joinTwo : xK := (cX7_joinTwo, RX7, "joinTwo", 20, 2, 56, (none : Option FieldType), (none : Option (Nat × (Nat → Int32))))
abbrev kX7_join : xK := (cX7_join, RX7, "join", 6, 7, 230, ((some .int) : Option FieldType), (none : Option (Nat × (Nat → Int32))))
abbrev kX4_canBeTurned : xK := (cX4_canBeTurned, RX4, "canBeTurned", 4, 0, 0, ((some .boolean) : Option FieldType), (none : Option (Nat × (Nat → Int32))))
abbrev kX4_endOfPiece : xK := (cX4_endOfPiece, RX4, "endOfPiece", 2, 1, 21, ((some .int) : Option FieldType), (none : Option (Nat × (Nat → Int32))))
abbrev kX1_addTurned : xK := (cX1_addTurned, RX1, "addTurned", 5, 2, 56, (none : Option FieldType), (none : Option (Nat × (Nat → Int32))))
abbrev kX6_turn : xK := (cX6_turn, RX6, "turn", 2, 8, 202, ((some .int) : Option FieldType), (none : Option (Nat × (Nat → Int32))))
abbrev kX7_isStrict : xK := (cX7_isStrict, RX7, "isStrict", 5, 1, 22, ((some .boolean) : Option FieldType), (none : Option (Nat × (Nat → Int32))))
abbrev kX7_turn : xK := (cX7_turn, RX7, "turn", 5, 7, 230, ((some .int) : Option FieldType), (none : Option (Nat × (Nat → Int32))))
abbrev kX4_hullNext : xK := (cX4_hullNext, RX4, "hullNext", 10, 0, 0, ((some .int) : Option FieldType), (none : Option (Nat × (Nat → Int32))))
abbrev kX1_addHull : xK := (cX1_addHull, RX1, "addHull", 5, 2, 56, (none : Option FieldType), (none : Option (Nat × (Nat → Int32))))
abbrev kX6_hull : xK := (cX6_hull, RX6, "hull", 2, 8, 202, ((some .int) : Option FieldType), (none : Option (Nat × (Nat → Int32))))
abbrev kX7_turnsUp : xK := (cX7_turnsUp, RX7, "turnsUp", 12, 0, 0, ((some .boolean) : Option FieldType), (none : Option (Nat × (Nat → Int32))))
abbrev kX7_hull : xK := (cX7_hull, RX7, "hull", 7, 7, 230, ((some .int) : Option FieldType), (none : Option (Nat × (Nat → Int32))))
abbrev kX1_addCut : xK := (cX1_addCut, RX1, "addCut", 5, 1, 28, (none : Option FieldType), (none : Option (Nat × (Nat → Int32))))
abbrev kX6_cut : xK := (cX6_cut, RX6, "cut", 5, 8, 202, ((some .int) : Option FieldType), (none : Option (Nat × (Nat → Int32))))
abbrev kX7_cut : xK := (cX7_cut, RX7, "cut", 8, 7, 230, ((some .int) : Option FieldType), (none : Option (Nat × (Nat → Int32))))
abbrev kX1_addMoved : xK := (cX1_addMoved, RX1, "addMoved", 7, 1, 28, (none : Option FieldType), (none : Option (Nat × (Nat → Int32))))
abbrev kX6_move : xK := (cX6_move, RX6, "move", 5, 8, 202, ((some .int) : Option FieldType), (none : Option (Nat × (Nat → Int32))))
abbrev kX7_move : xK := (cX7_move, RX7, "move", 6, 7, 230, ((some .int) : Option FieldType), (none : Option (Nat × (Nat → Int32))))
abbrev kX1_addMultiple : xK := (cX1_addMultiple, RX1, "addMultiple", 4, 1, 28, (none : Option FieldType), (none : Option (Nat × (Nat → Int32))))
abbrev kX6_times : xK := (cX6_times, RX6, "times", 4, 8, 202, ((some .int) : Option FieldType), (none : Option (Nat × (Nat → Int32))))
abbrev kX7_times : xK := (cX7_times, RX7, "times", 5, 7, 230, ((some .int) : Option FieldType), (none : Option (Nat × (Nat → Int32))))
abbrev kX4_copyOf : xK := (cX4_copyOf, RX4, "copyOf", 2, 3, 74, (none : Option FieldType), (none : Option (Nat × (Nat → Int32))))
abbrev kX6_lay : xK := (cX6_lay, RX6, "lay", 2, 4, 95, ((some .int) : Option FieldType), (none : Option (Nat × (Nat → Int32))))
abbrev kX7_lay_ : xK := (cX7_lay_, RX7, "lay", 2, 7, 230, ((some .int) : Option FieldType), (none : Option (Nat × (Nat → Int32))))
abbrev kX4_fitsStore : xK := (cX4_fitsStore, RX4, "fitsStore", 2, 1, 21, ((some .boolean) : Option FieldType), (none : Option (Nat × (Nat → Int32))))
abbrev kX6_put : xK := (cX6_put, RX6, "put", 2, 4, 95, ((some .int) : Option FieldType), (none : Option (Nat × (Nat → Int32))))
abbrev kX7_canPut : xK := (cX7_canPut, RX7, "canPut", 3, 2, 46, ((some .boolean) : Option FieldType), (none : Option (Nat × (Nat → Int32))))
abbrev kX7_put : xK := (cX7_put, RX7, "put", 2, 3, 68, ((some .int) : Option FieldType), (none : Option (Nat × (Nat → Int32))))
abbrev kX0_latest : xK := (cX0_latest, RX0, "latest", 1, 0, 0, ((some .int) : Option FieldType), (none : Option (Nat × (Nat → Int32))))
abbrev kX0_latestSlot : xK := (cX0_latestSlot, RX0, "latestSlot", 1, 1, 20, ((some .int) : Option FieldType), (none : Option (Nat × (Nat → Int32))))
abbrev kX0_takeBack : xK := (cX0_takeBack, RX0, "takeBack", 4, 1, 21, ((some (.object "LeastSums$Shape")) : Option FieldType), (none : Option (Nat × (Nat → Int32))))
abbrev kX6_undo : xK := (cX6_undo, RX6, "undo", 2, 2, 44, ((some .int) : Option FieldType), (none : Option (Nat × (Nat → Int32))))
abbrev kX7_bring : xK := (cX7_bring, RX7, "bring", 8, 0, 0, (none : Option FieldType), (none : Option (Nat × (Nat → Int32))))
abbrev kX7_undo : xK := (cX7_undo, RX7, "undo", 2, 1, 27, ((some .int) : Option FieldType), (none : Option (Nat × (Nat → Int32))))
abbrev kX6_isImage : xK := (cX6_isImage, RX6, "isImage", 1, 0, 0, ((some .boolean) : Option FieldType), (none : Option (Nat × (Nat → Int32))))
abbrev kX6_storeKnots : xK := (cX6_storeKnots, RX6, "storeKnots", 3, 0, 0, ((some .int) : Option FieldType), (none : Option (Nat × (Nat → Int32))))
abbrev kX6_image : xK := (cX6_image, RX6, "image", 3, 4, 95, ((some .int) : Option FieldType), (none : Option (Nat × (Nat → Int32))))
abbrev kX7_knots : xK := (cX7_knots, RX7, "knots", 3, 0, 0, ((some .int) : Option FieldType), (none : Option (Nat × (Nat → Int32))))
abbrev kX7_image : xK := (cX7_image, RX7, "image", 2, 1, 27, ((some .int) : Option FieldType), (none : Option (Nat × (Nat → Int32))))
abbrev kX0_forget : xK := (cX0_forget, RX0, "forget", 1, 0, 0, (none : Option FieldType), (none : Option (Nat × (Nat → Int32))))
abbrev kX6_back : xK := (cX6_back, RX6, "back", 3, 4, 95, ((some .int) : Option FieldType), (none : Option (Nat × (Nat → Int32))))
abbrev kX7_back : xK := (cX7_back, RX7, "back", 2, 1, 27, ((some .int) : Option FieldType), (none : Option (Nat × (Nat → Int32))))
abbrev kX2_assign : xK := (cX2_assign, RX2, "assign", 9, 2, 51, (none : Option FieldType), (none : Option (Nat × (Nat → Int32))))
abbrev kX6_tellPlain : xK := (cX6_tellPlain, RX6, "tellPlain", 2, 0, 0, ((some .long) : Option FieldType), (none : Option (Nat × (Nat → Int32))))
abbrev kX6_tellNumber : xK := (cX6_tellNumber, RX6, "tellNumber", 2, 3, 79, ((some .long) : Option FieldType), (none : Option (Nat × (Nat → Int32))))
abbrev kX6_paper : xK := (cX6_paper, RX6, "paper", 4, 4, 100, ((some .long) : Option FieldType), (none : Option (Nat × (Nat → Int32))))
abbrev kX7_part : xK := (cX7_part, RX7, "part", 5, 1, 29, ((some .long) : Option FieldType), (none : Option (Nat × (Nat → Int32))))
abbrev kX7_paper : xK := (cX7_paper, RX7, "paper", 8, 2, 53, ((some .long) : Option FieldType), (none : Option (Nat × (Nat → Int32))))
abbrev kX4_xAt : xK := (cX4_xAt, RX4, "xAt", 2, 0, 0, ((some .int) : Option FieldType), (none : Option (Nat × (Nat → Int32))))
abbrev kX4_yAt : xK := (cX4_yAt, RX4, "yAt", 2, 0, 0, ((some .int) : Option FieldType), (none : Option (Nat × (Nat → Int32))))
abbrev kX6_knot : xK := (cX6_knot, RX6, "knot", 4, 1, 21, ((some .int) : Option FieldType), (none : Option (Nat × (Nat → Int32))))
abbrev kX7_knot_ : xK := (cX7_knot_, RX7, "knot", 4, 2, 45, ((some .int) : Option FieldType), (none : Option (Nat × (Nat → Int32))))
abbrev kX6_isUpperOrLower : xK := (cX6_isUpperOrLower, RX6, "isUpperOrLower", 1, 0, 0, ((some .boolean) : Option FieldType), (none : Option (Nat × (Nat → Int32))))
abbrev kX2_forget : xK := (cX2_forget, RX2, "forget", 1, 0, 0, (none : Option FieldType), (none : Option (Nat × (Nat → Int32))))
abbrev kX4_alongLine : xK := (cX4_alongLine, RX4, "alongLine", 6, 3, 79, (none : Option FieldType), (none : Option (Nat × (Nat → Int32))))
abbrev kX4_valueAt : xK := (cX4_valueAt, RX4, "valueAt", 5, 4, 104, (none : Option FieldType), (none : Option (Nat × (Nat → Int32))))
abbrev kX6_value : xK := (cX6_value, RX6, "value", 4, 5, 128, ((some .long) : Option FieldType), (none : Option (Nat × (Nat → Int32))))
abbrev kX7_hasValue : xK := (cX7_hasValue, RX7, "hasValue", 4, 4, 122, ((some .boolean) : Option FieldType), (none : Option (Nat × (Nat → Int32))))
abbrev kX7_value : xK := (cX7_value, RX7, "value", 4, 5, 145, ((some .long) : Option FieldType), (none : Option (Nat × (Nat → Int32))))
abbrev kX6_bitsOf : xK := (cX6_bitsOf, RX6, "bitsOf", 5, 0, 0, ((some .int) : Option FieldType), (none : Option (Nat × (Nat → Int32))))
abbrev kX6_bits : xK := (cX6_bits, RX6, "bits", 3, 5, 128, ((some .int) : Option FieldType), (none : Option (Nat × (Nat → Int32))))
abbrev kJxf58ca_isNaN_12338 : xK := (cJxf58ca_isNaN_12338, RJxf58ca, "isNaN", 1, 0, 0, ((some .boolean) : Option FieldType), (none : Option (Nat × (Nat → Int32))))
abbrev kJxf58ca_floatToIntBits_5c35a : xK := (cJxf58ca_floatToIntBits_5c35a, RJxf58ca, "floatToIntBits", 1, 1, 20, ((some .int) : Option FieldType), (none : Option (Nat × (Nat → Int32))))
abbrev kX7_bits : xK := (cX7_bits, RX7, "bits", 5, 5, 145, ((some .int) : Option FieldType), (none : Option (Nat × (Nat → Int32))))
abbrev kX4_leftEndAt : xK := (cX4_leftEndAt, RX4, "leftEndAt", 4, 4, 104, (none : Option FieldType), (none : Option (Nat × (Nat → Int32))))
abbrev kX4_rightBeginAt : xK := (cX4_rightBeginAt, RX4, "rightBeginAt", 4, 4, 104, (none : Option FieldType), (none : Option (Nat × (Nat → Int32))))
abbrev kX6_limit : xK := (cX6_limit, RX6, "limit", 4, 5, 127, ((some .long) : Option FieldType), (none : Option (Nat × (Nat → Int32))))
abbrev kX7_limit : xK := (cX7_limit, RX7, "limit", 7, 4, 92, ((some .long) : Option FieldType), (none : Option (Nat × (Nat → Int32))))
abbrev kX4_parts : xK := (cX4_parts, RX4, "parts", 3, 0, 0, ((some .int) : Option FieldType), (none : Option (Nat × (Nat → Int32))))
abbrev kX4_jumps : xK := (cX4_jumps, RX4, "jumps", 3, 0, 0, ((some .int) : Option FieldType), (none : Option (Nat × (Nat → Int32))))
abbrev kX4_slopeFalls : xK := (cX4_slopeFalls, RX4, "slopeFalls", 4, 2, 42, ((some .int) : Option FieldType), (none : Option (Nat × (Nat → Int32))))
abbrev kX4_width : xK := (cX4_width, RX4, "width", 4, 2, 42, ((some .int) : Option FieldType), (none : Option (Nat × (Nat → Int32))))
abbrev kX6_of : xK := (cX6_of, RX6, "of", 4, 3, 65, ((some .int) : Option FieldType), (none : Option (Nat × (Nat → Int32))))
abbrev kX7_linesIn : xK := (cX7_linesIn, RX7, "linesIn", 4, 1, 22, ((some .int) : Option FieldType), (none : Option (Nat × (Nat → Int32))))
abbrev kX7_jumps : xK := (cX7_jumps, RX7, "jumps", 4, 1, 22, ((some .int) : Option FieldType), (none : Option (Nat × (Nat → Int32))))
abbrev kX7_falls : xK := (cX7_falls, RX7, "falls", 14, 1, 22, ((some .int) : Option FieldType), (none : Option (Nat × (Nat → Int32))))
abbrev kX7_wide : xK := (cX7_wide, RX7, "wide", 4, 1, 22, ((some .int) : Option FieldType), (none : Option (Nat × (Nat → Int32))))
abbrev kX7_of : xK := (cX7_of, RX7, "of", 4, 2, 55, ((some .int) : Option FieldType), (none : Option (Nat × (Nat → Int32))))
abbrev kX4_firstLowest : xK := (cX4_firstLowest, RX4, "firstLowest", 3, 0, 0, ((some .int) : Option FieldType), (none : Option (Nat × (Nat → Int32))))
abbrev kX4_lastLowest : xK := (cX4_lastLowest, RX4, "lastLowest", 3, 0, 0, ((some .int) : Option FieldType), (none : Option (Nat × (Nat → Int32))))
abbrev kJ9_max_f86c9 : xK := (cJ9_max_f86c9, RJ9, "max", 4, 0, 0, ((some .long) : Option FieldType), (none : Option (Nat × (Nat → Int32))))
abbrev kX4_highest : xK := (cX4_highest, RX4, "highest", 4, 1, 23, ((some .int) : Option FieldType), (none : Option (Nat × (Nat → Int32))))
abbrev kX6_least : xK := (cX6_least, RX6, "least", 4, 2, 46, ((some .int) : Option FieldType), (none : Option (Nat × (Nat → Int32))))
abbrev kX7_least : xK := (cX7_least, RX7, "least", 8, 2, 45, ((some .int) : Option FieldType), (none : Option (Nat × (Nat → Int32))))
abbrev kX4_knotOfLine : xK := (cX4_knotOfLine, RX4, "knotOfLine", 4, 1, 21, ((some .int) : Option FieldType), (none : Option (Nat × (Nat → Int32))))
abbrev kX6_slope : xK := (cX6_slope, RX6, "slope", 6, 3, 79, ((some .long) : Option FieldType), (none : Option (Nat × (Nat → Int32))))
abbrev kX7_slope : xK := (cX7_slope, RX7, "slope", 7, 3, 70, ((some .long) : Option FieldType), (none : Option (Nat × (Nat → Int32))))
abbrev kX4_twiceArea : xK := (cX4_twiceArea, RX4, "twiceArea", 4, 2, 42, ((some .long) : Option FieldType), (none : Option (Nat × (Nat → Int32))))
abbrev kX6_area : xK := (cX6_area, RX6, "area", 3, 3, 79, ((some .long) : Option FieldType), (none : Option (Nat × (Nat → Int32))))
abbrev kX7_area : xK := (cX7_area, RX7, "area", 6, 2, 53, ((some .long) : Option FieldType), (none : Option (Nat × (Nat → Int32))))
abbrev kJ9_min_f86c9 : xK := (cJ9_min_f86c9, RJ9, "min", 4, 0, 0, ((some .long) : Option FieldType), (none : Option (Nat × (Nat → Int32))))
abbrev kX4_isStrictlyBetween : xK := (cX4_isStrictlyBetween, RX4, "isStrictlyBetween", 6, 1, 23, ((some .boolean) : Option FieldType), (none : Option (Nat × (Nat → Int32))))
abbrev kX4_firstWith : xK := (cX4_firstWith, RX4, "firstWith", 6, 5, 128, (none : Option FieldType), (none : Option (Nat × (Nat → Int32))))
abbrev kX6_where : xK := (cX6_where, RX6, "where", 4, 6, 153, ((some .long) : Option FieldType), (none : Option (Nat × (Nat → Int32))))
abbrev kX7_meets : xK := (cX7_meets, RX7, "meets", 7, 4, 122, (none : Option FieldType), (none : Option (Nat × (Nat → Int32))))
abbrev kX7_where : xK := (cX7_where, RX7, "where", 13, 5, 148, ((some .long) : Option FieldType), (none : Option (Nat × (Nat → Int32))))
abbrev kX4_placesWithin : xK := (cX4_placesWithin, RX4, "placesWithin", 11, 2, 42, ((some .int) : Option FieldType), (none : Option (Nat × (Nat → Int32))))
abbrev kX6_places : xK := (cX6_places, RX6, "places", 4, 3, 72, ((some .int) : Option FieldType), (none : Option (Nat × (Nat → Int32))))
abbrev kX7_places : xK := (cX7_places, RX7, "places", 8, 3, 70, ((some .int) : Option FieldType), (none : Option (Nat × (Nat → Int32))))
abbrev kX2_add : xK := (cX2_add, RX2, "add", 2, 3, 79, (none : Option FieldType), (none : Option (Nat × (Nat → Int32))))
abbrev kX2_orderTo : xK := (cX2_orderTo, RX2, "orderTo", 2, 2, 56, ((some .int) : Option FieldType), (none : Option (Nat × (Nat → Int32))))
abbrev kX6_trySplit : xK := (cX6_trySplit, RX6, "trySplit", 6, 5, 128, (none : Option FieldType), (none : Option (Nat × (Nat → Int32))))
abbrev kX6_findSplit : xK := (cX6_findSplit, RX6, "findSplit", 5, 6, 153, (none : Option FieldType), (none : Option (Nat × (Nat → Int32))))
abbrev kX6_split : xK := (cX6_split, RX6, "split", 5, 7, 177, ((some .long) : Option FieldType), (none : Option (Nat × (Nat → Int32))))
abbrev kX7_tries : xK := (cX7_tries, RX7, "tries", 14, 5, 145, (none : Option FieldType), (none : Option (Nat × (Nat → Int32))))
abbrev kX7_split : xK := (cX7_split, RX7, "split", 6, 6, 178, ((some .long) : Option FieldType), (none : Option (Nat × (Nat → Int32))))
abbrev kX3_start : xK := (cX3_start, RX3, "start", 1, 0, 0, (none : Option FieldType), (none : Option (Nat × (Nat → Int32))))
abbrev kX3_judge : xK := (cX3_judge, RX3, "judge", 2, 3, 77, (none : Option FieldType), (none : Option (Nat × (Nat → Int32))))
abbrev kX3_meetAtKnotsOf : xK := (cX3_meetAtKnotsOf, RX3, "meetAtKnotsOf", 6, 5, 128, (none : Option FieldType), (none : Option (Nat × (Nat → Int32))))
abbrev kX3_verdict : xK := (cX3_verdict, RX3, "verdict", 1, 0, 0, ((some .int) : Option FieldType), (none : Option (Nat × (Nat → Int32))))
abbrev kX6_compare : xK := (cX6_compare, RX6, "compare", 3, 6, 153, ((some .int) : Option FieldType), (none : Option (Nat × (Nat → Int32))))
abbrev kX7_noteWay : xK := (cX7_noteWay, RX7, "noteWay", 2, 0, 0, (none : Option FieldType), (none : Option (Nat × (Nat → Int32))))
abbrev kX7_compare : xK := (cX7_compare, RX7, "compare", 9, 5, 145, ((some .int) : Option FieldType), (none : Option (Nat × (Nat → Int32))))
abbrev kX6_count : xK := (cX6_count, RX6, "count", 2, 2, 42, ((some .int) : Option FieldType), (none : Option (Nat × (Nat → Int32))))
abbrev kX7_paperParts : xK := (cX7_paperParts, RX7, "paperParts", 3, 0, 0, ((some .int) : Option FieldType), (none : Option (Nat × (Nat → Int32))))
abbrev kX7_count : xK := (cX7_count, RX7, "count", 2, 3, 68, ((some .int) : Option FieldType), (none : Option (Nat × (Nat → Int32))))
abbrev kX6_status : xK := (cX6_status, RX6, "status", 1, 0, 0, ((some .int) : Option FieldType), (none : Option (Nat × (Nat → Int32))))
abbrev kX7_status : xK := (cX7_status, RX7, "status", 1, 0, 0, ((some .int) : Option FieldType), (none : Option (Nat × (Nat → Int32))))
theorem mwc_X4_init : Cond.code yX4_init kX4_init.1 (kL kX4_init) (kR kX4_init) ∈ lw_gd := gd_of 28 (by decide +kernel) rfl
theorem mwd_X4_init : yX4_init.cls ≠ "java/lang/invoke/MethodHandle" ∧ yX4_init.cls ≠ "java/lang/invoke/VarHandle" ∧ (parseMethodDescriptor yX4_init.desc).map (fun d => d.parameters.length) = some 0 := by decide +kernel
theorem mwn_X4_init : Cond.initialized yX4_init.cls ∈ lw_gd := gd_of 2 (by decide +kernel) rfl
theorem mwi_X4_init : Cond.instanceMethod yX4_init ∈ lw_gd := gd_of 27 (by decide +kernel) rfl
theorem mwc_X0_init : Cond.code yX0_init kX0_init.1 (kL kX0_init) (kR kX0_init) ∈ lw_gd := gd_of 65 (by decide +kernel) rfl
theorem mwd_X0_init : yX0_init.cls ≠ "java/lang/invoke/MethodHandle" ∧ yX0_init.cls ≠ "java/lang/invoke/VarHandle" ∧ (parseMethodDescriptor yX0_init.desc).map (fun d => d.parameters.length) = some 0 := by decide +kernel
theorem mwn_X0_init : Cond.initialized yX0_init.cls ∈ lw_gd := gd_of 3 (by decide +kernel) rfl
theorem mwi_X0_init : Cond.instanceMethod yX0_init ∈ lw_gd := gd_of 64 (by decide +kernel) rfl
theorem mwc_X5_init : Cond.code yX5_init kX5_init.1 (kL kX5_init) (kR kX5_init) ∈ lw_gd := gd_of 94 (by decide +kernel) rfl
theorem mwd_X5_init : yX5_init.cls ≠ "java/lang/invoke/MethodHandle" ∧ yX5_init.cls ≠ "java/lang/invoke/VarHandle" ∧ (parseMethodDescriptor yX5_init.desc).map (fun d => d.parameters.length) = some 0 := by decide +kernel
theorem mwn_X5_init : Cond.initialized yX5_init.cls ∈ lw_gd := gd_of 4 (by decide +kernel) rfl
theorem mwi_X5_init : Cond.instanceMethod yX5_init ∈ lw_gd := gd_of 93 (by decide +kernel) rfl
theorem mwc_X1_init : Cond.code yX1_init kX1_init.1 (kL kX1_init) (kR kX1_init) ∈ lw_gd := gd_of 138 (by decide +kernel) rfl
theorem mwd_X1_init : yX1_init.cls ≠ "java/lang/invoke/MethodHandle" ∧ yX1_init.cls ≠ "java/lang/invoke/VarHandle" ∧ (parseMethodDescriptor yX1_init.desc).map (fun d => d.parameters.length) = some 1 := by decide +kernel
theorem mwn_X1_init : Cond.initialized yX1_init.cls ∈ lw_gd := gd_of 5 (by decide +kernel) rfl
theorem mwi_X1_init : Cond.instanceMethod yX1_init ∈ lw_gd := gd_of 137 (by decide +kernel) rfl
theorem mwc_X2_init : Cond.code yX2_init kX2_init.1 (kL kX2_init) (kR kX2_init) ∈ lw_gd := gd_of 177 (by decide +kernel) rfl
theorem mwd_X2_init : yX2_init.cls ≠ "java/lang/invoke/MethodHandle" ∧ yX2_init.cls ≠ "java/lang/invoke/VarHandle" ∧ (parseMethodDescriptor yX2_init.desc).map (fun d => d.parameters.length) = some 0 := by decide +kernel
theorem mwn_X2_init : Cond.initialized yX2_init.cls ∈ lw_gd := gd_of 6 (by decide +kernel) rfl
theorem mwi_X2_init : Cond.instanceMethod yX2_init ∈ lw_gd := gd_of 176 (by decide +kernel) rfl
theorem mwc_X3_init : Cond.code yX3_init kX3_init.1 (kL kX3_init) (kR kX3_init) ∈ lw_gd := gd_of 200 (by decide +kernel) rfl
theorem mwd_X3_init : yX3_init.cls ≠ "java/lang/invoke/MethodHandle" ∧ yX3_init.cls ≠ "java/lang/invoke/VarHandle" ∧ (parseMethodDescriptor yX3_init.desc).map (fun d => d.parameters.length) = some 0 := by decide +kernel
theorem mwn_X3_init : Cond.initialized yX3_init.cls ∈ lw_gd := gd_of 7 (by decide +kernel) rfl
theorem mwi_X3_init : Cond.instanceMethod yX3_init ∈ lw_gd := gd_of 199 (by decide +kernel) rfl
theorem mwc_X6_init : Cond.code yX6_init kX6_init.1 (kL kX6_init) (kR kX6_init) ∈ lw_gd := gd_of 19 (by decide +kernel) rfl
theorem mwd_X6_init : yX6_init.cls ≠ "java/lang/invoke/MethodHandle" ∧ yX6_init.cls ≠ "java/lang/invoke/VarHandle" ∧ (parseMethodDescriptor yX6_init.desc).map (fun d => d.parameters.length) = some 0 := by decide +kernel
theorem mwn_X6_init : Cond.initialized yX6_init.cls ∈ lw_gd := gd_of 1 (by decide +kernel) rfl
theorem mwi_X6_init : Cond.instanceMethod yX6_init ∈ lw_gd := gd_of 18 (by decide +kernel) rfl
theorem mwc_X7_init : Cond.code yX7_init kX7_init.1 (kL kX7_init) (kR kX7_init) ∈ lw_gd := gd_of 853 (by decide +kernel) rfl
theorem mwd_X7_init : yX7_init.cls ≠ "java/lang/invoke/MethodHandle" ∧ yX7_init.cls ≠ "java/lang/invoke/VarHandle" ∧ (parseMethodDescriptor yX7_init.desc).map (fun d => d.parameters.length) = some 0 := by decide +kernel
theorem mwn_X7_init : Cond.initialized yX7_init.cls ∈ lw_gd := gd_of 8 (by decide +kernel) rfl
theorem mwi_X7_init : Cond.instanceMethod yX7_init ∈ lw_gd := gd_of 852 (by decide +kernel) rfl
theorem mwc_X5_appendWord : Cond.code yX5_appendWord kX5_appendWord.1 (kL kX5_appendWord) (kR kX5_appendWord) ∈ lw_gd := gd_of 276 (by decide +kernel) rfl
theorem mwd_X5_appendWord : yX5_appendWord.cls ≠ "java/lang/invoke/MethodHandle" ∧ yX5_appendWord.cls ≠ "java/lang/invoke/VarHandle" ∧ (parseMethodDescriptor yX5_appendWord.desc).map (fun d => d.parameters.length) = some 1 := by decide +kernel
theorem mwn_X5_appendWord : Cond.initialized yX5_appendWord.cls ∈ lw_gd := gd_of 4 (by decide +kernel) rfl
theorem mwi_X5_appendWord : Cond.instanceMethod yX5_appendWord ∈ lw_gd := gd_of 274 (by decide +kernel) rfl
theorem mwv_X5_appendWord : Cond.selects yX5_appendWord.cls yX5_appendWord yX5_appendWord ∈ lw_gd := gd_of 275 (by decide +kernel) rfl
theorem mwc_X6_feed : Cond.code yX6_feed kX6_feed.1 (kL kX6_feed) (kR kX6_feed) ∈ lw_gd := gd_of 272 (by decide +kernel) rfl
theorem mwd_X6_feed : yX6_feed.cls ≠ "java/lang/invoke/MethodHandle" ∧ yX6_feed.cls ≠ "java/lang/invoke/VarHandle" ∧ (parseMethodDescriptor yX6_feed.desc).map (fun d => d.parameters.length) = some 5 := by decide +kernel
theorem mwn_X6_feed : Cond.initialized yX6_feed.cls ∈ lw_gd := gd_of 1 (by decide +kernel) rfl
theorem mwi_X6_feed : Cond.instanceMethod yX6_feed ∈ lw_gd := gd_of 270 (by decide +kernel) rfl
theorem mwv_X6_feed : Cond.selects yX6_feed.cls yX6_feed yX6_feed ∈ lw_gd := gd_of 271 (by decide +kernel) rfl
theorem mwc_X7_comes : Cond.code yX7_comes kX7_comes.1 (kL kX7_comes) (kR kX7_comes) ∈ lw_gd := gd_of 1246 (by decide +kernel) rfl
theorem mwd_X7_comes : yX7_comes.cls ≠ "java/lang/invoke/MethodHandle" ∧ yX7_comes.cls ≠ "java/lang/invoke/VarHandle" ∧ (parseMethodDescriptor yX7_comes.desc).map (fun d => d.parameters.length) = some 1 := by decide +kernel
theorem mwn_X7_comes : Cond.initialized yX7_comes.cls ∈ lw_gd := gd_of 8 (by decide +kernel) rfl
theorem mwi_X7_comes : Cond.instanceMethod yX7_comes ∈ lw_gd := gd_of 1245 (by decide +kernel) rfl
theorem mwv_X7_comes : Cond.selects yX7_comes.cls yX7_comes yX7_comes ∈ lw_gd := gd_sel (q := (yX7_comes, 57)) 50 (by decide +kernel)
theorem mwc_X7_feed : Cond.code yX7_feed kX7_feed.1 (kL kX7_feed) (kR kX7_feed) ∈ lw_gd := gd_of 1242 (by decide +kernel) rfl
theorem mwd_X7_feed : yX7_feed.cls ≠ "java/lang/invoke/MethodHandle" ∧ yX7_feed.cls ≠ "java/lang/invoke/VarHandle" ∧ (parseMethodDescriptor yX7_feed.desc).map (fun d => d.parameters.length) = some 5 := by decide +kernel
theorem mwn_X7_feed : Cond.initialized yX7_feed.cls ∈ lw_gd := gd_of 8 (by decide +kernel) rfl
theorem mwi_X7_feed : Cond.instanceMethod yX7_feed ∈ lw_gd := gd_of 1240 (by decide +kernel) rfl
theorem mwv_X7_feed : Cond.selects yX7_feed.cls yX7_feed yX7_feed ∈ lw_gd := gd_of 1241 (by decide +kernel) rfl
theorem mwc_X6_end : Cond.code yX6_end kX6_end.1 (kL kX6_end) (kR kX6_end) ∈ lw_gd := gd_of 280 (by decide +kernel) rfl
theorem mwd_X6_end : yX6_end.cls ≠ "java/lang/invoke/MethodHandle" ∧ yX6_end.cls ≠ "java/lang/invoke/VarHandle" ∧ (parseMethodDescriptor yX6_end.desc).map (fun d => d.parameters.length) = some 1 := by decide +kernel
theorem mwn_X6_end : Cond.initialized yX6_end.cls ∈ lw_gd := gd_of 1 (by decide +kernel) rfl
theorem mwi_X6_end : Cond.instanceMethod yX6_end ∈ lw_gd := gd_of 278 (by decide +kernel) rfl
theorem mwv_X6_end : Cond.selects yX6_end.cls yX6_end yX6_end ∈ lw_gd := gd_of 279 (by decide +kernel) rfl
theorem mwc_X7_in : Cond.code yX7_in kX7_in.1 (kL kX7_in) (kR kX7_in) ∈ lw_gd := gd_of 1050 (by decide +kernel) rfl
theorem mwd_X7_in : yX7_in.cls ≠ "java/lang/invoke/MethodHandle" ∧ yX7_in.cls ≠ "java/lang/invoke/VarHandle" ∧ (parseMethodDescriptor yX7_in.desc).map (fun d => d.parameters.length) = some 3 := by decide +kernel
theorem mwn_X7_in : Cond.initialized yX7_in.cls ∈ lw_gd := gd_of 8 (by decide +kernel) rfl
theorem mws_X7_in : Cond.static yX7_in ∈ lw_gd := gd_of 1049 (by decide +kernel) rfl
theorem mwc_X7_end_ : Cond.code yX7_end_ kX7_end_.1 (kL kX7_end_) (kR kX7_end_) ∈ lw_gd := gd_of 1250 (by decide +kernel) rfl
theorem mwd_X7_end_ : yX7_end_.cls ≠ "java/lang/invoke/MethodHandle" ∧ yX7_end_.cls ≠ "java/lang/invoke/VarHandle" ∧ (parseMethodDescriptor yX7_end_.desc).map (fun d => d.parameters.length) = some 1 := by decide +kernel
theorem mwn_X7_end_ : Cond.initialized yX7_end_.cls ∈ lw_gd := gd_of 8 (by decide +kernel) rfl
theorem mwi_X7_end_ : Cond.instanceMethod yX7_end_ ∈ lw_gd := gd_of 1248 (by decide +kernel) rfl
theorem mwv_X7_end_ : Cond.selects yX7_end_.cls yX7_end_ yX7_end_ ∈ lw_gd := gd_of 1249 (by decide +kernel) rfl
theorem mwc_X6_isStore : Cond.code yX6_isStore kX6_isStore.1 (kL kX6_isStore) (kR kX6_isStore) ∈ lw_gd := gd_of 287 (by decide +kernel) rfl
theorem mwd_X6_isStore : yX6_isStore.cls ≠ "java/lang/invoke/MethodHandle" ∧ yX6_isStore.cls ≠ "java/lang/invoke/VarHandle" ∧ (parseMethodDescriptor yX6_isStore.desc).map (fun d => d.parameters.length) = some 1 := by decide +kernel
theorem mwn_X6_isStore : Cond.initialized yX6_isStore.cls ∈ lw_gd := gd_of 1 (by decide +kernel) rfl
theorem mws_X6_isStore : Cond.static yX6_isStore ∈ lw_gd := gd_of 286 (by decide +kernel) rfl
theorem mwc_X6_refuse : Cond.code yX6_refuse kX6_refuse.1 (kL kX6_refuse) (kR kX6_refuse) ∈ lw_gd := gd_of 291 (by decide +kernel) rfl
theorem mwd_X6_refuse : yX6_refuse.cls ≠ "java/lang/invoke/MethodHandle" ∧ yX6_refuse.cls ≠ "java/lang/invoke/VarHandle" ∧ (parseMethodDescriptor yX6_refuse.desc).map (fun d => d.parameters.length) = some 1 := by decide +kernel
theorem mwn_X6_refuse : Cond.initialized yX6_refuse.cls ∈ lw_gd := gd_of 1 (by decide +kernel) rfl
theorem mwi_X6_refuse : Cond.instanceMethod yX6_refuse ∈ lw_gd := gd_of 290 (by decide +kernel) rfl
theorem mwv_X6_refuse : Cond.selects yX6_refuse.cls yX6_refuse yX6_refuse ∈ lw_gd := gd_sel (q := (yX6_refuse, 16)) 0 (by decide +kernel)
theorem mwc_X1_start : Cond.code yX1_start kX1_start.1 (kL kX1_start) (kR kX1_start) ∈ lw_gd := gd_of 295 (by decide +kernel) rfl
theorem mwd_X1_start : yX1_start.cls ≠ "java/lang/invoke/MethodHandle" ∧ yX1_start.cls ≠ "java/lang/invoke/VarHandle" ∧ (parseMethodDescriptor yX1_start.desc).map (fun d => d.parameters.length) = some 0 := by decide +kernel
theorem mwn_X1_start : Cond.initialized yX1_start.cls ∈ lw_gd := gd_of 5 (by decide +kernel) rfl
theorem mwi_X1_start : Cond.instanceMethod yX1_start ∈ lw_gd := gd_of 293 (by decide +kernel) rfl
theorem mwv_X1_start : Cond.selects yX1_start.cls yX1_start yX1_start ∈ lw_gd := gd_of 294 (by decide +kernel) rfl
theorem mwc_X5_skipBlanks : Cond.code yX5_skipBlanks kX5_skipBlanks.1 (kL kX5_skipBlanks) (kR kX5_skipBlanks) ∈ lw_gd := gd_of 307 (by decide +kernel) rfl
theorem mwd_X5_skipBlanks : yX5_skipBlanks.cls ≠ "java/lang/invoke/MethodHandle" ∧ yX5_skipBlanks.cls ≠ "java/lang/invoke/VarHandle" ∧ (parseMethodDescriptor yX5_skipBlanks.desc).map (fun d => d.parameters.length) = some 0 := by decide +kernel
theorem mwn_X5_skipBlanks : Cond.initialized yX5_skipBlanks.cls ∈ lw_gd := gd_of 4 (by decide +kernel) rfl
theorem mwi_X5_skipBlanks : Cond.instanceMethod yX5_skipBlanks ∈ lw_gd := gd_of 306 (by decide +kernel) rfl
theorem mwv_X5_skipBlanks : Cond.selects yX5_skipBlanks.cls yX5_skipBlanks yX5_skipBlanks ∈ lw_gd := gd_sel (q := (yX5_skipBlanks, 11)) 2 (by decide +kernel)
theorem mwc_X5_fail : Cond.code yX5_fail kX5_fail.1 (kL kX5_fail) (kR kX5_fail) ∈ lw_gd := gd_of 311 (by decide +kernel) rfl
theorem mwd_X5_fail : yX5_fail.cls ≠ "java/lang/invoke/MethodHandle" ∧ yX5_fail.cls ≠ "java/lang/invoke/VarHandle" ∧ (parseMethodDescriptor yX5_fail.desc).map (fun d => d.parameters.length) = some 1 := by decide +kernel
theorem mwn_X5_fail : Cond.initialized yX5_fail.cls ∈ lw_gd := gd_of 4 (by decide +kernel) rfl
theorem mwi_X5_fail : Cond.instanceMethod yX5_fail ∈ lw_gd := gd_of 310 (by decide +kernel) rfl
theorem mwv_X5_fail : Cond.selects yX5_fail.cls yX5_fail yX5_fail ∈ lw_gd := gd_sel (q := (yX5_fail, 11)) 3 (by decide +kernel)
theorem mwc_X5_takeSign : Cond.code yX5_takeSign kX5_takeSign.1 (kL kX5_takeSign) (kR kX5_takeSign) ∈ lw_gd := gd_of 319 (by decide +kernel) rfl
theorem mwd_X5_takeSign : yX5_takeSign.cls ≠ "java/lang/invoke/MethodHandle" ∧ yX5_takeSign.cls ≠ "java/lang/invoke/VarHandle" ∧ (parseMethodDescriptor yX5_takeSign.desc).map (fun d => d.parameters.length) = some 1 := by decide +kernel
theorem mwn_X5_takeSign : Cond.initialized yX5_takeSign.cls ∈ lw_gd := gd_of 4 (by decide +kernel) rfl
theorem mwi_X5_takeSign : Cond.instanceMethod yX5_takeSign ∈ lw_gd := gd_of 318 (by decide +kernel) rfl
theorem mwv_X5_takeSign : Cond.selects yX5_takeSign.cls yX5_takeSign yX5_takeSign ∈ lw_gd := gd_sel (q := (yX5_takeSign, 11)) 5 (by decide +kernel)
theorem mwc_X5_isDigit : Cond.code yX5_isDigit kX5_isDigit.1 (kL kX5_isDigit) (kR kX5_isDigit) ∈ lw_gd := gd_of 326 (by decide +kernel) rfl
theorem mwd_X5_isDigit : yX5_isDigit.cls ≠ "java/lang/invoke/MethodHandle" ∧ yX5_isDigit.cls ≠ "java/lang/invoke/VarHandle" ∧ (parseMethodDescriptor yX5_isDigit.desc).map (fun d => d.parameters.length) = some 1 := by decide +kernel
theorem mwn_X5_isDigit : Cond.initialized yX5_isDigit.cls ∈ lw_gd := gd_of 4 (by decide +kernel) rfl
theorem mws_X5_isDigit : Cond.static yX5_isDigit ∈ lw_gd := gd_of 325 (by decide +kernel) rfl
theorem mwc_J9_min_7cf53 : Cond.code yJ9_min_7cf53 kJ9_min_7cf53.1 (kL kJ9_min_7cf53) (kR kJ9_min_7cf53) ∈ lw_gd := gd_of 329 (by decide +kernel) rfl
theorem mwd_J9_min_7cf53 : yJ9_min_7cf53.cls ≠ "java/lang/invoke/MethodHandle" ∧ yJ9_min_7cf53.cls ≠ "java/lang/invoke/VarHandle" ∧ (parseMethodDescriptor yJ9_min_7cf53.desc).map (fun d => d.parameters.length) = some 2 := by decide +kernel
theorem mwn_J9_min_7cf53 : Cond.initialized yJ9_min_7cf53.cls ∈ lw_gd := gd_of 9 (by decide +kernel) rfl
theorem mws_J9_min_7cf53 : Cond.static yJ9_min_7cf53 ∈ lw_gd := gd_of 328 (by decide +kernel) rfl
theorem mwc_X5_readNumber : Cond.code yX5_readNumber kX5_readNumber.1 (kL kX5_readNumber) (kR kX5_readNumber) ∈ lw_gd := gd_of 323 (by decide +kernel) rfl
theorem mwd_X5_readNumber : yX5_readNumber.cls ≠ "java/lang/invoke/MethodHandle" ∧ yX5_readNumber.cls ≠ "java/lang/invoke/VarHandle" ∧ (parseMethodDescriptor yX5_readNumber.desc).map (fun d => d.parameters.length) = some 2 := by decide +kernel
theorem mwn_X5_readNumber : Cond.initialized yX5_readNumber.cls ∈ lw_gd := gd_of 4 (by decide +kernel) rfl
theorem mwi_X5_readNumber : Cond.instanceMethod yX5_readNumber ∈ lw_gd := gd_of 322 (by decide +kernel) rfl
theorem mwv_X5_readNumber : Cond.selects yX5_readNumber.cls yX5_readNumber yX5_readNumber ∈ lw_gd := gd_sel (q := (yX5_readNumber, 11)) 6 (by decide +kernel)
theorem mwc_X5_readFraction : Cond.code yX5_readFraction kX5_readFraction.1 (kL kX5_readFraction) (kR kX5_readFraction) ∈ lw_gd := gd_of 315 (by decide +kernel) rfl
theorem mwd_X5_readFraction : yX5_readFraction.cls ≠ "java/lang/invoke/MethodHandle" ∧ yX5_readFraction.cls ≠ "java/lang/invoke/VarHandle" ∧ (parseMethodDescriptor yX5_readFraction.desc).map (fun d => d.parameters.length) = some 0 := by decide +kernel
theorem mwn_X5_readFraction : Cond.initialized yX5_readFraction.cls ∈ lw_gd := gd_of 4 (by decide +kernel) rfl
theorem mwi_X5_readFraction : Cond.instanceMethod yX5_readFraction ∈ lw_gd := gd_of 314 (by decide +kernel) rfl
theorem mwv_X5_readFraction : Cond.selects yX5_readFraction.cls yX5_readFraction yX5_readFraction ∈ lw_gd := gd_sel (q := (yX5_readFraction, 11)) 4 (by decide +kernel)
theorem mwc_X1_addLine : Cond.code yX1_addLine kX1_addLine.1 (kL kX1_addLine) (kR kX1_addLine) ∈ lw_gd := gd_of 341 (by decide +kernel) rfl
theorem mwd_X1_addLine : yX1_addLine.cls ≠ "java/lang/invoke/MethodHandle" ∧ yX1_addLine.cls ≠ "java/lang/invoke/VarHandle" ∧ (parseMethodDescriptor yX1_addLine.desc).map (fun d => d.parameters.length) = some 5 := by decide +kernel
theorem mwn_X1_addLine : Cond.initialized yX1_addLine.cls ∈ lw_gd := gd_of 5 (by decide +kernel) rfl
theorem mwi_X1_addLine : Cond.instanceMethod yX1_addLine ∈ lw_gd := gd_of 339 (by decide +kernel) rfl
theorem mwv_X1_addLine : Cond.selects yX1_addLine.cls yX1_addLine yX1_addLine ∈ lw_gd := gd_of 340 (by decide +kernel) rfl
theorem mwc_X1_addBetween : Cond.code yX1_addBetween kX1_addBetween.1 (kL kX1_addBetween) (kR kX1_addBetween) ∈ lw_gd := gd_of 337 (by decide +kernel) rfl
theorem mwd_X1_addBetween : yX1_addBetween.cls ≠ "java/lang/invoke/MethodHandle" ∧ yX1_addBetween.cls ≠ "java/lang/invoke/VarHandle" ∧ (parseMethodDescriptor yX1_addBetween.desc).map (fun d => d.parameters.length) = some 4 := by decide +kernel
theorem mwn_X1_addBetween : Cond.initialized yX1_addBetween.cls ∈ lw_gd := gd_of 5 (by decide +kernel) rfl
theorem mwi_X1_addBetween : Cond.instanceMethod yX1_addBetween ∈ lw_gd := gd_of 335 (by decide +kernel) rfl
theorem mwv_X1_addBetween : Cond.selects yX1_addBetween.cls yX1_addBetween yX1_addBetween ∈ lw_gd := gd_of 336 (by decide +kernel) rfl
theorem mwc_X5_addReadKnot : Cond.code yX5_addReadKnot kX5_addReadKnot.1 (kL kX5_addReadKnot) (kR kX5_addReadKnot) ∈ lw_gd := gd_of 333 (by decide +kernel) rfl
theorem mwd_X5_addReadKnot : yX5_addReadKnot.cls ≠ "java/lang/invoke/MethodHandle" ∧ yX5_addReadKnot.cls ≠ "java/lang/invoke/VarHandle" ∧ (parseMethodDescriptor yX5_addReadKnot.desc).map (fun d => d.parameters.length) = some 3 := by decide +kernel
theorem mwn_X5_addReadKnot : Cond.initialized yX5_addReadKnot.cls ∈ lw_gd := gd_of 4 (by decide +kernel) rfl
theorem mwi_X5_addReadKnot : Cond.instanceMethod yX5_addReadKnot ∈ lw_gd := gd_of 332 (by decide +kernel) rfl
theorem mwv_X5_addReadKnot : Cond.selects yX5_addReadKnot.cls yX5_addReadKnot yX5_addReadKnot ∈ lw_gd := gd_sel (q := (yX5_addReadKnot, 11)) 7 (by decide +kernel)
theorem mwc_X5_readKnot : Cond.code yX5_readKnot kX5_readKnot.1 (kL kX5_readKnot) (kR kX5_readKnot) ∈ lw_gd := gd_of 303 (by decide +kernel) rfl
theorem mwd_X5_readKnot : yX5_readKnot.cls ≠ "java/lang/invoke/MethodHandle" ∧ yX5_readKnot.cls ≠ "java/lang/invoke/VarHandle" ∧ (parseMethodDescriptor yX5_readKnot.desc).map (fun d => d.parameters.length) = some 1 := by decide +kernel
theorem mwn_X5_readKnot : Cond.initialized yX5_readKnot.cls ∈ lw_gd := gd_of 4 (by decide +kernel) rfl
theorem mwi_X5_readKnot : Cond.instanceMethod yX5_readKnot ∈ lw_gd := gd_of 302 (by decide +kernel) rfl
theorem mwv_X5_readKnot : Cond.selects yX5_readKnot.cls yX5_readKnot yX5_readKnot ∈ lw_gd := gd_sel (q := (yX5_readKnot, 11)) 1 (by decide +kernel)
theorem mwc_X5_endPart : Cond.code yX5_endPart kX5_endPart.1 (kL kX5_endPart) (kR kX5_endPart) ∈ lw_gd := gd_of 345 (by decide +kernel) rfl
theorem mwd_X5_endPart : yX5_endPart.cls ≠ "java/lang/invoke/MethodHandle" ∧ yX5_endPart.cls ≠ "java/lang/invoke/VarHandle" ∧ (parseMethodDescriptor yX5_endPart.desc).map (fun d => d.parameters.length) = some 1 := by decide +kernel
theorem mwn_X5_endPart : Cond.initialized yX5_endPart.cls ∈ lw_gd := gd_of 4 (by decide +kernel) rfl
theorem mwi_X5_endPart : Cond.instanceMethod yX5_endPart ∈ lw_gd := gd_of 344 (by decide +kernel) rfl
theorem mwv_X5_endPart : Cond.selects yX5_endPart.cls yX5_endPart yX5_endPart ∈ lw_gd := gd_sel (q := (yX5_endPart, 11)) 8 (by decide +kernel)
theorem mwc_X5_readText : Cond.code yX5_readText kX5_readText.1 (kL kX5_readText) (kR kX5_readText) ∈ lw_gd := gd_of 299 (by decide +kernel) rfl
theorem mwd_X5_readText : yX5_readText.cls ≠ "java/lang/invoke/MethodHandle" ∧ yX5_readText.cls ≠ "java/lang/invoke/VarHandle" ∧ (parseMethodDescriptor yX5_readText.desc).map (fun d => d.parameters.length) = some 1 := by decide +kernel
theorem mwn_X5_readText : Cond.initialized yX5_readText.cls ∈ lw_gd := gd_of 4 (by decide +kernel) rfl
theorem mwi_X5_readText : Cond.instanceMethod yX5_readText ∈ lw_gd := gd_of 297 (by decide +kernel) rfl
theorem mwv_X5_readText : Cond.selects yX5_readText.cls yX5_readText yX5_readText ∈ lw_gd := gd_of 298 (by decide +kernel) rfl
theorem mwc_X4_wipe : Cond.code yX4_wipe kX4_wipe.1 (kL kX4_wipe) (kR kX4_wipe) ∈ lw_gd := gd_of 353 (by decide +kernel) rfl
theorem mwd_X4_wipe : yX4_wipe.cls ≠ "java/lang/invoke/MethodHandle" ∧ yX4_wipe.cls ≠ "java/lang/invoke/VarHandle" ∧ (parseMethodDescriptor yX4_wipe.desc).map (fun d => d.parameters.length) = some 0 := by decide +kernel
theorem mwn_X4_wipe : Cond.initialized yX4_wipe.cls ∈ lw_gd := gd_of 2 (by decide +kernel) rfl
theorem mwi_X4_wipe : Cond.instanceMethod yX4_wipe ∈ lw_gd := gd_of 351 (by decide +kernel) rfl
theorem mwv_X4_wipe : Cond.selects yX4_wipe.cls yX4_wipe yX4_wipe ∈ lw_gd := gd_of 352 (by decide +kernel) rfl
theorem mwc_J9_floorDiv_f86c9 : Cond.code yJ9_floorDiv_f86c9 kJ9_floorDiv_f86c9.1 (kL kJ9_floorDiv_f86c9) (kR kJ9_floorDiv_f86c9) ∈ lw_gd := gd_of 369 (by decide +kernel) rfl
theorem mwd_J9_floorDiv_f86c9 : yJ9_floorDiv_f86c9.cls ≠ "java/lang/invoke/MethodHandle" ∧ yJ9_floorDiv_f86c9.cls ≠ "java/lang/invoke/VarHandle" ∧ (parseMethodDescriptor yJ9_floorDiv_f86c9.desc).map (fun d => d.parameters.length) = some 2 := by decide +kernel
theorem mwn_J9_floorDiv_f86c9 : Cond.initialized yJ9_floorDiv_f86c9.cls ∈ lw_gd := gd_of 9 (by decide +kernel) rfl
theorem mws_J9_floorDiv_f86c9 : Cond.static yJ9_floorDiv_f86c9 ∈ lw_gd := gd_of 368 (by decide +kernel) rfl
theorem mwc_J13_compare_74951 : Cond.code yJ13_compare_74951 kJ13_compare_74951.1 (kL kJ13_compare_74951) (kR kJ13_compare_74951) ∈ lw_gd := gd_of 372 (by decide +kernel) rfl
theorem mwd_J13_compare_74951 : yJ13_compare_74951.cls ≠ "java/lang/invoke/MethodHandle" ∧ yJ13_compare_74951.cls ≠ "java/lang/invoke/VarHandle" ∧ (parseMethodDescriptor yJ13_compare_74951.desc).map (fun d => d.parameters.length) = some 2 := by decide +kernel
theorem mwn_J13_compare_74951 : Cond.initialized yJ13_compare_74951.cls ∈ lw_gd := gd_of 11 (by decide +kernel) rfl
theorem mws_J13_compare_74951 : Cond.static yJ13_compare_74951 ∈ lw_gd := gd_of 371 (by decide +kernel) rfl
theorem mwc_X2_order : Cond.code yX2_order kX2_order.1 (kL kX2_order) (kR kX2_order) ∈ lw_gd := gd_of 366 (by decide +kernel) rfl
theorem mwd_X2_order : yX2_order.cls ≠ "java/lang/invoke/MethodHandle" ∧ yX2_order.cls ≠ "java/lang/invoke/VarHandle" ∧ (parseMethodDescriptor yX2_order.desc).map (fun d => d.parameters.length) = some 4 := by decide +kernel
theorem mwn_X2_order : Cond.initialized yX2_order.cls ∈ lw_gd := gd_of 6 (by decide +kernel) rfl
theorem mws_X2_order : Cond.static yX2_order ∈ lw_gd := gd_of 365 (by decide +kernel) rfl
theorem mwc_X1_orderAt : Cond.code yX1_orderAt kX1_orderAt.1 (kL kX1_orderAt) (kR kX1_orderAt) ∈ lw_gd := gd_of 363 (by decide +kernel) rfl
theorem mwd_X1_orderAt : yX1_orderAt.cls ≠ "java/lang/invoke/MethodHandle" ∧ yX1_orderAt.cls ≠ "java/lang/invoke/VarHandle" ∧ (parseMethodDescriptor yX1_orderAt.desc).map (fun d => d.parameters.length) = some 3 := by decide +kernel
theorem mwn_X1_orderAt : Cond.initialized yX1_orderAt.cls ∈ lw_gd := gd_of 5 (by decide +kernel) rfl
theorem mwi_X1_orderAt : Cond.instanceMethod yX1_orderAt ∈ lw_gd := gd_of 361 (by decide +kernel) rfl
theorem mwv_X1_orderAt : Cond.selects yX1_orderAt.cls yX1_orderAt yX1_orderAt ∈ lw_gd := gd_of 362 (by decide +kernel) rfl
theorem mwc_X1_lookAt : Cond.code yX1_lookAt kX1_lookAt.1 (kL kX1_lookAt) (kR kX1_lookAt) ∈ lw_gd := gd_of 358 (by decide +kernel) rfl
theorem mwd_X1_lookAt : yX1_lookAt.cls ≠ "java/lang/invoke/MethodHandle" ∧ yX1_lookAt.cls ≠ "java/lang/invoke/VarHandle" ∧ (parseMethodDescriptor yX1_lookAt.desc).map (fun d => d.parameters.length) = some 1 := by decide +kernel
theorem mwn_X1_lookAt : Cond.initialized yX1_lookAt.cls ∈ lw_gd := gd_of 5 (by decide +kernel) rfl
theorem mwi_X1_lookAt : Cond.instanceMethod yX1_lookAt ∈ lw_gd := gd_of 356 (by decide +kernel) rfl
theorem mwv_X1_lookAt : Cond.selects yX1_lookAt.cls yX1_lookAt yX1_lookAt ∈ lw_gd := gd_of 357 (by decide +kernel) rfl
theorem mwc_X1_steepness : Cond.code yX1_steepness kX1_steepness.1 (kL kX1_steepness) (kR kX1_steepness) ∈ lw_gd := gd_of 380 (by decide +kernel) rfl
theorem mwd_X1_steepness : yX1_steepness.cls ≠ "java/lang/invoke/MethodHandle" ∧ yX1_steepness.cls ≠ "java/lang/invoke/VarHandle" ∧ (parseMethodDescriptor yX1_steepness.desc).map (fun d => d.parameters.length) = some 2 := by decide +kernel
theorem mwn_X1_steepness : Cond.initialized yX1_steepness.cls ∈ lw_gd := gd_of 5 (by decide +kernel) rfl
theorem mwi_X1_steepness : Cond.instanceMethod yX1_steepness ∈ lw_gd := gd_of 378 (by decide +kernel) rfl
theorem mwv_X1_steepness : Cond.selects yX1_steepness.cls yX1_steepness yX1_steepness ∈ lw_gd := gd_of 379 (by decide +kernel) rfl
theorem mwc_X1_lowestLive : Cond.code yX1_lowestLive kX1_lowestLive.1 (kL kX1_lowestLive) (kR kX1_lowestLive) ∈ lw_gd := gd_of 376 (by decide +kernel) rfl
theorem mwd_X1_lowestLive : yX1_lowestLive.cls ≠ "java/lang/invoke/MethodHandle" ∧ yX1_lowestLive.cls ≠ "java/lang/invoke/VarHandle" ∧ (parseMethodDescriptor yX1_lowestLive.desc).map (fun d => d.parameters.length) = some 1 := by decide +kernel
theorem mwn_X1_lowestLive : Cond.initialized yX1_lowestLive.cls ∈ lw_gd := gd_of 5 (by decide +kernel) rfl
theorem mwi_X1_lowestLive : Cond.instanceMethod yX1_lowestLive ∈ lw_gd := gd_of 374 (by decide +kernel) rfl
theorem mwv_X1_lowestLive : Cond.selects yX1_lowestLive.cls yX1_lowestLive yX1_lowestLive ∈ lw_gd := gd_of 375 (by decide +kernel) rfl
theorem mwc_J9_abs_067f4 : Cond.code yJ9_abs_067f4 kJ9_abs_067f4.1 (kL kJ9_abs_067f4) (kR kJ9_abs_067f4) ∈ lw_gd := gd_of 399 (by decide +kernel) rfl
theorem mwd_J9_abs_067f4 : yJ9_abs_067f4.cls ≠ "java/lang/invoke/MethodHandle" ∧ yJ9_abs_067f4.cls ≠ "java/lang/invoke/VarHandle" ∧ (parseMethodDescriptor yJ9_abs_067f4.desc).map (fun d => d.parameters.length) = some 1 := by decide +kernel
theorem mwn_J9_abs_067f4 : Cond.initialized yJ9_abs_067f4.cls ∈ lw_gd := gd_of 9 (by decide +kernel) rfl
theorem mws_J9_abs_067f4 : Cond.static yJ9_abs_067f4 ∈ lw_gd := gd_of 398 (by decide +kernel) rfl
theorem mwc_X2_commonDivisor : Cond.code yX2_commonDivisor kX2_commonDivisor.1 (kL kX2_commonDivisor) (kR kX2_commonDivisor) ∈ lw_gd := gd_of 396 (by decide +kernel) rfl
theorem mwd_X2_commonDivisor : yX2_commonDivisor.cls ≠ "java/lang/invoke/MethodHandle" ∧ yX2_commonDivisor.cls ≠ "java/lang/invoke/VarHandle" ∧ (parseMethodDescriptor yX2_commonDivisor.desc).map (fun d => d.parameters.length) = some 2 := by decide +kernel
theorem mwn_X2_commonDivisor : Cond.initialized yX2_commonDivisor.cls ∈ lw_gd := gd_of 6 (by decide +kernel) rfl
theorem mws_X2_commonDivisor : Cond.static yX2_commonDivisor ∈ lw_gd := gd_of 395 (by decide +kernel) rfl
theorem mwc_J9_max_7cf53 : Cond.code yJ9_max_7cf53 kJ9_max_7cf53.1 (kL kJ9_max_7cf53) (kR kJ9_max_7cf53) ∈ lw_gd := gd_of 406 (by decide +kernel) rfl
theorem mwd_J9_max_7cf53 : yJ9_max_7cf53.cls ≠ "java/lang/invoke/MethodHandle" ∧ yJ9_max_7cf53.cls ≠ "java/lang/invoke/VarHandle" ∧ (parseMethodDescriptor yJ9_max_7cf53.desc).map (fun d => d.parameters.length) = some 2 := by decide +kernel
theorem mwn_J9_max_7cf53 : Cond.initialized yJ9_max_7cf53.cls ∈ lw_gd := gd_of 9 (by decide +kernel) rfl
theorem mws_J9_max_7cf53 : Cond.static yJ9_max_7cf53 ∈ lw_gd := gd_of 405 (by decide +kernel) rfl
theorem mwc_J7_copyOf_c38d5 : Cond.code yJ7_copyOf_c38d5 kJ7_copyOf_c38d5.1 (kL kJ7_copyOf_c38d5) (kR kJ7_copyOf_c38d5) ∈ lw_gd := gd_of 409 (by decide +kernel) rfl
theorem mwd_J7_copyOf_c38d5 : yJ7_copyOf_c38d5.cls ≠ "java/lang/invoke/MethodHandle" ∧ yJ7_copyOf_c38d5.cls ≠ "java/lang/invoke/VarHandle" ∧ (parseMethodDescriptor yJ7_copyOf_c38d5.desc).map (fun d => d.parameters.length) = some 2 := by decide +kernel
theorem mwn_J7_copyOf_c38d5 : Cond.initialized yJ7_copyOf_c38d5.cls ∈ lw_gd := gd_of 12 (by decide +kernel) rfl
theorem mws_J7_copyOf_c38d5 : Cond.static yJ7_copyOf_c38d5 ∈ lw_gd := gd_of 408 (by decide +kernel) rfl
theorem mwc_J7_copyOf_59c91 : Cond.code yJ7_copyOf_59c91 kJ7_copyOf_59c91.1 (kL kJ7_copyOf_59c91) (kR kJ7_copyOf_59c91) ∈ lw_gd := gd_of 423 (by decide +kernel) rfl
theorem mwd_J7_copyOf_59c91 : yJ7_copyOf_59c91.cls ≠ "java/lang/invoke/MethodHandle" ∧ yJ7_copyOf_59c91.cls ≠ "java/lang/invoke/VarHandle" ∧ (parseMethodDescriptor yJ7_copyOf_59c91.desc).map (fun d => d.parameters.length) = some 2 := by decide +kernel
theorem mwn_J7_copyOf_59c91 : Cond.initialized yJ7_copyOf_59c91.cls ∈ lw_gd := gd_of 12 (by decide +kernel) rfl
theorem mws_J7_copyOf_59c91 : Cond.static yJ7_copyOf_59c91 ∈ lw_gd := gd_of 422 (by decide +kernel) rfl
theorem mwc_X4_makeRoom : Cond.code yX4_makeRoom kX4_makeRoom.1 (kL kX4_makeRoom) (kR kX4_makeRoom) ∈ lw_gd := gd_of 403 (by decide +kernel) rfl
theorem mwd_X4_makeRoom : yX4_makeRoom.cls ≠ "java/lang/invoke/MethodHandle" ∧ yX4_makeRoom.cls ≠ "java/lang/invoke/VarHandle" ∧ (parseMethodDescriptor yX4_makeRoom.desc).map (fun d => d.parameters.length) = some 1 := by decide +kernel
theorem mwn_X4_makeRoom : Cond.initialized yX4_makeRoom.cls ∈ lw_gd := gd_of 2 (by decide +kernel) rfl
theorem mwi_X4_makeRoom : Cond.instanceMethod yX4_makeRoom ∈ lw_gd := gd_of 401 (by decide +kernel) rfl
theorem mwv_X4_makeRoom : Cond.selects yX4_makeRoom.cls yX4_makeRoom yX4_makeRoom ∈ lw_gd := gd_of 402 (by decide +kernel) rfl
theorem mwc_X4_addKnot : Cond.code yX4_addKnot kX4_addKnot.1 (kL kX4_addKnot) (kR kX4_addKnot) ∈ lw_gd := gd_of 393 (by decide +kernel) rfl
theorem mwd_X4_addKnot : yX4_addKnot.cls ≠ "java/lang/invoke/MethodHandle" ∧ yX4_addKnot.cls ≠ "java/lang/invoke/VarHandle" ∧ (parseMethodDescriptor yX4_addKnot.desc).map (fun d => d.parameters.length) = some 5 := by decide +kernel
theorem mwn_X4_addKnot : Cond.initialized yX4_addKnot.cls ∈ lw_gd := gd_of 2 (by decide +kernel) rfl
theorem mwi_X4_addKnot : Cond.instanceMethod yX4_addKnot ∈ lw_gd := gd_of 391 (by decide +kernel) rfl
theorem mwv_X4_addKnot : Cond.selects yX4_addKnot.cls yX4_addKnot yX4_addKnot ∈ lw_gd := gd_of 392 (by decide +kernel) rfl
theorem mwc_X1_addEnd : Cond.code yX1_addEnd kX1_addEnd.1 (kL kX1_addEnd) (kR kX1_addEnd) ∈ lw_gd := gd_of 389 (by decide +kernel) rfl
theorem mwd_X1_addEnd : yX1_addEnd.cls ≠ "java/lang/invoke/MethodHandle" ∧ yX1_addEnd.cls ≠ "java/lang/invoke/VarHandle" ∧ (parseMethodDescriptor yX1_addEnd.desc).map (fun d => d.parameters.length) = some 4 := by decide +kernel
theorem mwn_X1_addEnd : Cond.initialized yX1_addEnd.cls ∈ lw_gd := gd_of 5 (by decide +kernel) rfl
theorem mwi_X1_addEnd : Cond.instanceMethod yX1_addEnd ∈ lw_gd := gd_of 387 (by decide +kernel) rfl
theorem mwv_X1_addEnd : Cond.selects yX1_addEnd.cls yX1_addEnd yX1_addEnd ∈ lw_gd := gd_of 388 (by decide +kernel) rfl
theorem mwc_X1_meetAt : Cond.code yX1_meetAt kX1_meetAt.1 (kL kX1_meetAt) (kR kX1_meetAt) ∈ lw_gd := gd_of 385 (by decide +kernel) rfl
theorem mwd_X1_meetAt : yX1_meetAt.cls ≠ "java/lang/invoke/MethodHandle" ∧ yX1_meetAt.cls ≠ "java/lang/invoke/VarHandle" ∧ (parseMethodDescriptor yX1_meetAt.desc).map (fun d => d.parameters.length) = some 4 := by decide +kernel
theorem mwn_X1_meetAt : Cond.initialized yX1_meetAt.cls ∈ lw_gd := gd_of 5 (by decide +kernel) rfl
theorem mwi_X1_meetAt : Cond.instanceMethod yX1_meetAt ∈ lw_gd := gd_of 383 (by decide +kernel) rfl
theorem mwv_X1_meetAt : Cond.selects yX1_meetAt.cls yX1_meetAt yX1_meetAt ∈ lw_gd := gd_of 384 (by decide +kernel) rfl
theorem mwc_X1_crossingBottom : Cond.code yX1_crossingBottom kX1_crossingBottom.1 (kL kX1_crossingBottom) (kR kX1_crossingBottom) ∈ lw_gd := gd_of 440 (by decide +kernel) rfl
theorem mwd_X1_crossingBottom : yX1_crossingBottom.cls ≠ "java/lang/invoke/MethodHandle" ∧ yX1_crossingBottom.cls ≠ "java/lang/invoke/VarHandle" ∧ (parseMethodDescriptor yX1_crossingBottom.desc).map (fun d => d.parameters.length) = some 2 := by decide +kernel
theorem mwn_X1_crossingBottom : Cond.initialized yX1_crossingBottom.cls ∈ lw_gd := gd_of 5 (by decide +kernel) rfl
theorem mwi_X1_crossingBottom : Cond.instanceMethod yX1_crossingBottom ∈ lw_gd := gd_of 438 (by decide +kernel) rfl
theorem mwv_X1_crossingBottom : Cond.selects yX1_crossingBottom.cls yX1_crossingBottom yX1_crossingBottom ∈ lw_gd := gd_of 439 (by decide +kernel) rfl
theorem mwc_X1_crossingTop : Cond.code yX1_crossingTop kX1_crossingTop.1 (kL kX1_crossingTop) (kR kX1_crossingTop) ∈ lw_gd := gd_of 444 (by decide +kernel) rfl
theorem mwd_X1_crossingTop : yX1_crossingTop.cls ≠ "java/lang/invoke/MethodHandle" ∧ yX1_crossingTop.cls ≠ "java/lang/invoke/VarHandle" ∧ (parseMethodDescriptor yX1_crossingTop.desc).map (fun d => d.parameters.length) = some 2 := by decide +kernel
theorem mwn_X1_crossingTop : Cond.initialized yX1_crossingTop.cls ∈ lw_gd := gd_of 5 (by decide +kernel) rfl
theorem mwi_X1_crossingTop : Cond.instanceMethod yX1_crossingTop ∈ lw_gd := gd_of 442 (by decide +kernel) rfl
theorem mwv_X1_crossingTop : Cond.selects yX1_crossingTop.cls yX1_crossingTop yX1_crossingTop ∈ lw_gd := gd_of 443 (by decide +kernel) rfl
theorem mwc_X1_firstCrossing : Cond.code yX1_firstCrossing kX1_firstCrossing.1 (kL kX1_firstCrossing) (kR kX1_firstCrossing) ∈ lw_gd := gd_of 436 (by decide +kernel) rfl
theorem mwd_X1_firstCrossing : yX1_firstCrossing.cls ≠ "java/lang/invoke/MethodHandle" ∧ yX1_firstCrossing.cls ≠ "java/lang/invoke/VarHandle" ∧ (parseMethodDescriptor yX1_firstCrossing.desc).map (fun d => d.parameters.length) = some 1 := by decide +kernel
theorem mwn_X1_firstCrossing : Cond.initialized yX1_firstCrossing.cls ∈ lw_gd := gd_of 5 (by decide +kernel) rfl
theorem mwi_X1_firstCrossing : Cond.instanceMethod yX1_firstCrossing ∈ lw_gd := gd_of 434 (by decide +kernel) rfl
theorem mwv_X1_firstCrossing : Cond.selects yX1_firstCrossing.cls yX1_firstCrossing yX1_firstCrossing ∈ lw_gd := gd_of 435 (by decide +kernel) rfl
theorem mwc_X1_follow : Cond.code yX1_follow kX1_follow.1 (kL kX1_follow) (kR kX1_follow) ∈ lw_gd := gd_of 432 (by decide +kernel) rfl
theorem mwd_X1_follow : yX1_follow.cls ≠ "java/lang/invoke/MethodHandle" ∧ yX1_follow.cls ≠ "java/lang/invoke/VarHandle" ∧ (parseMethodDescriptor yX1_follow.desc).map (fun d => d.parameters.length) = some 2 := by decide +kernel
theorem mwn_X1_follow : Cond.initialized yX1_follow.cls ∈ lw_gd := gd_of 5 (by decide +kernel) rfl
theorem mwi_X1_follow : Cond.instanceMethod yX1_follow ∈ lw_gd := gd_of 430 (by decide +kernel) rfl
theorem mwv_X1_follow : Cond.selects yX1_follow.cls yX1_follow yX1_follow ∈ lw_gd := gd_of 431 (by decide +kernel) rfl
theorem mwc_X1_lowestInto : Cond.code yX1_lowestInto kX1_lowestInto.1 (kL kX1_lowestInto) (kR kX1_lowestInto) ∈ lw_gd := gd_of 349 (by decide +kernel) rfl
theorem mwd_X1_lowestInto : yX1_lowestInto.cls ≠ "java/lang/invoke/MethodHandle" ∧ yX1_lowestInto.cls ≠ "java/lang/invoke/VarHandle" ∧ (parseMethodDescriptor yX1_lowestInto.desc).map (fun d => d.parameters.length) = some 1 := by decide +kernel
theorem mwn_X1_lowestInto : Cond.initialized yX1_lowestInto.cls ∈ lw_gd := gd_of 5 (by decide +kernel) rfl
theorem mwi_X1_lowestInto : Cond.instanceMethod yX1_lowestInto ∈ lw_gd := gd_of 347 (by decide +kernel) rfl
theorem mwv_X1_lowestInto : Cond.selects yX1_lowestInto.cls yX1_lowestInto yX1_lowestInto ∈ lw_gd := gd_of 348 (by decide +kernel) rfl
theorem mwc_X0_keep : Cond.code yX0_keep kX0_keep.1 (kL kX0_keep) (kR kX0_keep) ∈ lw_gd := gd_of 452 (by decide +kernel) rfl
theorem mwd_X0_keep : yX0_keep.cls ≠ "java/lang/invoke/MethodHandle" ∧ yX0_keep.cls ≠ "java/lang/invoke/VarHandle" ∧ (parseMethodDescriptor yX0_keep.desc).map (fun d => d.parameters.length) = some 3 := by decide +kernel
theorem mwn_X0_keep : Cond.initialized yX0_keep.cls ∈ lw_gd := gd_of 3 (by decide +kernel) rfl
theorem mwi_X0_keep : Cond.instanceMethod yX0_keep ∈ lw_gd := gd_of 450 (by decide +kernel) rfl
theorem mwv_X0_keep : Cond.selects yX0_keep.cls yX0_keep yX0_keep ∈ lw_gd := gd_of 451 (by decide +kernel) rfl
theorem mwc_X6_settle : Cond.code yX6_settle kX6_settle.1 (kL kX6_settle) (kR kX6_settle) ∈ lw_gd := gd_of 448 (by decide +kernel) rfl
theorem mwd_X6_settle : yX6_settle.cls ≠ "java/lang/invoke/MethodHandle" ∧ yX6_settle.cls ≠ "java/lang/invoke/VarHandle" ∧ (parseMethodDescriptor yX6_settle.desc).map (fun d => d.parameters.length) = some 2 := by decide +kernel
theorem mwn_X6_settle : Cond.initialized yX6_settle.cls ∈ lw_gd := gd_of 1 (by decide +kernel) rfl
theorem mwi_X6_settle : Cond.instanceMethod yX6_settle ∈ lw_gd := gd_of 447 (by decide +kernel) rfl
theorem mwv_X6_settle : Cond.selects yX6_settle.cls yX6_settle yX6_settle ∈ lw_gd := gd_sel (q := (yX6_settle, 16)) 9 (by decide +kernel)
theorem mwc_X6_read : Cond.code yX6_read kX6_read.1 (kL kX6_read) (kR kX6_read) ∈ lw_gd := gd_of 284 (by decide +kernel) rfl
theorem mwd_X6_read : yX6_read.cls ≠ "java/lang/invoke/MethodHandle" ∧ yX6_read.cls ≠ "java/lang/invoke/VarHandle" ∧ (parseMethodDescriptor yX6_read.desc).map (fun d => d.parameters.length) = some 1 := by decide +kernel
theorem mwn_X6_read : Cond.initialized yX6_read.cls ∈ lw_gd := gd_of 1 (by decide +kernel) rfl
theorem mwi_X6_read : Cond.instanceMethod yX6_read ∈ lw_gd := gd_of 282 (by decide +kernel) rfl
theorem mwv_X6_read : Cond.selects yX6_read.cls yX6_read yX6_read ∈ lw_gd := gd_of 283 (by decide +kernel) rfl
theorem mwc_X7_isStore : Cond.code yX7_isStore kX7_isStore.1 (kL kX7_isStore) (kR kX7_isStore) ∈ lw_gd := gd_of 1069 (by decide +kernel) rfl
theorem mwd_X7_isStore : yX7_isStore.cls ≠ "java/lang/invoke/MethodHandle" ∧ yX7_isStore.cls ≠ "java/lang/invoke/VarHandle" ∧ (parseMethodDescriptor yX7_isStore.desc).map (fun d => d.parameters.length) = some 1 := by decide +kernel
theorem mwn_X7_isStore : Cond.initialized yX7_isStore.cls ∈ lw_gd := gd_of 8 (by decide +kernel) rfl
theorem mws_X7_isStore : Cond.static yX7_isStore ∈ lw_gd := gd_of 1068 (by decide +kernel) rfl
theorem mwc_X7_refuse : Cond.code yX7_refuse kX7_refuse.1 (kL kX7_refuse) (kR kX7_refuse) ∈ lw_gd := gd_of 1035 (by decide +kernel) rfl
theorem mwd_X7_refuse : yX7_refuse.cls ≠ "java/lang/invoke/MethodHandle" ∧ yX7_refuse.cls ≠ "java/lang/invoke/VarHandle" ∧ (parseMethodDescriptor yX7_refuse.desc).map (fun d => d.parameters.length) = some 1 := by decide +kernel
theorem mwn_X7_refuse : Cond.initialized yX7_refuse.cls ∈ lw_gd := gd_of 8 (by decide +kernel) rfl
theorem mwi_X7_refuse : Cond.instanceMethod yX7_refuse ∈ lw_gd := gd_of 1034 (by decide +kernel) rfl
theorem mwv_X7_refuse : Cond.selects yX7_refuse.cls yX7_refuse yX7_refuse ∈ lw_gd := gd_sel (q := (yX7_refuse, 57)) 18 (by decide +kernel)
theorem mwc_X7_sign : Cond.code yX7_sign kX7_sign.1 (kL kX7_sign) (kR kX7_sign) ∈ lw_gd := gd_of 1266 (by decide +kernel) rfl
theorem mwd_X7_sign : yX7_sign.cls ≠ "java/lang/invoke/MethodHandle" ∧ yX7_sign.cls ≠ "java/lang/invoke/VarHandle" ∧ (parseMethodDescriptor yX7_sign.desc).map (fun d => d.parameters.length) = some 0 := by decide +kernel
theorem mwn_X7_sign : Cond.initialized yX7_sign.cls ∈ lw_gd := gd_of 8 (by decide +kernel) rfl
theorem mwi_X7_sign : Cond.instanceMethod yX7_sign ∈ lw_gd := gd_of 1265 (by decide +kernel) rfl
theorem mwv_X7_sign : Cond.selects yX7_sign.cls yX7_sign yX7_sign ∈ lw_gd := gd_sel (q := (yX7_sign, 57)) 53 (by decide +kernel)
theorem mwc_X7_wrong : Cond.code yX7_wrong kX7_wrong.1 (kL kX7_wrong) (kR kX7_wrong) ∈ lw_gd := gd_of 1270 (by decide +kernel) rfl
theorem mwd_X7_wrong : yX7_wrong.cls ≠ "java/lang/invoke/MethodHandle" ∧ yX7_wrong.cls ≠ "java/lang/invoke/VarHandle" ∧ (parseMethodDescriptor yX7_wrong.desc).map (fun d => d.parameters.length) = some 1 := by decide +kernel
theorem mwn_X7_wrong : Cond.initialized yX7_wrong.cls ∈ lw_gd := gd_of 8 (by decide +kernel) rfl
theorem mwi_X7_wrong : Cond.instanceMethod yX7_wrong ∈ lw_gd := gd_of 1269 (by decide +kernel) rfl
theorem mwv_X7_wrong : Cond.selects yX7_wrong.cls yX7_wrong yX7_wrong ∈ lw_gd := gd_sel (q := (yX7_wrong, 57)) 54 (by decide +kernel)
theorem mwc_X7_isDigit : Cond.code yX7_isDigit kX7_isDigit.1 (kL kX7_isDigit) (kR kX7_isDigit) ∈ lw_gd := gd_of 1281 (by decide +kernel) rfl
theorem mwd_X7_isDigit : yX7_isDigit.cls ≠ "java/lang/invoke/MethodHandle" ∧ yX7_isDigit.cls ≠ "java/lang/invoke/VarHandle" ∧ (parseMethodDescriptor yX7_isDigit.desc).map (fun d => d.parameters.length) = some 1 := by decide +kernel
theorem mwn_X7_isDigit : Cond.initialized yX7_isDigit.cls ∈ lw_gd := gd_of 8 (by decide +kernel) rfl
theorem mws_X7_isDigit : Cond.static yX7_isDigit ∈ lw_gd := gd_of 1280 (by decide +kernel) rfl
theorem mwc_X7_number : Cond.code yX7_number kX7_number.1 (kL kX7_number) (kR kX7_number) ∈ lw_gd := gd_of 1278 (by decide +kernel) rfl
theorem mwd_X7_number : yX7_number.cls ≠ "java/lang/invoke/MethodHandle" ∧ yX7_number.cls ≠ "java/lang/invoke/VarHandle" ∧ (parseMethodDescriptor yX7_number.desc).map (fun d => d.parameters.length) = some 2 := by decide +kernel
theorem mwn_X7_number : Cond.initialized yX7_number.cls ∈ lw_gd := gd_of 8 (by decide +kernel) rfl
theorem mwi_X7_number : Cond.instanceMethod yX7_number ∈ lw_gd := gd_of 1277 (by decide +kernel) rfl
theorem mwv_X7_number : Cond.selects yX7_number.cls yX7_number yX7_number ∈ lw_gd := gd_sel (q := (yX7_number, 57)) 56 (by decide +kernel)
theorem mwc_X7_fraction : Cond.code yX7_fraction kX7_fraction.1 (kL kX7_fraction) (kR kX7_fraction) ∈ lw_gd := gd_of 1274 (by decide +kernel) rfl
theorem mwd_X7_fraction : yX7_fraction.cls ≠ "java/lang/invoke/MethodHandle" ∧ yX7_fraction.cls ≠ "java/lang/invoke/VarHandle" ∧ (parseMethodDescriptor yX7_fraction.desc).map (fun d => d.parameters.length) = some 0 := by decide +kernel
theorem mwn_X7_fraction : Cond.initialized yX7_fraction.cls ∈ lw_gd := gd_of 8 (by decide +kernel) rfl
theorem mwi_X7_fraction : Cond.instanceMethod yX7_fraction ∈ lw_gd := gd_of 1273 (by decide +kernel) rfl
theorem mwv_X7_fraction : Cond.selects yX7_fraction.cls yX7_fraction yX7_fraction ∈ lw_gd := gd_sel (q := (yX7_fraction, 57)) 55 (by decide +kernel)
theorem mwc_X7_readKnot : Cond.code yX7_readKnot kX7_readKnot.1 (kL kX7_readKnot) (kR kX7_readKnot) ∈ lw_gd := gd_of 1262 (by decide +kernel) rfl
theorem mwd_X7_readKnot : yX7_readKnot.cls ≠ "java/lang/invoke/MethodHandle" ∧ yX7_readKnot.cls ≠ "java/lang/invoke/VarHandle" ∧ (parseMethodDescriptor yX7_readKnot.desc).map (fun d => d.parameters.length) = some 1 := by decide +kernel
theorem mwn_X7_readKnot : Cond.initialized yX7_readKnot.cls ∈ lw_gd := gd_of 8 (by decide +kernel) rfl
theorem mwi_X7_readKnot : Cond.instanceMethod yX7_readKnot ∈ lw_gd := gd_of 1261 (by decide +kernel) rfl
theorem mwv_X7_readKnot : Cond.selects yX7_readKnot.cls yX7_readKnot yX7_readKnot ∈ lw_gd := gd_sel (q := (yX7_readKnot, 57)) 52 (by decide +kernel)
theorem mwc_X7_readPart : Cond.code yX7_readPart kX7_readPart.1 (kL kX7_readPart) (kR kX7_readPart) ∈ lw_gd := gd_of 1258 (by decide +kernel) rfl
theorem mwd_X7_readPart : yX7_readPart.cls ≠ "java/lang/invoke/MethodHandle" ∧ yX7_readPart.cls ≠ "java/lang/invoke/VarHandle" ∧ (parseMethodDescriptor yX7_readPart.desc).map (fun d => d.parameters.length) = some 0 := by decide +kernel
theorem mwn_X7_readPart : Cond.initialized yX7_readPart.cls ∈ lw_gd := gd_of 8 (by decide +kernel) rfl
theorem mwi_X7_readPart : Cond.instanceMethod yX7_readPart ∈ lw_gd := gd_of 1257 (by decide +kernel) rfl
theorem mwv_X7_readPart : Cond.selects yX7_readPart.cls yX7_readPart yX7_readPart ∈ lw_gd := gd_sel (q := (yX7_readPart, 57)) 51 (by decide +kernel)
theorem mwc_X7_lay : Cond.code yX7_lay kX7_lay.1 (kL kX7_lay) (kR kX7_lay) ∈ lw_gd := gd_of 1054 (by decide +kernel) rfl
theorem mwd_X7_lay : yX7_lay.cls ≠ "java/lang/invoke/MethodHandle" ∧ yX7_lay.cls ≠ "java/lang/invoke/VarHandle" ∧ (parseMethodDescriptor yX7_lay.desc).map (fun d => d.parameters.length) = some 5 := by decide +kernel
theorem mwn_X7_lay : Cond.initialized yX7_lay.cls ∈ lw_gd := gd_of 8 (by decide +kernel) rfl
theorem mwi_X7_lay : Cond.instanceMethod yX7_lay ∈ lw_gd := gd_of 1053 (by decide +kernel) rfl
theorem mwv_X7_lay : Cond.selects yX7_lay.cls yX7_lay yX7_lay ∈ lw_gd := gd_sel (q := (yX7_lay, 57)) 21 (by decide +kernel)
theorem mwc_X7_remember : Cond.code yX7_remember kX7_remember.1 (kL kX7_remember) (kR kX7_remember) ∈ lw_gd := gd_of 1118 (by decide +kernel) rfl
theorem mwd_X7_remember : yX7_remember.cls ≠ "java/lang/invoke/MethodHandle" ∧ yX7_remember.cls ≠ "java/lang/invoke/VarHandle" ∧ (parseMethodDescriptor yX7_remember.desc).map (fun d => d.parameters.length) = some 1 := by decide +kernel
theorem mwn_X7_remember : Cond.initialized yX7_remember.cls ∈ lw_gd := gd_of 8 (by decide +kernel) rfl
theorem mwi_X7_remember : Cond.instanceMethod yX7_remember ∈ lw_gd := gd_of 1117 (by decide +kernel) rfl
theorem mwv_X7_remember : Cond.selects yX7_remember.cls yX7_remember yX7_remember ∈ lw_gd := gd_sel (q := (yX7_remember, 57)) 34 (by decide +kernel)
theorem mwc_X7_line : Cond.code yX7_line kX7_line.1 (kL kX7_line) (kR kX7_line) ∈ lw_gd := gd_of 1106 (by decide +kernel) rfl
theorem mwd_X7_line : yX7_line.cls ≠ "java/lang/invoke/MethodHandle" ∧ yX7_line.cls ≠ "java/lang/invoke/VarHandle" ∧ (parseMethodDescriptor yX7_line.desc).map (fun d => d.parameters.length) = some 5 := by decide +kernel
theorem mwn_X7_line : Cond.initialized yX7_line.cls ∈ lw_gd := gd_of 8 (by decide +kernel) rfl
theorem mwi_X7_line : Cond.instanceMethod yX7_line ∈ lw_gd := gd_of 1105 (by decide +kernel) rfl
theorem mwv_X7_line : Cond.selects yX7_line.cls yX7_line yX7_line ∈ lw_gd := gd_sel (q := (yX7_line, 57)) 31 (by decide +kernel)
theorem mwc_X7_lineBy : Cond.code yX7_lineBy kX7_lineBy.1 (kL kX7_lineBy) (kR kX7_lineBy) ∈ lw_gd := gd_of 1102 (by decide +kernel) rfl
theorem mwd_X7_lineBy : yX7_lineBy.cls ≠ "java/lang/invoke/MethodHandle" ∧ yX7_lineBy.cls ≠ "java/lang/invoke/VarHandle" ∧ (parseMethodDescriptor yX7_lineBy.desc).map (fun d => d.parameters.length) = some 4 := by decide +kernel
theorem mwn_X7_lineBy : Cond.initialized yX7_lineBy.cls ∈ lw_gd := gd_of 8 (by decide +kernel) rfl
theorem mwi_X7_lineBy : Cond.instanceMethod yX7_lineBy ∈ lw_gd := gd_of 1101 (by decide +kernel) rfl
theorem mwv_X7_lineBy : Cond.selects yX7_lineBy.cls yX7_lineBy yX7_lineBy ∈ lw_gd := gd_sel (q := (yX7_lineBy, 57)) 30 (by decide +kernel)
theorem mwc_X7_down : Cond.code yX7_down kX7_down.1 (kL kX7_down) (kR kX7_down) ∈ lw_gd := gd_of 1132 (by decide +kernel) rfl
theorem mwd_X7_down : yX7_down.cls ≠ "java/lang/invoke/MethodHandle" ∧ yX7_down.cls ≠ "java/lang/invoke/VarHandle" ∧ (parseMethodDescriptor yX7_down.desc).map (fun d => d.parameters.length) = some 2 := by decide +kernel
theorem mwn_X7_down : Cond.initialized yX7_down.cls ∈ lw_gd := gd_of 8 (by decide +kernel) rfl
theorem mws_X7_down : Cond.static yX7_down ∈ lw_gd := gd_of 1131 (by decide +kernel) rfl
theorem mwc_X7_lie : Cond.code yX7_lie kX7_lie.1 (kL kX7_lie) (kR kX7_lie) ∈ lw_gd := gd_of 1129 (by decide +kernel) rfl
theorem mwd_X7_lie : yX7_lie.cls ≠ "java/lang/invoke/MethodHandle" ∧ yX7_lie.cls ≠ "java/lang/invoke/VarHandle" ∧ (parseMethodDescriptor yX7_lie.desc).map (fun d => d.parameters.length) = some 4 := by decide +kernel
theorem mwn_X7_lie : Cond.initialized yX7_lie.cls ∈ lw_gd := gd_of 8 (by decide +kernel) rfl
theorem mws_X7_lie : Cond.static yX7_lie ∈ lw_gd := gd_of 1128 (by decide +kernel) rfl
theorem mwc_X7_addNew : Cond.code yX7_addNew kX7_addNew.1 (kL kX7_addNew) (kR kX7_addNew) ∈ lw_gd := gd_of 1136 (by decide +kernel) rfl
theorem mwd_X7_addNew : yX7_addNew.cls ≠ "java/lang/invoke/MethodHandle" ∧ yX7_addNew.cls ≠ "java/lang/invoke/VarHandle" ∧ (parseMethodDescriptor yX7_addNew.desc).map (fun d => d.parameters.length) = some 5 := by decide +kernel
theorem mwn_X7_addNew : Cond.initialized yX7_addNew.cls ∈ lw_gd := gd_of 8 (by decide +kernel) rfl
theorem mwi_X7_addNew : Cond.instanceMethod yX7_addNew ∈ lw_gd := gd_of 1135 (by decide +kernel) rfl
theorem mwv_X7_addNew : Cond.selects yX7_addNew.cls yX7_addNew yX7_addNew ∈ lw_gd := gd_sel (q := (yX7_addNew, 57)) 37 (by decide +kernel)
theorem mwc_X7_lieAt : Cond.code yX7_lieAt kX7_lieAt.1 (kL kX7_lieAt) (kR kX7_lieAt) ∈ lw_gd := gd_of 1144 (by decide +kernel) rfl
theorem mwd_X7_lieAt : yX7_lieAt.cls ≠ "java/lang/invoke/MethodHandle" ∧ yX7_lieAt.cls ≠ "java/lang/invoke/VarHandle" ∧ (parseMethodDescriptor yX7_lieAt.desc).map (fun d => d.parameters.length) = some 4 := by decide +kernel
theorem mwn_X7_lieAt : Cond.initialized yX7_lieAt.cls ∈ lw_gd := gd_of 8 (by decide +kernel) rfl
theorem mwi_X7_lieAt : Cond.instanceMethod yX7_lieAt ∈ lw_gd := gd_of 1143 (by decide +kernel) rfl
theorem mwv_X7_lieAt : Cond.selects yX7_lieAt.cls yX7_lieAt yX7_lieAt ∈ lw_gd := gd_sel (q := (yX7_lieAt, 57)) 39 (by decide +kernel)
theorem mwc_X7_common : Cond.code yX7_common kX7_common.1 (kL kX7_common) (kR kX7_common) ∈ lw_gd := gd_of 1147 (by decide +kernel) rfl
theorem mwd_X7_common : yX7_common.cls ≠ "java/lang/invoke/MethodHandle" ∧ yX7_common.cls ≠ "java/lang/invoke/VarHandle" ∧ (parseMethodDescriptor yX7_common.desc).map (fun d => d.parameters.length) = some 2 := by decide +kernel
theorem mwn_X7_common : Cond.initialized yX7_common.cls ∈ lw_gd := gd_of 8 (by decide +kernel) rfl
theorem mws_X7_common : Cond.static yX7_common ∈ lw_gd := gd_of 1146 (by decide +kernel) rfl
theorem mwc_X7_meet : Cond.code yX7_meet kX7_meet.1 (kL kX7_meet) (kR kX7_meet) ∈ lw_gd := gd_of 1140 (by decide +kernel) rfl
theorem mwd_X7_meet : yX7_meet.cls ≠ "java/lang/invoke/MethodHandle" ∧ yX7_meet.cls ≠ "java/lang/invoke/VarHandle" ∧ (parseMethodDescriptor yX7_meet.desc).map (fun d => d.parameters.length) = some 6 := by decide +kernel
theorem mwn_X7_meet : Cond.initialized yX7_meet.cls ∈ lw_gd := gd_of 8 (by decide +kernel) rfl
theorem mwi_X7_meet : Cond.instanceMethod yX7_meet ∈ lw_gd := gd_of 1139 (by decide +kernel) rfl
theorem mwv_X7_meet : Cond.selects yX7_meet.cls yX7_meet yX7_meet ∈ lw_gd := gd_sel (q := (yX7_meet, 57)) 38 (by decide +kernel)
theorem mwc_X7_under : Cond.code yX7_under kX7_under.1 (kL kX7_under) (kR kX7_under) ∈ lw_gd := gd_of 1126 (by decide +kernel) rfl
theorem mwd_X7_under : yX7_under.cls ≠ "java/lang/invoke/MethodHandle" ∧ yX7_under.cls ≠ "java/lang/invoke/VarHandle" ∧ (parseMethodDescriptor yX7_under.desc).map (fun d => d.parameters.length) = some 1 := by decide +kernel
theorem mwn_X7_under : Cond.initialized yX7_under.cls ∈ lw_gd := gd_of 8 (by decide +kernel) rfl
theorem mwi_X7_under : Cond.instanceMethod yX7_under ∈ lw_gd := gd_of 1125 (by decide +kernel) rfl
theorem mwv_X7_under : Cond.selects yX7_under.cls yX7_under yX7_under ∈ lw_gd := gd_sel (q := (yX7_under, 57)) 36 (by decide +kernel)
theorem mwc_X7_addBreak : Cond.code yX7_addBreak kX7_addBreak.1 (kL kX7_addBreak) (kR kX7_addBreak) ∈ lw_gd := gd_of 1156 (by decide +kernel) rfl
theorem mwd_X7_addBreak : yX7_addBreak.cls ≠ "java/lang/invoke/MethodHandle" ∧ yX7_addBreak.cls ≠ "java/lang/invoke/VarHandle" ∧ (parseMethodDescriptor yX7_addBreak.desc).map (fun d => d.parameters.length) = some 2 := by decide +kernel
theorem mwn_X7_addBreak : Cond.initialized yX7_addBreak.cls ∈ lw_gd := gd_of 8 (by decide +kernel) rfl
theorem mwi_X7_addBreak : Cond.instanceMethod yX7_addBreak ∈ lw_gd := gd_of 1155 (by decide +kernel) rfl
theorem mwv_X7_addBreak : Cond.selects yX7_addBreak.cls yX7_addBreak yX7_addBreak ∈ lw_gd := gd_sel (q := (yX7_addBreak, 57)) 41 (by decide +kernel)
theorem mwc_X7_layBreaks : Cond.code yX7_layBreaks kX7_layBreaks.1 (kL kX7_layBreaks) (kR kX7_layBreaks) ∈ lw_gd := gd_of 1152 (by decide +kernel) rfl
theorem mwd_X7_layBreaks : yX7_layBreaks.cls ≠ "java/lang/invoke/MethodHandle" ∧ yX7_layBreaks.cls ≠ "java/lang/invoke/VarHandle" ∧ (parseMethodDescriptor yX7_layBreaks.desc).map (fun d => d.parameters.length) = some 0 := by decide +kernel
theorem mwn_X7_layBreaks : Cond.initialized yX7_layBreaks.cls ∈ lw_gd := gd_of 8 (by decide +kernel) rfl
theorem mwi_X7_layBreaks : Cond.instanceMethod yX7_layBreaks ∈ lw_gd := gd_of 1151 (by decide +kernel) rfl
theorem mwv_X7_layBreaks : Cond.selects yX7_layBreaks.cls yX7_layBreaks yX7_layBreaks ∈ lw_gd := gd_sel (q := (yX7_layBreaks, 57)) 40 (by decide +kernel)
theorem mwc_X7_leastAt : Cond.code yX7_leastAt kX7_leastAt.1 (kL kX7_leastAt) (kR kX7_leastAt) ∈ lw_gd := gd_of 1164 (by decide +kernel) rfl
theorem mwd_X7_leastAt : yX7_leastAt.cls ≠ "java/lang/invoke/MethodHandle" ∧ yX7_leastAt.cls ≠ "java/lang/invoke/VarHandle" ∧ (parseMethodDescriptor yX7_leastAt.desc).map (fun d => d.parameters.length) = some 2 := by decide +kernel
theorem mwn_X7_leastAt : Cond.initialized yX7_leastAt.cls ∈ lw_gd := gd_of 8 (by decide +kernel) rfl
theorem mwi_X7_leastAt : Cond.instanceMethod yX7_leastAt ∈ lw_gd := gd_of 1163 (by decide +kernel) rfl
theorem mwv_X7_leastAt : Cond.selects yX7_leastAt.cls yX7_leastAt yX7_leastAt ∈ lw_gd := gd_sel (q := (yX7_leastAt, 57)) 43 (by decide +kernel)
theorem mwc_X7_knot : Cond.code yX7_knot kX7_knot.1 (kL kX7_knot) (kR kX7_knot) ∈ lw_gd := gd_of 1168 (by decide +kernel) rfl
theorem mwd_X7_knot : yX7_knot.cls ≠ "java/lang/invoke/MethodHandle" ∧ yX7_knot.cls ≠ "java/lang/invoke/VarHandle" ∧ (parseMethodDescriptor yX7_knot.desc).map (fun d => d.parameters.length) = some 4 := by decide +kernel
theorem mwn_X7_knot : Cond.initialized yX7_knot.cls ∈ lw_gd := gd_of 8 (by decide +kernel) rfl
theorem mwi_X7_knot : Cond.instanceMethod yX7_knot ∈ lw_gd := gd_of 1167 (by decide +kernel) rfl
theorem mwv_X7_knot : Cond.selects yX7_knot.cls yX7_knot yX7_knot ∈ lw_gd := gd_sel (q := (yX7_knot, 57)) 44 (by decide +kernel)
theorem mwc_X7_end : Cond.code yX7_end kX7_end.1 (kL kX7_end) (kR kX7_end) ∈ lw_gd := gd_of 1160 (by decide +kernel) rfl
theorem mwd_X7_end : yX7_end.cls ≠ "java/lang/invoke/MethodHandle" ∧ yX7_end.cls ≠ "java/lang/invoke/VarHandle" ∧ (parseMethodDescriptor yX7_end.desc).map (fun d => d.parameters.length) = some 2 := by decide +kernel
theorem mwn_X7_end : Cond.initialized yX7_end.cls ∈ lw_gd := gd_of 8 (by decide +kernel) rfl
theorem mwi_X7_end : Cond.instanceMethod yX7_end ∈ lw_gd := gd_of 1159 (by decide +kernel) rfl
theorem mwv_X7_end : Cond.selects yX7_end.cls yX7_end yX7_end ∈ lw_gd := gd_sel (q := (yX7_end, 57)) 42 (by decide +kernel)
theorem mwc_X7_layPaper : Cond.code yX7_layPaper kX7_layPaper.1 (kL kX7_layPaper) (kR kX7_layPaper) ∈ lw_gd := gd_of 1122 (by decide +kernel) rfl
theorem mwd_X7_layPaper : yX7_layPaper.cls ≠ "java/lang/invoke/MethodHandle" ∧ yX7_layPaper.cls ≠ "java/lang/invoke/VarHandle" ∧ (parseMethodDescriptor yX7_layPaper.desc).map (fun d => d.parameters.length) = some 0 := by decide +kernel
theorem mwn_X7_layPaper : Cond.initialized yX7_layPaper.cls ∈ lw_gd := gd_of 8 (by decide +kernel) rfl
theorem mwi_X7_layPaper : Cond.instanceMethod yX7_layPaper ∈ lw_gd := gd_of 1121 (by decide +kernel) rfl
theorem mwv_X7_layPaper : Cond.selects yX7_layPaper.cls yX7_layPaper yX7_layPaper ∈ lw_gd := gd_sel (q := (yX7_layPaper, 57)) 35 (by decide +kernel)
theorem mwc_X7_store : Cond.code yX7_store kX7_store.1 (kL kX7_store) (kR kX7_store) ∈ lw_gd := gd_of 1230 (by decide +kernel) rfl
theorem mwd_X7_store : yX7_store.cls ≠ "java/lang/invoke/MethodHandle" ∧ yX7_store.cls ≠ "java/lang/invoke/VarHandle" ∧ (parseMethodDescriptor yX7_store.desc).map (fun d => d.parameters.length) = some 1 := by decide +kernel
theorem mwn_X7_store : Cond.initialized yX7_store.cls ∈ lw_gd := gd_of 8 (by decide +kernel) rfl
theorem mwi_X7_store : Cond.instanceMethod yX7_store ∈ lw_gd := gd_of 1229 (by decide +kernel) rfl
theorem mwv_X7_store : Cond.selects yX7_store.cls yX7_store yX7_store ∈ lw_gd := gd_sel (q := (yX7_store, 57)) 49 (by decide +kernel)
theorem mwc_X7_bringPaper : Cond.code yX7_bringPaper kX7_bringPaper.1 (kL kX7_bringPaper) (kR kX7_bringPaper) ∈ lw_gd := gd_of 1288 (by decide +kernel) rfl
theorem mwd_X7_bringPaper : yX7_bringPaper.cls ≠ "java/lang/invoke/MethodHandle" ∧ yX7_bringPaper.cls ≠ "java/lang/invoke/VarHandle" ∧ (parseMethodDescriptor yX7_bringPaper.desc).map (fun d => d.parameters.length) = some 1 := by decide +kernel
theorem mwn_X7_bringPaper : Cond.initialized yX7_bringPaper.cls ∈ lw_gd := gd_of 8 (by decide +kernel) rfl
theorem mwi_X7_bringPaper : Cond.instanceMethod yX7_bringPaper ∈ lw_gd := gd_of 1287 (by decide +kernel) rfl
theorem mwv_X7_bringPaper : Cond.selects yX7_bringPaper.cls yX7_bringPaper yX7_bringPaper ∈ lw_gd := gd_sel (q := (yX7_bringPaper, 57)) 57 (by decide +kernel)
theorem mwc_X7_tell : Cond.code yX7_tell kX7_tell.1 (kL kX7_tell) (kR kX7_tell) ∈ lw_gd := gd_of 1043 (by decide +kernel) rfl
theorem mwd_X7_tell : yX7_tell.cls ≠ "java/lang/invoke/MethodHandle" ∧ yX7_tell.cls ≠ "java/lang/invoke/VarHandle" ∧ (parseMethodDescriptor yX7_tell.desc).map (fun d => d.parameters.length) = some 1 := by decide +kernel
theorem mwn_X7_tell : Cond.initialized yX7_tell.cls ∈ lw_gd := gd_of 8 (by decide +kernel) rfl
theorem mwi_X7_tell : Cond.instanceMethod yX7_tell ∈ lw_gd := gd_of 1042 (by decide +kernel) rfl
theorem mwv_X7_tell : Cond.selects yX7_tell.cls yX7_tell yX7_tell ∈ lw_gd := gd_sel (q := (yX7_tell, 57)) 20 (by decide +kernel)
theorem mwc_X7_read : Cond.code yX7_read kX7_read.1 (kL kX7_read) (kR kX7_read) ∈ lw_gd := gd_of 1254 (by decide +kernel) rfl
theorem mwd_X7_read : yX7_read.cls ≠ "java/lang/invoke/MethodHandle" ∧ yX7_read.cls ≠ "java/lang/invoke/VarHandle" ∧ (parseMethodDescriptor yX7_read.desc).map (fun d => d.parameters.length) = some 1 := by decide +kernel
theorem mwn_X7_read : Cond.initialized yX7_read.cls ∈ lw_gd := gd_of 8 (by decide +kernel) rfl
theorem mwi_X7_read : Cond.instanceMethod yX7_read ∈ lw_gd := gd_of 1252 (by decide +kernel) rfl
theorem mwv_X7_read : Cond.selects yX7_read.cls yX7_read yX7_read ∈ lw_gd := gd_of 1253 (by decide +kernel) rfl
theorem mwc_X6_fault : Cond.code yX6_fault kX6_fault.1 (kL kX6_fault) (kR kX6_fault) ∈ lw_gd := gd_of 457 (by decide +kernel) rfl
theorem mwd_X6_fault : yX6_fault.cls ≠ "java/lang/invoke/MethodHandle" ∧ yX6_fault.cls ≠ "java/lang/invoke/VarHandle" ∧ (parseMethodDescriptor yX6_fault.desc).map (fun d => d.parameters.length) = some 0 := by decide +kernel
theorem mwn_X6_fault : Cond.initialized yX6_fault.cls ∈ lw_gd := gd_of 1 (by decide +kernel) rfl
theorem mwi_X6_fault : Cond.instanceMethod yX6_fault ∈ lw_gd := gd_of 455 (by decide +kernel) rfl
theorem mwv_X6_fault : Cond.selects yX6_fault.cls yX6_fault yX6_fault ∈ lw_gd := gd_of 456 (by decide +kernel) rfl
theorem mwc_X7_fault : Cond.code yX7_fault kX7_fault.1 (kL kX7_fault) (kR kX7_fault) ∈ lw_gd := gd_of 1292 (by decide +kernel) rfl
theorem mwd_X7_fault : yX7_fault.cls ≠ "java/lang/invoke/MethodHandle" ∧ yX7_fault.cls ≠ "java/lang/invoke/VarHandle" ∧ (parseMethodDescriptor yX7_fault.desc).map (fun d => d.parameters.length) = some 0 := by decide +kernel
theorem mwn_X7_fault : Cond.initialized yX7_fault.cls ∈ lw_gd := gd_of 8 (by decide +kernel) rfl
theorem mwi_X7_fault : Cond.instanceMethod yX7_fault ∈ lw_gd := gd_of 1290 (by decide +kernel) rfl
theorem mwv_X7_fault : Cond.selects yX7_fault.cls yX7_fault yX7_fault ∈ lw_gd := gd_of 1291 (by decide +kernel) rfl
theorem mwc_X6_isPlace : Cond.code yX6_isPlace kX6_isPlace.1 (kL kX6_isPlace) (kR kX6_isPlace) ∈ lw_gd := gd_of 464 (by decide +kernel) rfl
theorem mwd_X6_isPlace : yX6_isPlace.cls ≠ "java/lang/invoke/MethodHandle" ∧ yX6_isPlace.cls ≠ "java/lang/invoke/VarHandle" ∧ (parseMethodDescriptor yX6_isPlace.desc).map (fun d => d.parameters.length) = some 1 := by decide +kernel
theorem mwn_X6_isPlace : Cond.initialized yX6_isPlace.cls ∈ lw_gd := gd_of 1 (by decide +kernel) rfl
theorem mws_X6_isPlace : Cond.static yX6_isPlace ∈ lw_gd := gd_of 463 (by decide +kernel) rfl
theorem mwc_X6_dot : Cond.code yX6_dot kX6_dot.1 (kL kX6_dot) (kR kX6_dot) ∈ lw_gd := gd_of 461 (by decide +kernel) rfl
theorem mwd_X6_dot : yX6_dot.cls ≠ "java/lang/invoke/MethodHandle" ∧ yX6_dot.cls ≠ "java/lang/invoke/VarHandle" ∧ (parseMethodDescriptor yX6_dot.desc).map (fun d => d.parameters.length) = some 3 := by decide +kernel
theorem mwn_X6_dot : Cond.initialized yX6_dot.cls ∈ lw_gd := gd_of 1 (by decide +kernel) rfl
theorem mwi_X6_dot : Cond.instanceMethod yX6_dot ∈ lw_gd := gd_of 459 (by decide +kernel) rfl
theorem mwv_X6_dot : Cond.selects yX6_dot.cls yX6_dot yX6_dot ∈ lw_gd := gd_of 460 (by decide +kernel) rfl
theorem mwc_X7_isPlace : Cond.code yX7_isPlace kX7_isPlace.1 (kL kX7_isPlace) (kR kX7_isPlace) ∈ lw_gd := gd_of 1203 (by decide +kernel) rfl
theorem mwd_X7_isPlace : yX7_isPlace.cls ≠ "java/lang/invoke/MethodHandle" ∧ yX7_isPlace.cls ≠ "java/lang/invoke/VarHandle" ∧ (parseMethodDescriptor yX7_isPlace.desc).map (fun d => d.parameters.length) = some 1 := by decide +kernel
theorem mwn_X7_isPlace : Cond.initialized yX7_isPlace.cls ∈ lw_gd := gd_of 8 (by decide +kernel) rfl
theorem mws_X7_isPlace : Cond.static yX7_isPlace ∈ lw_gd := gd_of 1202 (by decide +kernel) rfl
theorem mwc_X7_dot : Cond.code yX7_dot kX7_dot.1 (kL kX7_dot) (kR kX7_dot) ∈ lw_gd := gd_of 1234 (by decide +kernel) rfl
theorem mwd_X7_dot : yX7_dot.cls ≠ "java/lang/invoke/MethodHandle" ∧ yX7_dot.cls ≠ "java/lang/invoke/VarHandle" ∧ (parseMethodDescriptor yX7_dot.desc).map (fun d => d.parameters.length) = some 3 := by decide +kernel
theorem mwn_X7_dot : Cond.initialized yX7_dot.cls ∈ lw_gd := gd_of 8 (by decide +kernel) rfl
theorem mwi_X7_dot : Cond.instanceMethod yX7_dot ∈ lw_gd := gd_of 1232 (by decide +kernel) rfl
theorem mwv_X7_dot : Cond.selects yX7_dot.cls yX7_dot yX7_dot ∈ lw_gd := gd_of 1233 (by decide +kernel) rfl
theorem mwc_X6_clear : Cond.code yX6_clear kX6_clear.1 (kL kX6_clear) (kR kX6_clear) ∈ lw_gd := gd_of 472 (by decide +kernel) rfl
theorem mwd_X6_clear : yX6_clear.cls ≠ "java/lang/invoke/MethodHandle" ∧ yX6_clear.cls ≠ "java/lang/invoke/VarHandle" ∧ (parseMethodDescriptor yX6_clear.desc).map (fun d => d.parameters.length) = some 1 := by decide +kernel
theorem mwn_X6_clear : Cond.initialized yX6_clear.cls ∈ lw_gd := gd_of 1 (by decide +kernel) rfl
theorem mwi_X6_clear : Cond.instanceMethod yX6_clear ∈ lw_gd := gd_of 470 (by decide +kernel) rfl
theorem mwv_X6_clear : Cond.selects yX6_clear.cls yX6_clear yX6_clear ∈ lw_gd := gd_of 471 (by decide +kernel) rfl
theorem mwc_X7_many : Cond.code yX7_many kX7_many.1 (kL kX7_many) (kR kX7_many) ∈ lw_gd := gd_of 1082 (by decide +kernel) rfl
theorem mwd_X7_many : yX7_many.cls ≠ "java/lang/invoke/MethodHandle" ∧ yX7_many.cls ≠ "java/lang/invoke/VarHandle" ∧ (parseMethodDescriptor yX7_many.desc).map (fun d => d.parameters.length) = some 1 := by decide +kernel
theorem mwn_X7_many : Cond.initialized yX7_many.cls ∈ lw_gd := gd_of 8 (by decide +kernel) rfl
theorem mwi_X7_many : Cond.instanceMethod yX7_many ∈ lw_gd := gd_of 1081 (by decide +kernel) rfl
theorem mwv_X7_many : Cond.selects yX7_many.cls yX7_many yX7_many ∈ lw_gd := gd_sel (q := (yX7_many, 57)) 25 (by decide +kernel)
theorem mwc_X7_clear : Cond.code yX7_clear kX7_clear.1 (kL kX7_clear) (kR kX7_clear) ∈ lw_gd := gd_of 1238 (by decide +kernel) rfl
theorem mwd_X7_clear : yX7_clear.cls ≠ "java/lang/invoke/MethodHandle" ∧ yX7_clear.cls ≠ "java/lang/invoke/VarHandle" ∧ (parseMethodDescriptor yX7_clear.desc).map (fun d => d.parameters.length) = some 1 := by decide +kernel
theorem mwn_X7_clear : Cond.initialized yX7_clear.cls ∈ lw_gd := gd_of 8 (by decide +kernel) rfl
theorem mwi_X7_clear : Cond.instanceMethod yX7_clear ∈ lw_gd := gd_of 1236 (by decide +kernel) rfl
theorem mwv_X7_clear : Cond.selects yX7_clear.cls yX7_clear yX7_clear ∈ lw_gd := gd_of 1237 (by decide +kernel) rfl
theorem mwc_X4_hasLine : Cond.code yX4_hasLine kX4_hasLine.1 (kL kX4_hasLine) (kR kX4_hasLine) ∈ lw_gd := gd_of 510 (by decide +kernel) rfl
theorem mwd_X4_hasLine : yX4_hasLine.cls ≠ "java/lang/invoke/MethodHandle" ∧ yX4_hasLine.cls ≠ "java/lang/invoke/VarHandle" ∧ (parseMethodDescriptor yX4_hasLine.desc).map (fun d => d.parameters.length) = some 1 := by decide +kernel
theorem mwn_X4_hasLine : Cond.initialized yX4_hasLine.cls ∈ lw_gd := gd_of 2 (by decide +kernel) rfl
theorem mwi_X4_hasLine : Cond.instanceMethod yX4_hasLine ∈ lw_gd := gd_of 508 (by decide +kernel) rfl
theorem mwv_X4_hasLine : Cond.selects yX4_hasLine.cls yX4_hasLine yX4_hasLine ∈ lw_gd := gd_of 509 (by decide +kernel) rfl
theorem mwc_X4_beginsPiece : Cond.code yX4_beginsPiece kX4_beginsPiece.1 (kL kX4_beginsPiece) (kR kX4_beginsPiece) ∈ lw_gd := gd_of 506 (by decide +kernel) rfl
theorem mwd_X4_beginsPiece : yX4_beginsPiece.cls ≠ "java/lang/invoke/MethodHandle" ∧ yX4_beginsPiece.cls ≠ "java/lang/invoke/VarHandle" ∧ (parseMethodDescriptor yX4_beginsPiece.desc).map (fun d => d.parameters.length) = some 1 := by decide +kernel
theorem mwn_X4_beginsPiece : Cond.initialized yX4_beginsPiece.cls ∈ lw_gd := gd_of 2 (by decide +kernel) rfl
theorem mwi_X4_beginsPiece : Cond.instanceMethod yX4_beginsPiece ∈ lw_gd := gd_of 504 (by decide +kernel) rfl
theorem mwv_X4_beginsPiece : Cond.selects yX4_beginsPiece.cls yX4_beginsPiece yX4_beginsPiece ∈ lw_gd := gd_of 505 (by decide +kernel) rfl
theorem mwc_X4_runOf : Cond.code yX4_runOf kX4_runOf.1 (kL kX4_runOf) (kR kX4_runOf) ∈ lw_gd := gd_of 514 (by decide +kernel) rfl
theorem mwd_X4_runOf : yX4_runOf.cls ≠ "java/lang/invoke/MethodHandle" ∧ yX4_runOf.cls ≠ "java/lang/invoke/VarHandle" ∧ (parseMethodDescriptor yX4_runOf.desc).map (fun d => d.parameters.length) = some 1 := by decide +kernel
theorem mwn_X4_runOf : Cond.initialized yX4_runOf.cls ∈ lw_gd := gd_of 2 (by decide +kernel) rfl
theorem mwi_X4_runOf : Cond.instanceMethod yX4_runOf ∈ lw_gd := gd_of 512 (by decide +kernel) rfl
theorem mwv_X4_runOf : Cond.selects yX4_runOf.cls yX4_runOf yX4_runOf ∈ lw_gd := gd_of 513 (by decide +kernel) rfl
theorem mwc_X4_riseOf : Cond.code yX4_riseOf kX4_riseOf.1 (kL kX4_riseOf) (kR kX4_riseOf) ∈ lw_gd := gd_of 518 (by decide +kernel) rfl
theorem mwd_X4_riseOf : yX4_riseOf.cls ≠ "java/lang/invoke/MethodHandle" ∧ yX4_riseOf.cls ≠ "java/lang/invoke/VarHandle" ∧ (parseMethodDescriptor yX4_riseOf.desc).map (fun d => d.parameters.length) = some 1 := by decide +kernel
theorem mwn_X4_riseOf : Cond.initialized yX4_riseOf.cls ∈ lw_gd := gd_of 2 (by decide +kernel) rfl
theorem mwi_X4_riseOf : Cond.instanceMethod yX4_riseOf ∈ lw_gd := gd_of 516 (by decide +kernel) rfl
theorem mwv_X4_riseOf : Cond.selects yX4_riseOf.cls yX4_riseOf yX4_riseOf ∈ lw_gd := gd_of 517 (by decide +kernel) rfl
theorem mwc_X1_addShape : Cond.code yX1_addShape kX1_addShape.1 (kL kX1_addShape) (kR kX1_addShape) ∈ lw_gd := gd_of 502 (by decide +kernel) rfl
theorem mwd_X1_addShape : yX1_addShape.cls ≠ "java/lang/invoke/MethodHandle" ∧ yX1_addShape.cls ≠ "java/lang/invoke/VarHandle" ∧ (parseMethodDescriptor yX1_addShape.desc).map (fun d => d.parameters.length) = some 1 := by decide +kernel
theorem mwn_X1_addShape : Cond.initialized yX1_addShape.cls ∈ lw_gd := gd_of 5 (by decide +kernel) rfl
theorem mwi_X1_addShape : Cond.instanceMethod yX1_addShape ∈ lw_gd := gd_of 500 (by decide +kernel) rfl
theorem mwv_X1_addShape : Cond.selects yX1_addShape.cls yX1_addShape yX1_addShape ∈ lw_gd := gd_of 501 (by decide +kernel) rfl
theorem mwc_X6_loadOne : Cond.code yX6_loadOne kX6_loadOne.1 (kL kX6_loadOne) (kR kX6_loadOne) ∈ lw_gd := gd_of 498 (by decide +kernel) rfl
theorem mwd_X6_loadOne : yX6_loadOne.cls ≠ "java/lang/invoke/MethodHandle" ∧ yX6_loadOne.cls ≠ "java/lang/invoke/VarHandle" ∧ (parseMethodDescriptor yX6_loadOne.desc).map (fun d => d.parameters.length) = some 1 := by decide +kernel
theorem mwn_X6_loadOne : Cond.initialized yX6_loadOne.cls ∈ lw_gd := gd_of 1 (by decide +kernel) rfl
theorem mwi_X6_loadOne : Cond.instanceMethod yX6_loadOne ∈ lw_gd := gd_of 497 (by decide +kernel) rfl
theorem mwv_X6_loadOne : Cond.selects yX6_loadOne.cls yX6_loadOne yX6_loadOne ∈ lw_gd := gd_sel (q := (yX6_loadOne, 16)) 11 (by decide +kernel)
theorem mwc_X6_loadPair : Cond.code yX6_loadPair kX6_loadPair.1 (kL kX6_loadPair) (kR kX6_loadPair) ∈ lw_gd := gd_of 494 (by decide +kernel) rfl
theorem mwd_X6_loadPair : yX6_loadPair.cls ≠ "java/lang/invoke/MethodHandle" ∧ yX6_loadPair.cls ≠ "java/lang/invoke/VarHandle" ∧ (parseMethodDescriptor yX6_loadPair.desc).map (fun d => d.parameters.length) = some 2 := by decide +kernel
theorem mwn_X6_loadPair : Cond.initialized yX6_loadPair.cls ∈ lw_gd := gd_of 1 (by decide +kernel) rfl
theorem mwi_X6_loadPair : Cond.instanceMethod yX6_loadPair ∈ lw_gd := gd_of 493 (by decide +kernel) rfl
theorem mwv_X6_loadPair : Cond.selects yX6_loadPair.cls yX6_loadPair yX6_loadPair ∈ lw_gd := gd_sel (q := (yX6_loadPair, 16)) 10 (by decide +kernel)
theorem mwc_X1_addSum : Cond.code yX1_addSum kX1_addSum.1 (kL kX1_addSum) (kR kX1_addSum) ∈ lw_gd := gd_of 523 (by decide +kernel) rfl
theorem mwd_X1_addSum : yX1_addSum.cls ≠ "java/lang/invoke/MethodHandle" ∧ yX1_addSum.cls ≠ "java/lang/invoke/VarHandle" ∧ (parseMethodDescriptor yX1_addSum.desc).map (fun d => d.parameters.length) = some 4 := by decide +kernel
theorem mwn_X1_addSum : Cond.initialized yX1_addSum.cls ∈ lw_gd := gd_of 5 (by decide +kernel) rfl
theorem mwi_X1_addSum : Cond.instanceMethod yX1_addSum ∈ lw_gd := gd_of 521 (by decide +kernel) rfl
theorem mwv_X1_addSum : Cond.selects yX1_addSum.cls yX1_addSum yX1_addSum ∈ lw_gd := gd_of 522 (by decide +kernel) rfl
theorem mwc_X6_ontoPaper : Cond.code yX6_ontoPaper kX6_ontoPaper.1 (kL kX6_ontoPaper) (kR kX6_ontoPaper) ∈ lw_gd := gd_of 528 (by decide +kernel) rfl
theorem mwd_X6_ontoPaper : yX6_ontoPaper.cls ≠ "java/lang/invoke/MethodHandle" ∧ yX6_ontoPaper.cls ≠ "java/lang/invoke/VarHandle" ∧ (parseMethodDescriptor yX6_ontoPaper.desc).map (fun d => d.parameters.length) = some 1 := by decide +kernel
theorem mwn_X6_ontoPaper : Cond.initialized yX6_ontoPaper.cls ∈ lw_gd := gd_of 1 (by decide +kernel) rfl
theorem mwi_X6_ontoPaper : Cond.instanceMethod yX6_ontoPaper ∈ lw_gd := gd_of 527 (by decide +kernel) rfl
theorem mwv_X6_ontoPaper : Cond.selects yX6_ontoPaper.cls yX6_ontoPaper yX6_ontoPaper ∈ lw_gd := gd_sel (q := (yX6_ontoPaper, 16)) 12 (by decide +kernel)
theorem mwc_X6_sum : Cond.code yX6_sum kX6_sum.1 (kL kX6_sum) (kR kX6_sum) ∈ lw_gd := gd_of 490 (by decide +kernel) rfl
theorem mwd_X6_sum : yX6_sum.cls ≠ "java/lang/invoke/MethodHandle" ∧ yX6_sum.cls ≠ "java/lang/invoke/VarHandle" ∧ (parseMethodDescriptor yX6_sum.desc).map (fun d => d.parameters.length) = some 2 := by decide +kernel
theorem mwn_X6_sum : Cond.initialized yX6_sum.cls ∈ lw_gd := gd_of 1 (by decide +kernel) rfl
theorem mwi_X6_sum : Cond.instanceMethod yX6_sum ∈ lw_gd := gd_of 488 (by decide +kernel) rfl
theorem mwv_X6_sum : Cond.selects yX6_sum.cls yX6_sum yX6_sum ∈ lw_gd := gd_of 489 (by decide +kernel) rfl
theorem mwc_X7_goes : Cond.code yX7_goes kX7_goes.1 (kL kX7_goes) (kR kX7_goes) ∈ lw_gd := gd_of 1090 (by decide +kernel) rfl
theorem mwd_X7_goes : yX7_goes.cls ≠ "java/lang/invoke/MethodHandle" ∧ yX7_goes.cls ≠ "java/lang/invoke/VarHandle" ∧ (parseMethodDescriptor yX7_goes.desc).map (fun d => d.parameters.length) = some 2 := by decide +kernel
theorem mwn_X7_goes : Cond.initialized yX7_goes.cls ∈ lw_gd := gd_of 8 (by decide +kernel) rfl
theorem mwi_X7_goes : Cond.instanceMethod yX7_goes ∈ lw_gd := gd_of 1089 (by decide +kernel) rfl
theorem mwv_X7_goes : Cond.selects yX7_goes.cls yX7_goes yX7_goes ∈ lw_gd := gd_sel (q := (yX7_goes, 57)) 27 (by decide +kernel)
theorem mwc_X7_isLone : Cond.code yX7_isLone kX7_isLone.1 (kL kX7_isLone) (kR kX7_isLone) ∈ lw_gd := gd_of 1086 (by decide +kernel) rfl
theorem mwd_X7_isLone : yX7_isLone.cls ≠ "java/lang/invoke/MethodHandle" ∧ yX7_isLone.cls ≠ "java/lang/invoke/VarHandle" ∧ (parseMethodDescriptor yX7_isLone.desc).map (fun d => d.parameters.length) = some 2 := by decide +kernel
theorem mwn_X7_isLone : Cond.initialized yX7_isLone.cls ∈ lw_gd := gd_of 8 (by decide +kernel) rfl
theorem mwi_X7_isLone : Cond.instanceMethod yX7_isLone ∈ lw_gd := gd_of 1085 (by decide +kernel) rfl
theorem mwv_X7_isLone : Cond.selects yX7_isLone.cls yX7_isLone yX7_isLone ∈ lw_gd := gd_sel (q := (yX7_isLone, 57)) 26 (by decide +kernel)
theorem mwc_X7_xOf : Cond.code yX7_xOf kX7_xOf.1 (kL kX7_xOf) (kR kX7_xOf) ∈ lw_gd := gd_of 1094 (by decide +kernel) rfl
theorem mwd_X7_xOf : yX7_xOf.cls ≠ "java/lang/invoke/MethodHandle" ∧ yX7_xOf.cls ≠ "java/lang/invoke/VarHandle" ∧ (parseMethodDescriptor yX7_xOf.desc).map (fun d => d.parameters.length) = some 2 := by decide +kernel
theorem mwn_X7_xOf : Cond.initialized yX7_xOf.cls ∈ lw_gd := gd_of 8 (by decide +kernel) rfl
theorem mwi_X7_xOf : Cond.instanceMethod yX7_xOf ∈ lw_gd := gd_of 1093 (by decide +kernel) rfl
theorem mwv_X7_xOf : Cond.selects yX7_xOf.cls yX7_xOf yX7_xOf ∈ lw_gd := gd_sel (q := (yX7_xOf, 57)) 28 (by decide +kernel)
theorem mwc_X7_yOf : Cond.code yX7_yOf kX7_yOf.1 (kL kX7_yOf) (kR kX7_yOf) ∈ lw_gd := gd_of 1098 (by decide +kernel) rfl
theorem mwd_X7_yOf : yX7_yOf.cls ≠ "java/lang/invoke/MethodHandle" ∧ yX7_yOf.cls ≠ "java/lang/invoke/VarHandle" ∧ (parseMethodDescriptor yX7_yOf.desc).map (fun d => d.parameters.length) = some 2 := by decide +kernel
theorem mwn_X7_yOf : Cond.initialized yX7_yOf.cls ∈ lw_gd := gd_of 8 (by decide +kernel) rfl
theorem mwi_X7_yOf : Cond.instanceMethod yX7_yOf ∈ lw_gd := gd_of 1097 (by decide +kernel) rfl
theorem mwv_X7_yOf : Cond.selects yX7_yOf.cls yX7_yOf yX7_yOf ∈ lw_gd := gd_sel (q := (yX7_yOf, 57)) 29 (by decide +kernel)
theorem mwc_X7_laySpans : Cond.code yX7_laySpans kX7_laySpans.1 (kL kX7_laySpans) (kR kX7_laySpans) ∈ lw_gd := gd_of 1078 (by decide +kernel) rfl
theorem mwd_X7_laySpans : yX7_laySpans.cls ≠ "java/lang/invoke/MethodHandle" ∧ yX7_laySpans.cls ≠ "java/lang/invoke/VarHandle" ∧ (parseMethodDescriptor yX7_laySpans.desc).map (fun d => d.parameters.length) = some 2 := by decide +kernel
theorem mwn_X7_laySpans : Cond.initialized yX7_laySpans.cls ∈ lw_gd := gd_of 8 (by decide +kernel) rfl
theorem mwi_X7_laySpans : Cond.instanceMethod yX7_laySpans ∈ lw_gd := gd_of 1077 (by decide +kernel) rfl
theorem mwv_X7_laySpans : Cond.selects yX7_laySpans.cls yX7_laySpans yX7_laySpans ∈ lw_gd := gd_sel (q := (yX7_laySpans, 57)) 24 (by decide +kernel)
theorem mwc_X7_linesOf : Cond.code yX7_linesOf kX7_linesOf.1 (kL kX7_linesOf) (kR kX7_linesOf) ∈ lw_gd := gd_of 1074 (by decide +kernel) rfl
theorem mwd_X7_linesOf : yX7_linesOf.cls ≠ "java/lang/invoke/MethodHandle" ∧ yX7_linesOf.cls ≠ "java/lang/invoke/VarHandle" ∧ (parseMethodDescriptor yX7_linesOf.desc).map (fun d => d.parameters.length) = some 1 := by decide +kernel
theorem mwn_X7_linesOf : Cond.initialized yX7_linesOf.cls ∈ lw_gd := gd_of 8 (by decide +kernel) rfl
theorem mwi_X7_linesOf : Cond.instanceMethod yX7_linesOf ∈ lw_gd := gd_of 1073 (by decide +kernel) rfl
theorem mwv_X7_linesOf : Cond.selects yX7_linesOf.cls yX7_linesOf yX7_linesOf ∈ lw_gd := gd_sel (q := (yX7_linesOf, 57)) 23 (by decide +kernel)
theorem mwc_X7_forget : Cond.code yX7_forget kX7_forget.1 (kL kX7_forget) (kR kX7_forget) ∈ lw_gd := gd_of 1110 (by decide +kernel) rfl
theorem mwd_X7_forget : yX7_forget.cls ≠ "java/lang/invoke/MethodHandle" ∧ yX7_forget.cls ≠ "java/lang/invoke/VarHandle" ∧ (parseMethodDescriptor yX7_forget.desc).map (fun d => d.parameters.length) = some 1 := by decide +kernel
theorem mwn_X7_forget : Cond.initialized yX7_forget.cls ∈ lw_gd := gd_of 8 (by decide +kernel) rfl
theorem mwi_X7_forget : Cond.instanceMethod yX7_forget ∈ lw_gd := gd_of 1109 (by decide +kernel) rfl
theorem mwv_X7_forget : Cond.selects yX7_forget.cls yX7_forget yX7_forget ∈ lw_gd := gd_sel (q := (yX7_forget, 57)) 32 (by decide +kernel)
theorem mwc_X7_onto : Cond.code yX7_onto kX7_onto.1 (kL kX7_onto) (kR kX7_onto) ∈ lw_gd := gd_of 1114 (by decide +kernel) rfl
theorem mwd_X7_onto : yX7_onto.cls ≠ "java/lang/invoke/MethodHandle" ∧ yX7_onto.cls ≠ "java/lang/invoke/VarHandle" ∧ (parseMethodDescriptor yX7_onto.desc).map (fun d => d.parameters.length) = some 1 := by decide +kernel
theorem mwn_X7_onto : Cond.initialized yX7_onto.cls ∈ lw_gd := gd_of 8 (by decide +kernel) rfl
theorem mwi_X7_onto : Cond.instanceMethod yX7_onto ∈ lw_gd := gd_of 1113 (by decide +kernel) rfl
theorem mwv_X7_onto : Cond.selects yX7_onto.cls yX7_onto yX7_onto ∈ lw_gd := gd_sel (q := (yX7_onto, 57)) 33 (by decide +kernel)
theorem mwc_X7_sum : Cond.code yX7_sum kX7_sum.1 (kL kX7_sum) (kR kX7_sum) ∈ lw_gd := gd_of 1066 (by decide +kernel) rfl
theorem mwd_X7_sum : yX7_sum.cls ≠ "java/lang/invoke/MethodHandle" ∧ yX7_sum.cls ≠ "java/lang/invoke/VarHandle" ∧ (parseMethodDescriptor yX7_sum.desc).map (fun d => d.parameters.length) = some 2 := by decide +kernel
theorem mwn_X7_sum : Cond.initialized yX7_sum.cls ∈ lw_gd := gd_of 8 (by decide +kernel) rfl
theorem mwi_X7_sum : Cond.instanceMethod yX7_sum ∈ lw_gd := gd_of 1064 (by decide +kernel) rfl
theorem mwv_X7_sum : Cond.selects yX7_sum.cls yX7_sum yX7_sum ∈ lw_gd := gd_of 1065 (by decide +kernel) rfl
theorem mwc_X6_under : Cond.code yX6_under kX6_under.1 (kL kX6_under) (kR kX6_under) ∈ lw_gd := gd_of 532 (by decide +kernel) rfl
theorem mwd_X6_under : yX6_under.cls ≠ "java/lang/invoke/MethodHandle" ∧ yX6_under.cls ≠ "java/lang/invoke/VarHandle" ∧ (parseMethodDescriptor yX6_under.desc).map (fun d => d.parameters.length) = some 2 := by decide +kernel
theorem mwn_X6_under : Cond.initialized yX6_under.cls ∈ lw_gd := gd_of 1 (by decide +kernel) rfl
theorem mwi_X6_under : Cond.instanceMethod yX6_under ∈ lw_gd := gd_of 530 (by decide +kernel) rfl
theorem mwv_X6_under : Cond.selects yX6_under.cls yX6_under yX6_under ∈ lw_gd := gd_of 531 (by decide +kernel) rfl
theorem mwc_X7_under_ : Cond.code yX7_under_ kX7_under_.1 (kL kX7_under_) (kR kX7_under_) ∈ lw_gd := gd_of 1172 (by decide +kernel) rfl
theorem mwd_X7_under_ : yX7_under_.cls ≠ "java/lang/invoke/MethodHandle" ∧ yX7_under_.cls ≠ "java/lang/invoke/VarHandle" ∧ (parseMethodDescriptor yX7_under_.desc).map (fun d => d.parameters.length) = some 2 := by decide +kernel
theorem mwn_X7_under_ : Cond.initialized yX7_under_.cls ∈ lw_gd := gd_of 8 (by decide +kernel) rfl
theorem mwi_X7_under_ : Cond.instanceMethod yX7_under_ ∈ lw_gd := gd_of 1170 (by decide +kernel) rfl
theorem mwv_X7_under_ : Cond.selects yX7_under_.cls yX7_under_ yX7_under_ ∈ lw_gd := gd_of 1171 (by decide +kernel) rfl
theorem mwc_X1_firstY : Cond.code yX1_firstY kX1_firstY.1 (kL kX1_firstY) (kR kX1_firstY) ∈ lw_gd := gd_of 544 (by decide +kernel) rfl
theorem mwd_X1_firstY : yX1_firstY.cls ≠ "java/lang/invoke/MethodHandle" ∧ yX1_firstY.cls ≠ "java/lang/invoke/VarHandle" ∧ (parseMethodDescriptor yX1_firstY.desc).map (fun d => d.parameters.length) = some 1 := by decide +kernel
theorem mwn_X1_firstY : Cond.initialized yX1_firstY.cls ∈ lw_gd := gd_of 5 (by decide +kernel) rfl
theorem mwi_X1_firstY : Cond.instanceMethod yX1_firstY ∈ lw_gd := gd_of 542 (by decide +kernel) rfl
theorem mwv_X1_firstY : Cond.selects yX1_firstY.cls yX1_firstY yX1_firstY ∈ lw_gd := gd_of 543 (by decide +kernel) rfl
theorem mwc_X1_addJoined : Cond.code yX1_addJoined kX1_addJoined.1 (kL kX1_addJoined) (kR kX1_addJoined) ∈ lw_gd := gd_of 540 (by decide +kernel) rfl
theorem mwd_X1_addJoined : yX1_addJoined.cls ≠ "java/lang/invoke/MethodHandle" ∧ yX1_addJoined.cls ≠ "java/lang/invoke/VarHandle" ∧ (parseMethodDescriptor yX1_addJoined.desc).map (fun d => d.parameters.length) = some 4 := by decide +kernel
theorem mwn_X1_addJoined : Cond.initialized yX1_addJoined.cls ∈ lw_gd := gd_of 5 (by decide +kernel) rfl
theorem mwi_X1_addJoined : Cond.instanceMethod yX1_addJoined ∈ lw_gd := gd_of 538 (by decide +kernel) rfl
theorem mwv_X1_addJoined : Cond.selects yX1_addJoined.cls yX1_addJoined yX1_addJoined ∈ lw_gd := gd_of 539 (by decide +kernel) rfl
theorem mwc_X6_join : Cond.code yX6_join kX6_join.1 (kL kX6_join) (kR kX6_join) ∈ lw_gd := gd_of 536 (by decide +kernel) rfl
theorem mwd_X6_join : yX6_join.cls ≠ "java/lang/invoke/MethodHandle" ∧ yX6_join.cls ≠ "java/lang/invoke/VarHandle" ∧ (parseMethodDescriptor yX6_join.desc).map (fun d => d.parameters.length) = some 2 := by decide +kernel
theorem mwn_X6_join : Cond.initialized yX6_join.cls ∈ lw_gd := gd_of 1 (by decide +kernel) rfl
theorem mwi_X6_join : Cond.instanceMethod yX6_join ∈ lw_gd := gd_of 534 (by decide +kernel) rfl
theorem mwv_X6_join : Cond.selects yX6_join.cls yX6_join yX6_join ∈ lw_gd := gd_of 535 (by decide +kernel) rfl
theorem mwc_X7_joinTwo : Cond.code yX7_joinTwo kX7_joinTwo.1 (kL kX7_joinTwo) (kR kX7_joinTwo) ∈ lw_gd := gd_of 1180 (by decide +kernel) rfl
theorem mwd_X7_joinTwo : yX7_joinTwo.cls ≠ "java/lang/invoke/MethodHandle" ∧ yX7_joinTwo.cls ≠ "java/lang/invoke/VarHandle" ∧ (parseMethodDescriptor yX7_joinTwo.desc).map (fun d => d.parameters.length) = some 2 := by decide +kernel
theorem mwn_X7_joinTwo : Cond.initialized yX7_joinTwo.cls ∈ lw_gd := gd_of 8 (by decide +kernel) rfl
theorem mwi_X7_joinTwo : Cond.instanceMethod yX7_joinTwo ∈ lw_gd := gd_of 1179 (by decide +kernel) rfl
theorem mwv_X7_joinTwo : Cond.selects yX7_joinTwo.cls yX7_joinTwo yX7_joinTwo ∈ lw_gd := gd_sel (q := (yX7_joinTwo, 57)) 45 (by decide +kernel)
theorem mwc_X7_join : Cond.code yX7_join kX7_join.1 (kL kX7_join) (kR kX7_join) ∈ lw_gd := gd_of 1176 (by decide +kernel) rfl
theorem mwd_X7_join : yX7_join.cls ≠ "java/lang/invoke/MethodHandle" ∧ yX7_join.cls ≠ "java/lang/invoke/VarHandle" ∧ (parseMethodDescriptor yX7_join.desc).map (fun d => d.parameters.length) = some 2 := by decide +kernel
theorem mwn_X7_join : Cond.initialized yX7_join.cls ∈ lw_gd := gd_of 8 (by decide +kernel) rfl
theorem mwi_X7_join : Cond.instanceMethod yX7_join ∈ lw_gd := gd_of 1174 (by decide +kernel) rfl
theorem mwv_X7_join : Cond.selects yX7_join.cls yX7_join yX7_join ∈ lw_gd := gd_of 1175 (by decide +kernel) rfl
theorem mwc_X4_canBeTurned : Cond.code yX4_canBeTurned kX4_canBeTurned.1 (kL kX4_canBeTurned) (kR kX4_canBeTurned) ∈ lw_gd := gd_of 552 (by decide +kernel) rfl
theorem mwd_X4_canBeTurned : yX4_canBeTurned.cls ≠ "java/lang/invoke/MethodHandle" ∧ yX4_canBeTurned.cls ≠ "java/lang/invoke/VarHandle" ∧ (parseMethodDescriptor yX4_canBeTurned.desc).map (fun d => d.parameters.length) = some 0 := by decide +kernel
theorem mwn_X4_canBeTurned : Cond.initialized yX4_canBeTurned.cls ∈ lw_gd := gd_of 2 (by decide +kernel) rfl
theorem mwi_X4_canBeTurned : Cond.instanceMethod yX4_canBeTurned ∈ lw_gd := gd_of 550 (by decide +kernel) rfl
theorem mwv_X4_canBeTurned : Cond.selects yX4_canBeTurned.cls yX4_canBeTurned yX4_canBeTurned ∈ lw_gd := gd_of 551 (by decide +kernel) rfl
theorem mwc_X4_endOfPiece : Cond.code yX4_endOfPiece kX4_endOfPiece.1 (kL kX4_endOfPiece) (kR kX4_endOfPiece) ∈ lw_gd := gd_of 560 (by decide +kernel) rfl
theorem mwd_X4_endOfPiece : yX4_endOfPiece.cls ≠ "java/lang/invoke/MethodHandle" ∧ yX4_endOfPiece.cls ≠ "java/lang/invoke/VarHandle" ∧ (parseMethodDescriptor yX4_endOfPiece.desc).map (fun d => d.parameters.length) = some 1 := by decide +kernel
theorem mwn_X4_endOfPiece : Cond.initialized yX4_endOfPiece.cls ∈ lw_gd := gd_of 2 (by decide +kernel) rfl
theorem mwi_X4_endOfPiece : Cond.instanceMethod yX4_endOfPiece ∈ lw_gd := gd_of 558 (by decide +kernel) rfl
theorem mwv_X4_endOfPiece : Cond.selects yX4_endOfPiece.cls yX4_endOfPiece yX4_endOfPiece ∈ lw_gd := gd_of 559 (by decide +kernel) rfl
theorem mwc_X1_addTurned : Cond.code yX1_addTurned kX1_addTurned.1 (kL kX1_addTurned) (kR kX1_addTurned) ∈ lw_gd := gd_of 556 (by decide +kernel) rfl
theorem mwd_X1_addTurned : yX1_addTurned.cls ≠ "java/lang/invoke/MethodHandle" ∧ yX1_addTurned.cls ≠ "java/lang/invoke/VarHandle" ∧ (parseMethodDescriptor yX1_addTurned.desc).map (fun d => d.parameters.length) = some 1 := by decide +kernel
theorem mwn_X1_addTurned : Cond.initialized yX1_addTurned.cls ∈ lw_gd := gd_of 5 (by decide +kernel) rfl
theorem mwi_X1_addTurned : Cond.instanceMethod yX1_addTurned ∈ lw_gd := gd_of 554 (by decide +kernel) rfl
theorem mwv_X1_addTurned : Cond.selects yX1_addTurned.cls yX1_addTurned yX1_addTurned ∈ lw_gd := gd_of 555 (by decide +kernel) rfl
theorem mwc_X6_turn : Cond.code yX6_turn kX6_turn.1 (kL kX6_turn) (kR kX6_turn) ∈ lw_gd := gd_of 548 (by decide +kernel) rfl
theorem mwd_X6_turn : yX6_turn.cls ≠ "java/lang/invoke/MethodHandle" ∧ yX6_turn.cls ≠ "java/lang/invoke/VarHandle" ∧ (parseMethodDescriptor yX6_turn.desc).map (fun d => d.parameters.length) = some 1 := by decide +kernel
theorem mwn_X6_turn : Cond.initialized yX6_turn.cls ∈ lw_gd := gd_of 1 (by decide +kernel) rfl
theorem mwi_X6_turn : Cond.instanceMethod yX6_turn ∈ lw_gd := gd_of 546 (by decide +kernel) rfl
theorem mwv_X6_turn : Cond.selects yX6_turn.cls yX6_turn yX6_turn ∈ lw_gd := gd_of 547 (by decide +kernel) rfl
theorem mwc_X7_isStrict : Cond.code yX7_isStrict kX7_isStrict.1 (kL kX7_isStrict) (kR kX7_isStrict) ∈ lw_gd := gd_of 1188 (by decide +kernel) rfl
theorem mwd_X7_isStrict : yX7_isStrict.cls ≠ "java/lang/invoke/MethodHandle" ∧ yX7_isStrict.cls ≠ "java/lang/invoke/VarHandle" ∧ (parseMethodDescriptor yX7_isStrict.desc).map (fun d => d.parameters.length) = some 2 := by decide +kernel
theorem mwn_X7_isStrict : Cond.initialized yX7_isStrict.cls ∈ lw_gd := gd_of 8 (by decide +kernel) rfl
theorem mwi_X7_isStrict : Cond.instanceMethod yX7_isStrict ∈ lw_gd := gd_of 1187 (by decide +kernel) rfl
theorem mwv_X7_isStrict : Cond.selects yX7_isStrict.cls yX7_isStrict yX7_isStrict ∈ lw_gd := gd_sel (q := (yX7_isStrict, 57)) 46 (by decide +kernel)
theorem mwc_X7_turn : Cond.code yX7_turn kX7_turn.1 (kL kX7_turn) (kR kX7_turn) ∈ lw_gd := gd_of 1184 (by decide +kernel) rfl
theorem mwd_X7_turn : yX7_turn.cls ≠ "java/lang/invoke/MethodHandle" ∧ yX7_turn.cls ≠ "java/lang/invoke/VarHandle" ∧ (parseMethodDescriptor yX7_turn.desc).map (fun d => d.parameters.length) = some 1 := by decide +kernel
theorem mwn_X7_turn : Cond.initialized yX7_turn.cls ∈ lw_gd := gd_of 8 (by decide +kernel) rfl
theorem mwi_X7_turn : Cond.instanceMethod yX7_turn ∈ lw_gd := gd_of 1182 (by decide +kernel) rfl
theorem mwv_X7_turn : Cond.selects yX7_turn.cls yX7_turn yX7_turn ∈ lw_gd := gd_of 1183 (by decide +kernel) rfl
theorem mwc_X4_hullNext : Cond.code yX4_hullNext kX4_hullNext.1 (kL kX4_hullNext) (kR kX4_hullNext) ∈ lw_gd := gd_of 572 (by decide +kernel) rfl
theorem mwd_X4_hullNext : yX4_hullNext.cls ≠ "java/lang/invoke/MethodHandle" ∧ yX4_hullNext.cls ≠ "java/lang/invoke/VarHandle" ∧ (parseMethodDescriptor yX4_hullNext.desc).map (fun d => d.parameters.length) = some 1 := by decide +kernel
theorem mwn_X4_hullNext : Cond.initialized yX4_hullNext.cls ∈ lw_gd := gd_of 2 (by decide +kernel) rfl
theorem mwi_X4_hullNext : Cond.instanceMethod yX4_hullNext ∈ lw_gd := gd_of 570 (by decide +kernel) rfl
theorem mwv_X4_hullNext : Cond.selects yX4_hullNext.cls yX4_hullNext yX4_hullNext ∈ lw_gd := gd_of 571 (by decide +kernel) rfl
theorem mwc_X1_addHull : Cond.code yX1_addHull kX1_addHull.1 (kL kX1_addHull) (kR kX1_addHull) ∈ lw_gd := gd_of 568 (by decide +kernel) rfl
theorem mwd_X1_addHull : yX1_addHull.cls ≠ "java/lang/invoke/MethodHandle" ∧ yX1_addHull.cls ≠ "java/lang/invoke/VarHandle" ∧ (parseMethodDescriptor yX1_addHull.desc).map (fun d => d.parameters.length) = some 1 := by decide +kernel
theorem mwn_X1_addHull : Cond.initialized yX1_addHull.cls ∈ lw_gd := gd_of 5 (by decide +kernel) rfl
theorem mwi_X1_addHull : Cond.instanceMethod yX1_addHull ∈ lw_gd := gd_of 566 (by decide +kernel) rfl
theorem mwv_X1_addHull : Cond.selects yX1_addHull.cls yX1_addHull yX1_addHull ∈ lw_gd := gd_of 567 (by decide +kernel) rfl
theorem mwc_X6_hull : Cond.code yX6_hull kX6_hull.1 (kL kX6_hull) (kR kX6_hull) ∈ lw_gd := gd_of 564 (by decide +kernel) rfl
theorem mwd_X6_hull : yX6_hull.cls ≠ "java/lang/invoke/MethodHandle" ∧ yX6_hull.cls ≠ "java/lang/invoke/VarHandle" ∧ (parseMethodDescriptor yX6_hull.desc).map (fun d => d.parameters.length) = some 1 := by decide +kernel
theorem mwn_X6_hull : Cond.initialized yX6_hull.cls ∈ lw_gd := gd_of 1 (by decide +kernel) rfl
theorem mwi_X6_hull : Cond.instanceMethod yX6_hull ∈ lw_gd := gd_of 562 (by decide +kernel) rfl
theorem mwv_X6_hull : Cond.selects yX6_hull.cls yX6_hull yX6_hull ∈ lw_gd := gd_of 563 (by decide +kernel) rfl
theorem mwc_X7_turnsUp : Cond.code yX7_turnsUp kX7_turnsUp.1 (kL kX7_turnsUp) (kR kX7_turnsUp) ∈ lw_gd := gd_of 1196 (by decide +kernel) rfl
theorem mwd_X7_turnsUp : yX7_turnsUp.cls ≠ "java/lang/invoke/MethodHandle" ∧ yX7_turnsUp.cls ≠ "java/lang/invoke/VarHandle" ∧ (parseMethodDescriptor yX7_turnsUp.desc).map (fun d => d.parameters.length) = some 3 := by decide +kernel
theorem mwn_X7_turnsUp : Cond.initialized yX7_turnsUp.cls ∈ lw_gd := gd_of 8 (by decide +kernel) rfl
theorem mwi_X7_turnsUp : Cond.instanceMethod yX7_turnsUp ∈ lw_gd := gd_of 1195 (by decide +kernel) rfl
theorem mwv_X7_turnsUp : Cond.selects yX7_turnsUp.cls yX7_turnsUp yX7_turnsUp ∈ lw_gd := gd_sel (q := (yX7_turnsUp, 57)) 47 (by decide +kernel)
theorem mwc_X7_hull : Cond.code yX7_hull kX7_hull.1 (kL kX7_hull) (kR kX7_hull) ∈ lw_gd := gd_of 1192 (by decide +kernel) rfl
theorem mwd_X7_hull : yX7_hull.cls ≠ "java/lang/invoke/MethodHandle" ∧ yX7_hull.cls ≠ "java/lang/invoke/VarHandle" ∧ (parseMethodDescriptor yX7_hull.desc).map (fun d => d.parameters.length) = some 1 := by decide +kernel
theorem mwn_X7_hull : Cond.initialized yX7_hull.cls ∈ lw_gd := gd_of 8 (by decide +kernel) rfl
theorem mwi_X7_hull : Cond.instanceMethod yX7_hull ∈ lw_gd := gd_of 1190 (by decide +kernel) rfl
theorem mwv_X7_hull : Cond.selects yX7_hull.cls yX7_hull yX7_hull ∈ lw_gd := gd_of 1191 (by decide +kernel) rfl
theorem mwc_X1_addCut : Cond.code yX1_addCut kX1_addCut.1 (kL kX1_addCut) (kR kX1_addCut) ∈ lw_gd := gd_of 580 (by decide +kernel) rfl
theorem mwd_X1_addCut : yX1_addCut.cls ≠ "java/lang/invoke/MethodHandle" ∧ yX1_addCut.cls ≠ "java/lang/invoke/VarHandle" ∧ (parseMethodDescriptor yX1_addCut.desc).map (fun d => d.parameters.length) = some 4 := by decide +kernel
theorem mwn_X1_addCut : Cond.initialized yX1_addCut.cls ∈ lw_gd := gd_of 5 (by decide +kernel) rfl
theorem mwi_X1_addCut : Cond.instanceMethod yX1_addCut ∈ lw_gd := gd_of 578 (by decide +kernel) rfl
theorem mwv_X1_addCut : Cond.selects yX1_addCut.cls yX1_addCut yX1_addCut ∈ lw_gd := gd_of 579 (by decide +kernel) rfl
theorem mwc_X6_cut : Cond.code yX6_cut kX6_cut.1 (kL kX6_cut) (kR kX6_cut) ∈ lw_gd := gd_of 576 (by decide +kernel) rfl
theorem mwd_X6_cut : yX6_cut.cls ≠ "java/lang/invoke/MethodHandle" ∧ yX6_cut.cls ≠ "java/lang/invoke/VarHandle" ∧ (parseMethodDescriptor yX6_cut.desc).map (fun d => d.parameters.length) = some 3 := by decide +kernel
theorem mwn_X6_cut : Cond.initialized yX6_cut.cls ∈ lw_gd := gd_of 1 (by decide +kernel) rfl
theorem mwi_X6_cut : Cond.instanceMethod yX6_cut ∈ lw_gd := gd_of 574 (by decide +kernel) rfl
theorem mwv_X6_cut : Cond.selects yX6_cut.cls yX6_cut yX6_cut ∈ lw_gd := gd_of 575 (by decide +kernel) rfl
theorem mwc_X7_cut : Cond.code yX7_cut kX7_cut.1 (kL kX7_cut) (kR kX7_cut) ∈ lw_gd := gd_of 1200 (by decide +kernel) rfl
theorem mwd_X7_cut : yX7_cut.cls ≠ "java/lang/invoke/MethodHandle" ∧ yX7_cut.cls ≠ "java/lang/invoke/VarHandle" ∧ (parseMethodDescriptor yX7_cut.desc).map (fun d => d.parameters.length) = some 3 := by decide +kernel
theorem mwn_X7_cut : Cond.initialized yX7_cut.cls ∈ lw_gd := gd_of 8 (by decide +kernel) rfl
theorem mwi_X7_cut : Cond.instanceMethod yX7_cut ∈ lw_gd := gd_of 1198 (by decide +kernel) rfl
theorem mwv_X7_cut : Cond.selects yX7_cut.cls yX7_cut yX7_cut ∈ lw_gd := gd_of 1199 (by decide +kernel) rfl
theorem mwc_X1_addMoved : Cond.code yX1_addMoved kX1_addMoved.1 (kL kX1_addMoved) (kR kX1_addMoved) ∈ lw_gd := gd_of 588 (by decide +kernel) rfl
theorem mwd_X1_addMoved : yX1_addMoved.cls ≠ "java/lang/invoke/MethodHandle" ∧ yX1_addMoved.cls ≠ "java/lang/invoke/VarHandle" ∧ (parseMethodDescriptor yX1_addMoved.desc).map (fun d => d.parameters.length) = some 4 := by decide +kernel
theorem mwn_X1_addMoved : Cond.initialized yX1_addMoved.cls ∈ lw_gd := gd_of 5 (by decide +kernel) rfl
theorem mwi_X1_addMoved : Cond.instanceMethod yX1_addMoved ∈ lw_gd := gd_of 586 (by decide +kernel) rfl
theorem mwv_X1_addMoved : Cond.selects yX1_addMoved.cls yX1_addMoved yX1_addMoved ∈ lw_gd := gd_of 587 (by decide +kernel) rfl
theorem mwc_X6_move : Cond.code yX6_move kX6_move.1 (kL kX6_move) (kR kX6_move) ∈ lw_gd := gd_of 584 (by decide +kernel) rfl
theorem mwd_X6_move : yX6_move.cls ≠ "java/lang/invoke/MethodHandle" ∧ yX6_move.cls ≠ "java/lang/invoke/VarHandle" ∧ (parseMethodDescriptor yX6_move.desc).map (fun d => d.parameters.length) = some 3 := by decide +kernel
theorem mwn_X6_move : Cond.initialized yX6_move.cls ∈ lw_gd := gd_of 1 (by decide +kernel) rfl
theorem mwi_X6_move : Cond.instanceMethod yX6_move ∈ lw_gd := gd_of 582 (by decide +kernel) rfl
theorem mwv_X6_move : Cond.selects yX6_move.cls yX6_move yX6_move ∈ lw_gd := gd_of 583 (by decide +kernel) rfl
theorem mwc_X7_move : Cond.code yX7_move kX7_move.1 (kL kX7_move) (kR kX7_move) ∈ lw_gd := gd_of 1209 (by decide +kernel) rfl
theorem mwd_X7_move : yX7_move.cls ≠ "java/lang/invoke/MethodHandle" ∧ yX7_move.cls ≠ "java/lang/invoke/VarHandle" ∧ (parseMethodDescriptor yX7_move.desc).map (fun d => d.parameters.length) = some 3 := by decide +kernel
theorem mwn_X7_move : Cond.initialized yX7_move.cls ∈ lw_gd := gd_of 8 (by decide +kernel) rfl
theorem mwi_X7_move : Cond.instanceMethod yX7_move ∈ lw_gd := gd_of 1207 (by decide +kernel) rfl
theorem mwv_X7_move : Cond.selects yX7_move.cls yX7_move yX7_move ∈ lw_gd := gd_of 1208 (by decide +kernel) rfl
theorem mwc_X1_addMultiple : Cond.code yX1_addMultiple kX1_addMultiple.1 (kL kX1_addMultiple) (kR kX1_addMultiple) ∈ lw_gd := gd_of 596 (by decide +kernel) rfl
theorem mwd_X1_addMultiple : yX1_addMultiple.cls ≠ "java/lang/invoke/MethodHandle" ∧ yX1_addMultiple.cls ≠ "java/lang/invoke/VarHandle" ∧ (parseMethodDescriptor yX1_addMultiple.desc).map (fun d => d.parameters.length) = some 3 := by decide +kernel
theorem mwn_X1_addMultiple : Cond.initialized yX1_addMultiple.cls ∈ lw_gd := gd_of 5 (by decide +kernel) rfl
theorem mwi_X1_addMultiple : Cond.instanceMethod yX1_addMultiple ∈ lw_gd := gd_of 594 (by decide +kernel) rfl
theorem mwv_X1_addMultiple : Cond.selects yX1_addMultiple.cls yX1_addMultiple yX1_addMultiple ∈ lw_gd := gd_of 595 (by decide +kernel) rfl
theorem mwc_X6_times : Cond.code yX6_times kX6_times.1 (kL kX6_times) (kR kX6_times) ∈ lw_gd := gd_of 592 (by decide +kernel) rfl
theorem mwd_X6_times : yX6_times.cls ≠ "java/lang/invoke/MethodHandle" ∧ yX6_times.cls ≠ "java/lang/invoke/VarHandle" ∧ (parseMethodDescriptor yX6_times.desc).map (fun d => d.parameters.length) = some 2 := by decide +kernel
theorem mwn_X6_times : Cond.initialized yX6_times.cls ∈ lw_gd := gd_of 1 (by decide +kernel) rfl
theorem mwi_X6_times : Cond.instanceMethod yX6_times ∈ lw_gd := gd_of 590 (by decide +kernel) rfl
theorem mwv_X6_times : Cond.selects yX6_times.cls yX6_times yX6_times ∈ lw_gd := gd_of 591 (by decide +kernel) rfl
theorem mwc_X7_times : Cond.code yX7_times kX7_times.1 (kL kX7_times) (kR kX7_times) ∈ lw_gd := gd_of 1213 (by decide +kernel) rfl
theorem mwd_X7_times : yX7_times.cls ≠ "java/lang/invoke/MethodHandle" ∧ yX7_times.cls ≠ "java/lang/invoke/VarHandle" ∧ (parseMethodDescriptor yX7_times.desc).map (fun d => d.parameters.length) = some 2 := by decide +kernel
theorem mwn_X7_times : Cond.initialized yX7_times.cls ∈ lw_gd := gd_of 8 (by decide +kernel) rfl
theorem mwi_X7_times : Cond.instanceMethod yX7_times ∈ lw_gd := gd_of 1211 (by decide +kernel) rfl
theorem mwv_X7_times : Cond.selects yX7_times.cls yX7_times yX7_times ∈ lw_gd := gd_of 1212 (by decide +kernel) rfl
theorem mwc_X4_copyOf : Cond.code yX4_copyOf kX4_copyOf.1 (kL kX4_copyOf) (kR kX4_copyOf) ∈ lw_gd := gd_of 485 (by decide +kernel) rfl
theorem mwd_X4_copyOf : yX4_copyOf.cls ≠ "java/lang/invoke/MethodHandle" ∧ yX4_copyOf.cls ≠ "java/lang/invoke/VarHandle" ∧ (parseMethodDescriptor yX4_copyOf.desc).map (fun d => d.parameters.length) = some 1 := by decide +kernel
theorem mwn_X4_copyOf : Cond.initialized yX4_copyOf.cls ∈ lw_gd := gd_of 2 (by decide +kernel) rfl
theorem mwi_X4_copyOf : Cond.instanceMethod yX4_copyOf ∈ lw_gd := gd_of 483 (by decide +kernel) rfl
theorem mwv_X4_copyOf : Cond.selects yX4_copyOf.cls yX4_copyOf yX4_copyOf ∈ lw_gd := gd_of 484 (by decide +kernel) rfl
theorem mwc_X6_lay : Cond.code yX6_lay kX6_lay.1 (kL kX6_lay) (kR kX6_lay) ∈ lw_gd := gd_of 600 (by decide +kernel) rfl
theorem mwd_X6_lay : yX6_lay.cls ≠ "java/lang/invoke/MethodHandle" ∧ yX6_lay.cls ≠ "java/lang/invoke/VarHandle" ∧ (parseMethodDescriptor yX6_lay.desc).map (fun d => d.parameters.length) = some 1 := by decide +kernel
theorem mwn_X6_lay : Cond.initialized yX6_lay.cls ∈ lw_gd := gd_of 1 (by decide +kernel) rfl
theorem mwi_X6_lay : Cond.instanceMethod yX6_lay ∈ lw_gd := gd_of 598 (by decide +kernel) rfl
theorem mwv_X6_lay : Cond.selects yX6_lay.cls yX6_lay yX6_lay ∈ lw_gd := gd_of 599 (by decide +kernel) rfl
theorem mwc_X7_lay_ : Cond.code yX7_lay_ kX7_lay_.1 (kL kX7_lay_) (kR kX7_lay_) ∈ lw_gd := gd_of 1218 (by decide +kernel) rfl
theorem mwd_X7_lay_ : yX7_lay_.cls ≠ "java/lang/invoke/MethodHandle" ∧ yX7_lay_.cls ≠ "java/lang/invoke/VarHandle" ∧ (parseMethodDescriptor yX7_lay_.desc).map (fun d => d.parameters.length) = some 1 := by decide +kernel
theorem mwn_X7_lay_ : Cond.initialized yX7_lay_.cls ∈ lw_gd := gd_of 8 (by decide +kernel) rfl
theorem mwi_X7_lay_ : Cond.instanceMethod yX7_lay_ ∈ lw_gd := gd_of 1216 (by decide +kernel) rfl
theorem mwv_X7_lay_ : Cond.selects yX7_lay_.cls yX7_lay_ yX7_lay_ ∈ lw_gd := gd_of 1217 (by decide +kernel) rfl
theorem mwc_X4_fitsStore : Cond.code yX4_fitsStore kX4_fitsStore.1 (kL kX4_fitsStore) (kR kX4_fitsStore) ∈ lw_gd := gd_of 480 (by decide +kernel) rfl
theorem mwd_X4_fitsStore : yX4_fitsStore.cls ≠ "java/lang/invoke/MethodHandle" ∧ yX4_fitsStore.cls ≠ "java/lang/invoke/VarHandle" ∧ (parseMethodDescriptor yX4_fitsStore.desc).map (fun d => d.parameters.length) = some 0 := by decide +kernel
theorem mwn_X4_fitsStore : Cond.initialized yX4_fitsStore.cls ∈ lw_gd := gd_of 2 (by decide +kernel) rfl
theorem mwi_X4_fitsStore : Cond.instanceMethod yX4_fitsStore ∈ lw_gd := gd_of 478 (by decide +kernel) rfl
theorem mwv_X4_fitsStore : Cond.selects yX4_fitsStore.cls yX4_fitsStore yX4_fitsStore ∈ lw_gd := gd_of 479 (by decide +kernel) rfl
theorem mwc_X6_put : Cond.code yX6_put kX6_put.1 (kL kX6_put) (kR kX6_put) ∈ lw_gd := gd_of 476 (by decide +kernel) rfl
theorem mwd_X6_put : yX6_put.cls ≠ "java/lang/invoke/MethodHandle" ∧ yX6_put.cls ≠ "java/lang/invoke/VarHandle" ∧ (parseMethodDescriptor yX6_put.desc).map (fun d => d.parameters.length) = some 1 := by decide +kernel
theorem mwn_X6_put : Cond.initialized yX6_put.cls ∈ lw_gd := gd_of 1 (by decide +kernel) rfl
theorem mwi_X6_put : Cond.instanceMethod yX6_put ∈ lw_gd := gd_of 474 (by decide +kernel) rfl
theorem mwv_X6_put : Cond.selects yX6_put.cls yX6_put yX6_put ∈ lw_gd := gd_of 475 (by decide +kernel) rfl
theorem mwc_X7_canPut : Cond.code yX7_canPut kX7_canPut.1 (kL kX7_canPut) (kR kX7_canPut) ∈ lw_gd := gd_of 1226 (by decide +kernel) rfl
theorem mwd_X7_canPut : yX7_canPut.cls ≠ "java/lang/invoke/MethodHandle" ∧ yX7_canPut.cls ≠ "java/lang/invoke/VarHandle" ∧ (parseMethodDescriptor yX7_canPut.desc).map (fun d => d.parameters.length) = some 0 := by decide +kernel
theorem mwn_X7_canPut : Cond.initialized yX7_canPut.cls ∈ lw_gd := gd_of 8 (by decide +kernel) rfl
theorem mwi_X7_canPut : Cond.instanceMethod yX7_canPut ∈ lw_gd := gd_of 1225 (by decide +kernel) rfl
theorem mwv_X7_canPut : Cond.selects yX7_canPut.cls yX7_canPut yX7_canPut ∈ lw_gd := gd_sel (q := (yX7_canPut, 57)) 48 (by decide +kernel)
theorem mwc_X7_put : Cond.code yX7_put kX7_put.1 (kL kX7_put) (kR kX7_put) ∈ lw_gd := gd_of 1222 (by decide +kernel) rfl
theorem mwd_X7_put : yX7_put.cls ≠ "java/lang/invoke/MethodHandle" ∧ yX7_put.cls ≠ "java/lang/invoke/VarHandle" ∧ (parseMethodDescriptor yX7_put.desc).map (fun d => d.parameters.length) = some 1 := by decide +kernel
theorem mwn_X7_put : Cond.initialized yX7_put.cls ∈ lw_gd := gd_of 8 (by decide +kernel) rfl
theorem mwi_X7_put : Cond.instanceMethod yX7_put ∈ lw_gd := gd_of 1220 (by decide +kernel) rfl
theorem mwv_X7_put : Cond.selects yX7_put.cls yX7_put yX7_put ∈ lw_gd := gd_of 1221 (by decide +kernel) rfl
theorem mwc_X0_latest : Cond.code yX0_latest kX0_latest.1 (kL kX0_latest) (kR kX0_latest) ∈ lw_gd := gd_of 612 (by decide +kernel) rfl
theorem mwd_X0_latest : yX0_latest.cls ≠ "java/lang/invoke/MethodHandle" ∧ yX0_latest.cls ≠ "java/lang/invoke/VarHandle" ∧ (parseMethodDescriptor yX0_latest.desc).map (fun d => d.parameters.length) = some 0 := by decide +kernel
theorem mwn_X0_latest : Cond.initialized yX0_latest.cls ∈ lw_gd := gd_of 3 (by decide +kernel) rfl
theorem mwi_X0_latest : Cond.instanceMethod yX0_latest ∈ lw_gd := gd_of 611 (by decide +kernel) rfl
theorem mwv_X0_latest : Cond.selects yX0_latest.cls yX0_latest yX0_latest ∈ lw_gd := gd_sel (q := (yX0_latest, 6)) 13 (by decide +kernel)
theorem mwc_X0_latestSlot : Cond.code yX0_latestSlot kX0_latestSlot.1 (kL kX0_latestSlot) (kR kX0_latestSlot) ∈ lw_gd := gd_of 608 (by decide +kernel) rfl
theorem mwd_X0_latestSlot : yX0_latestSlot.cls ≠ "java/lang/invoke/MethodHandle" ∧ yX0_latestSlot.cls ≠ "java/lang/invoke/VarHandle" ∧ (parseMethodDescriptor yX0_latestSlot.desc).map (fun d => d.parameters.length) = some 0 := by decide +kernel
theorem mwn_X0_latestSlot : Cond.initialized yX0_latestSlot.cls ∈ lw_gd := gd_of 3 (by decide +kernel) rfl
theorem mwi_X0_latestSlot : Cond.instanceMethod yX0_latestSlot ∈ lw_gd := gd_of 606 (by decide +kernel) rfl
theorem mwv_X0_latestSlot : Cond.selects yX0_latestSlot.cls yX0_latestSlot yX0_latestSlot ∈ lw_gd := gd_of 607 (by decide +kernel) rfl
theorem mwc_X0_takeBack : Cond.code yX0_takeBack kX0_takeBack.1 (kL kX0_takeBack) (kR kX0_takeBack) ∈ lw_gd := gd_of 616 (by decide +kernel) rfl
theorem mwd_X0_takeBack : yX0_takeBack.cls ≠ "java/lang/invoke/MethodHandle" ∧ yX0_takeBack.cls ≠ "java/lang/invoke/VarHandle" ∧ (parseMethodDescriptor yX0_takeBack.desc).map (fun d => d.parameters.length) = some 1 := by decide +kernel
theorem mwn_X0_takeBack : Cond.initialized yX0_takeBack.cls ∈ lw_gd := gd_of 3 (by decide +kernel) rfl
theorem mwi_X0_takeBack : Cond.instanceMethod yX0_takeBack ∈ lw_gd := gd_of 614 (by decide +kernel) rfl
theorem mwv_X0_takeBack : Cond.selects yX0_takeBack.cls yX0_takeBack yX0_takeBack ∈ lw_gd := gd_of 615 (by decide +kernel) rfl
theorem mwc_X6_undo : Cond.code yX6_undo kX6_undo.1 (kL kX6_undo) (kR kX6_undo) ∈ lw_gd := gd_of 604 (by decide +kernel) rfl
theorem mwd_X6_undo : yX6_undo.cls ≠ "java/lang/invoke/MethodHandle" ∧ yX6_undo.cls ≠ "java/lang/invoke/VarHandle" ∧ (parseMethodDescriptor yX6_undo.desc).map (fun d => d.parameters.length) = some 0 := by decide +kernel
theorem mwn_X6_undo : Cond.initialized yX6_undo.cls ∈ lw_gd := gd_of 1 (by decide +kernel) rfl
theorem mwi_X6_undo : Cond.instanceMethod yX6_undo ∈ lw_gd := gd_of 602 (by decide +kernel) rfl
theorem mwv_X6_undo : Cond.selects yX6_undo.cls yX6_undo yX6_undo ∈ lw_gd := gd_of 603 (by decide +kernel) rfl
theorem mwc_X7_bring : Cond.code yX7_bring kX7_bring.1 (kL kX7_bring) (kR kX7_bring) ∈ lw_gd := gd_of 1039 (by decide +kernel) rfl
theorem mwd_X7_bring : yX7_bring.cls ≠ "java/lang/invoke/MethodHandle" ∧ yX7_bring.cls ≠ "java/lang/invoke/VarHandle" ∧ (parseMethodDescriptor yX7_bring.desc).map (fun d => d.parameters.length) = some 5 := by decide +kernel
theorem mwn_X7_bring : Cond.initialized yX7_bring.cls ∈ lw_gd := gd_of 8 (by decide +kernel) rfl
theorem mwi_X7_bring : Cond.instanceMethod yX7_bring ∈ lw_gd := gd_of 1038 (by decide +kernel) rfl
theorem mwv_X7_bring : Cond.selects yX7_bring.cls yX7_bring yX7_bring ∈ lw_gd := gd_sel (q := (yX7_bring, 57)) 19 (by decide +kernel)
theorem mwc_X7_undo : Cond.code yX7_undo kX7_undo.1 (kL kX7_undo) (kR kX7_undo) ∈ lw_gd := gd_of 1031 (by decide +kernel) rfl
theorem mwd_X7_undo : yX7_undo.cls ≠ "java/lang/invoke/MethodHandle" ∧ yX7_undo.cls ≠ "java/lang/invoke/VarHandle" ∧ (parseMethodDescriptor yX7_undo.desc).map (fun d => d.parameters.length) = some 0 := by decide +kernel
theorem mwn_X7_undo : Cond.initialized yX7_undo.cls ∈ lw_gd := gd_of 8 (by decide +kernel) rfl
theorem mwi_X7_undo : Cond.instanceMethod yX7_undo ∈ lw_gd := gd_of 1029 (by decide +kernel) rfl
theorem mwv_X7_undo : Cond.selects yX7_undo.cls yX7_undo yX7_undo ∈ lw_gd := gd_of 1030 (by decide +kernel) rfl
theorem mwc_X6_isImage : Cond.code yX6_isImage kX6_isImage.1 (kL kX6_isImage) (kR kX6_isImage) ∈ lw_gd := gd_of 624 (by decide +kernel) rfl
theorem mwd_X6_isImage : yX6_isImage.cls ≠ "java/lang/invoke/MethodHandle" ∧ yX6_isImage.cls ≠ "java/lang/invoke/VarHandle" ∧ (parseMethodDescriptor yX6_isImage.desc).map (fun d => d.parameters.length) = some 1 := by decide +kernel
theorem mwn_X6_isImage : Cond.initialized yX6_isImage.cls ∈ lw_gd := gd_of 1 (by decide +kernel) rfl
theorem mws_X6_isImage : Cond.static yX6_isImage ∈ lw_gd := gd_of 623 (by decide +kernel) rfl
theorem mwc_X6_storeKnots : Cond.code yX6_storeKnots kX6_storeKnots.1 (kL kX6_storeKnots) (kR kX6_storeKnots) ∈ lw_gd := gd_of 628 (by decide +kernel) rfl
theorem mwd_X6_storeKnots : yX6_storeKnots.cls ≠ "java/lang/invoke/MethodHandle" ∧ yX6_storeKnots.cls ≠ "java/lang/invoke/VarHandle" ∧ (parseMethodDescriptor yX6_storeKnots.desc).map (fun d => d.parameters.length) = some 0 := by decide +kernel
theorem mwn_X6_storeKnots : Cond.initialized yX6_storeKnots.cls ∈ lw_gd := gd_of 1 (by decide +kernel) rfl
theorem mwi_X6_storeKnots : Cond.instanceMethod yX6_storeKnots ∈ lw_gd := gd_of 627 (by decide +kernel) rfl
theorem mwv_X6_storeKnots : Cond.selects yX6_storeKnots.cls yX6_storeKnots yX6_storeKnots ∈ lw_gd := gd_sel (q := (yX6_storeKnots, 16)) 14 (by decide +kernel)
theorem mwc_X6_image : Cond.code yX6_image kX6_image.1 (kL kX6_image) (kR kX6_image) ∈ lw_gd := gd_of 621 (by decide +kernel) rfl
theorem mwd_X6_image : yX6_image.cls ≠ "java/lang/invoke/MethodHandle" ∧ yX6_image.cls ≠ "java/lang/invoke/VarHandle" ∧ (parseMethodDescriptor yX6_image.desc).map (fun d => d.parameters.length) = some 1 := by decide +kernel
theorem mwn_X6_image : Cond.initialized yX6_image.cls ∈ lw_gd := gd_of 1 (by decide +kernel) rfl
theorem mwi_X6_image : Cond.instanceMethod yX6_image ∈ lw_gd := gd_of 619 (by decide +kernel) rfl
theorem mwv_X6_image : Cond.selects yX6_image.cls yX6_image yX6_image ∈ lw_gd := gd_of 620 (by decide +kernel) rfl
theorem mwc_X7_knots : Cond.code yX7_knots kX7_knots.1 (kL kX7_knots) (kR kX7_knots) ∈ lw_gd := gd_of 1058 (by decide +kernel) rfl
theorem mwd_X7_knots : yX7_knots.cls ≠ "java/lang/invoke/MethodHandle" ∧ yX7_knots.cls ≠ "java/lang/invoke/VarHandle" ∧ (parseMethodDescriptor yX7_knots.desc).map (fun d => d.parameters.length) = some 0 := by decide +kernel
theorem mwn_X7_knots : Cond.initialized yX7_knots.cls ∈ lw_gd := gd_of 8 (by decide +kernel) rfl
theorem mwi_X7_knots : Cond.instanceMethod yX7_knots ∈ lw_gd := gd_of 1057 (by decide +kernel) rfl
theorem mwv_X7_knots : Cond.selects yX7_knots.cls yX7_knots yX7_knots ∈ lw_gd := gd_sel (q := (yX7_knots, 57)) 22 (by decide +kernel)
theorem mwc_X7_image : Cond.code yX7_image kX7_image.1 (kL kX7_image) (kR kX7_image) ∈ lw_gd := gd_of 1047 (by decide +kernel) rfl
theorem mwd_X7_image : yX7_image.cls ≠ "java/lang/invoke/MethodHandle" ∧ yX7_image.cls ≠ "java/lang/invoke/VarHandle" ∧ (parseMethodDescriptor yX7_image.desc).map (fun d => d.parameters.length) = some 1 := by decide +kernel
theorem mwn_X7_image : Cond.initialized yX7_image.cls ∈ lw_gd := gd_of 8 (by decide +kernel) rfl
theorem mwi_X7_image : Cond.instanceMethod yX7_image ∈ lw_gd := gd_of 1045 (by decide +kernel) rfl
theorem mwv_X7_image : Cond.selects yX7_image.cls yX7_image yX7_image ∈ lw_gd := gd_of 1046 (by decide +kernel) rfl
theorem mwc_X0_forget : Cond.code yX0_forget kX0_forget.1 (kL kX0_forget) (kR kX0_forget) ∈ lw_gd := gd_of 636 (by decide +kernel) rfl
theorem mwd_X0_forget : yX0_forget.cls ≠ "java/lang/invoke/MethodHandle" ∧ yX0_forget.cls ≠ "java/lang/invoke/VarHandle" ∧ (parseMethodDescriptor yX0_forget.desc).map (fun d => d.parameters.length) = some 0 := by decide +kernel
theorem mwn_X0_forget : Cond.initialized yX0_forget.cls ∈ lw_gd := gd_of 3 (by decide +kernel) rfl
theorem mwi_X0_forget : Cond.instanceMethod yX0_forget ∈ lw_gd := gd_of 634 (by decide +kernel) rfl
theorem mwv_X0_forget : Cond.selects yX0_forget.cls yX0_forget yX0_forget ∈ lw_gd := gd_of 635 (by decide +kernel) rfl
theorem mwc_X6_back : Cond.code yX6_back kX6_back.1 (kL kX6_back) (kR kX6_back) ∈ lw_gd := gd_of 632 (by decide +kernel) rfl
theorem mwd_X6_back : yX6_back.cls ≠ "java/lang/invoke/MethodHandle" ∧ yX6_back.cls ≠ "java/lang/invoke/VarHandle" ∧ (parseMethodDescriptor yX6_back.desc).map (fun d => d.parameters.length) = some 1 := by decide +kernel
theorem mwn_X6_back : Cond.initialized yX6_back.cls ∈ lw_gd := gd_of 1 (by decide +kernel) rfl
theorem mwi_X6_back : Cond.instanceMethod yX6_back ∈ lw_gd := gd_of 630 (by decide +kernel) rfl
theorem mwv_X6_back : Cond.selects yX6_back.cls yX6_back yX6_back ∈ lw_gd := gd_of 631 (by decide +kernel) rfl
theorem mwc_X7_back : Cond.code yX7_back kX7_back.1 (kL kX7_back) (kR kX7_back) ∈ lw_gd := gd_of 1062 (by decide +kernel) rfl
theorem mwd_X7_back : yX7_back.cls ≠ "java/lang/invoke/MethodHandle" ∧ yX7_back.cls ≠ "java/lang/invoke/VarHandle" ∧ (parseMethodDescriptor yX7_back.desc).map (fun d => d.parameters.length) = some 1 := by decide +kernel
theorem mwn_X7_back : Cond.initialized yX7_back.cls ∈ lw_gd := gd_of 8 (by decide +kernel) rfl
theorem mwi_X7_back : Cond.instanceMethod yX7_back ∈ lw_gd := gd_of 1060 (by decide +kernel) rfl
theorem mwv_X7_back : Cond.selects yX7_back.cls yX7_back yX7_back ∈ lw_gd := gd_of 1061 (by decide +kernel) rfl
theorem mwc_X2_assign : Cond.code yX2_assign kX2_assign.1 (kL kX2_assign) (kR kX2_assign) ∈ lw_gd := gd_of 645 (by decide +kernel) rfl
theorem mwd_X2_assign : yX2_assign.cls ≠ "java/lang/invoke/MethodHandle" ∧ yX2_assign.cls ≠ "java/lang/invoke/VarHandle" ∧ (parseMethodDescriptor yX2_assign.desc).map (fun d => d.parameters.length) = some 2 := by decide +kernel
theorem mwn_X2_assign : Cond.initialized yX2_assign.cls ∈ lw_gd := gd_of 6 (by decide +kernel) rfl
theorem mwi_X2_assign : Cond.instanceMethod yX2_assign ∈ lw_gd := gd_of 643 (by decide +kernel) rfl
theorem mwv_X2_assign : Cond.selects yX2_assign.cls yX2_assign yX2_assign ∈ lw_gd := gd_of 644 (by decide +kernel) rfl
theorem mwc_X6_tellPlain : Cond.code yX6_tellPlain kX6_tellPlain.1 (kL kX6_tellPlain) (kR kX6_tellPlain) ∈ lw_gd := gd_of 653 (by decide +kernel) rfl
theorem mwd_X6_tellPlain : yX6_tellPlain.cls ≠ "java/lang/invoke/MethodHandle" ∧ yX6_tellPlain.cls ≠ "java/lang/invoke/VarHandle" ∧ (parseMethodDescriptor yX6_tellPlain.desc).map (fun d => d.parameters.length) = some 2 := by decide +kernel
theorem mwn_X6_tellPlain : Cond.initialized yX6_tellPlain.cls ∈ lw_gd := gd_of 1 (by decide +kernel) rfl
theorem mws_X6_tellPlain : Cond.static yX6_tellPlain ∈ lw_gd := gd_of 652 (by decide +kernel) rfl
theorem mwc_X6_tellNumber : Cond.code yX6_tellNumber kX6_tellNumber.1 (kL kX6_tellNumber) (kR kX6_tellNumber) ∈ lw_gd := gd_of 649 (by decide +kernel) rfl
theorem mwd_X6_tellNumber : yX6_tellNumber.cls ≠ "java/lang/invoke/MethodHandle" ∧ yX6_tellNumber.cls ≠ "java/lang/invoke/VarHandle" ∧ (parseMethodDescriptor yX6_tellNumber.desc).map (fun d => d.parameters.length) = some 2 := by decide +kernel
theorem mwn_X6_tellNumber : Cond.initialized yX6_tellNumber.cls ∈ lw_gd := gd_of 1 (by decide +kernel) rfl
theorem mws_X6_tellNumber : Cond.static yX6_tellNumber ∈ lw_gd := gd_of 648 (by decide +kernel) rfl
theorem mwc_X6_paper : Cond.code yX6_paper kX6_paper.1 (kL kX6_paper) (kR kX6_paper) ∈ lw_gd := gd_of 640 (by decide +kernel) rfl
theorem mwd_X6_paper : yX6_paper.cls ≠ "java/lang/invoke/MethodHandle" ∧ yX6_paper.cls ≠ "java/lang/invoke/VarHandle" ∧ (parseMethodDescriptor yX6_paper.desc).map (fun d => d.parameters.length) = some 2 := by decide +kernel
theorem mwn_X6_paper : Cond.initialized yX6_paper.cls ∈ lw_gd := gd_of 1 (by decide +kernel) rfl
theorem mwi_X6_paper : Cond.instanceMethod yX6_paper ∈ lw_gd := gd_of 638 (by decide +kernel) rfl
theorem mwv_X6_paper : Cond.selects yX6_paper.cls yX6_paper yX6_paper ∈ lw_gd := gd_of 639 (by decide +kernel) rfl
theorem mwc_X7_part : Cond.code yX7_part kX7_part.1 (kL kX7_part) (kR kX7_part) ∈ lw_gd := gd_of 1301 (by decide +kernel) rfl
theorem mwd_X7_part : yX7_part.cls ≠ "java/lang/invoke/MethodHandle" ∧ yX7_part.cls ≠ "java/lang/invoke/VarHandle" ∧ (parseMethodDescriptor yX7_part.desc).map (fun d => d.parameters.length) = some 3 := by decide +kernel
theorem mwn_X7_part : Cond.initialized yX7_part.cls ∈ lw_gd := gd_of 8 (by decide +kernel) rfl
theorem mws_X7_part : Cond.static yX7_part ∈ lw_gd := gd_of 1300 (by decide +kernel) rfl
theorem mwc_X7_paper : Cond.code yX7_paper kX7_paper.1 (kL kX7_paper) (kR kX7_paper) ∈ lw_gd := gd_of 1296 (by decide +kernel) rfl
theorem mwd_X7_paper : yX7_paper.cls ≠ "java/lang/invoke/MethodHandle" ∧ yX7_paper.cls ≠ "java/lang/invoke/VarHandle" ∧ (parseMethodDescriptor yX7_paper.desc).map (fun d => d.parameters.length) = some 2 := by decide +kernel
theorem mwn_X7_paper : Cond.initialized yX7_paper.cls ∈ lw_gd := gd_of 8 (by decide +kernel) rfl
theorem mwi_X7_paper : Cond.instanceMethod yX7_paper ∈ lw_gd := gd_of 1294 (by decide +kernel) rfl
theorem mwv_X7_paper : Cond.selects yX7_paper.cls yX7_paper yX7_paper ∈ lw_gd := gd_of 1295 (by decide +kernel) rfl
theorem mwc_X4_xAt : Cond.code yX4_xAt kX4_xAt.1 (kL kX4_xAt) (kR kX4_xAt) ∈ lw_gd := gd_of 662 (by decide +kernel) rfl
theorem mwd_X4_xAt : yX4_xAt.cls ≠ "java/lang/invoke/MethodHandle" ∧ yX4_xAt.cls ≠ "java/lang/invoke/VarHandle" ∧ (parseMethodDescriptor yX4_xAt.desc).map (fun d => d.parameters.length) = some 1 := by decide +kernel
theorem mwn_X4_xAt : Cond.initialized yX4_xAt.cls ∈ lw_gd := gd_of 2 (by decide +kernel) rfl
theorem mwi_X4_xAt : Cond.instanceMethod yX4_xAt ∈ lw_gd := gd_of 660 (by decide +kernel) rfl
theorem mwv_X4_xAt : Cond.selects yX4_xAt.cls yX4_xAt yX4_xAt ∈ lw_gd := gd_of 661 (by decide +kernel) rfl
theorem mwc_X4_yAt : Cond.code yX4_yAt kX4_yAt.1 (kL kX4_yAt) (kR kX4_yAt) ∈ lw_gd := gd_of 666 (by decide +kernel) rfl
theorem mwd_X4_yAt : yX4_yAt.cls ≠ "java/lang/invoke/MethodHandle" ∧ yX4_yAt.cls ≠ "java/lang/invoke/VarHandle" ∧ (parseMethodDescriptor yX4_yAt.desc).map (fun d => d.parameters.length) = some 1 := by decide +kernel
theorem mwn_X4_yAt : Cond.initialized yX4_yAt.cls ∈ lw_gd := gd_of 2 (by decide +kernel) rfl
theorem mwi_X4_yAt : Cond.instanceMethod yX4_yAt ∈ lw_gd := gd_of 664 (by decide +kernel) rfl
theorem mwv_X4_yAt : Cond.selects yX4_yAt.cls yX4_yAt yX4_yAt ∈ lw_gd := gd_of 665 (by decide +kernel) rfl
theorem mwc_X6_knot : Cond.code yX6_knot kX6_knot.1 (kL kX6_knot) (kR kX6_knot) ∈ lw_gd := gd_of 657 (by decide +kernel) rfl
theorem mwd_X6_knot : yX6_knot.cls ≠ "java/lang/invoke/MethodHandle" ∧ yX6_knot.cls ≠ "java/lang/invoke/VarHandle" ∧ (parseMethodDescriptor yX6_knot.desc).map (fun d => d.parameters.length) = some 3 := by decide +kernel
theorem mwn_X6_knot : Cond.initialized yX6_knot.cls ∈ lw_gd := gd_of 1 (by decide +kernel) rfl
theorem mwi_X6_knot : Cond.instanceMethod yX6_knot ∈ lw_gd := gd_of 655 (by decide +kernel) rfl
theorem mwv_X6_knot : Cond.selects yX6_knot.cls yX6_knot yX6_knot ∈ lw_gd := gd_of 656 (by decide +kernel) rfl
theorem mwc_X7_knot_ : Cond.code yX7_knot_ kX7_knot_.1 (kL kX7_knot_) (kR kX7_knot_) ∈ lw_gd := gd_of 1305 (by decide +kernel) rfl
theorem mwd_X7_knot_ : yX7_knot_.cls ≠ "java/lang/invoke/MethodHandle" ∧ yX7_knot_.cls ≠ "java/lang/invoke/VarHandle" ∧ (parseMethodDescriptor yX7_knot_.desc).map (fun d => d.parameters.length) = some 3 := by decide +kernel
theorem mwn_X7_knot_ : Cond.initialized yX7_knot_.cls ∈ lw_gd := gd_of 8 (by decide +kernel) rfl
theorem mwi_X7_knot_ : Cond.instanceMethod yX7_knot_ ∈ lw_gd := gd_of 1303 (by decide +kernel) rfl
theorem mwv_X7_knot_ : Cond.selects yX7_knot_.cls yX7_knot_ yX7_knot_ ∈ lw_gd := gd_of 1304 (by decide +kernel) rfl
theorem mwc_X6_isUpperOrLower : Cond.code yX6_isUpperOrLower kX6_isUpperOrLower.1 (kL kX6_isUpperOrLower) (kR kX6_isUpperOrLower) ∈ lw_gd := gd_of 673 (by decide +kernel) rfl
theorem mwd_X6_isUpperOrLower : yX6_isUpperOrLower.cls ≠ "java/lang/invoke/MethodHandle" ∧ yX6_isUpperOrLower.cls ≠ "java/lang/invoke/VarHandle" ∧ (parseMethodDescriptor yX6_isUpperOrLower.desc).map (fun d => d.parameters.length) = some 1 := by decide +kernel
theorem mwn_X6_isUpperOrLower : Cond.initialized yX6_isUpperOrLower.cls ∈ lw_gd := gd_of 1 (by decide +kernel) rfl
theorem mws_X6_isUpperOrLower : Cond.static yX6_isUpperOrLower ∈ lw_gd := gd_of 672 (by decide +kernel) rfl
theorem mwc_X2_forget : Cond.code yX2_forget kX2_forget.1 (kL kX2_forget) (kR kX2_forget) ∈ lw_gd := gd_of 681 (by decide +kernel) rfl
theorem mwd_X2_forget : yX2_forget.cls ≠ "java/lang/invoke/MethodHandle" ∧ yX2_forget.cls ≠ "java/lang/invoke/VarHandle" ∧ (parseMethodDescriptor yX2_forget.desc).map (fun d => d.parameters.length) = some 0 := by decide +kernel
theorem mwn_X2_forget : Cond.initialized yX2_forget.cls ∈ lw_gd := gd_of 6 (by decide +kernel) rfl
theorem mwi_X2_forget : Cond.instanceMethod yX2_forget ∈ lw_gd := gd_of 679 (by decide +kernel) rfl
theorem mwv_X2_forget : Cond.selects yX2_forget.cls yX2_forget yX2_forget ∈ lw_gd := gd_of 680 (by decide +kernel) rfl
theorem mwc_X4_alongLine : Cond.code yX4_alongLine kX4_alongLine.1 (kL kX4_alongLine) (kR kX4_alongLine) ∈ lw_gd := gd_of 685 (by decide +kernel) rfl
theorem mwd_X4_alongLine : yX4_alongLine.cls ≠ "java/lang/invoke/MethodHandle" ∧ yX4_alongLine.cls ≠ "java/lang/invoke/VarHandle" ∧ (parseMethodDescriptor yX4_alongLine.desc).map (fun d => d.parameters.length) = some 3 := by decide +kernel
theorem mwn_X4_alongLine : Cond.initialized yX4_alongLine.cls ∈ lw_gd := gd_of 2 (by decide +kernel) rfl
theorem mwi_X4_alongLine : Cond.instanceMethod yX4_alongLine ∈ lw_gd := gd_of 683 (by decide +kernel) rfl
theorem mwv_X4_alongLine : Cond.selects yX4_alongLine.cls yX4_alongLine yX4_alongLine ∈ lw_gd := gd_of 684 (by decide +kernel) rfl
theorem mwc_X4_valueAt : Cond.code yX4_valueAt kX4_valueAt.1 (kL kX4_valueAt) (kR kX4_valueAt) ∈ lw_gd := gd_of 677 (by decide +kernel) rfl
theorem mwd_X4_valueAt : yX4_valueAt.cls ≠ "java/lang/invoke/MethodHandle" ∧ yX4_valueAt.cls ≠ "java/lang/invoke/VarHandle" ∧ (parseMethodDescriptor yX4_valueAt.desc).map (fun d => d.parameters.length) = some 2 := by decide +kernel
theorem mwn_X4_valueAt : Cond.initialized yX4_valueAt.cls ∈ lw_gd := gd_of 2 (by decide +kernel) rfl
theorem mwi_X4_valueAt : Cond.instanceMethod yX4_valueAt ∈ lw_gd := gd_of 675 (by decide +kernel) rfl
theorem mwv_X4_valueAt : Cond.selects yX4_valueAt.cls yX4_valueAt yX4_valueAt ∈ lw_gd := gd_of 676 (by decide +kernel) rfl
theorem mwc_X6_value : Cond.code yX6_value kX6_value.1 (kL kX6_value) (kR kX6_value) ∈ lw_gd := gd_of 670 (by decide +kernel) rfl
theorem mwd_X6_value : yX6_value.cls ≠ "java/lang/invoke/MethodHandle" ∧ yX6_value.cls ≠ "java/lang/invoke/VarHandle" ∧ (parseMethodDescriptor yX6_value.desc).map (fun d => d.parameters.length) = some 3 := by decide +kernel
theorem mwn_X6_value : Cond.initialized yX6_value.cls ∈ lw_gd := gd_of 1 (by decide +kernel) rfl
theorem mwi_X6_value : Cond.instanceMethod yX6_value ∈ lw_gd := gd_of 668 (by decide +kernel) rfl
theorem mwv_X6_value : Cond.selects yX6_value.cls yX6_value yX6_value ∈ lw_gd := gd_of 669 (by decide +kernel) rfl
theorem mwc_X7_hasValue : Cond.code yX7_hasValue kX7_hasValue.1 (kL kX7_hasValue) (kR kX7_hasValue) ∈ lw_gd := gd_of 1315 (by decide +kernel) rfl
theorem mwd_X7_hasValue : yX7_hasValue.cls ≠ "java/lang/invoke/MethodHandle" ∧ yX7_hasValue.cls ≠ "java/lang/invoke/VarHandle" ∧ (parseMethodDescriptor yX7_hasValue.desc).map (fun d => d.parameters.length) = some 2 := by decide +kernel
theorem mwn_X7_hasValue : Cond.initialized yX7_hasValue.cls ∈ lw_gd := gd_of 8 (by decide +kernel) rfl
theorem mwi_X7_hasValue : Cond.instanceMethod yX7_hasValue ∈ lw_gd := gd_of 1314 (by decide +kernel) rfl
theorem mwv_X7_hasValue : Cond.selects yX7_hasValue.cls yX7_hasValue yX7_hasValue ∈ lw_gd := gd_sel (q := (yX7_hasValue, 57)) 58 (by decide +kernel)
theorem mwc_X7_value : Cond.code yX7_value kX7_value.1 (kL kX7_value) (kR kX7_value) ∈ lw_gd := gd_of 1311 (by decide +kernel) rfl
theorem mwd_X7_value : yX7_value.cls ≠ "java/lang/invoke/MethodHandle" ∧ yX7_value.cls ≠ "java/lang/invoke/VarHandle" ∧ (parseMethodDescriptor yX7_value.desc).map (fun d => d.parameters.length) = some 3 := by decide +kernel
theorem mwn_X7_value : Cond.initialized yX7_value.cls ∈ lw_gd := gd_of 8 (by decide +kernel) rfl
theorem mwi_X7_value : Cond.instanceMethod yX7_value ∈ lw_gd := gd_of 1309 (by decide +kernel) rfl
theorem mwv_X7_value : Cond.selects yX7_value.cls yX7_value yX7_value ∈ lw_gd := gd_of 1310 (by decide +kernel) rfl
theorem mwc_X6_bitsOf : Cond.code yX6_bitsOf kX6_bitsOf.1 (kL kX6_bitsOf) (kR kX6_bitsOf) ∈ lw_gd := gd_of 695 (by decide +kernel) rfl
theorem mwd_X6_bitsOf : yX6_bitsOf.cls ≠ "java/lang/invoke/MethodHandle" ∧ yX6_bitsOf.cls ≠ "java/lang/invoke/VarHandle" ∧ (parseMethodDescriptor yX6_bitsOf.desc).map (fun d => d.parameters.length) = some 1 := by decide +kernel
theorem mwn_X6_bitsOf : Cond.initialized yX6_bitsOf.cls ∈ lw_gd := gd_of 1 (by decide +kernel) rfl
theorem mws_X6_bitsOf : Cond.static yX6_bitsOf ∈ lw_gd := gd_of 694 (by decide +kernel) rfl
theorem mwc_X6_bits : Cond.code yX6_bits kX6_bits.1 (kL kX6_bits) (kR kX6_bits) ∈ lw_gd := gd_of 692 (by decide +kernel) rfl
theorem mwd_X6_bits : yX6_bits.cls ≠ "java/lang/invoke/MethodHandle" ∧ yX6_bits.cls ≠ "java/lang/invoke/VarHandle" ∧ (parseMethodDescriptor yX6_bits.desc).map (fun d => d.parameters.length) = some 2 := by decide +kernel
theorem mwn_X6_bits : Cond.initialized yX6_bits.cls ∈ lw_gd := gd_of 1 (by decide +kernel) rfl
theorem mwi_X6_bits : Cond.instanceMethod yX6_bits ∈ lw_gd := gd_of 690 (by decide +kernel) rfl
theorem mwv_X6_bits : Cond.selects yX6_bits.cls yX6_bits yX6_bits ∈ lw_gd := gd_of 691 (by decide +kernel) rfl
theorem mwc_Jxf58ca_isNaN_12338 : Cond.code yJxf58ca_isNaN_12338 kJxf58ca_isNaN_12338.1 (kL kJxf58ca_isNaN_12338) (kR kJxf58ca_isNaN_12338) ∈ lw_gd := gd_of 1325 (by decide +kernel) rfl
theorem mwd_Jxf58ca_isNaN_12338 : yJxf58ca_isNaN_12338.cls ≠ "java/lang/invoke/MethodHandle" ∧ yJxf58ca_isNaN_12338.cls ≠ "java/lang/invoke/VarHandle" ∧ (parseMethodDescriptor yJxf58ca_isNaN_12338.desc).map (fun d => d.parameters.length) = some 1 := by decide +kernel
theorem mwn_Jxf58ca_isNaN_12338 : Cond.initialized yJxf58ca_isNaN_12338.cls ∈ lw_gd := gd_of 14 (by decide +kernel) rfl
theorem mws_Jxf58ca_isNaN_12338 : Cond.static yJxf58ca_isNaN_12338 ∈ lw_gd := gd_of 1324 (by decide +kernel) rfl
theorem mwc_Jxf58ca_floatToIntBits_5c35a : Cond.code yJxf58ca_floatToIntBits_5c35a kJxf58ca_floatToIntBits_5c35a.1 (kL kJxf58ca_floatToIntBits_5c35a) (kR kJxf58ca_floatToIntBits_5c35a) ∈ lw_gd := gd_of 1322 (by decide +kernel) rfl
theorem mwd_Jxf58ca_floatToIntBits_5c35a : yJxf58ca_floatToIntBits_5c35a.cls ≠ "java/lang/invoke/MethodHandle" ∧ yJxf58ca_floatToIntBits_5c35a.cls ≠ "java/lang/invoke/VarHandle" ∧ (parseMethodDescriptor yJxf58ca_floatToIntBits_5c35a.desc).map (fun d => d.parameters.length) = some 1 := by decide +kernel
theorem mwn_Jxf58ca_floatToIntBits_5c35a : Cond.initialized yJxf58ca_floatToIntBits_5c35a.cls ∈ lw_gd := gd_of 14 (by decide +kernel) rfl
theorem mws_Jxf58ca_floatToIntBits_5c35a : Cond.static yJxf58ca_floatToIntBits_5c35a ∈ lw_gd := gd_of 1321 (by decide +kernel) rfl
theorem mwc_X7_bits : Cond.code yX7_bits kX7_bits.1 (kL kX7_bits) (kR kX7_bits) ∈ lw_gd := gd_of 1319 (by decide +kernel) rfl
theorem mwd_X7_bits : yX7_bits.cls ≠ "java/lang/invoke/MethodHandle" ∧ yX7_bits.cls ≠ "java/lang/invoke/VarHandle" ∧ (parseMethodDescriptor yX7_bits.desc).map (fun d => d.parameters.length) = some 2 := by decide +kernel
theorem mwn_X7_bits : Cond.initialized yX7_bits.cls ∈ lw_gd := gd_of 8 (by decide +kernel) rfl
theorem mwi_X7_bits : Cond.instanceMethod yX7_bits ∈ lw_gd := gd_of 1317 (by decide +kernel) rfl
theorem mwv_X7_bits : Cond.selects yX7_bits.cls yX7_bits yX7_bits ∈ lw_gd := gd_of 1318 (by decide +kernel) rfl
theorem mwc_X4_leftEndAt : Cond.code yX4_leftEndAt kX4_leftEndAt.1 (kL kX4_leftEndAt) (kR kX4_leftEndAt) ∈ lw_gd := gd_of 705 (by decide +kernel) rfl
theorem mwd_X4_leftEndAt : yX4_leftEndAt.cls ≠ "java/lang/invoke/MethodHandle" ∧ yX4_leftEndAt.cls ≠ "java/lang/invoke/VarHandle" ∧ (parseMethodDescriptor yX4_leftEndAt.desc).map (fun d => d.parameters.length) = some 2 := by decide +kernel
theorem mwn_X4_leftEndAt : Cond.initialized yX4_leftEndAt.cls ∈ lw_gd := gd_of 2 (by decide +kernel) rfl
theorem mwi_X4_leftEndAt : Cond.instanceMethod yX4_leftEndAt ∈ lw_gd := gd_of 703 (by decide +kernel) rfl
theorem mwv_X4_leftEndAt : Cond.selects yX4_leftEndAt.cls yX4_leftEndAt yX4_leftEndAt ∈ lw_gd := gd_of 704 (by decide +kernel) rfl
theorem mwc_X4_rightBeginAt : Cond.code yX4_rightBeginAt kX4_rightBeginAt.1 (kL kX4_rightBeginAt) (kR kX4_rightBeginAt) ∈ lw_gd := gd_of 709 (by decide +kernel) rfl
theorem mwd_X4_rightBeginAt : yX4_rightBeginAt.cls ≠ "java/lang/invoke/MethodHandle" ∧ yX4_rightBeginAt.cls ≠ "java/lang/invoke/VarHandle" ∧ (parseMethodDescriptor yX4_rightBeginAt.desc).map (fun d => d.parameters.length) = some 2 := by decide +kernel
theorem mwn_X4_rightBeginAt : Cond.initialized yX4_rightBeginAt.cls ∈ lw_gd := gd_of 2 (by decide +kernel) rfl
theorem mwi_X4_rightBeginAt : Cond.instanceMethod yX4_rightBeginAt ∈ lw_gd := gd_of 707 (by decide +kernel) rfl
theorem mwv_X4_rightBeginAt : Cond.selects yX4_rightBeginAt.cls yX4_rightBeginAt yX4_rightBeginAt ∈ lw_gd := gd_of 708 (by decide +kernel) rfl
theorem mwc_X6_limit : Cond.code yX6_limit kX6_limit.1 (kL kX6_limit) (kR kX6_limit) ∈ lw_gd := gd_of 701 (by decide +kernel) rfl
theorem mwd_X6_limit : yX6_limit.cls ≠ "java/lang/invoke/MethodHandle" ∧ yX6_limit.cls ≠ "java/lang/invoke/VarHandle" ∧ (parseMethodDescriptor yX6_limit.desc).map (fun d => d.parameters.length) = some 3 := by decide +kernel
theorem mwn_X6_limit : Cond.initialized yX6_limit.cls ∈ lw_gd := gd_of 1 (by decide +kernel) rfl
theorem mwi_X6_limit : Cond.instanceMethod yX6_limit ∈ lw_gd := gd_of 699 (by decide +kernel) rfl
theorem mwv_X6_limit : Cond.selects yX6_limit.cls yX6_limit yX6_limit ∈ lw_gd := gd_of 700 (by decide +kernel) rfl
theorem mwc_X7_limit : Cond.code yX7_limit kX7_limit.1 (kL kX7_limit) (kR kX7_limit) ∈ lw_gd := gd_of 1333 (by decide +kernel) rfl
theorem mwd_X7_limit : yX7_limit.cls ≠ "java/lang/invoke/MethodHandle" ∧ yX7_limit.cls ≠ "java/lang/invoke/VarHandle" ∧ (parseMethodDescriptor yX7_limit.desc).map (fun d => d.parameters.length) = some 3 := by decide +kernel
theorem mwn_X7_limit : Cond.initialized yX7_limit.cls ∈ lw_gd := gd_of 8 (by decide +kernel) rfl
theorem mwi_X7_limit : Cond.instanceMethod yX7_limit ∈ lw_gd := gd_of 1331 (by decide +kernel) rfl
theorem mwv_X7_limit : Cond.selects yX7_limit.cls yX7_limit yX7_limit ∈ lw_gd := gd_of 1332 (by decide +kernel) rfl
theorem mwc_X4_parts : Cond.code yX4_parts kX4_parts.1 (kL kX4_parts) (kR kX4_parts) ∈ lw_gd := gd_of 717 (by decide +kernel) rfl
theorem mwd_X4_parts : yX4_parts.cls ≠ "java/lang/invoke/MethodHandle" ∧ yX4_parts.cls ≠ "java/lang/invoke/VarHandle" ∧ (parseMethodDescriptor yX4_parts.desc).map (fun d => d.parameters.length) = some 0 := by decide +kernel
theorem mwn_X4_parts : Cond.initialized yX4_parts.cls ∈ lw_gd := gd_of 2 (by decide +kernel) rfl
theorem mwi_X4_parts : Cond.instanceMethod yX4_parts ∈ lw_gd := gd_of 715 (by decide +kernel) rfl
theorem mwv_X4_parts : Cond.selects yX4_parts.cls yX4_parts yX4_parts ∈ lw_gd := gd_of 716 (by decide +kernel) rfl
theorem mwc_X4_jumps : Cond.code yX4_jumps kX4_jumps.1 (kL kX4_jumps) (kR kX4_jumps) ∈ lw_gd := gd_of 721 (by decide +kernel) rfl
theorem mwd_X4_jumps : yX4_jumps.cls ≠ "java/lang/invoke/MethodHandle" ∧ yX4_jumps.cls ≠ "java/lang/invoke/VarHandle" ∧ (parseMethodDescriptor yX4_jumps.desc).map (fun d => d.parameters.length) = some 0 := by decide +kernel
theorem mwn_X4_jumps : Cond.initialized yX4_jumps.cls ∈ lw_gd := gd_of 2 (by decide +kernel) rfl
theorem mwi_X4_jumps : Cond.instanceMethod yX4_jumps ∈ lw_gd := gd_of 719 (by decide +kernel) rfl
theorem mwv_X4_jumps : Cond.selects yX4_jumps.cls yX4_jumps yX4_jumps ∈ lw_gd := gd_of 720 (by decide +kernel) rfl
theorem mwc_X4_slopeFalls : Cond.code yX4_slopeFalls kX4_slopeFalls.1 (kL kX4_slopeFalls) (kR kX4_slopeFalls) ∈ lw_gd := gd_of 725 (by decide +kernel) rfl
theorem mwd_X4_slopeFalls : yX4_slopeFalls.cls ≠ "java/lang/invoke/MethodHandle" ∧ yX4_slopeFalls.cls ≠ "java/lang/invoke/VarHandle" ∧ (parseMethodDescriptor yX4_slopeFalls.desc).map (fun d => d.parameters.length) = some 0 := by decide +kernel
theorem mwn_X4_slopeFalls : Cond.initialized yX4_slopeFalls.cls ∈ lw_gd := gd_of 2 (by decide +kernel) rfl
theorem mwi_X4_slopeFalls : Cond.instanceMethod yX4_slopeFalls ∈ lw_gd := gd_of 723 (by decide +kernel) rfl
theorem mwv_X4_slopeFalls : Cond.selects yX4_slopeFalls.cls yX4_slopeFalls yX4_slopeFalls ∈ lw_gd := gd_of 724 (by decide +kernel) rfl
theorem mwc_X4_width : Cond.code yX4_width kX4_width.1 (kL kX4_width) (kR kX4_width) ∈ lw_gd := gd_of 729 (by decide +kernel) rfl
theorem mwd_X4_width : yX4_width.cls ≠ "java/lang/invoke/MethodHandle" ∧ yX4_width.cls ≠ "java/lang/invoke/VarHandle" ∧ (parseMethodDescriptor yX4_width.desc).map (fun d => d.parameters.length) = some 0 := by decide +kernel
theorem mwn_X4_width : Cond.initialized yX4_width.cls ∈ lw_gd := gd_of 2 (by decide +kernel) rfl
theorem mwi_X4_width : Cond.instanceMethod yX4_width ∈ lw_gd := gd_of 727 (by decide +kernel) rfl
theorem mwv_X4_width : Cond.selects yX4_width.cls yX4_width yX4_width ∈ lw_gd := gd_of 728 (by decide +kernel) rfl
theorem mwc_X6_of : Cond.code yX6_of kX6_of.1 (kL kX6_of) (kR kX6_of) ∈ lw_gd := gd_of 713 (by decide +kernel) rfl
theorem mwd_X6_of : yX6_of.cls ≠ "java/lang/invoke/MethodHandle" ∧ yX6_of.cls ≠ "java/lang/invoke/VarHandle" ∧ (parseMethodDescriptor yX6_of.desc).map (fun d => d.parameters.length) = some 2 := by decide +kernel
theorem mwn_X6_of : Cond.initialized yX6_of.cls ∈ lw_gd := gd_of 1 (by decide +kernel) rfl
theorem mwi_X6_of : Cond.instanceMethod yX6_of ∈ lw_gd := gd_of 711 (by decide +kernel) rfl
theorem mwv_X6_of : Cond.selects yX6_of.cls yX6_of yX6_of ∈ lw_gd := gd_of 712 (by decide +kernel) rfl
theorem mwc_X7_linesIn : Cond.code yX7_linesIn kX7_linesIn.1 (kL kX7_linesIn) (kR kX7_linesIn) ∈ lw_gd := gd_of 1342 (by decide +kernel) rfl
theorem mwd_X7_linesIn : yX7_linesIn.cls ≠ "java/lang/invoke/MethodHandle" ∧ yX7_linesIn.cls ≠ "java/lang/invoke/VarHandle" ∧ (parseMethodDescriptor yX7_linesIn.desc).map (fun d => d.parameters.length) = some 1 := by decide +kernel
theorem mwn_X7_linesIn : Cond.initialized yX7_linesIn.cls ∈ lw_gd := gd_of 8 (by decide +kernel) rfl
theorem mwi_X7_linesIn : Cond.instanceMethod yX7_linesIn ∈ lw_gd := gd_of 1341 (by decide +kernel) rfl
theorem mwv_X7_linesIn : Cond.selects yX7_linesIn.cls yX7_linesIn yX7_linesIn ∈ lw_gd := gd_sel (q := (yX7_linesIn, 57)) 59 (by decide +kernel)
theorem mwc_X7_jumps : Cond.code yX7_jumps kX7_jumps.1 (kL kX7_jumps) (kR kX7_jumps) ∈ lw_gd := gd_of 1346 (by decide +kernel) rfl
theorem mwd_X7_jumps : yX7_jumps.cls ≠ "java/lang/invoke/MethodHandle" ∧ yX7_jumps.cls ≠ "java/lang/invoke/VarHandle" ∧ (parseMethodDescriptor yX7_jumps.desc).map (fun d => d.parameters.length) = some 1 := by decide +kernel
theorem mwn_X7_jumps : Cond.initialized yX7_jumps.cls ∈ lw_gd := gd_of 8 (by decide +kernel) rfl
theorem mwi_X7_jumps : Cond.instanceMethod yX7_jumps ∈ lw_gd := gd_of 1345 (by decide +kernel) rfl
theorem mwv_X7_jumps : Cond.selects yX7_jumps.cls yX7_jumps yX7_jumps ∈ lw_gd := gd_sel (q := (yX7_jumps, 57)) 60 (by decide +kernel)
theorem mwc_X7_falls : Cond.code yX7_falls kX7_falls.1 (kL kX7_falls) (kR kX7_falls) ∈ lw_gd := gd_of 1350 (by decide +kernel) rfl
theorem mwd_X7_falls : yX7_falls.cls ≠ "java/lang/invoke/MethodHandle" ∧ yX7_falls.cls ≠ "java/lang/invoke/VarHandle" ∧ (parseMethodDescriptor yX7_falls.desc).map (fun d => d.parameters.length) = some 2 := by decide +kernel
theorem mwn_X7_falls : Cond.initialized yX7_falls.cls ∈ lw_gd := gd_of 8 (by decide +kernel) rfl
theorem mwi_X7_falls : Cond.instanceMethod yX7_falls ∈ lw_gd := gd_of 1349 (by decide +kernel) rfl
theorem mwv_X7_falls : Cond.selects yX7_falls.cls yX7_falls yX7_falls ∈ lw_gd := gd_sel (q := (yX7_falls, 57)) 61 (by decide +kernel)
theorem mwc_X7_wide : Cond.code yX7_wide kX7_wide.1 (kL kX7_wide) (kR kX7_wide) ∈ lw_gd := gd_of 1354 (by decide +kernel) rfl
theorem mwd_X7_wide : yX7_wide.cls ≠ "java/lang/invoke/MethodHandle" ∧ yX7_wide.cls ≠ "java/lang/invoke/VarHandle" ∧ (parseMethodDescriptor yX7_wide.desc).map (fun d => d.parameters.length) = some 1 := by decide +kernel
theorem mwn_X7_wide : Cond.initialized yX7_wide.cls ∈ lw_gd := gd_of 8 (by decide +kernel) rfl
theorem mwi_X7_wide : Cond.instanceMethod yX7_wide ∈ lw_gd := gd_of 1353 (by decide +kernel) rfl
theorem mwv_X7_wide : Cond.selects yX7_wide.cls yX7_wide yX7_wide ∈ lw_gd := gd_sel (q := (yX7_wide, 57)) 62 (by decide +kernel)
theorem mwc_X7_of : Cond.code yX7_of kX7_of.1 (kL kX7_of) (kR kX7_of) ∈ lw_gd := gd_of 1338 (by decide +kernel) rfl
theorem mwd_X7_of : yX7_of.cls ≠ "java/lang/invoke/MethodHandle" ∧ yX7_of.cls ≠ "java/lang/invoke/VarHandle" ∧ (parseMethodDescriptor yX7_of.desc).map (fun d => d.parameters.length) = some 2 := by decide +kernel
theorem mwn_X7_of : Cond.initialized yX7_of.cls ∈ lw_gd := gd_of 8 (by decide +kernel) rfl
theorem mwi_X7_of : Cond.instanceMethod yX7_of ∈ lw_gd := gd_of 1336 (by decide +kernel) rfl
theorem mwv_X7_of : Cond.selects yX7_of.cls yX7_of yX7_of ∈ lw_gd := gd_of 1337 (by decide +kernel) rfl
theorem mwc_X4_firstLowest : Cond.code yX4_firstLowest kX4_firstLowest.1 (kL kX4_firstLowest) (kR kX4_firstLowest) ∈ lw_gd := gd_of 737 (by decide +kernel) rfl
theorem mwd_X4_firstLowest : yX4_firstLowest.cls ≠ "java/lang/invoke/MethodHandle" ∧ yX4_firstLowest.cls ≠ "java/lang/invoke/VarHandle" ∧ (parseMethodDescriptor yX4_firstLowest.desc).map (fun d => d.parameters.length) = some 0 := by decide +kernel
theorem mwn_X4_firstLowest : Cond.initialized yX4_firstLowest.cls ∈ lw_gd := gd_of 2 (by decide +kernel) rfl
theorem mwi_X4_firstLowest : Cond.instanceMethod yX4_firstLowest ∈ lw_gd := gd_of 735 (by decide +kernel) rfl
theorem mwv_X4_firstLowest : Cond.selects yX4_firstLowest.cls yX4_firstLowest yX4_firstLowest ∈ lw_gd := gd_of 736 (by decide +kernel) rfl
theorem mwc_X4_lastLowest : Cond.code yX4_lastLowest kX4_lastLowest.1 (kL kX4_lastLowest) (kR kX4_lastLowest) ∈ lw_gd := gd_of 741 (by decide +kernel) rfl
theorem mwd_X4_lastLowest : yX4_lastLowest.cls ≠ "java/lang/invoke/MethodHandle" ∧ yX4_lastLowest.cls ≠ "java/lang/invoke/VarHandle" ∧ (parseMethodDescriptor yX4_lastLowest.desc).map (fun d => d.parameters.length) = some 0 := by decide +kernel
theorem mwn_X4_lastLowest : Cond.initialized yX4_lastLowest.cls ∈ lw_gd := gd_of 2 (by decide +kernel) rfl
theorem mwi_X4_lastLowest : Cond.instanceMethod yX4_lastLowest ∈ lw_gd := gd_of 739 (by decide +kernel) rfl
theorem mwv_X4_lastLowest : Cond.selects yX4_lastLowest.cls yX4_lastLowest yX4_lastLowest ∈ lw_gd := gd_of 740 (by decide +kernel) rfl
theorem mwc_J9_max_f86c9 : Cond.code yJ9_max_f86c9 kJ9_max_f86c9.1 (kL kJ9_max_f86c9) (kR kJ9_max_f86c9) ∈ lw_gd := gd_of 748 (by decide +kernel) rfl
theorem mwd_J9_max_f86c9 : yJ9_max_f86c9.cls ≠ "java/lang/invoke/MethodHandle" ∧ yJ9_max_f86c9.cls ≠ "java/lang/invoke/VarHandle" ∧ (parseMethodDescriptor yJ9_max_f86c9.desc).map (fun d => d.parameters.length) = some 2 := by decide +kernel
theorem mwn_J9_max_f86c9 : Cond.initialized yJ9_max_f86c9.cls ∈ lw_gd := gd_of 9 (by decide +kernel) rfl
theorem mws_J9_max_f86c9 : Cond.static yJ9_max_f86c9 ∈ lw_gd := gd_of 747 (by decide +kernel) rfl
theorem mwc_X4_highest : Cond.code yX4_highest kX4_highest.1 (kL kX4_highest) (kR kX4_highest) ∈ lw_gd := gd_of 745 (by decide +kernel) rfl
theorem mwd_X4_highest : yX4_highest.cls ≠ "java/lang/invoke/MethodHandle" ∧ yX4_highest.cls ≠ "java/lang/invoke/VarHandle" ∧ (parseMethodDescriptor yX4_highest.desc).map (fun d => d.parameters.length) = some 0 := by decide +kernel
theorem mwn_X4_highest : Cond.initialized yX4_highest.cls ∈ lw_gd := gd_of 2 (by decide +kernel) rfl
theorem mwi_X4_highest : Cond.instanceMethod yX4_highest ∈ lw_gd := gd_of 743 (by decide +kernel) rfl
theorem mwv_X4_highest : Cond.selects yX4_highest.cls yX4_highest yX4_highest ∈ lw_gd := gd_of 744 (by decide +kernel) rfl
theorem mwc_X6_least : Cond.code yX6_least kX6_least.1 (kL kX6_least) (kR kX6_least) ∈ lw_gd := gd_of 733 (by decide +kernel) rfl
theorem mwd_X6_least : yX6_least.cls ≠ "java/lang/invoke/MethodHandle" ∧ yX6_least.cls ≠ "java/lang/invoke/VarHandle" ∧ (parseMethodDescriptor yX6_least.desc).map (fun d => d.parameters.length) = some 2 := by decide +kernel
theorem mwn_X6_least : Cond.initialized yX6_least.cls ∈ lw_gd := gd_of 1 (by decide +kernel) rfl
theorem mwi_X6_least : Cond.instanceMethod yX6_least ∈ lw_gd := gd_of 731 (by decide +kernel) rfl
theorem mwv_X6_least : Cond.selects yX6_least.cls yX6_least yX6_least ∈ lw_gd := gd_of 732 (by decide +kernel) rfl
theorem mwc_X7_least : Cond.code yX7_least kX7_least.1 (kL kX7_least) (kR kX7_least) ∈ lw_gd := gd_of 1358 (by decide +kernel) rfl
theorem mwd_X7_least : yX7_least.cls ≠ "java/lang/invoke/MethodHandle" ∧ yX7_least.cls ≠ "java/lang/invoke/VarHandle" ∧ (parseMethodDescriptor yX7_least.desc).map (fun d => d.parameters.length) = some 2 := by decide +kernel
theorem mwn_X7_least : Cond.initialized yX7_least.cls ∈ lw_gd := gd_of 8 (by decide +kernel) rfl
theorem mwi_X7_least : Cond.instanceMethod yX7_least ∈ lw_gd := gd_of 1356 (by decide +kernel) rfl
theorem mwv_X7_least : Cond.selects yX7_least.cls yX7_least yX7_least ∈ lw_gd := gd_of 1357 (by decide +kernel) rfl
theorem mwc_X4_knotOfLine : Cond.code yX4_knotOfLine kX4_knotOfLine.1 (kL kX4_knotOfLine) (kR kX4_knotOfLine) ∈ lw_gd := gd_of 756 (by decide +kernel) rfl
theorem mwd_X4_knotOfLine : yX4_knotOfLine.cls ≠ "java/lang/invoke/MethodHandle" ∧ yX4_knotOfLine.cls ≠ "java/lang/invoke/VarHandle" ∧ (parseMethodDescriptor yX4_knotOfLine.desc).map (fun d => d.parameters.length) = some 1 := by decide +kernel
theorem mwn_X4_knotOfLine : Cond.initialized yX4_knotOfLine.cls ∈ lw_gd := gd_of 2 (by decide +kernel) rfl
theorem mwi_X4_knotOfLine : Cond.instanceMethod yX4_knotOfLine ∈ lw_gd := gd_of 754 (by decide +kernel) rfl
theorem mwv_X4_knotOfLine : Cond.selects yX4_knotOfLine.cls yX4_knotOfLine yX4_knotOfLine ∈ lw_gd := gd_of 755 (by decide +kernel) rfl
theorem mwc_X6_slope : Cond.code yX6_slope kX6_slope.1 (kL kX6_slope) (kR kX6_slope) ∈ lw_gd := gd_of 752 (by decide +kernel) rfl
theorem mwd_X6_slope : yX6_slope.cls ≠ "java/lang/invoke/MethodHandle" ∧ yX6_slope.cls ≠ "java/lang/invoke/VarHandle" ∧ (parseMethodDescriptor yX6_slope.desc).map (fun d => d.parameters.length) = some 3 := by decide +kernel
theorem mwn_X6_slope : Cond.initialized yX6_slope.cls ∈ lw_gd := gd_of 1 (by decide +kernel) rfl
theorem mwi_X6_slope : Cond.instanceMethod yX6_slope ∈ lw_gd := gd_of 750 (by decide +kernel) rfl
theorem mwv_X6_slope : Cond.selects yX6_slope.cls yX6_slope yX6_slope ∈ lw_gd := gd_of 751 (by decide +kernel) rfl
theorem mwc_X7_slope : Cond.code yX7_slope kX7_slope.1 (kL kX7_slope) (kR kX7_slope) ∈ lw_gd := gd_of 1362 (by decide +kernel) rfl
theorem mwd_X7_slope : yX7_slope.cls ≠ "java/lang/invoke/MethodHandle" ∧ yX7_slope.cls ≠ "java/lang/invoke/VarHandle" ∧ (parseMethodDescriptor yX7_slope.desc).map (fun d => d.parameters.length) = some 3 := by decide +kernel
theorem mwn_X7_slope : Cond.initialized yX7_slope.cls ∈ lw_gd := gd_of 8 (by decide +kernel) rfl
theorem mwi_X7_slope : Cond.instanceMethod yX7_slope ∈ lw_gd := gd_of 1360 (by decide +kernel) rfl
theorem mwv_X7_slope : Cond.selects yX7_slope.cls yX7_slope yX7_slope ∈ lw_gd := gd_of 1361 (by decide +kernel) rfl
theorem mwc_X4_twiceArea : Cond.code yX4_twiceArea kX4_twiceArea.1 (kL kX4_twiceArea) (kR kX4_twiceArea) ∈ lw_gd := gd_of 766 (by decide +kernel) rfl
theorem mwd_X4_twiceArea : yX4_twiceArea.cls ≠ "java/lang/invoke/MethodHandle" ∧ yX4_twiceArea.cls ≠ "java/lang/invoke/VarHandle" ∧ (parseMethodDescriptor yX4_twiceArea.desc).map (fun d => d.parameters.length) = some 0 := by decide +kernel
theorem mwn_X4_twiceArea : Cond.initialized yX4_twiceArea.cls ∈ lw_gd := gd_of 2 (by decide +kernel) rfl
theorem mwi_X4_twiceArea : Cond.instanceMethod yX4_twiceArea ∈ lw_gd := gd_of 764 (by decide +kernel) rfl
theorem mwv_X4_twiceArea : Cond.selects yX4_twiceArea.cls yX4_twiceArea yX4_twiceArea ∈ lw_gd := gd_of 765 (by decide +kernel) rfl
theorem mwc_X6_area : Cond.code yX6_area kX6_area.1 (kL kX6_area) (kR kX6_area) ∈ lw_gd := gd_of 762 (by decide +kernel) rfl
theorem mwd_X6_area : yX6_area.cls ≠ "java/lang/invoke/MethodHandle" ∧ yX6_area.cls ≠ "java/lang/invoke/VarHandle" ∧ (parseMethodDescriptor yX6_area.desc).map (fun d => d.parameters.length) = some 2 := by decide +kernel
theorem mwn_X6_area : Cond.initialized yX6_area.cls ∈ lw_gd := gd_of 1 (by decide +kernel) rfl
theorem mwi_X6_area : Cond.instanceMethod yX6_area ∈ lw_gd := gd_of 760 (by decide +kernel) rfl
theorem mwv_X6_area : Cond.selects yX6_area.cls yX6_area yX6_area ∈ lw_gd := gd_of 761 (by decide +kernel) rfl
theorem mwc_X7_area : Cond.code yX7_area kX7_area.1 (kL kX7_area) (kR kX7_area) ∈ lw_gd := gd_of 1366 (by decide +kernel) rfl
theorem mwd_X7_area : yX7_area.cls ≠ "java/lang/invoke/MethodHandle" ∧ yX7_area.cls ≠ "java/lang/invoke/VarHandle" ∧ (parseMethodDescriptor yX7_area.desc).map (fun d => d.parameters.length) = some 2 := by decide +kernel
theorem mwn_X7_area : Cond.initialized yX7_area.cls ∈ lw_gd := gd_of 8 (by decide +kernel) rfl
theorem mwi_X7_area : Cond.instanceMethod yX7_area ∈ lw_gd := gd_of 1364 (by decide +kernel) rfl
theorem mwv_X7_area : Cond.selects yX7_area.cls yX7_area yX7_area ∈ lw_gd := gd_of 1365 (by decide +kernel) rfl
theorem mwc_J9_min_f86c9 : Cond.code yJ9_min_f86c9 kJ9_min_f86c9.1 (kL kJ9_min_f86c9) (kR kJ9_min_f86c9) ∈ lw_gd := gd_of 783 (by decide +kernel) rfl
theorem mwd_J9_min_f86c9 : yJ9_min_f86c9.cls ≠ "java/lang/invoke/MethodHandle" ∧ yJ9_min_f86c9.cls ≠ "java/lang/invoke/VarHandle" ∧ (parseMethodDescriptor yJ9_min_f86c9.desc).map (fun d => d.parameters.length) = some 2 := by decide +kernel
theorem mwn_J9_min_f86c9 : Cond.initialized yJ9_min_f86c9.cls ∈ lw_gd := gd_of 9 (by decide +kernel) rfl
theorem mws_J9_min_f86c9 : Cond.static yJ9_min_f86c9 ∈ lw_gd := gd_of 782 (by decide +kernel) rfl
theorem mwc_X4_isStrictlyBetween : Cond.code yX4_isStrictlyBetween kX4_isStrictlyBetween.1 (kL kX4_isStrictlyBetween) (kR kX4_isStrictlyBetween) ∈ lw_gd := gd_of 780 (by decide +kernel) rfl
theorem mwd_X4_isStrictlyBetween : yX4_isStrictlyBetween.cls ≠ "java/lang/invoke/MethodHandle" ∧ yX4_isStrictlyBetween.cls ≠ "java/lang/invoke/VarHandle" ∧ (parseMethodDescriptor yX4_isStrictlyBetween.desc).map (fun d => d.parameters.length) = some 3 := by decide +kernel
theorem mwn_X4_isStrictlyBetween : Cond.initialized yX4_isStrictlyBetween.cls ∈ lw_gd := gd_of 2 (by decide +kernel) rfl
theorem mws_X4_isStrictlyBetween : Cond.static yX4_isStrictlyBetween ∈ lw_gd := gd_of 779 (by decide +kernel) rfl
theorem mwc_X4_firstWith : Cond.code yX4_firstWith kX4_firstWith.1 (kL kX4_firstWith) (kR kX4_firstWith) ∈ lw_gd := gd_of 775 (by decide +kernel) rfl
theorem mwd_X4_firstWith : yX4_firstWith.cls ≠ "java/lang/invoke/MethodHandle" ∧ yX4_firstWith.cls ≠ "java/lang/invoke/VarHandle" ∧ (parseMethodDescriptor yX4_firstWith.desc).map (fun d => d.parameters.length) = some 2 := by decide +kernel
theorem mwn_X4_firstWith : Cond.initialized yX4_firstWith.cls ∈ lw_gd := gd_of 2 (by decide +kernel) rfl
theorem mwi_X4_firstWith : Cond.instanceMethod yX4_firstWith ∈ lw_gd := gd_of 773 (by decide +kernel) rfl
theorem mwv_X4_firstWith : Cond.selects yX4_firstWith.cls yX4_firstWith yX4_firstWith ∈ lw_gd := gd_of 774 (by decide +kernel) rfl
theorem mwc_X6_where : Cond.code yX6_where kX6_where.1 (kL kX6_where) (kR kX6_where) ∈ lw_gd := gd_of 771 (by decide +kernel) rfl
theorem mwd_X6_where : yX6_where.cls ≠ "java/lang/invoke/MethodHandle" ∧ yX6_where.cls ≠ "java/lang/invoke/VarHandle" ∧ (parseMethodDescriptor yX6_where.desc).map (fun d => d.parameters.length) = some 3 := by decide +kernel
theorem mwn_X6_where : Cond.initialized yX6_where.cls ∈ lw_gd := gd_of 1 (by decide +kernel) rfl
theorem mwi_X6_where : Cond.instanceMethod yX6_where ∈ lw_gd := gd_of 769 (by decide +kernel) rfl
theorem mwv_X6_where : Cond.selects yX6_where.cls yX6_where yX6_where ∈ lw_gd := gd_of 770 (by decide +kernel) rfl
theorem mwc_X7_meets : Cond.code yX7_meets kX7_meets.1 (kL kX7_meets) (kR kX7_meets) ∈ lw_gd := gd_of 1375 (by decide +kernel) rfl
theorem mwd_X7_meets : yX7_meets.cls ≠ "java/lang/invoke/MethodHandle" ∧ yX7_meets.cls ≠ "java/lang/invoke/VarHandle" ∧ (parseMethodDescriptor yX7_meets.desc).map (fun d => d.parameters.length) = some 3 := by decide +kernel
theorem mwn_X7_meets : Cond.initialized yX7_meets.cls ∈ lw_gd := gd_of 8 (by decide +kernel) rfl
theorem mwi_X7_meets : Cond.instanceMethod yX7_meets ∈ lw_gd := gd_of 1374 (by decide +kernel) rfl
theorem mwv_X7_meets : Cond.selects yX7_meets.cls yX7_meets yX7_meets ∈ lw_gd := gd_sel (q := (yX7_meets, 57)) 63 (by decide +kernel)
theorem mwc_X7_where : Cond.code yX7_where kX7_where.1 (kL kX7_where) (kR kX7_where) ∈ lw_gd := gd_of 1371 (by decide +kernel) rfl
theorem mwd_X7_where : yX7_where.cls ≠ "java/lang/invoke/MethodHandle" ∧ yX7_where.cls ≠ "java/lang/invoke/VarHandle" ∧ (parseMethodDescriptor yX7_where.desc).map (fun d => d.parameters.length) = some 3 := by decide +kernel
theorem mwn_X7_where : Cond.initialized yX7_where.cls ∈ lw_gd := gd_of 8 (by decide +kernel) rfl
theorem mwi_X7_where : Cond.instanceMethod yX7_where ∈ lw_gd := gd_of 1369 (by decide +kernel) rfl
theorem mwv_X7_where : Cond.selects yX7_where.cls yX7_where yX7_where ∈ lw_gd := gd_of 1370 (by decide +kernel) rfl
theorem mwc_X4_placesWithin : Cond.code yX4_placesWithin kX4_placesWithin.1 (kL kX4_placesWithin) (kR kX4_placesWithin) ∈ lw_gd := gd_of 791 (by decide +kernel) rfl
theorem mwd_X4_placesWithin : yX4_placesWithin.cls ≠ "java/lang/invoke/MethodHandle" ∧ yX4_placesWithin.cls ≠ "java/lang/invoke/VarHandle" ∧ (parseMethodDescriptor yX4_placesWithin.desc).map (fun d => d.parameters.length) = some 2 := by decide +kernel
theorem mwn_X4_placesWithin : Cond.initialized yX4_placesWithin.cls ∈ lw_gd := gd_of 2 (by decide +kernel) rfl
theorem mwi_X4_placesWithin : Cond.instanceMethod yX4_placesWithin ∈ lw_gd := gd_of 789 (by decide +kernel) rfl
theorem mwv_X4_placesWithin : Cond.selects yX4_placesWithin.cls yX4_placesWithin yX4_placesWithin ∈ lw_gd := gd_of 790 (by decide +kernel) rfl
theorem mwc_X6_places : Cond.code yX6_places kX6_places.1 (kL kX6_places) (kR kX6_places) ∈ lw_gd := gd_of 787 (by decide +kernel) rfl
theorem mwd_X6_places : yX6_places.cls ≠ "java/lang/invoke/MethodHandle" ∧ yX6_places.cls ≠ "java/lang/invoke/VarHandle" ∧ (parseMethodDescriptor yX6_places.desc).map (fun d => d.parameters.length) = some 3 := by decide +kernel
theorem mwn_X6_places : Cond.initialized yX6_places.cls ∈ lw_gd := gd_of 1 (by decide +kernel) rfl
theorem mwi_X6_places : Cond.instanceMethod yX6_places ∈ lw_gd := gd_of 785 (by decide +kernel) rfl
theorem mwv_X6_places : Cond.selects yX6_places.cls yX6_places yX6_places ∈ lw_gd := gd_of 786 (by decide +kernel) rfl
theorem mwc_X7_places : Cond.code yX7_places kX7_places.1 (kL kX7_places) (kR kX7_places) ∈ lw_gd := gd_of 1379 (by decide +kernel) rfl
theorem mwd_X7_places : yX7_places.cls ≠ "java/lang/invoke/MethodHandle" ∧ yX7_places.cls ≠ "java/lang/invoke/VarHandle" ∧ (parseMethodDescriptor yX7_places.desc).map (fun d => d.parameters.length) = some 3 := by decide +kernel
theorem mwn_X7_places : Cond.initialized yX7_places.cls ∈ lw_gd := gd_of 8 (by decide +kernel) rfl
theorem mwi_X7_places : Cond.instanceMethod yX7_places ∈ lw_gd := gd_of 1377 (by decide +kernel) rfl
theorem mwv_X7_places : Cond.selects yX7_places.cls yX7_places yX7_places ∈ lw_gd := gd_of 1378 (by decide +kernel) rfl
theorem mwc_X2_add : Cond.code yX2_add kX2_add.1 (kL kX2_add) (kR kX2_add) ∈ lw_gd := gd_of 809 (by decide +kernel) rfl
theorem mwd_X2_add : yX2_add.cls ≠ "java/lang/invoke/MethodHandle" ∧ yX2_add.cls ≠ "java/lang/invoke/VarHandle" ∧ (parseMethodDescriptor yX2_add.desc).map (fun d => d.parameters.length) = some 1 := by decide +kernel
theorem mwn_X2_add : Cond.initialized yX2_add.cls ∈ lw_gd := gd_of 6 (by decide +kernel) rfl
theorem mwi_X2_add : Cond.instanceMethod yX2_add ∈ lw_gd := gd_of 807 (by decide +kernel) rfl
theorem mwv_X2_add : Cond.selects yX2_add.cls yX2_add yX2_add ∈ lw_gd := gd_of 808 (by decide +kernel) rfl
theorem mwc_X2_orderTo : Cond.code yX2_orderTo kX2_orderTo.1 (kL kX2_orderTo) (kR kX2_orderTo) ∈ lw_gd := gd_of 814 (by decide +kernel) rfl
theorem mwd_X2_orderTo : yX2_orderTo.cls ≠ "java/lang/invoke/MethodHandle" ∧ yX2_orderTo.cls ≠ "java/lang/invoke/VarHandle" ∧ (parseMethodDescriptor yX2_orderTo.desc).map (fun d => d.parameters.length) = some 1 := by decide +kernel
theorem mwn_X2_orderTo : Cond.initialized yX2_orderTo.cls ∈ lw_gd := gd_of 6 (by decide +kernel) rfl
theorem mwi_X2_orderTo : Cond.instanceMethod yX2_orderTo ∈ lw_gd := gd_of 812 (by decide +kernel) rfl
theorem mwv_X2_orderTo : Cond.selects yX2_orderTo.cls yX2_orderTo yX2_orderTo ∈ lw_gd := gd_of 813 (by decide +kernel) rfl
theorem mwc_X6_trySplit : Cond.code yX6_trySplit kX6_trySplit.1 (kL kX6_trySplit) (kR kX6_trySplit) ∈ lw_gd := gd_of 805 (by decide +kernel) rfl
theorem mwd_X6_trySplit : yX6_trySplit.cls ≠ "java/lang/invoke/MethodHandle" ∧ yX6_trySplit.cls ≠ "java/lang/invoke/VarHandle" ∧ (parseMethodDescriptor yX6_trySplit.desc).map (fun d => d.parameters.length) = some 4 := by decide +kernel
theorem mwn_X6_trySplit : Cond.initialized yX6_trySplit.cls ∈ lw_gd := gd_of 1 (by decide +kernel) rfl
theorem mwi_X6_trySplit : Cond.instanceMethod yX6_trySplit ∈ lw_gd := gd_of 804 (by decide +kernel) rfl
theorem mwv_X6_trySplit : Cond.selects yX6_trySplit.cls yX6_trySplit yX6_trySplit ∈ lw_gd := gd_sel (q := (yX6_trySplit, 16)) 16 (by decide +kernel)
theorem mwc_X6_findSplit : Cond.code yX6_findSplit kX6_findSplit.1 (kL kX6_findSplit) (kR kX6_findSplit) ∈ lw_gd := gd_of 800 (by decide +kernel) rfl
theorem mwd_X6_findSplit : yX6_findSplit.cls ≠ "java/lang/invoke/MethodHandle" ∧ yX6_findSplit.cls ≠ "java/lang/invoke/VarHandle" ∧ (parseMethodDescriptor yX6_findSplit.desc).map (fun d => d.parameters.length) = some 3 := by decide +kernel
theorem mwn_X6_findSplit : Cond.initialized yX6_findSplit.cls ∈ lw_gd := gd_of 1 (by decide +kernel) rfl
theorem mwi_X6_findSplit : Cond.instanceMethod yX6_findSplit ∈ lw_gd := gd_of 799 (by decide +kernel) rfl
theorem mwv_X6_findSplit : Cond.selects yX6_findSplit.cls yX6_findSplit yX6_findSplit ∈ lw_gd := gd_sel (q := (yX6_findSplit, 16)) 15 (by decide +kernel)
theorem mwc_X6_split : Cond.code yX6_split kX6_split.1 (kL kX6_split) (kR kX6_split) ∈ lw_gd := gd_of 796 (by decide +kernel) rfl
theorem mwd_X6_split : yX6_split.cls ≠ "java/lang/invoke/MethodHandle" ∧ yX6_split.cls ≠ "java/lang/invoke/VarHandle" ∧ (parseMethodDescriptor yX6_split.desc).map (fun d => d.parameters.length) = some 4 := by decide +kernel
theorem mwn_X6_split : Cond.initialized yX6_split.cls ∈ lw_gd := gd_of 1 (by decide +kernel) rfl
theorem mwi_X6_split : Cond.instanceMethod yX6_split ∈ lw_gd := gd_of 794 (by decide +kernel) rfl
theorem mwv_X6_split : Cond.selects yX6_split.cls yX6_split yX6_split ∈ lw_gd := gd_of 795 (by decide +kernel) rfl
theorem mwc_X7_tries : Cond.code yX7_tries kX7_tries.1 (kL kX7_tries) (kR kX7_tries) ∈ lw_gd := gd_of 1387 (by decide +kernel) rfl
theorem mwd_X7_tries : yX7_tries.cls ≠ "java/lang/invoke/MethodHandle" ∧ yX7_tries.cls ≠ "java/lang/invoke/VarHandle" ∧ (parseMethodDescriptor yX7_tries.desc).map (fun d => d.parameters.length) = some 4 := by decide +kernel
theorem mwn_X7_tries : Cond.initialized yX7_tries.cls ∈ lw_gd := gd_of 8 (by decide +kernel) rfl
theorem mwi_X7_tries : Cond.instanceMethod yX7_tries ∈ lw_gd := gd_of 1386 (by decide +kernel) rfl
theorem mwv_X7_tries : Cond.selects yX7_tries.cls yX7_tries yX7_tries ∈ lw_gd := gd_sel (q := (yX7_tries, 57)) 64 (by decide +kernel)
theorem mwc_X7_split : Cond.code yX7_split kX7_split.1 (kL kX7_split) (kR kX7_split) ∈ lw_gd := gd_of 1383 (by decide +kernel) rfl
theorem mwd_X7_split : yX7_split.cls ≠ "java/lang/invoke/MethodHandle" ∧ yX7_split.cls ≠ "java/lang/invoke/VarHandle" ∧ (parseMethodDescriptor yX7_split.desc).map (fun d => d.parameters.length) = some 4 := by decide +kernel
theorem mwn_X7_split : Cond.initialized yX7_split.cls ∈ lw_gd := gd_of 8 (by decide +kernel) rfl
theorem mwi_X7_split : Cond.instanceMethod yX7_split ∈ lw_gd := gd_of 1381 (by decide +kernel) rfl
theorem mwv_X7_split : Cond.selects yX7_split.cls yX7_split yX7_split ∈ lw_gd := gd_of 1382 (by decide +kernel) rfl
theorem mwc_X3_start : Cond.code yX3_start kX3_start.1 (kL kX3_start) (kR kX3_start) ∈ lw_gd := gd_of 823 (by decide +kernel) rfl
theorem mwd_X3_start : yX3_start.cls ≠ "java/lang/invoke/MethodHandle" ∧ yX3_start.cls ≠ "java/lang/invoke/VarHandle" ∧ (parseMethodDescriptor yX3_start.desc).map (fun d => d.parameters.length) = some 0 := by decide +kernel
theorem mwn_X3_start : Cond.initialized yX3_start.cls ∈ lw_gd := gd_of 7 (by decide +kernel) rfl
theorem mwi_X3_start : Cond.instanceMethod yX3_start ∈ lw_gd := gd_of 821 (by decide +kernel) rfl
theorem mwv_X3_start : Cond.selects yX3_start.cls yX3_start yX3_start ∈ lw_gd := gd_of 822 (by decide +kernel) rfl
theorem mwc_X3_judge : Cond.code yX3_judge kX3_judge.1 (kL kX3_judge) (kR kX3_judge) ∈ lw_gd := gd_of 833 (by decide +kernel) rfl
theorem mwd_X3_judge : yX3_judge.cls ≠ "java/lang/invoke/MethodHandle" ∧ yX3_judge.cls ≠ "java/lang/invoke/VarHandle" ∧ (parseMethodDescriptor yX3_judge.desc).map (fun d => d.parameters.length) = some 0 := by decide +kernel
theorem mwn_X3_judge : Cond.initialized yX3_judge.cls ∈ lw_gd := gd_of 7 (by decide +kernel) rfl
theorem mwi_X3_judge : Cond.instanceMethod yX3_judge ∈ lw_gd := gd_of 832 (by decide +kernel) rfl
theorem mwv_X3_judge : Cond.selects yX3_judge.cls yX3_judge yX3_judge ∈ lw_gd := gd_sel (q := (yX3_judge, 5)) 17 (by decide +kernel)
theorem mwc_X3_meetAtKnotsOf : Cond.code yX3_meetAtKnotsOf kX3_meetAtKnotsOf.1 (kL kX3_meetAtKnotsOf) (kR kX3_meetAtKnotsOf) ∈ lw_gd := gd_of 827 (by decide +kernel) rfl
theorem mwd_X3_meetAtKnotsOf : yX3_meetAtKnotsOf.cls ≠ "java/lang/invoke/MethodHandle" ∧ yX3_meetAtKnotsOf.cls ≠ "java/lang/invoke/VarHandle" ∧ (parseMethodDescriptor yX3_meetAtKnotsOf.desc).map (fun d => d.parameters.length) = some 3 := by decide +kernel
theorem mwn_X3_meetAtKnotsOf : Cond.initialized yX3_meetAtKnotsOf.cls ∈ lw_gd := gd_of 7 (by decide +kernel) rfl
theorem mwi_X3_meetAtKnotsOf : Cond.instanceMethod yX3_meetAtKnotsOf ∈ lw_gd := gd_of 825 (by decide +kernel) rfl
theorem mwv_X3_meetAtKnotsOf : Cond.selects yX3_meetAtKnotsOf.cls yX3_meetAtKnotsOf yX3_meetAtKnotsOf ∈ lw_gd := gd_of 826 (by decide +kernel) rfl
theorem mwc_X3_verdict : Cond.code yX3_verdict kX3_verdict.1 (kL kX3_verdict) (kR kX3_verdict) ∈ lw_gd := gd_of 840 (by decide +kernel) rfl
theorem mwd_X3_verdict : yX3_verdict.cls ≠ "java/lang/invoke/MethodHandle" ∧ yX3_verdict.cls ≠ "java/lang/invoke/VarHandle" ∧ (parseMethodDescriptor yX3_verdict.desc).map (fun d => d.parameters.length) = some 0 := by decide +kernel
theorem mwn_X3_verdict : Cond.initialized yX3_verdict.cls ∈ lw_gd := gd_of 7 (by decide +kernel) rfl
theorem mwi_X3_verdict : Cond.instanceMethod yX3_verdict ∈ lw_gd := gd_of 838 (by decide +kernel) rfl
theorem mwv_X3_verdict : Cond.selects yX3_verdict.cls yX3_verdict yX3_verdict ∈ lw_gd := gd_of 839 (by decide +kernel) rfl
theorem mwc_X6_compare : Cond.code yX6_compare kX6_compare.1 (kL kX6_compare) (kR kX6_compare) ∈ lw_gd := gd_of 819 (by decide +kernel) rfl
theorem mwd_X6_compare : yX6_compare.cls ≠ "java/lang/invoke/MethodHandle" ∧ yX6_compare.cls ≠ "java/lang/invoke/VarHandle" ∧ (parseMethodDescriptor yX6_compare.desc).map (fun d => d.parameters.length) = some 2 := by decide +kernel
theorem mwn_X6_compare : Cond.initialized yX6_compare.cls ∈ lw_gd := gd_of 1 (by decide +kernel) rfl
theorem mwi_X6_compare : Cond.instanceMethod yX6_compare ∈ lw_gd := gd_of 817 (by decide +kernel) rfl
theorem mwv_X6_compare : Cond.selects yX6_compare.cls yX6_compare yX6_compare ∈ lw_gd := gd_of 818 (by decide +kernel) rfl
theorem mwc_X7_noteWay : Cond.code yX7_noteWay kX7_noteWay.1 (kL kX7_noteWay) (kR kX7_noteWay) ∈ lw_gd := gd_of 1395 (by decide +kernel) rfl
theorem mwd_X7_noteWay : yX7_noteWay.cls ≠ "java/lang/invoke/MethodHandle" ∧ yX7_noteWay.cls ≠ "java/lang/invoke/VarHandle" ∧ (parseMethodDescriptor yX7_noteWay.desc).map (fun d => d.parameters.length) = some 1 := by decide +kernel
theorem mwn_X7_noteWay : Cond.initialized yX7_noteWay.cls ∈ lw_gd := gd_of 8 (by decide +kernel) rfl
theorem mwi_X7_noteWay : Cond.instanceMethod yX7_noteWay ∈ lw_gd := gd_of 1394 (by decide +kernel) rfl
theorem mwv_X7_noteWay : Cond.selects yX7_noteWay.cls yX7_noteWay yX7_noteWay ∈ lw_gd := gd_sel (q := (yX7_noteWay, 57)) 65 (by decide +kernel)
theorem mwc_X7_compare : Cond.code yX7_compare kX7_compare.1 (kL kX7_compare) (kR kX7_compare) ∈ lw_gd := gd_of 1391 (by decide +kernel) rfl
theorem mwd_X7_compare : yX7_compare.cls ≠ "java/lang/invoke/MethodHandle" ∧ yX7_compare.cls ≠ "java/lang/invoke/VarHandle" ∧ (parseMethodDescriptor yX7_compare.desc).map (fun d => d.parameters.length) = some 2 := by decide +kernel
theorem mwn_X7_compare : Cond.initialized yX7_compare.cls ∈ lw_gd := gd_of 8 (by decide +kernel) rfl
theorem mwi_X7_compare : Cond.instanceMethod yX7_compare ∈ lw_gd := gd_of 1389 (by decide +kernel) rfl
theorem mwv_X7_compare : Cond.selects yX7_compare.cls yX7_compare yX7_compare ∈ lw_gd := gd_of 1390 (by decide +kernel) rfl
theorem mwc_X6_count : Cond.code yX6_count kX6_count.1 (kL kX6_count) (kR kX6_count) ∈ lw_gd := gd_of 844 (by decide +kernel) rfl
theorem mwd_X6_count : yX6_count.cls ≠ "java/lang/invoke/MethodHandle" ∧ yX6_count.cls ≠ "java/lang/invoke/VarHandle" ∧ (parseMethodDescriptor yX6_count.desc).map (fun d => d.parameters.length) = some 1 := by decide +kernel
theorem mwn_X6_count : Cond.initialized yX6_count.cls ∈ lw_gd := gd_of 1 (by decide +kernel) rfl
theorem mwi_X6_count : Cond.instanceMethod yX6_count ∈ lw_gd := gd_of 842 (by decide +kernel) rfl
theorem mwv_X6_count : Cond.selects yX6_count.cls yX6_count yX6_count ∈ lw_gd := gd_of 843 (by decide +kernel) rfl
theorem mwc_X7_paperParts : Cond.code yX7_paperParts kX7_paperParts.1 (kL kX7_paperParts) (kR kX7_paperParts) ∈ lw_gd := gd_of 1403 (by decide +kernel) rfl
theorem mwd_X7_paperParts : yX7_paperParts.cls ≠ "java/lang/invoke/MethodHandle" ∧ yX7_paperParts.cls ≠ "java/lang/invoke/VarHandle" ∧ (parseMethodDescriptor yX7_paperParts.desc).map (fun d => d.parameters.length) = some 0 := by decide +kernel
theorem mwn_X7_paperParts : Cond.initialized yX7_paperParts.cls ∈ lw_gd := gd_of 8 (by decide +kernel) rfl
theorem mwi_X7_paperParts : Cond.instanceMethod yX7_paperParts ∈ lw_gd := gd_of 1402 (by decide +kernel) rfl
theorem mwv_X7_paperParts : Cond.selects yX7_paperParts.cls yX7_paperParts yX7_paperParts ∈ lw_gd := gd_sel (q := (yX7_paperParts, 57)) 66 (by decide +kernel)
theorem mwc_X7_count : Cond.code yX7_count kX7_count.1 (kL kX7_count) (kR kX7_count) ∈ lw_gd := gd_of 1399 (by decide +kernel) rfl
theorem mwd_X7_count : yX7_count.cls ≠ "java/lang/invoke/MethodHandle" ∧ yX7_count.cls ≠ "java/lang/invoke/VarHandle" ∧ (parseMethodDescriptor yX7_count.desc).map (fun d => d.parameters.length) = some 1 := by decide +kernel
theorem mwn_X7_count : Cond.initialized yX7_count.cls ∈ lw_gd := gd_of 8 (by decide +kernel) rfl
theorem mwi_X7_count : Cond.instanceMethod yX7_count ∈ lw_gd := gd_of 1397 (by decide +kernel) rfl
theorem mwv_X7_count : Cond.selects yX7_count.cls yX7_count yX7_count ∈ lw_gd := gd_of 1398 (by decide +kernel) rfl
theorem mwc_X6_status : Cond.code yX6_status kX6_status.1 (kL kX6_status) (kR kX6_status) ∈ lw_gd := gd_of 848 (by decide +kernel) rfl
theorem mwd_X6_status : yX6_status.cls ≠ "java/lang/invoke/MethodHandle" ∧ yX6_status.cls ≠ "java/lang/invoke/VarHandle" ∧ (parseMethodDescriptor yX6_status.desc).map (fun d => d.parameters.length) = some 0 := by decide +kernel
theorem mwn_X6_status : Cond.initialized yX6_status.cls ∈ lw_gd := gd_of 1 (by decide +kernel) rfl
theorem mwi_X6_status : Cond.instanceMethod yX6_status ∈ lw_gd := gd_of 846 (by decide +kernel) rfl
theorem mwv_X6_status : Cond.selects yX6_status.cls yX6_status yX6_status ∈ lw_gd := gd_of 847 (by decide +kernel) rfl
theorem mwc_X7_status : Cond.code yX7_status kX7_status.1 (kL kX7_status) (kR kX7_status) ∈ lw_gd := gd_of 1411 (by decide +kernel) rfl
theorem mwd_X7_status : yX7_status.cls ≠ "java/lang/invoke/MethodHandle" ∧ yX7_status.cls ≠ "java/lang/invoke/VarHandle" ∧ (parseMethodDescriptor yX7_status.desc).map (fun d => d.parameters.length) = some 0 := by decide +kernel
theorem mwn_X7_status : Cond.initialized yX7_status.cls ∈ lw_gd := gd_of 8 (by decide +kernel) rfl
theorem mwi_X7_status : Cond.instanceMethod yX7_status ∈ lw_gd := gd_of 1409 (by decide +kernel) rfl
theorem mwv_X7_status : Cond.selects yX7_status.cls yX7_status yX7_status ∈ lw_gd := gd_of 1410 (by decide +kernel) rfl
theorem cw_X6_19 : NW RX6 19 "LeastSums" yX4_init kX4_init 0 := ⟨List.mem_of_getElem? (i := 26) (by decide +kernel), mwn_X4_init, mwc_X4_init, mwd_X4_init⟩
theorem cw_X6_26 : IW RX6 26 yX0_init kX0_init 0 := ⟨gd_of 63 (by decide +kernel) rfl, mwi_X0_init, mwn_X0_init, rfl, mwc_X0_init, mwd_X0_init⟩
theorem cw_X6_40 : NW RX6 40 "LeastSums" yX5_init kX5_init 0 := ⟨List.mem_of_getElem? (i := 92) (by decide +kernel), mwn_X5_init, mwc_X5_init, mwd_X5_init⟩
theorem cw_X6_55 : IW RX6 55 yX1_init kX1_init 1 := ⟨gd_of 136 (by decide +kernel) rfl, mwi_X1_init, mwn_X1_init, rfl, mwc_X1_init, mwd_X1_init⟩
theorem cw_X6_70 : NW RX6 70 "LeastSums" yX2_init kX2_init 0 := ⟨List.mem_of_getElem? (i := 175) (by decide +kernel), mwn_X2_init, mwc_X2_init, mwd_X2_init⟩
theorem cw_X6_86 : NW RX6 86 "LeastSums" yX3_init kX3_init 0 := ⟨List.mem_of_getElem? (i := 198) (by decide +kernel), mwn_X3_init, mwc_X3_init, mwd_X3_init⟩
theorem cw_X6_94 : VW 5 RX6 94 yX5_appendWord kX5_appendWord 1 := ⟨by decide, ⟨_, _, rfl⟩, gd_of 273 (by decide +kernel) rfl, mwi_X5_appendWord, mwv_X5_appendWord, mwn_X5_appendWord, mwc_X5_appendWord, mwd_X5_appendWord⟩
theorem cw_X6_97 : SW RX6 97 yX6_isStore kX6_isStore 1 := ⟨gd_of 285 (by decide +kernel) rfl, mws_X6_isStore, mwn_X6_isStore, mwc_X6_isStore, mwd_X6_isStore⟩
theorem cw_X6_101 : VW 6 RX6 101 yX6_refuse kX6_refuse 1 := ⟨by decide, ⟨_, _, rfl⟩, gd_of 288 (by decide +kernel) rfl, mwi_X6_refuse, mwv_X6_refuse, mwn_X6_refuse, mwc_X6_refuse, mwd_X6_refuse⟩
theorem cw_X6_105 : VW 1 RX6 105 yX1_start kX1_start 0 := ⟨by decide, ⟨_, _, rfl⟩, gd_of 292 (by decide +kernel) rfl, mwi_X1_start, mwv_X1_start, mwn_X1_start, mwc_X1_start, mwd_X1_start⟩
theorem cw_X6_108 : VW 5 RX6 108 yX5_readText kX5_readText 1 := ⟨by decide, ⟨_, _, rfl⟩, gd_of 296 (by decide +kernel) rfl, mwi_X5_readText, mwv_X5_readText, mwn_X5_readText, mwc_X5_readText, mwd_X5_readText⟩
theorem cw_X6_112 : VW 1 RX6 112 yX1_lowestInto kX1_lowestInto 1 := ⟨by decide, ⟨_, _, rfl⟩, gd_of 346 (by decide +kernel) rfl, mwi_X1_lowestInto, mwv_X1_lowestInto, mwn_X1_lowestInto, mwc_X1_lowestInto, mwd_X1_lowestInto⟩
theorem cw_X6_116 : VW 6 RX6 116 yX6_settle kX6_settle 2 := ⟨by decide, ⟨_, _, rfl⟩, gd_of 445 (by decide +kernel) rfl, mwi_X6_settle, mwv_X6_settle, mwn_X6_settle, mwc_X6_settle, mwd_X6_settle⟩
theorem cw_X6_123 : SW RX6 123 yX6_isPlace kX6_isPlace 1 := ⟨gd_of 462 (by decide +kernel) rfl, mws_X6_isPlace, mwn_X6_isPlace, mwc_X6_isPlace, mwd_X6_isPlace⟩
theorem cw_X6_127 : VW 4 RX6 127 yX4_wipe kX4_wipe 0 := ⟨by decide, ⟨_, _, rfl⟩, gd_of 467 (by decide +kernel) rfl, mwi_X4_wipe, mwv_X4_wipe, mwn_X4_wipe, mwc_X4_wipe, mwd_X4_wipe⟩
theorem cw_X6_130 : VW 4 RX6 130 yX4_addKnot kX4_addKnot 5 := ⟨by decide, ⟨_, _, rfl⟩, gd_of 468 (by decide +kernel) rfl, mwi_X4_addKnot, mwv_X4_addKnot, mwn_X4_addKnot, mwc_X4_addKnot, mwd_X4_addKnot⟩
theorem cw_X6_137 : VW 4 RX6 137 yX4_fitsStore kX4_fitsStore 0 := ⟨by decide, ⟨_, _, rfl⟩, gd_of 477 (by decide +kernel) rfl, mwi_X4_fitsStore, mwv_X4_fitsStore, mwn_X4_fitsStore, mwc_X4_fitsStore, mwd_X4_fitsStore⟩
theorem cw_X6_141 : VW 4 RX6 141 yX4_copyOf kX4_copyOf 1 := ⟨by decide, ⟨_, _, rfl⟩, gd_of 482 (by decide +kernel) rfl, mwi_X4_copyOf, mwv_X4_copyOf, mwn_X4_copyOf, mwc_X4_copyOf, mwd_X4_copyOf⟩
theorem cw_X6_144 : VW 6 RX6 144 yX6_loadPair kX6_loadPair 2 := ⟨by decide, ⟨_, _, rfl⟩, gd_of 491 (by decide +kernel) rfl, mwi_X6_loadPair, mwv_X6_loadPair, mwn_X6_loadPair, mwc_X6_loadPair, mwd_X6_loadPair⟩
theorem cw_X6_151 : VW 1 RX6 151 yX1_addSum kX1_addSum 4 := ⟨by decide, ⟨_, _, rfl⟩, gd_of 520 (by decide +kernel) rfl, mwi_X1_addSum, mwv_X1_addSum, mwn_X1_addSum, mwc_X1_addSum, mwd_X1_addSum⟩
theorem cw_X6_155 : VW 6 RX6 155 yX6_ontoPaper kX6_ontoPaper 1 := ⟨by decide, ⟨_, _, rfl⟩, gd_of 525 (by decide +kernel) rfl, mwi_X6_ontoPaper, mwv_X6_ontoPaper, mwn_X6_ontoPaper, mwc_X6_ontoPaper, mwd_X6_ontoPaper⟩
theorem cw_X6_158 : VW 1 RX6 158 yX1_addShape kX1_addShape 1 := ⟨by decide, ⟨_, _, rfl⟩, gd_of 499 (by decide +kernel) rfl, mwi_X1_addShape, mwv_X1_addShape, mwn_X1_addShape, mwc_X1_addShape, mwd_X1_addShape⟩
theorem cw_X6_161 : VW 1 RX6 161 yX1_addJoined kX1_addJoined 4 := ⟨by decide, ⟨_, _, rfl⟩, gd_of 537 (by decide +kernel) rfl, mwi_X1_addJoined, mwv_X1_addJoined, mwn_X1_addJoined, mwc_X1_addJoined, mwd_X1_addJoined⟩
theorem cw_X6_164 : VW 4 RX6 164 yX4_canBeTurned kX4_canBeTurned 0 := ⟨by decide, ⟨_, _, rfl⟩, gd_of 549 (by decide +kernel) rfl, mwi_X4_canBeTurned, mwv_X4_canBeTurned, mwn_X4_canBeTurned, mwc_X4_canBeTurned, mwd_X4_canBeTurned⟩
theorem cw_X6_167 : VW 1 RX6 167 yX1_addTurned kX1_addTurned 1 := ⟨by decide, ⟨_, _, rfl⟩, gd_of 553 (by decide +kernel) rfl, mwi_X1_addTurned, mwv_X1_addTurned, mwn_X1_addTurned, mwc_X1_addTurned, mwd_X1_addTurned⟩
theorem cw_X6_170 : VW 1 RX6 170 yX1_addHull kX1_addHull 1 := ⟨by decide, ⟨_, _, rfl⟩, gd_of 565 (by decide +kernel) rfl, mwi_X1_addHull, mwv_X1_addHull, mwn_X1_addHull, mwc_X1_addHull, mwd_X1_addHull⟩
theorem cw_X6_173 : VW 6 RX6 173 yX6_loadOne kX6_loadOne 1 := ⟨by decide, ⟨_, _, rfl⟩, gd_of 495 (by decide +kernel) rfl, mwi_X6_loadOne, mwv_X6_loadOne, mwn_X6_loadOne, mwc_X6_loadOne, mwd_X6_loadOne⟩
theorem cw_X6_176 : VW 1 RX6 176 yX1_addCut kX1_addCut 4 := ⟨by decide, ⟨_, _, rfl⟩, gd_of 577 (by decide +kernel) rfl, mwi_X1_addCut, mwv_X1_addCut, mwn_X1_addCut, mwc_X1_addCut, mwd_X1_addCut⟩
theorem cw_X6_180 : VW 1 RX6 180 yX1_addMoved kX1_addMoved 4 := ⟨by decide, ⟨_, _, rfl⟩, gd_of 585 (by decide +kernel) rfl, mwi_X1_addMoved, mwv_X1_addMoved, mwn_X1_addMoved, mwc_X1_addMoved, mwd_X1_addMoved⟩
theorem cw_X6_183 : VW 1 RX6 183 yX1_addMultiple kX1_addMultiple 3 := ⟨by decide, ⟨_, _, rfl⟩, gd_of 593 (by decide +kernel) rfl, mwi_X1_addMultiple, mwv_X1_addMultiple, mwn_X1_addMultiple, mwc_X1_addMultiple, mwd_X1_addMultiple⟩
theorem cw_X6_187 : VW 0 RX6 187 yX0_keep kX0_keep 3 := ⟨by decide, ⟨_, _, rfl⟩, gd_of 449 (by decide +kernel) rfl, mwi_X0_keep, mwv_X0_keep, mwn_X0_keep, mwc_X0_keep, mwd_X0_keep⟩
theorem cw_X6_192 : VW 0 RX6 192 yX0_latestSlot kX0_latestSlot 0 := ⟨by decide, ⟨_, _, rfl⟩, gd_of 605 (by decide +kernel) rfl, mwi_X0_latestSlot, mwv_X0_latestSlot, mwn_X0_latestSlot, mwc_X0_latestSlot, mwd_X0_latestSlot⟩
theorem cw_X6_196 : VW 0 RX6 196 yX0_takeBack kX0_takeBack 1 := ⟨by decide, ⟨_, _, rfl⟩, gd_of 613 (by decide +kernel) rfl, mwi_X0_takeBack, mwv_X0_takeBack, mwn_X0_takeBack, mwc_X0_takeBack, mwd_X0_takeBack⟩
theorem cw_X6_203 : SW RX6 203 yX6_isImage kX6_isImage 1 := ⟨gd_of 622 (by decide +kernel) rfl, mws_X6_isImage, mwn_X6_isImage, mwc_X6_isImage, mwd_X6_isImage⟩
theorem cw_X6_206 : VW 6 RX6 206 yX6_storeKnots kX6_storeKnots 0 := ⟨by decide, ⟨_, _, rfl⟩, gd_of 625 (by decide +kernel) rfl, mwi_X6_storeKnots, mwv_X6_storeKnots, mwn_X6_storeKnots, mwc_X6_storeKnots, mwd_X6_storeKnots⟩
theorem cw_X6_209 : VW 0 RX6 209 yX0_forget kX0_forget 0 := ⟨by decide, ⟨_, _, rfl⟩, gd_of 633 (by decide +kernel) rfl, mwi_X0_forget, mwv_X0_forget, mwn_X0_forget, mwc_X0_forget, mwd_X0_forget⟩
theorem cw_X6_221 : VW 2 RX6 221 yX2_assign kX2_assign 2 := ⟨by decide, ⟨_, _, rfl⟩, gd_of 642 (by decide +kernel) rfl, mwi_X2_assign, mwv_X2_assign, mwn_X2_assign, mwc_X2_assign, mwd_X2_assign⟩
theorem cw_X6_225 : SW RX6 225 yX6_tellNumber kX6_tellNumber 2 := ⟨gd_of 647 (by decide +kernel) rfl, mws_X6_tellNumber, mwn_X6_tellNumber, mwc_X6_tellNumber, mwd_X6_tellNumber⟩
theorem cw_X6_239 : VW 4 RX6 239 yX4_xAt kX4_xAt 1 := ⟨by decide, ⟨_, _, rfl⟩, gd_of 659 (by decide +kernel) rfl, mwi_X4_xAt, mwv_X4_xAt, mwn_X4_xAt, mwc_X4_xAt, mwd_X4_xAt⟩
theorem cw_X6_242 : VW 4 RX6 242 yX4_yAt kX4_yAt 1 := ⟨by decide, ⟨_, _, rfl⟩, gd_of 663 (by decide +kernel) rfl, mwi_X4_yAt, mwv_X4_yAt, mwn_X4_yAt, mwc_X4_yAt, mwd_X4_yAt⟩
theorem cw_X6_245 : SW RX6 245 yX6_isUpperOrLower kX6_isUpperOrLower 1 := ⟨gd_of 671 (by decide +kernel) rfl, mws_X6_isUpperOrLower, mwn_X6_isUpperOrLower, mwc_X6_isUpperOrLower, mwd_X6_isUpperOrLower⟩
theorem cw_X6_248 : VW 4 RX6 248 yX4_valueAt kX4_valueAt 2 := ⟨by decide, ⟨_, _, rfl⟩, gd_of 674 (by decide +kernel) rfl, mwi_X4_valueAt, mwv_X4_valueAt, mwn_X4_valueAt, mwc_X4_valueAt, mwd_X4_valueAt⟩
theorem cw_X6_265 : SW RX6 265 yX6_bitsOf kX6_bitsOf 1 := ⟨gd_of 693 (by decide +kernel) rfl, mws_X6_bitsOf, mwn_X6_bitsOf, mwc_X6_bitsOf, mwd_X6_bitsOf⟩
theorem cw_X6_271 : VW 4 RX6 271 yX4_leftEndAt kX4_leftEndAt 2 := ⟨by decide, ⟨_, _, rfl⟩, gd_of 702 (by decide +kernel) rfl, mwi_X4_leftEndAt, mwv_X4_leftEndAt, mwn_X4_leftEndAt, mwc_X4_leftEndAt, mwd_X4_leftEndAt⟩
theorem cw_X6_274 : VW 4 RX6 274 yX4_rightBeginAt kX4_rightBeginAt 2 := ⟨by decide, ⟨_, _, rfl⟩, gd_of 706 (by decide +kernel) rfl, mwi_X4_rightBeginAt, mwv_X4_rightBeginAt, mwn_X4_rightBeginAt, mwc_X4_rightBeginAt, mwd_X4_rightBeginAt⟩
theorem cw_X6_277 : VW 4 RX6 277 yX4_parts kX4_parts 0 := ⟨by decide, ⟨_, _, rfl⟩, gd_of 714 (by decide +kernel) rfl, mwi_X4_parts, mwv_X4_parts, mwn_X4_parts, mwc_X4_parts, mwd_X4_parts⟩
theorem cw_X6_280 : VW 4 RX6 280 yX4_jumps kX4_jumps 0 := ⟨by decide, ⟨_, _, rfl⟩, gd_of 718 (by decide +kernel) rfl, mwi_X4_jumps, mwv_X4_jumps, mwn_X4_jumps, mwc_X4_jumps, mwd_X4_jumps⟩
theorem cw_X6_283 : VW 4 RX6 283 yX4_slopeFalls kX4_slopeFalls 0 := ⟨by decide, ⟨_, _, rfl⟩, gd_of 722 (by decide +kernel) rfl, mwi_X4_slopeFalls, mwv_X4_slopeFalls, mwn_X4_slopeFalls, mwc_X4_slopeFalls, mwd_X4_slopeFalls⟩
theorem cw_X6_286 : VW 4 RX6 286 yX4_width kX4_width 0 := ⟨by decide, ⟨_, _, rfl⟩, gd_of 726 (by decide +kernel) rfl, mwi_X4_width, mwv_X4_width, mwn_X4_width, mwc_X4_width, mwd_X4_width⟩
theorem cw_X6_289 : VW 4 RX6 289 yX4_firstLowest kX4_firstLowest 0 := ⟨by decide, ⟨_, _, rfl⟩, gd_of 734 (by decide +kernel) rfl, mwi_X4_firstLowest, mwv_X4_firstLowest, mwn_X4_firstLowest, mwc_X4_firstLowest, mwd_X4_firstLowest⟩
theorem cw_X6_292 : VW 4 RX6 292 yX4_lastLowest kX4_lastLowest 0 := ⟨by decide, ⟨_, _, rfl⟩, gd_of 738 (by decide +kernel) rfl, mwi_X4_lastLowest, mwv_X4_lastLowest, mwn_X4_lastLowest, mwc_X4_lastLowest, mwd_X4_lastLowest⟩
theorem cw_X6_295 : VW 4 RX6 295 yX4_highest kX4_highest 0 := ⟨by decide, ⟨_, _, rfl⟩, gd_of 742 (by decide +kernel) rfl, mwi_X4_highest, mwv_X4_highest, mwn_X4_highest, mwc_X4_highest, mwd_X4_highest⟩
theorem cw_X6_298 : VW 4 RX6 298 yX4_knotOfLine kX4_knotOfLine 1 := ⟨by decide, ⟨_, _, rfl⟩, gd_of 753 (by decide +kernel) rfl, mwi_X4_knotOfLine, mwv_X4_knotOfLine, mwn_X4_knotOfLine, mwc_X4_knotOfLine, mwd_X4_knotOfLine⟩
theorem cw_X6_301 : VW 4 RX6 301 yX4_riseOf kX4_riseOf 1 := ⟨by decide, ⟨_, _, rfl⟩, gd_of 757 (by decide +kernel) rfl, mwi_X4_riseOf, mwv_X4_riseOf, mwn_X4_riseOf, mwc_X4_riseOf, mwd_X4_riseOf⟩
theorem cw_X6_305 : VW 4 RX6 305 yX4_runOf kX4_runOf 1 := ⟨by decide, ⟨_, _, rfl⟩, gd_of 758 (by decide +kernel) rfl, mwi_X4_runOf, mwv_X4_runOf, mwn_X4_runOf, mwc_X4_runOf, mwd_X4_runOf⟩
theorem cw_X6_308 : SW RX6 308 yX6_tellPlain kX6_tellPlain 2 := ⟨gd_of 651 (by decide +kernel) rfl, mws_X6_tellPlain, mwn_X6_tellPlain, mwc_X6_tellPlain, mwd_X6_tellPlain⟩
theorem cw_X6_311 : VW 4 RX6 311 yX4_twiceArea kX4_twiceArea 0 := ⟨by decide, ⟨_, _, rfl⟩, gd_of 763 (by decide +kernel) rfl, mwi_X4_twiceArea, mwv_X4_twiceArea, mwn_X4_twiceArea, mwc_X4_twiceArea, mwd_X4_twiceArea⟩
theorem cw_X6_317 : VW 4 RX6 317 yX4_firstWith kX4_firstWith 2 := ⟨by decide, ⟨_, _, rfl⟩, gd_of 772 (by decide +kernel) rfl, mwi_X4_firstWith, mwv_X4_firstWith, mwn_X4_firstWith, mwc_X4_firstWith, mwd_X4_firstWith⟩
theorem cw_X6_320 : VW 4 RX6 320 yX4_placesWithin kX4_placesWithin 2 := ⟨by decide, ⟨_, _, rfl⟩, gd_of 788 (by decide +kernel) rfl, mwi_X4_placesWithin, mwv_X4_placesWithin, mwn_X4_placesWithin, mwc_X4_placesWithin, mwd_X4_placesWithin⟩
theorem cw_X6_323 : VW 6 RX6 323 yX6_findSplit kX6_findSplit 3 := ⟨by decide, ⟨_, _, rfl⟩, gd_of 797 (by decide +kernel) rfl, mwi_X6_findSplit, mwv_X6_findSplit, mwn_X6_findSplit, mwc_X6_findSplit, mwd_X6_findSplit⟩
theorem cw_X6_327 : VW 2 RX6 327 yX2_forget kX2_forget 0 := ⟨by decide, ⟨_, _, rfl⟩, gd_of 801 (by decide +kernel) rfl, mwi_X2_forget, mwv_X2_forget, mwn_X2_forget, mwc_X2_forget, mwd_X2_forget⟩
theorem cw_X6_328 : VW 6 RX6 328 yX6_trySplit kX6_trySplit 4 := ⟨by decide, ⟨_, _, rfl⟩, gd_of 802 (by decide +kernel) rfl, mwi_X6_trySplit, mwv_X6_trySplit, mwn_X6_trySplit, mwc_X6_trySplit, mwd_X6_trySplit⟩
theorem cw_X6_332 : VW 2 RX6 332 yX2_add kX2_add 1 := ⟨by decide, ⟨_, _, rfl⟩, gd_of 806 (by decide +kernel) rfl, mwi_X2_add, mwv_X2_add, mwn_X2_add, mwc_X2_add, mwd_X2_add⟩
theorem cw_X6_336 : VW 2 RX6 336 yX2_orderTo kX2_orderTo 1 := ⟨by decide, ⟨_, _, rfl⟩, gd_of 811 (by decide +kernel) rfl, mwi_X2_orderTo, mwv_X2_orderTo, mwn_X2_orderTo, mwc_X2_orderTo, mwd_X2_orderTo⟩
theorem cw_X6_340 : VW 3 RX6 340 yX3_start kX3_start 0 := ⟨by decide, ⟨_, _, rfl⟩, gd_of 820 (by decide +kernel) rfl, mwi_X3_start, mwv_X3_start, mwn_X3_start, mwc_X3_start, mwd_X3_start⟩
theorem cw_X6_341 : VW 3 RX6 341 yX3_meetAtKnotsOf kX3_meetAtKnotsOf 3 := ⟨by decide, ⟨_, _, rfl⟩, gd_of 824 (by decide +kernel) rfl, mwi_X3_meetAtKnotsOf, mwv_X3_meetAtKnotsOf, mwn_X3_meetAtKnotsOf, mwc_X3_meetAtKnotsOf, mwd_X3_meetAtKnotsOf⟩
theorem cw_X6_345 : VW 3 RX6 345 yX3_verdict kX3_verdict 0 := ⟨by decide, ⟨_, _, rfl⟩, gd_of 837 (by decide +kernel) rfl, mwi_X3_verdict, mwv_X3_verdict, mwn_X3_verdict, mwc_X3_verdict, mwd_X3_verdict⟩
theorem cw_X0_34 : NW RX0 34 "LeastSums" yX4_init kX4_init 0 := ⟨List.mem_of_getElem? (i := 68) (by decide +kernel), mwn_X4_init, mwc_X4_init, mwd_X4_init⟩
theorem cw_X0_35 : SW RX0 35 yJ9_min_7cf53 kJ9_min_7cf53 2 := ⟨gd_of 453 (by decide +kernel) rfl, mws_J9_min_7cf53, mwn_J9_min_7cf53, mwc_J9_min_7cf53, mwd_J9_min_7cf53⟩
theorem cw_X0_41 : VW 0 RX0 41 yX0_latest kX0_latest 0 := ⟨by decide, ⟨_, _, rfl⟩, gd_of 609 (by decide +kernel) rfl, mwi_X0_latest, mwv_X0_latest, mwn_X0_latest, mwc_X0_latest, mwd_X0_latest⟩
theorem cw_X0_45 : SW RX0 45 yJ9_max_7cf53 kJ9_max_7cf53 2 := ⟨gd_of 617 (by decide +kernel) rfl, mws_J9_max_7cf53, mwn_J9_max_7cf53, mwc_J9_max_7cf53, mwd_J9_max_7cf53⟩
theorem cw_X1_45 : VW 1 RX1 45 yX1_addLine kX1_addLine 5 := ⟨by decide, ⟨_, _, rfl⟩, gd_of 338 (by decide +kernel) rfl, mwi_X1_addLine, mwv_X1_addLine, mwn_X1_addLine, mwc_X1_addLine, mwd_X1_addLine⟩
theorem cw_X1_54 : VW 4 RX1 54 yX4_beginsPiece kX4_beginsPiece 1 := ⟨by decide, ⟨_, _, rfl⟩, gd_of 503 (by decide +kernel) rfl, mwi_X4_beginsPiece, mwv_X4_beginsPiece, mwn_X4_beginsPiece, mwc_X4_beginsPiece, mwd_X4_beginsPiece⟩
theorem cw_X1_64 : VW 4 RX1 64 yX4_runOf kX4_runOf 1 := ⟨by decide, ⟨_, _, rfl⟩, gd_of 511 (by decide +kernel) rfl, mwi_X4_runOf, mwv_X4_runOf, mwn_X4_runOf, mwc_X4_runOf, mwd_X4_runOf⟩
theorem cw_X1_68 : VW 4 RX1 68 yX4_riseOf kX4_riseOf 1 := ⟨by decide, ⟨_, _, rfl⟩, gd_of 515 (by decide +kernel) rfl, mwi_X4_riseOf, mwv_X4_riseOf, mwn_X4_riseOf, mwc_X4_riseOf, mwd_X4_riseOf⟩
theorem cw_X1_71 : VW 1 RX1 71 yX1_addBetween kX1_addBetween 4 := ⟨by decide, ⟨_, _, rfl⟩, gd_of 519 (by decide +kernel) rfl, mwi_X1_addBetween, mwv_X1_addBetween, mwn_X1_addBetween, mwc_X1_addBetween, mwd_X1_addBetween⟩
theorem cw_X1_75 : SW RX1 75 yJ9_max_7cf53 kJ9_max_7cf53 2 := ⟨gd_of 524 (by decide +kernel) rfl, mws_J9_max_7cf53, mwn_J9_max_7cf53, mwc_J9_max_7cf53, mwd_J9_max_7cf53⟩
theorem cw_X1_81 : SW RX1 81 yJ9_min_7cf53 kJ9_min_7cf53 2 := ⟨gd_of 359 (by decide +kernel) rfl, mws_J9_min_7cf53, mwn_J9_min_7cf53, mwc_J9_min_7cf53, mwd_J9_min_7cf53⟩
theorem cw_X1_84 : VW 1 RX1 84 yX1_firstY kX1_firstY 1 := ⟨by decide, ⟨_, _, rfl⟩, gd_of 541 (by decide +kernel) rfl, mwi_X1_firstY, mwv_X1_firstY, mwn_X1_firstY, mwc_X1_firstY, mwd_X1_firstY⟩
theorem cw_X1_87 : VW 4 RX1 87 yX4_endOfPiece kX4_endOfPiece 1 := ⟨by decide, ⟨_, _, rfl⟩, gd_of 557 (by decide +kernel) rfl, mwi_X4_endOfPiece, mwv_X4_endOfPiece, mwn_X4_endOfPiece, mwc_X4_endOfPiece, mwd_X4_endOfPiece⟩
theorem cw_X1_91 : VW 4 RX1 91 yX4_hullNext kX4_hullNext 1 := ⟨by decide, ⟨_, _, rfl⟩, gd_of 569 (by decide +kernel) rfl, mwi_X4_hullNext, mwv_X4_hullNext, mwn_X4_hullNext, mwc_X4_hullNext, mwd_X4_hullNext⟩
theorem cw_X1_94 : VW 4 RX1 94 yX4_wipe kX4_wipe 0 := ⟨by decide, ⟨_, _, rfl⟩, gd_of 350 (by decide +kernel) rfl, mwi_X4_wipe, mwv_X4_wipe, mwn_X4_wipe, mwc_X4_wipe, mwd_X4_wipe⟩
theorem cw_X1_98 : VW 1 RX1 98 yX1_lookAt kX1_lookAt 1 := ⟨by decide, ⟨_, _, rfl⟩, gd_of 355 (by decide +kernel) rfl, mwi_X1_lookAt, mwv_X1_lookAt, mwn_X1_lookAt, mwc_X1_lookAt, mwd_X1_lookAt⟩
theorem cw_X1_102 : VW 1 RX1 102 yX1_lowestLive kX1_lowestLive 1 := ⟨by decide, ⟨_, _, rfl⟩, gd_of 373 (by decide +kernel) rfl, mwi_X1_lowestLive, mwv_X1_lowestLive, mwn_X1_lowestLive, mwc_X1_lowestLive, mwd_X1_lowestLive⟩
theorem cw_X1_105 : VW 1 RX1 105 yX1_meetAt kX1_meetAt 4 := ⟨by decide, ⟨_, _, rfl⟩, gd_of 382 (by decide +kernel) rfl, mwi_X1_meetAt, mwv_X1_meetAt, mwn_X1_meetAt, mwc_X1_meetAt, mwd_X1_meetAt⟩
theorem cw_X1_109 : VW 1 RX1 109 yX1_follow kX1_follow 2 := ⟨by decide, ⟨_, _, rfl⟩, gd_of 429 (by decide +kernel) rfl, mwi_X1_follow, mwv_X1_follow, mwn_X1_follow, mwc_X1_follow, mwd_X1_follow⟩
theorem cw_X1_113 : VW 1 RX1 113 yX1_orderAt kX1_orderAt 3 := ⟨by decide, ⟨_, _, rfl⟩, gd_of 360 (by decide +kernel) rfl, mwi_X1_orderAt, mwv_X1_orderAt, mwn_X1_orderAt, mwc_X1_orderAt, mwd_X1_orderAt⟩
theorem cw_X1_117 : VW 1 RX1 117 yX1_steepness kX1_steepness 2 := ⟨by decide, ⟨_, _, rfl⟩, gd_of 377 (by decide +kernel) rfl, mwi_X1_steepness, mwv_X1_steepness, mwn_X1_steepness, mwc_X1_steepness, mwd_X1_steepness⟩
theorem cw_X1_120 : SW RX1 120 yX2_order kX2_order 4 := ⟨gd_of 364 (by decide +kernel) rfl, mws_X2_order, mwn_X2_order, mwc_X2_order, mwd_X2_order⟩
theorem cw_X1_126 : SW RX1 126 yJ13_compare_74951 kJ13_compare_74951 2 := ⟨gd_of 381 (by decide +kernel) rfl, mws_J13_compare_74951, mwn_J13_compare_74951, mwc_J13_compare_74951, mwd_J13_compare_74951⟩
theorem cw_X1_132 : VW 1 RX1 132 yX1_addEnd kX1_addEnd 4 := ⟨by decide, ⟨_, _, rfl⟩, gd_of 386 (by decide +kernel) rfl, mwi_X1_addEnd, mwv_X1_addEnd, mwn_X1_addEnd, mwc_X1_addEnd, mwd_X1_addEnd⟩
theorem cw_X1_136 : VW 4 RX1 136 yX4_addKnot kX4_addKnot 5 := ⟨by decide, ⟨_, _, rfl⟩, gd_of 390 (by decide +kernel) rfl, mwi_X4_addKnot, mwv_X4_addKnot, mwn_X4_addKnot, mwc_X4_addKnot, mwd_X4_addKnot⟩
theorem cw_X1_140 : VW 1 RX1 140 yX1_firstCrossing kX1_firstCrossing 1 := ⟨by decide, ⟨_, _, rfl⟩, gd_of 433 (by decide +kernel) rfl, mwi_X1_firstCrossing, mwv_X1_firstCrossing, mwn_X1_firstCrossing, mwc_X1_firstCrossing, mwd_X1_firstCrossing⟩
theorem cw_X1_143 : VW 1 RX1 143 yX1_crossingBottom kX1_crossingBottom 2 := ⟨by decide, ⟨_, _, rfl⟩, gd_of 437 (by decide +kernel) rfl, mwi_X1_crossingBottom, mwv_X1_crossingBottom, mwn_X1_crossingBottom, mwc_X1_crossingBottom, mwd_X1_crossingBottom⟩
theorem cw_X1_147 : VW 1 RX1 147 yX1_crossingTop kX1_crossingTop 2 := ⟨by decide, ⟨_, _, rfl⟩, gd_of 441 (by decide +kernel) rfl, mwi_X1_crossingTop, mwv_X1_crossingTop, mwn_X1_crossingTop, mwc_X1_crossingTop, mwd_X1_crossingTop⟩
theorem cw_X2_20 : SW RX2 20 yX2_commonDivisor kX2_commonDivisor 2 := ⟨gd_of 646 (by decide +kernel) rfl, mws_X2_commonDivisor, mwn_X2_commonDivisor, mwc_X2_commonDivisor, mwd_X2_commonDivisor⟩
theorem cw_X2_24 : VW 2 RX2 24 yX2_assign kX2_assign 2 := ⟨by decide, ⟨_, _, rfl⟩, gd_of 810 (by decide +kernel) rfl, mwi_X2_assign, mwv_X2_assign, mwn_X2_assign, mwc_X2_assign, mwd_X2_assign⟩
theorem cw_X2_28 : SW RX2 28 yX2_order kX2_order 4 := ⟨gd_of 815 (by decide +kernel) rfl, mws_X2_order, mwn_X2_order, mwc_X2_order, mwd_X2_order⟩
theorem cw_X2_32 : SW RX2 32 yJ9_floorDiv_f86c9 kJ9_floorDiv_f86c9 2 := ⟨gd_of 367 (by decide +kernel) rfl, mws_J9_floorDiv_f86c9, mwn_J9_floorDiv_f86c9, mwc_J9_floorDiv_f86c9, mwd_J9_floorDiv_f86c9⟩
theorem cw_X2_37 : SW RX2 37 yJ13_compare_74951 kJ13_compare_74951 2 := ⟨gd_of 370 (by decide +kernel) rfl, mws_J13_compare_74951, mwn_J13_compare_74951, mwc_J13_compare_74951, mwd_J13_compare_74951⟩
theorem cw_X2_43 : SW RX2 43 yJ9_abs_067f4 kJ9_abs_067f4 1 := ⟨gd_of 397 (by decide +kernel) rfl, mws_J9_abs_067f4, mwn_J9_abs_067f4, mwc_J9_abs_067f4, mwd_J9_abs_067f4⟩
theorem cw_X3_21 : NW RX3 21 "LeastSums" yX2_init kX2_init 0 := ⟨List.mem_of_getElem? (i := 203) (by decide +kernel), mwn_X2_init, mwc_X2_init, mwd_X2_init⟩
theorem cw_X3_35 : VW 4 RX3 35 yX4_xAt kX4_xAt 1 := ⟨by decide, ⟨_, _, rfl⟩, gd_of 828 (by decide +kernel) rfl, mwi_X4_xAt, mwv_X4_xAt, mwn_X4_xAt, mwc_X4_xAt, mwd_X4_xAt⟩
theorem cw_X3_39 : VW 4 RX3 39 yX4_valueAt kX4_valueAt 2 := ⟨by decide, ⟨_, _, rfl⟩, gd_of 829 (by decide +kernel) rfl, mwi_X4_valueAt, mwv_X4_valueAt, mwn_X4_valueAt, mwc_X4_valueAt, mwd_X4_valueAt⟩
theorem cw_X3_43 : VW 3 RX3 43 yX3_judge kX3_judge 0 := ⟨by decide, ⟨_, _, rfl⟩, gd_of 830 (by decide +kernel) rfl, mwi_X3_judge, mwv_X3_judge, mwn_X3_judge, mwc_X3_judge, mwd_X3_judge⟩
theorem cw_X3_46 : VW 4 RX3 46 yX4_leftEndAt kX4_leftEndAt 2 := ⟨by decide, ⟨_, _, rfl⟩, gd_of 835 (by decide +kernel) rfl, mwi_X4_leftEndAt, mwv_X4_leftEndAt, mwn_X4_leftEndAt, mwc_X4_leftEndAt, mwd_X4_leftEndAt⟩
theorem cw_X3_49 : VW 4 RX3 49 yX4_rightBeginAt kX4_rightBeginAt 2 := ⟨by decide, ⟨_, _, rfl⟩, gd_of 836 (by decide +kernel) rfl, mwi_X4_rightBeginAt, mwv_X4_rightBeginAt, mwn_X4_rightBeginAt, mwc_X4_rightBeginAt, mwd_X4_rightBeginAt⟩
theorem cw_X3_55 : VW 2 RX3 55 yX2_orderTo kX2_orderTo 1 := ⟨by decide, ⟨_, _, rfl⟩, gd_of 834 (by decide +kernel) rfl, mwi_X2_orderTo, mwv_X2_orderTo, mwn_X2_orderTo, mwc_X2_orderTo, mwd_X2_orderTo⟩
theorem cw_X4_32 : SW RX4 32 yX2_commonDivisor kX2_commonDivisor 2 := ⟨gd_of 394 (by decide +kernel) rfl, mws_X2_commonDivisor, mwn_X2_commonDivisor, mwc_X2_commonDivisor, mwd_X2_commonDivisor⟩
theorem cw_X4_38 : VW 4 RX4 38 yX4_makeRoom kX4_makeRoom 1 := ⟨by decide, ⟨_, _, rfl⟩, gd_of 400 (by decide +kernel) rfl, mwi_X4_makeRoom, mwv_X4_makeRoom, mwn_X4_makeRoom, mwc_X4_makeRoom, mwd_X4_makeRoom⟩
theorem cw_X4_42 : SW RX4 42 yJ9_max_7cf53 kJ9_max_7cf53 2 := ⟨gd_of 404 (by decide +kernel) rfl, mws_J9_max_7cf53, mwn_J9_max_7cf53, mwc_J9_max_7cf53, mwd_J9_max_7cf53⟩
theorem cw_X4_48 : SW RX4 48 yJ7_copyOf_c38d5 kJ7_copyOf_c38d5 2 := ⟨gd_of 407 (by decide +kernel) rfl, mws_J7_copyOf_c38d5, mwn_J7_copyOf_c38d5, mwc_J7_copyOf_c38d5, mwd_J7_copyOf_c38d5⟩
theorem cw_X4_54 : SW RX4 54 yJ7_copyOf_59c91 kJ7_copyOf_59c91 2 := ⟨gd_of 421 (by decide +kernel) rfl, mws_J7_copyOf_59c91, mwn_J7_copyOf_59c91, mwc_J7_copyOf_59c91, mwd_J7_copyOf_59c91⟩
theorem cw_X4_63 : NW RX4 63 "LeastSums" yX6_isPlace kX6_isPlace 1 := ⟨List.mem_of_getElem? (i := 481) (by decide +kernel), mwn_X6_isPlace, mwc_X6_isPlace, mwd_X6_isPlace⟩
theorem cw_X4_67 : VW 4 RX4 67 yX4_hasLine kX4_hasLine 1 := ⟨by decide, ⟨_, _, rfl⟩, gd_of 507 (by decide +kernel) rfl, mwi_X4_hasLine, mwv_X4_hasLine, mwn_X4_hasLine, mwc_X4_hasLine, mwd_X4_hasLine⟩
theorem cw_X4_71 : VW 4 RX4 71 yX4_runOf kX4_runOf 1 := ⟨by decide, ⟨_, _, rfl⟩, gd_of 686 (by decide +kernel) rfl, mwi_X4_runOf, mwv_X4_runOf, mwn_X4_runOf, mwc_X4_runOf, mwd_X4_runOf⟩
theorem cw_X4_75 : VW 4 RX4 75 yX4_riseOf kX4_riseOf 1 := ⟨by decide, ⟨_, _, rfl⟩, gd_of 687 (by decide +kernel) rfl, mwi_X4_riseOf, mwv_X4_riseOf, mwn_X4_riseOf, mwc_X4_riseOf, mwd_X4_riseOf⟩
theorem cw_X4_78 : VW 2 RX4 78 yX2_assign kX2_assign 2 := ⟨by decide, ⟨_, _, rfl⟩, gd_of 688 (by decide +kernel) rfl, mwi_X2_assign, mwv_X2_assign, mwn_X2_assign, mwc_X2_assign, mwd_X2_assign⟩
theorem cw_X4_82 : VW 2 RX4 82 yX2_forget kX2_forget 0 := ⟨by decide, ⟨_, _, rfl⟩, gd_of 678 (by decide +kernel) rfl, mwi_X2_forget, mwv_X2_forget, mwn_X2_forget, mwc_X2_forget, mwd_X2_forget⟩
theorem cw_X4_85 : VW 4 RX4 85 yX4_alongLine kX4_alongLine 3 := ⟨by decide, ⟨_, _, rfl⟩, gd_of 682 (by decide +kernel) rfl, mwi_X4_alongLine, mwv_X4_alongLine, mwn_X4_alongLine, mwc_X4_alongLine, mwd_X4_alongLine⟩
theorem cw_X4_89 : SW RX4 89 yJ9_max_f86c9 kJ9_max_f86c9 2 := ⟨gd_of 746 (by decide +kernel) rfl, mws_J9_max_f86c9, mwn_J9_max_f86c9, mwc_J9_max_f86c9, mwd_J9_max_f86c9⟩
theorem cw_X4_91 : VW 4 RX4 91 yX4_xAt kX4_xAt 1 := ⟨by decide, ⟨_, _, rfl⟩, gd_of 776 (by decide +kernel) rfl, mwi_X4_xAt, mwv_X4_xAt, mwn_X4_xAt, mwc_X4_xAt, mwd_X4_xAt⟩
theorem cw_X4_95 : VW 4 RX4 95 yX4_valueAt kX4_valueAt 2 := ⟨by decide, ⟨_, _, rfl⟩, gd_of 777 (by decide +kernel) rfl, mwi_X4_valueAt, mwv_X4_valueAt, mwn_X4_valueAt, mwc_X4_valueAt, mwd_X4_valueAt⟩
theorem cw_X4_110 : SW RX4 110 yX4_isStrictlyBetween kX4_isStrictlyBetween 3 := ⟨gd_of 778 (by decide +kernel) rfl, mws_X4_isStrictlyBetween, mwn_X4_isStrictlyBetween, mwc_X4_isStrictlyBetween, mwd_X4_isStrictlyBetween⟩
theorem cw_X4_114 : SW RX4 114 yJ9_min_f86c9 kJ9_min_f86c9 2 := ⟨gd_of 781 (by decide +kernel) rfl, mws_J9_min_f86c9, mwn_J9_min_f86c9, mwc_J9_min_f86c9, mwd_J9_min_f86c9⟩
theorem cw_X4_117 : VW 4 RX4 117 yX4_endOfPiece kX4_endOfPiece 1 := ⟨by decide, ⟨_, _, rfl⟩, gd_of 792 (by decide +kernel) rfl, mwi_X4_endOfPiece, mwv_X4_endOfPiece, mwn_X4_endOfPiece, mwc_X4_endOfPiece, mwd_X4_endOfPiece⟩
theorem cw_X5_46 : VW 5 RX5 46 yX5_readKnot kX5_readKnot 1 := ⟨by decide, ⟨_, _, rfl⟩, gd_of 300 (by decide +kernel) rfl, mwi_X5_readKnot, mwv_X5_readKnot, mwn_X5_readKnot, mwc_X5_readKnot, mwd_X5_readKnot⟩
theorem cw_X5_50 : VW 5 RX5 50 yX5_skipBlanks kX5_skipBlanks 0 := ⟨by decide, ⟨_, _, rfl⟩, gd_of 304 (by decide +kernel) rfl, mwi_X5_skipBlanks, mwv_X5_skipBlanks, mwn_X5_skipBlanks, mwc_X5_skipBlanks, mwd_X5_skipBlanks⟩
theorem cw_X5_53 : VW 5 RX5 53 yX5_endPart kX5_endPart 1 := ⟨by decide, ⟨_, _, rfl⟩, gd_of 342 (by decide +kernel) rfl, mwi_X5_endPart, mwv_X5_endPart, mwn_X5_endPart, mwc_X5_endPart, mwd_X5_endPart⟩
theorem cw_X5_57 : VW 5 RX5 57 yX5_takeSign kX5_takeSign 1 := ⟨by decide, ⟨_, _, rfl⟩, gd_of 316 (by decide +kernel) rfl, mwi_X5_takeSign, mwv_X5_takeSign, mwn_X5_takeSign, mwc_X5_takeSign, mwd_X5_takeSign⟩
theorem cw_X5_61 : VW 5 RX5 61 yX5_fail kX5_fail 1 := ⟨by decide, ⟨_, _, rfl⟩, gd_of 308 (by decide +kernel) rfl, mwi_X5_fail, mwv_X5_fail, mwn_X5_fail, mwc_X5_fail, mwd_X5_fail⟩
theorem cw_X5_65 : VW 5 RX5 65 yX5_readFraction kX5_readFraction 0 := ⟨by decide, ⟨_, _, rfl⟩, gd_of 312 (by decide +kernel) rfl, mwi_X5_readFraction, mwv_X5_readFraction, mwn_X5_readFraction, mwc_X5_readFraction, mwd_X5_readFraction⟩
theorem cw_X5_69 : VW 5 RX5 69 yX5_addReadKnot kX5_addReadKnot 3 := ⟨by decide, ⟨_, _, rfl⟩, gd_of 330 (by decide +kernel) rfl, mwi_X5_addReadKnot, mwv_X5_addReadKnot, mwn_X5_addReadKnot, mwc_X5_addReadKnot, mwd_X5_addReadKnot⟩
theorem cw_X5_73 : VW 1 RX5 73 yX1_addBetween kX1_addBetween 4 := ⟨by decide, ⟨_, _, rfl⟩, gd_of 334 (by decide +kernel) rfl, mwi_X1_addBetween, mwv_X1_addBetween, mwn_X1_addBetween, mwc_X1_addBetween, mwd_X1_addBetween⟩
theorem cw_X5_79 : VW 5 RX5 79 yX5_readNumber kX5_readNumber 2 := ⟨by decide, ⟨_, _, rfl⟩, gd_of 320 (by decide +kernel) rfl, mwi_X5_readNumber, mwv_X5_readNumber, mwn_X5_readNumber, mwc_X5_readNumber, mwd_X5_readNumber⟩
theorem cw_X5_83 : SW RX5 83 yX5_isDigit kX5_isDigit 1 := ⟨gd_of 324 (by decide +kernel) rfl, mws_X5_isDigit, mwn_X5_isDigit, mwc_X5_isDigit, mwd_X5_isDigit⟩
theorem cw_X5_86 : SW RX5 86 yJ9_min_7cf53 kJ9_min_7cf53 2 := ⟨gd_of 327 (by decide +kernel) rfl, mws_J9_min_7cf53, mwn_J9_min_7cf53, mwc_J9_min_7cf53, mwd_J9_min_7cf53⟩
theorem cw_L_9 : IW RL 9 yX6_init kX6_init 0 := ⟨gd_of 17 (by decide +kernel) rfl, mwi_X6_init, mwn_X6_init, rfl, mwc_X6_init, mwd_X6_init⟩
theorem cw_L_12 : IW RL 12 yX7_init kX7_init 0 := ⟨gd_of 851 (by decide +kernel) rfl, mwi_X7_init, mwn_X7_init, rfl, mwc_X7_init, mwd_X7_init⟩
theorem cw_L_13 : VW 6 RL 13 yX6_feed kX6_feed 5 := ⟨by decide, ⟨_, _, rfl⟩, gd_of 269 (by decide +kernel) rfl, mwi_X6_feed, mwv_X6_feed, mwn_X6_feed, mwc_X6_feed, mwd_X6_feed⟩
theorem cw_L_17 : VW 7 RL 17 yX7_feed kX7_feed 5 := ⟨by decide, ⟨_, _, rfl⟩, gd_of 1239 (by decide +kernel) rfl, mwi_X7_feed, mwv_X7_feed, mwn_X7_feed, mwc_X7_feed, mwd_X7_feed⟩
theorem cw_L_18 : VW 6 RL 18 yX6_end kX6_end 1 := ⟨by decide, ⟨_, _, rfl⟩, gd_of 277 (by decide +kernel) rfl, mwi_X6_end, mwv_X6_end, mwn_X6_end, mwc_X6_end, mwd_X6_end⟩
theorem cw_L_22 : VW 7 RL 22 yX7_end_ kX7_end_ 1 := ⟨by decide, ⟨_, _, rfl⟩, gd_of 1247 (by decide +kernel) rfl, mwi_X7_end_, mwv_X7_end_, mwn_X7_end_, mwc_X7_end_, mwd_X7_end_⟩
theorem cw_L_23 : VW 6 RL 23 yX6_read kX6_read 1 := ⟨by decide, ⟨_, _, rfl⟩, gd_of 281 (by decide +kernel) rfl, mwi_X6_read, mwv_X6_read, mwn_X6_read, mwc_X6_read, mwd_X6_read⟩
theorem cw_L_26 : VW 7 RL 26 yX7_read kX7_read 1 := ⟨by decide, ⟨_, _, rfl⟩, gd_of 1251 (by decide +kernel) rfl, mwi_X7_read, mwv_X7_read, mwn_X7_read, mwc_X7_read, mwd_X7_read⟩
theorem cw_L_27 : VW 6 RL 27 yX6_fault kX6_fault 0 := ⟨by decide, ⟨_, _, rfl⟩, gd_of 454 (by decide +kernel) rfl, mwi_X6_fault, mwv_X6_fault, mwn_X6_fault, mwc_X6_fault, mwd_X6_fault⟩
theorem cw_L_31 : VW 7 RL 31 yX7_fault kX7_fault 0 := ⟨by decide, ⟨_, _, rfl⟩, gd_of 1289 (by decide +kernel) rfl, mwi_X7_fault, mwv_X7_fault, mwn_X7_fault, mwc_X7_fault, mwd_X7_fault⟩
theorem cw_L_32 : VW 6 RL 32 yX6_dot kX6_dot 3 := ⟨by decide, ⟨_, _, rfl⟩, gd_of 458 (by decide +kernel) rfl, mwi_X6_dot, mwv_X6_dot, mwn_X6_dot, mwc_X6_dot, mwd_X6_dot⟩
theorem cw_L_36 : VW 7 RL 36 yX7_dot kX7_dot 3 := ⟨by decide, ⟨_, _, rfl⟩, gd_of 1231 (by decide +kernel) rfl, mwi_X7_dot, mwv_X7_dot, mwn_X7_dot, mwc_X7_dot, mwd_X7_dot⟩
theorem cw_L_37 : VW 6 RL 37 yX6_clear kX6_clear 1 := ⟨by decide, ⟨_, _, rfl⟩, gd_of 469 (by decide +kernel) rfl, mwi_X6_clear, mwv_X6_clear, mwn_X6_clear, mwc_X6_clear, mwd_X6_clear⟩
theorem cw_L_40 : VW 7 RL 40 yX7_clear kX7_clear 1 := ⟨by decide, ⟨_, _, rfl⟩, gd_of 1235 (by decide +kernel) rfl, mwi_X7_clear, mwv_X7_clear, mwn_X7_clear, mwc_X7_clear, mwd_X7_clear⟩
theorem cw_L_41 : VW 6 RL 41 yX6_sum kX6_sum 2 := ⟨by decide, ⟨_, _, rfl⟩, gd_of 487 (by decide +kernel) rfl, mwi_X6_sum, mwv_X6_sum, mwn_X6_sum, mwc_X6_sum, mwd_X6_sum⟩
theorem cw_L_45 : VW 7 RL 45 yX7_sum kX7_sum 2 := ⟨by decide, ⟨_, _, rfl⟩, gd_of 1063 (by decide +kernel) rfl, mwi_X7_sum, mwv_X7_sum, mwn_X7_sum, mwc_X7_sum, mwd_X7_sum⟩
theorem cw_L_46 : VW 6 RL 46 yX6_under kX6_under 2 := ⟨by decide, ⟨_, _, rfl⟩, gd_of 529 (by decide +kernel) rfl, mwi_X6_under, mwv_X6_under, mwn_X6_under, mwc_X6_under, mwd_X6_under⟩
theorem cw_L_49 : VW 7 RL 49 yX7_under_ kX7_under_ 2 := ⟨by decide, ⟨_, _, rfl⟩, gd_of 1169 (by decide +kernel) rfl, mwi_X7_under_, mwv_X7_under_, mwn_X7_under_, mwc_X7_under_, mwd_X7_under_⟩
theorem cw_L_50 : VW 6 RL 50 yX6_join kX6_join 2 := ⟨by decide, ⟨_, _, rfl⟩, gd_of 533 (by decide +kernel) rfl, mwi_X6_join, mwv_X6_join, mwn_X6_join, mwc_X6_join, mwd_X6_join⟩
theorem cw_L_53 : VW 7 RL 53 yX7_join kX7_join 2 := ⟨by decide, ⟨_, _, rfl⟩, gd_of 1173 (by decide +kernel) rfl, mwi_X7_join, mwv_X7_join, mwn_X7_join, mwc_X7_join, mwd_X7_join⟩
theorem cw_L_54 : VW 6 RL 54 yX6_turn kX6_turn 1 := ⟨by decide, ⟨_, _, rfl⟩, gd_of 545 (by decide +kernel) rfl, mwi_X6_turn, mwv_X6_turn, mwn_X6_turn, mwc_X6_turn, mwd_X6_turn⟩
theorem cw_L_57 : VW 7 RL 57 yX7_turn kX7_turn 1 := ⟨by decide, ⟨_, _, rfl⟩, gd_of 1181 (by decide +kernel) rfl, mwi_X7_turn, mwv_X7_turn, mwn_X7_turn, mwc_X7_turn, mwd_X7_turn⟩
theorem cw_L_58 : VW 6 RL 58 yX6_hull kX6_hull 1 := ⟨by decide, ⟨_, _, rfl⟩, gd_of 561 (by decide +kernel) rfl, mwi_X6_hull, mwv_X6_hull, mwn_X6_hull, mwc_X6_hull, mwd_X6_hull⟩
theorem cw_L_61 : VW 7 RL 61 yX7_hull kX7_hull 1 := ⟨by decide, ⟨_, _, rfl⟩, gd_of 1189 (by decide +kernel) rfl, mwi_X7_hull, mwv_X7_hull, mwn_X7_hull, mwc_X7_hull, mwd_X7_hull⟩
theorem cw_L_62 : VW 6 RL 62 yX6_cut kX6_cut 3 := ⟨by decide, ⟨_, _, rfl⟩, gd_of 573 (by decide +kernel) rfl, mwi_X6_cut, mwv_X6_cut, mwn_X6_cut, mwc_X6_cut, mwd_X6_cut⟩
theorem cw_L_65 : VW 7 RL 65 yX7_cut kX7_cut 3 := ⟨by decide, ⟨_, _, rfl⟩, gd_of 1197 (by decide +kernel) rfl, mwi_X7_cut, mwv_X7_cut, mwn_X7_cut, mwc_X7_cut, mwd_X7_cut⟩
theorem cw_L_66 : VW 6 RL 66 yX6_move kX6_move 3 := ⟨by decide, ⟨_, _, rfl⟩, gd_of 581 (by decide +kernel) rfl, mwi_X6_move, mwv_X6_move, mwn_X6_move, mwc_X6_move, mwd_X6_move⟩
theorem cw_L_69 : VW 7 RL 69 yX7_move kX7_move 3 := ⟨by decide, ⟨_, _, rfl⟩, gd_of 1206 (by decide +kernel) rfl, mwi_X7_move, mwv_X7_move, mwn_X7_move, mwc_X7_move, mwd_X7_move⟩
theorem cw_L_70 : VW 6 RL 70 yX6_times kX6_times 2 := ⟨by decide, ⟨_, _, rfl⟩, gd_of 589 (by decide +kernel) rfl, mwi_X6_times, mwv_X6_times, mwn_X6_times, mwc_X6_times, mwd_X6_times⟩
theorem cw_L_73 : VW 7 RL 73 yX7_times kX7_times 2 := ⟨by decide, ⟨_, _, rfl⟩, gd_of 1210 (by decide +kernel) rfl, mwi_X7_times, mwv_X7_times, mwn_X7_times, mwc_X7_times, mwd_X7_times⟩
theorem cw_L_74 : VW 6 RL 74 yX6_lay kX6_lay 1 := ⟨by decide, ⟨_, _, rfl⟩, gd_of 597 (by decide +kernel) rfl, mwi_X6_lay, mwv_X6_lay, mwn_X6_lay, mwc_X6_lay, mwd_X6_lay⟩
theorem cw_L_77 : VW 7 RL 77 yX7_lay_ kX7_lay_ 1 := ⟨by decide, ⟨_, _, rfl⟩, gd_of 1215 (by decide +kernel) rfl, mwi_X7_lay_, mwv_X7_lay_, mwn_X7_lay_, mwc_X7_lay_, mwd_X7_lay_⟩
theorem cw_L_78 : VW 6 RL 78 yX6_put kX6_put 1 := ⟨by decide, ⟨_, _, rfl⟩, gd_of 473 (by decide +kernel) rfl, mwi_X6_put, mwv_X6_put, mwn_X6_put, mwc_X6_put, mwd_X6_put⟩
theorem cw_L_81 : VW 7 RL 81 yX7_put kX7_put 1 := ⟨by decide, ⟨_, _, rfl⟩, gd_of 1219 (by decide +kernel) rfl, mwi_X7_put, mwv_X7_put, mwn_X7_put, mwc_X7_put, mwd_X7_put⟩
theorem cw_L_82 : VW 6 RL 82 yX6_undo kX6_undo 0 := ⟨by decide, ⟨_, _, rfl⟩, gd_of 601 (by decide +kernel) rfl, mwi_X6_undo, mwv_X6_undo, mwn_X6_undo, mwc_X6_undo, mwd_X6_undo⟩
theorem cw_L_85 : VW 7 RL 85 yX7_undo kX7_undo 0 := ⟨by decide, ⟨_, _, rfl⟩, gd_of 1028 (by decide +kernel) rfl, mwi_X7_undo, mwv_X7_undo, mwn_X7_undo, mwc_X7_undo, mwd_X7_undo⟩
theorem cw_L_86 : VW 6 RL 86 yX6_image kX6_image 1 := ⟨by decide, ⟨_, _, rfl⟩, gd_of 618 (by decide +kernel) rfl, mwi_X6_image, mwv_X6_image, mwn_X6_image, mwc_X6_image, mwd_X6_image⟩
theorem cw_L_89 : VW 7 RL 89 yX7_image kX7_image 1 := ⟨by decide, ⟨_, _, rfl⟩, gd_of 1044 (by decide +kernel) rfl, mwi_X7_image, mwv_X7_image, mwn_X7_image, mwc_X7_image, mwd_X7_image⟩
theorem cw_L_90 : VW 6 RL 90 yX6_back kX6_back 1 := ⟨by decide, ⟨_, _, rfl⟩, gd_of 629 (by decide +kernel) rfl, mwi_X6_back, mwv_X6_back, mwn_X6_back, mwc_X6_back, mwd_X6_back⟩
theorem cw_L_93 : VW 7 RL 93 yX7_back kX7_back 1 := ⟨by decide, ⟨_, _, rfl⟩, gd_of 1059 (by decide +kernel) rfl, mwi_X7_back, mwv_X7_back, mwn_X7_back, mwc_X7_back, mwd_X7_back⟩
theorem cw_L_94 : VW 6 RL 94 yX6_paper kX6_paper 2 := ⟨by decide, ⟨_, _, rfl⟩, gd_of 637 (by decide +kernel) rfl, mwi_X6_paper, mwv_X6_paper, mwn_X6_paper, mwc_X6_paper, mwd_X6_paper⟩
theorem cw_L_98 : VW 7 RL 98 yX7_paper kX7_paper 2 := ⟨by decide, ⟨_, _, rfl⟩, gd_of 1293 (by decide +kernel) rfl, mwi_X7_paper, mwv_X7_paper, mwn_X7_paper, mwc_X7_paper, mwd_X7_paper⟩
theorem cw_L_99 : VW 6 RL 99 yX6_knot kX6_knot 3 := ⟨by decide, ⟨_, _, rfl⟩, gd_of 654 (by decide +kernel) rfl, mwi_X6_knot, mwv_X6_knot, mwn_X6_knot, mwc_X6_knot, mwd_X6_knot⟩
theorem cw_L_102 : VW 7 RL 102 yX7_knot_ kX7_knot_ 3 := ⟨by decide, ⟨_, _, rfl⟩, gd_of 1302 (by decide +kernel) rfl, mwi_X7_knot_, mwv_X7_knot_, mwn_X7_knot_, mwc_X7_knot_, mwd_X7_knot_⟩
theorem cw_L_103 : VW 6 RL 103 yX6_value kX6_value 3 := ⟨by decide, ⟨_, _, rfl⟩, gd_of 667 (by decide +kernel) rfl, mwi_X6_value, mwv_X6_value, mwn_X6_value, mwc_X6_value, mwd_X6_value⟩
theorem cw_L_107 : VW 7 RL 107 yX7_value kX7_value 3 := ⟨by decide, ⟨_, _, rfl⟩, gd_of 1308 (by decide +kernel) rfl, mwi_X7_value, mwv_X7_value, mwn_X7_value, mwc_X7_value, mwd_X7_value⟩
theorem cw_L_108 : VW 6 RL 108 yX6_bits kX6_bits 2 := ⟨by decide, ⟨_, _, rfl⟩, gd_of 689 (by decide +kernel) rfl, mwi_X6_bits, mwv_X6_bits, mwn_X6_bits, mwc_X6_bits, mwd_X6_bits⟩
theorem cw_L_111 : VW 7 RL 111 yX7_bits kX7_bits 2 := ⟨by decide, ⟨_, _, rfl⟩, gd_of 1316 (by decide +kernel) rfl, mwi_X7_bits, mwv_X7_bits, mwn_X7_bits, mwc_X7_bits, mwd_X7_bits⟩
theorem cw_L_112 : VW 6 RL 112 yX6_limit kX6_limit 3 := ⟨by decide, ⟨_, _, rfl⟩, gd_of 698 (by decide +kernel) rfl, mwi_X6_limit, mwv_X6_limit, mwn_X6_limit, mwc_X6_limit, mwd_X6_limit⟩
theorem cw_L_115 : VW 7 RL 115 yX7_limit kX7_limit 3 := ⟨by decide, ⟨_, _, rfl⟩, gd_of 1330 (by decide +kernel) rfl, mwi_X7_limit, mwv_X7_limit, mwn_X7_limit, mwc_X7_limit, mwd_X7_limit⟩
theorem cw_L_116 : VW 6 RL 116 yX6_of kX6_of 2 := ⟨by decide, ⟨_, _, rfl⟩, gd_of 710 (by decide +kernel) rfl, mwi_X6_of, mwv_X6_of, mwn_X6_of, mwc_X6_of, mwd_X6_of⟩
theorem cw_L_119 : VW 7 RL 119 yX7_of kX7_of 2 := ⟨by decide, ⟨_, _, rfl⟩, gd_of 1335 (by decide +kernel) rfl, mwi_X7_of, mwv_X7_of, mwn_X7_of, mwc_X7_of, mwd_X7_of⟩
theorem cw_L_120 : VW 6 RL 120 yX6_least kX6_least 2 := ⟨by decide, ⟨_, _, rfl⟩, gd_of 730 (by decide +kernel) rfl, mwi_X6_least, mwv_X6_least, mwn_X6_least, mwc_X6_least, mwd_X6_least⟩
theorem cw_L_123 : VW 7 RL 123 yX7_least kX7_least 2 := ⟨by decide, ⟨_, _, rfl⟩, gd_of 1355 (by decide +kernel) rfl, mwi_X7_least, mwv_X7_least, mwn_X7_least, mwc_X7_least, mwd_X7_least⟩
theorem cw_L_124 : VW 6 RL 124 yX6_slope kX6_slope 3 := ⟨by decide, ⟨_, _, rfl⟩, gd_of 749 (by decide +kernel) rfl, mwi_X6_slope, mwv_X6_slope, mwn_X6_slope, mwc_X6_slope, mwd_X6_slope⟩
theorem cw_L_127 : VW 7 RL 127 yX7_slope kX7_slope 3 := ⟨by decide, ⟨_, _, rfl⟩, gd_of 1359 (by decide +kernel) rfl, mwi_X7_slope, mwv_X7_slope, mwn_X7_slope, mwc_X7_slope, mwd_X7_slope⟩
theorem cw_L_128 : VW 6 RL 128 yX6_area kX6_area 2 := ⟨by decide, ⟨_, _, rfl⟩, gd_of 759 (by decide +kernel) rfl, mwi_X6_area, mwv_X6_area, mwn_X6_area, mwc_X6_area, mwd_X6_area⟩
theorem cw_L_131 : VW 7 RL 131 yX7_area kX7_area 2 := ⟨by decide, ⟨_, _, rfl⟩, gd_of 1363 (by decide +kernel) rfl, mwi_X7_area, mwv_X7_area, mwn_X7_area, mwc_X7_area, mwd_X7_area⟩
theorem cw_L_132 : VW 6 RL 132 yX6_where kX6_where 3 := ⟨by decide, ⟨_, _, rfl⟩, gd_of 768 (by decide +kernel) rfl, mwi_X6_where, mwv_X6_where, mwn_X6_where, mwc_X6_where, mwd_X6_where⟩
theorem cw_L_135 : VW 7 RL 135 yX7_where kX7_where 3 := ⟨by decide, ⟨_, _, rfl⟩, gd_of 1368 (by decide +kernel) rfl, mwi_X7_where, mwv_X7_where, mwn_X7_where, mwc_X7_where, mwd_X7_where⟩
theorem cw_L_136 : VW 6 RL 136 yX6_places kX6_places 3 := ⟨by decide, ⟨_, _, rfl⟩, gd_of 784 (by decide +kernel) rfl, mwi_X6_places, mwv_X6_places, mwn_X6_places, mwc_X6_places, mwd_X6_places⟩
theorem cw_L_139 : VW 7 RL 139 yX7_places kX7_places 3 := ⟨by decide, ⟨_, _, rfl⟩, gd_of 1376 (by decide +kernel) rfl, mwi_X7_places, mwv_X7_places, mwn_X7_places, mwc_X7_places, mwd_X7_places⟩
theorem cw_L_140 : VW 6 RL 140 yX6_split kX6_split 4 := ⟨by decide, ⟨_, _, rfl⟩, gd_of 793 (by decide +kernel) rfl, mwi_X6_split, mwv_X6_split, mwn_X6_split, mwc_X6_split, mwd_X6_split⟩
theorem cw_L_144 : VW 7 RL 144 yX7_split kX7_split 4 := ⟨by decide, ⟨_, _, rfl⟩, gd_of 1380 (by decide +kernel) rfl, mwi_X7_split, mwv_X7_split, mwn_X7_split, mwc_X7_split, mwd_X7_split⟩
theorem cw_L_145 : VW 6 RL 145 yX6_compare kX6_compare 2 := ⟨by decide, ⟨_, _, rfl⟩, gd_of 816 (by decide +kernel) rfl, mwi_X6_compare, mwv_X6_compare, mwn_X6_compare, mwc_X6_compare, mwd_X6_compare⟩
theorem cw_L_148 : VW 7 RL 148 yX7_compare kX7_compare 2 := ⟨by decide, ⟨_, _, rfl⟩, gd_of 1388 (by decide +kernel) rfl, mwi_X7_compare, mwv_X7_compare, mwn_X7_compare, mwc_X7_compare, mwd_X7_compare⟩
theorem cw_L_149 : VW 6 RL 149 yX6_count kX6_count 1 := ⟨by decide, ⟨_, _, rfl⟩, gd_of 841 (by decide +kernel) rfl, mwi_X6_count, mwv_X6_count, mwn_X6_count, mwc_X6_count, mwd_X6_count⟩
theorem cw_L_152 : VW 7 RL 152 yX7_count kX7_count 1 := ⟨by decide, ⟨_, _, rfl⟩, gd_of 1396 (by decide +kernel) rfl, mwi_X7_count, mwv_X7_count, mwn_X7_count, mwc_X7_count, mwd_X7_count⟩
theorem cw_L_153 : VW 6 RL 153 yX6_status kX6_status 0 := ⟨by decide, ⟨_, _, rfl⟩, gd_of 845 (by decide +kernel) rfl, mwi_X6_status, mwv_X6_status, mwn_X6_status, mwc_X6_status, mwd_X6_status⟩
theorem cw_L_156 : VW 7 RL 156 yX7_status kX7_status 0 := ⟨by decide, ⟨_, _, rfl⟩, gd_of 1408 (by decide +kernel) rfl, mwi_X7_status, mwv_X7_status, mwn_X7_status, mwc_X7_status, mwd_X7_status⟩
theorem cw_X7_114 : SW RX7 114 yX7_in kX7_in 3 := ⟨gd_of 1048 (by decide +kernel) rfl, mws_X7_in, mwn_X7_in, mwc_X7_in, mwd_X7_in⟩
theorem cw_X7_118 : SW RX7 118 yX7_down kX7_down 2 := ⟨gd_of 1130 (by decide +kernel) rfl, mws_X7_down, mwn_X7_down, mwc_X7_down, mwd_X7_down⟩
theorem cw_X7_134 : VW 7 RX7 134 yX7_lay kX7_lay 5 := ⟨by decide, ⟨_, _, rfl⟩, gd_of 1051 (by decide +kernel) rfl, mwi_X7_lay, mwv_X7_lay, mwn_X7_lay, mwc_X7_lay, mwd_X7_lay⟩
theorem cw_X7_138 : VW 7 RX7 138 yX7_refuse kX7_refuse 1 := ⟨by decide, ⟨_, _, rfl⟩, gd_of 1032 (by decide +kernel) rfl, mwi_X7_refuse, mwv_X7_refuse, mwn_X7_refuse, mwc_X7_refuse, mwd_X7_refuse⟩
theorem cw_X7_142 : VW 7 RX7 142 yX7_bring kX7_bring 5 := ⟨by decide, ⟨_, _, rfl⟩, gd_of 1036 (by decide +kernel) rfl, mwi_X7_bring, mwv_X7_bring, mwn_X7_bring, mwc_X7_bring, mwd_X7_bring⟩
theorem cw_X7_145 : VW 7 RX7 145 yX7_tell kX7_tell 1 := ⟨by decide, ⟨_, _, rfl⟩, gd_of 1040 (by decide +kernel) rfl, mwi_X7_tell, mwv_X7_tell, mwn_X7_tell, mwc_X7_tell, mwd_X7_tell⟩
theorem cw_X7_148 : VW 7 RX7 148 yX7_knots kX7_knots 0 := ⟨by decide, ⟨_, _, rfl⟩, gd_of 1055 (by decide +kernel) rfl, mwi_X7_knots, mwv_X7_knots, mwn_X7_knots, mwc_X7_knots, mwd_X7_knots⟩
theorem cw_X7_154 : VW 7 RX7 154 yX7_goes kX7_goes 2 := ⟨by decide, ⟨_, _, rfl⟩, gd_of 1087 (by decide +kernel) rfl, mwi_X7_goes, mwv_X7_goes, mwn_X7_goes, mwc_X7_goes, mwd_X7_goes⟩
theorem cw_X7_161 : VW 7 RX7 161 yX7_line kX7_line 5 := ⟨by decide, ⟨_, _, rfl⟩, gd_of 1103 (by decide +kernel) rfl, mwi_X7_line, mwv_X7_line, mwn_X7_line, mwc_X7_line, mwd_X7_line⟩
theorem cw_X7_168 : VW 7 RX7 168 yX7_many kX7_many 1 := ⟨by decide, ⟨_, _, rfl⟩, gd_of 1079 (by decide +kernel) rfl, mwi_X7_many, mwv_X7_many, mwn_X7_many, mwc_X7_many, mwd_X7_many⟩
theorem cw_X7_171 : VW 7 RX7 171 yX7_isLone kX7_isLone 2 := ⟨by decide, ⟨_, _, rfl⟩, gd_of 1083 (by decide +kernel) rfl, mwi_X7_isLone, mwv_X7_isLone, mwn_X7_isLone, mwc_X7_isLone, mwd_X7_isLone⟩
theorem cw_X7_174 : VW 7 RX7 174 yX7_xOf kX7_xOf 2 := ⟨by decide, ⟨_, _, rfl⟩, gd_of 1091 (by decide +kernel) rfl, mwi_X7_xOf, mwv_X7_xOf, mwn_X7_xOf, mwc_X7_xOf, mwd_X7_xOf⟩
theorem cw_X7_178 : VW 7 RX7 178 yX7_yOf kX7_yOf 2 := ⟨by decide, ⟨_, _, rfl⟩, gd_of 1095 (by decide +kernel) rfl, mwi_X7_yOf, mwv_X7_yOf, mwn_X7_yOf, mwc_X7_yOf, mwd_X7_yOf⟩
theorem cw_X7_181 : VW 7 RX7 181 yX7_laySpans kX7_laySpans 2 := ⟨by decide, ⟨_, _, rfl⟩, gd_of 1075 (by decide +kernel) rfl, mwi_X7_laySpans, mwv_X7_laySpans, mwn_X7_laySpans, mwc_X7_laySpans, mwd_X7_laySpans⟩
theorem cw_X7_185 : VW 7 RX7 185 yX7_lineBy kX7_lineBy 4 := ⟨by decide, ⟨_, _, rfl⟩, gd_of 1099 (by decide +kernel) rfl, mwi_X7_lineBy, mwv_X7_lineBy, mwn_X7_lineBy, mwc_X7_lineBy, mwd_X7_lineBy⟩
theorem cw_X7_189 : SW RX7 189 yX7_lie kX7_lie 4 := ⟨gd_of 1127 (by decide +kernel) rfl, mws_X7_lie, mwn_X7_lie, mwc_X7_lie, mwd_X7_lie⟩
theorem cw_X7_196 : VW 7 RX7 196 yX7_lieAt kX7_lieAt 4 := ⟨by decide, ⟨_, _, rfl⟩, gd_of 1141 (by decide +kernel) rfl, mwi_X7_lieAt, mwv_X7_lieAt, mwn_X7_lieAt, mwc_X7_lieAt, mwd_X7_lieAt⟩
theorem cw_X7_200 : VW 7 RX7 200 yX7_addNew kX7_addNew 5 := ⟨by decide, ⟨_, _, rfl⟩, gd_of 1133 (by decide +kernel) rfl, mwi_X7_addNew, mwv_X7_addNew, mwn_X7_addNew, mwc_X7_addNew, mwd_X7_addNew⟩
theorem cw_X7_204 : SW RX7 204 yX7_common kX7_common 2 := ⟨gd_of 1145 (by decide +kernel) rfl, mws_X7_common, mwn_X7_common, mwc_X7_common, mwd_X7_common⟩
theorem cw_X7_212 : VW 7 RX7 212 yX7_meet kX7_meet 6 := ⟨by decide, ⟨_, _, rfl⟩, gd_of 1137 (by decide +kernel) rfl, mwi_X7_meet, mwv_X7_meet, mwn_X7_meet, mwc_X7_meet, mwd_X7_meet⟩
theorem cw_X7_219 : VW 7 RX7 219 yX7_addBreak kX7_addBreak 2 := ⟨by decide, ⟨_, _, rfl⟩, gd_of 1153 (by decide +kernel) rfl, mwi_X7_addBreak, mwv_X7_addBreak, mwn_X7_addBreak, mwc_X7_addBreak, mwd_X7_addBreak⟩
theorem cw_X7_223 : VW 7 RX7 223 yX7_under kX7_under 1 := ⟨by decide, ⟨_, _, rfl⟩, gd_of 1123 (by decide +kernel) rfl, mwi_X7_under, mwv_X7_under, mwn_X7_under, mwc_X7_under, mwd_X7_under⟩
theorem cw_X7_227 : VW 7 RX7 227 yX7_layBreaks kX7_layBreaks 0 := ⟨by decide, ⟨_, _, rfl⟩, gd_of 1149 (by decide +kernel) rfl, mwi_X7_layBreaks, mwv_X7_layBreaks, mwn_X7_layBreaks, mwc_X7_layBreaks, mwd_X7_layBreaks⟩
theorem cw_X7_230 : VW 7 RX7 230 yX7_end kX7_end 2 := ⟨by decide, ⟨_, _, rfl⟩, gd_of 1157 (by decide +kernel) rfl, mwi_X7_end, mwv_X7_end, mwn_X7_end, mwc_X7_end, mwd_X7_end⟩
theorem cw_X7_233 : VW 7 RX7 233 yX7_leastAt kX7_leastAt 2 := ⟨by decide, ⟨_, _, rfl⟩, gd_of 1161 (by decide +kernel) rfl, mwi_X7_leastAt, mwv_X7_leastAt, mwn_X7_leastAt, mwc_X7_leastAt, mwd_X7_leastAt⟩
theorem cw_X7_237 : VW 7 RX7 237 yX7_knot kX7_knot 4 := ⟨by decide, ⟨_, _, rfl⟩, gd_of 1165 (by decide +kernel) rfl, mwi_X7_knot, mwv_X7_knot, mwn_X7_knot, mwc_X7_knot, mwd_X7_knot⟩
theorem cw_X7_241 : VW 7 RX7 241 yX7_remember kX7_remember 1 := ⟨by decide, ⟨_, _, rfl⟩, gd_of 1115 (by decide +kernel) rfl, mwi_X7_remember, mwv_X7_remember, mwn_X7_remember, mwc_X7_remember, mwd_X7_remember⟩
theorem cw_X7_244 : VW 7 RX7 244 yX7_layPaper kX7_layPaper 0 := ⟨by decide, ⟨_, _, rfl⟩, gd_of 1119 (by decide +kernel) rfl, mwi_X7_layPaper, mwv_X7_layPaper, mwn_X7_layPaper, mwc_X7_layPaper, mwd_X7_layPaper⟩
theorem cw_X7_247 : SW RX7 247 yX7_isStore kX7_isStore 1 := ⟨gd_of 1067 (by decide +kernel) rfl, mws_X7_isStore, mwn_X7_isStore, mwc_X7_isStore, mwd_X7_isStore⟩
theorem cw_X7_251 : VW 7 RX7 251 yX7_linesOf kX7_linesOf 1 := ⟨by decide, ⟨_, _, rfl⟩, gd_of 1071 (by decide +kernel) rfl, mwi_X7_linesOf, mwv_X7_linesOf, mwn_X7_linesOf, mwc_X7_linesOf, mwd_X7_linesOf⟩
theorem cw_X7_254 : VW 7 RX7 254 yX7_forget kX7_forget 1 := ⟨by decide, ⟨_, _, rfl⟩, gd_of 1107 (by decide +kernel) rfl, mwi_X7_forget, mwv_X7_forget, mwn_X7_forget, mwc_X7_forget, mwd_X7_forget⟩
theorem cw_X7_257 : VW 7 RX7 257 yX7_onto kX7_onto 1 := ⟨by decide, ⟨_, _, rfl⟩, gd_of 1111 (by decide +kernel) rfl, mwi_X7_onto, mwv_X7_onto, mwn_X7_onto, mwc_X7_onto, mwd_X7_onto⟩
theorem cw_X7_260 : VW 7 RX7 260 yX7_joinTwo kX7_joinTwo 2 := ⟨by decide, ⟨_, _, rfl⟩, gd_of 1177 (by decide +kernel) rfl, mwi_X7_joinTwo, mwv_X7_joinTwo, mwn_X7_joinTwo, mwc_X7_joinTwo, mwd_X7_joinTwo⟩
theorem cw_X7_263 : VW 7 RX7 263 yX7_isStrict kX7_isStrict 2 := ⟨by decide, ⟨_, _, rfl⟩, gd_of 1185 (by decide +kernel) rfl, mwi_X7_isStrict, mwv_X7_isStrict, mwn_X7_isStrict, mwc_X7_isStrict, mwd_X7_isStrict⟩
theorem cw_X7_266 : VW 7 RX7 266 yX7_turnsUp kX7_turnsUp 3 := ⟨by decide, ⟨_, _, rfl⟩, gd_of 1193 (by decide +kernel) rfl, mwi_X7_turnsUp, mwv_X7_turnsUp, mwn_X7_turnsUp, mwc_X7_turnsUp, mwd_X7_turnsUp⟩
theorem cw_X7_270 : SW RX7 270 yX7_isPlace kX7_isPlace 1 := ⟨gd_of 1201 (by decide +kernel) rfl, mws_X7_isPlace, mwn_X7_isPlace, mwc_X7_isPlace, mwd_X7_isPlace⟩
theorem cw_X7_276 : VW 7 RX7 276 yX7_canPut kX7_canPut 0 := ⟨by decide, ⟨_, _, rfl⟩, gd_of 1223 (by decide +kernel) rfl, mwi_X7_canPut, mwv_X7_canPut, mwn_X7_canPut, mwc_X7_canPut, mwd_X7_canPut⟩
theorem cw_X7_280 : VW 7 RX7 280 yX7_store kX7_store 1 := ⟨by decide, ⟨_, _, rfl⟩, gd_of 1227 (by decide +kernel) rfl, mwi_X7_store, mwv_X7_store, mwn_X7_store, mwc_X7_store, mwd_X7_store⟩
theorem cw_X7_286 : VW 7 RX7 286 yX7_comes kX7_comes 1 := ⟨by decide, ⟨_, _, rfl⟩, gd_of 1243 (by decide +kernel) rfl, mwi_X7_comes, mwv_X7_comes, mwn_X7_comes, mwc_X7_comes, mwd_X7_comes⟩
theorem cw_X7_300 : VW 7 RX7 300 yX7_sign kX7_sign 0 := ⟨by decide, ⟨_, _, rfl⟩, gd_of 1263 (by decide +kernel) rfl, mwi_X7_sign, mwv_X7_sign, mwn_X7_sign, mwc_X7_sign, mwd_X7_sign⟩
theorem cw_X7_303 : SW RX7 303 yX7_isDigit kX7_isDigit 1 := ⟨gd_of 1279 (by decide +kernel) rfl, mws_X7_isDigit, mwn_X7_isDigit, mwc_X7_isDigit, mwd_X7_isDigit⟩
theorem cw_X7_306 : VW 7 RX7 306 yX7_wrong kX7_wrong 1 := ⟨by decide, ⟨_, _, rfl⟩, gd_of 1267 (by decide +kernel) rfl, mwi_X7_wrong, mwv_X7_wrong, mwn_X7_wrong, mwc_X7_wrong, mwd_X7_wrong⟩
theorem cw_X7_313 : VW 7 RX7 313 yX7_number kX7_number 2 := ⟨by decide, ⟨_, _, rfl⟩, gd_of 1275 (by decide +kernel) rfl, mwi_X7_number, mwv_X7_number, mwn_X7_number, mwc_X7_number, mwd_X7_number⟩
theorem cw_X7_319 : VW 7 RX7 319 yX7_fraction kX7_fraction 0 := ⟨by decide, ⟨_, _, rfl⟩, gd_of 1271 (by decide +kernel) rfl, mwi_X7_fraction, mwv_X7_fraction, mwn_X7_fraction, mwc_X7_fraction, mwd_X7_fraction⟩
theorem cw_X7_322 : VW 7 RX7 322 yX7_readKnot kX7_readKnot 1 := ⟨by decide, ⟨_, _, rfl⟩, gd_of 1259 (by decide +kernel) rfl, mwi_X7_readKnot, mwv_X7_readKnot, mwn_X7_readKnot, mwc_X7_readKnot, mwd_X7_readKnot⟩
theorem cw_X7_326 : VW 7 RX7 326 yX7_readPart kX7_readPart 0 := ⟨by decide, ⟨_, _, rfl⟩, gd_of 1255 (by decide +kernel) rfl, mwi_X7_readPart, mwv_X7_readPart, mwn_X7_readPart, mwc_X7_readPart, mwd_X7_readPart⟩
theorem cw_X7_329 : VW 7 RX7 329 yX7_bringPaper kX7_bringPaper 1 := ⟨by decide, ⟨_, _, rfl⟩, gd_of 1285 (by decide +kernel) rfl, mwi_X7_bringPaper, mwv_X7_bringPaper, mwn_X7_bringPaper, mwc_X7_bringPaper, mwd_X7_bringPaper⟩
theorem cw_X7_336 : SW RX7 336 yX7_part kX7_part 3 := ⟨gd_of 1299 (by decide +kernel) rfl, mws_X7_part, mwn_X7_part, mwc_X7_part, mwd_X7_part⟩
theorem cw_X7_352 : VW 7 RX7 352 yX7_hasValue kX7_hasValue 2 := ⟨by decide, ⟨_, _, rfl⟩, gd_of 1312 (by decide +kernel) rfl, mwi_X7_hasValue, mwv_X7_hasValue, mwn_X7_hasValue, mwc_X7_hasValue, mwd_X7_hasValue⟩
theorem cw_X7_355 : SW RX7 355 yJxf58ca_floatToIntBits_5c35a kJxf58ca_floatToIntBits_5c35a 1 := ⟨gd_of 1320 (by decide +kernel) rfl, mws_Jxf58ca_floatToIntBits_5c35a, mwn_Jxf58ca_floatToIntBits_5c35a, mwc_Jxf58ca_floatToIntBits_5c35a, mwd_Jxf58ca_floatToIntBits_5c35a⟩
theorem cw_X7_363 : VW 7 RX7 363 yX7_linesIn kX7_linesIn 1 := ⟨by decide, ⟨_, _, rfl⟩, gd_of 1339 (by decide +kernel) rfl, mwi_X7_linesIn, mwv_X7_linesIn, mwn_X7_linesIn, mwc_X7_linesIn, mwd_X7_linesIn⟩
theorem cw_X7_366 : VW 7 RX7 366 yX7_jumps kX7_jumps 1 := ⟨by decide, ⟨_, _, rfl⟩, gd_of 1343 (by decide +kernel) rfl, mwi_X7_jumps, mwv_X7_jumps, mwn_X7_jumps, mwc_X7_jumps, mwd_X7_jumps⟩
theorem cw_X7_369 : VW 7 RX7 369 yX7_falls kX7_falls 2 := ⟨by decide, ⟨_, _, rfl⟩, gd_of 1347 (by decide +kernel) rfl, mwi_X7_falls, mwv_X7_falls, mwn_X7_falls, mwc_X7_falls, mwd_X7_falls⟩
theorem cw_X7_373 : VW 7 RX7 373 yX7_wide kX7_wide 1 := ⟨by decide, ⟨_, _, rfl⟩, gd_of 1351 (by decide +kernel) rfl, mwi_X7_wide, mwv_X7_wide, mwn_X7_wide, mwc_X7_wide, mwd_X7_wide⟩
theorem cw_X7_387 : VW 7 RX7 387 yX7_meets kX7_meets 3 := ⟨by decide, ⟨_, _, rfl⟩, gd_of 1372 (by decide +kernel) rfl, mwi_X7_meets, mwv_X7_meets, mwn_X7_meets, mwc_X7_meets, mwd_X7_meets⟩
theorem cw_X7_403 : VW 7 RX7 403 yX7_tries kX7_tries 4 := ⟨by decide, ⟨_, _, rfl⟩, gd_of 1384 (by decide +kernel) rfl, mwi_X7_tries, mwv_X7_tries, mwn_X7_tries, mwc_X7_tries, mwd_X7_tries⟩
theorem cw_X7_416 : VW 7 RX7 416 yX7_noteWay kX7_noteWay 1 := ⟨by decide, ⟨_, _, rfl⟩, gd_of 1392 (by decide +kernel) rfl, mwi_X7_noteWay, mwv_X7_noteWay, mwn_X7_noteWay, mwc_X7_noteWay, mwd_X7_noteWay⟩
theorem cw_X7_419 : VW 7 RX7 419 yX7_paperParts kX7_paperParts 0 := ⟨by decide, ⟨_, _, rfl⟩, gd_of 1400 (by decide +kernel) rfl, mwi_X7_paperParts, mwv_X7_paperParts, mwn_X7_paperParts, mwc_X7_paperParts, mwd_X7_paperParts⟩
theorem cw_Jxf58ca_59 : SW RJxf58ca 59 yJxf58ca_isNaN_12338 kJxf58ca_isNaN_12338 1 := ⟨gd_of 1323 (by decide +kernel) rfl, mws_Jxf58ca_isNaN_12338, mwn_Jxf58ca_isNaN_12338, mwc_Jxf58ca_isNaN_12338, mwd_Jxf58ca_isNaN_12338⟩
theorem cw_J7_304 : SW RJ7 304 yJ9_min_7cf53 kJ9_min_7cf53 2 := ⟨gd_of 417 (by decide +kernel) rfl, mws_J9_min_7cf53, mwn_J9_min_7cf53, mwc_J9_min_7cf53, mwd_J9_min_7cf53⟩
