/-! Tables of the links, written by a program (wip/whole/mk_links.py): class numbers, methods, fields, calls, classes, constants; each with the place of its word in lw_tbl -/
def xj_nm : Nat → String := fun o => match o with
  | 0 => "ChangeHouse$Formula"
  | 1 => "ChangeHouse$Line"
  | 2 => "ChangeHouse$Moment"
  | 3 => "ChangeHouse$Program"
  | 4 => "ChangeHouse$Reader"
  | 5 => "ChangeHouse$Rows"
  | 6 => "ChangeHouse$Rule"
  | 7 => "ChangeHouse$Sheet"
  | 8 => "ChangeHouse$Tape"
  | 9 => "ChangeHouse$Ways"
  | 10 => "ChangeHouse$Works"
  | 11 => "ChangeHouse"
  | 12 => "ChangeHouseModel$Facts"
  | 13 => "ChangeHouseModel$Line"
  | 14 => "ChangeHouseModel$Program"
  | 15 => "ChangeHouseModel"
  | 16 => "ChangeHouseLaw"
  | 17 => "java/util/Arrays"
  | 18 => "java/lang/String"
  | _ => "java/lang/StringLatin1"
/-- a method: its class, name, code, locals, answer, parameters, whether a constructor, places of its code word and of its class's initialized word -/
abbrev xj_mR : Type := Nat × MethodName × ByteArray × Nat × Option FieldType × Nat × Bool × (Nat × Nat) × (Nat × Nat)
def xj_mT0 : List xj_mR := [(0, yX0_init, cX0_init, 5, (Option.none : Option Jvm.ClassFile.FieldType), 2, true, (6, 31), (1, 28)),
  (0, yX0_addReads, cX0_addReads, 4, (Option.none : Option Jvm.ClassFile.FieldType), 2, false, (6, 40), (1, 28)),
  (0, yX0_addRead, cX0_addRead, 2, (Option.none : Option Jvm.ClassFile.FieldType), 1, false, (6, 36), (1, 28)),
  (0, yX0_readsAny, cX0_readsAny, 5, (Option.some Jvm.ClassFile.FieldType.boolean), 2, false, (7, 79), (1, 28)),
  (1, yX1_init, cX1_init, 2, (Option.none : Option Jvm.ClassFile.FieldType), 1, true, (2, 225), (1, 11)),
  (1, yX1_present, cX1_present, 1, (Option.some (Jvm.ClassFile.FieldType.object "ChangeHouse$Moment")), 0, false, (6, 3), (1, 11)),
  (1, yX1_isPast, cX1_isPast, 2, (Option.some Jvm.ClassFile.FieldType.boolean), 1, false, (7, 174), (1, 11)),
  (1, yX1_emptyPending, cX1_emptyPending, 2, (Option.none : Option Jvm.ClassFile.FieldType), 0, false, (6, 69), (1, 11)),
  (1, yX1_addChange, cX1_addChange, 6, (Option.none : Option Jvm.ClassFile.FieldType), 5, false, (6, 15), (1, 11)),
  (1, yX1_addMissing, cX1_addMissing, 7, (Option.none : Option Jvm.ClassFile.FieldType), 4, false, (7, 225), (1, 11)),
  (1, yX1_countWorked, cX1_countWorked, 4, (Option.none : Option Jvm.ClassFile.FieldType), 2, false, (7, 122), (1, 11)),
  (1, yX1_append, cX1_append, 7, (Option.none : Option Jvm.ClassFile.FieldType), 1, false, (7, 126), (1, 11)),
  (1, yX1_goBack, cX1_goBack, 2, (Option.none : Option Jvm.ClassFile.FieldType), 1, false, (7, 182), (1, 11)),
  (1, yX1_become, cX1_become, 4, (Option.none : Option Jvm.ClassFile.FieldType), 2, false, (7, 193), (1, 11)),
  (2, yX2_init, cX2_init, 3, (Option.none : Option Jvm.ClassFile.FieldType), 2, true, (2, 174), (1, 8)),
  (2, yX2_has, cX2_has, 4, (Option.some Jvm.ClassFile.FieldType.boolean), 3, false, (8, 22), (1, 8)),
  (2, yX2_rowsOfAll, cX2_rowsOfAll, 3, (Option.some Jvm.ClassFile.FieldType.int), 0, false, (7, 134), (1, 8)),
  (2, yX2_rowsAhead, cX2_rowsAhead, 4, (Option.some (Jvm.ClassFile.FieldType.object "ChangeHouse$Rows")), 2, false, (8, 34), (1, 8)),
  (2, yX2_differing, cX2_differing, 4, (Option.some Jvm.ClassFile.FieldType.int), 2, false, (7, 142), (1, 8)),
  (3, yX3_init, cX3_init, 2, (Option.none : Option Jvm.ClassFile.FieldType), 1, true, (2, 93), (1, 9)),
  (3, yX3_find, cX3_find, 4, (Option.some Jvm.ClassFile.FieldType.int), 1, false, (4, 158), (1, 9)),
  (3, yX3_like, cX3_like, 4, (Option.some Jvm.ClassFile.FieldType.int), 2, false, (6, 81), (1, 9)),
  (3, yX3_inputLike, cX3_inputLike, 4, (Option.some Jvm.ClassFile.FieldType.int), 2, false, (7, 220), (1, 9)),
  (3, yX3_tellWidth, cX3_tellWidth, 3, (Option.none : Option Jvm.ClassFile.FieldType), 2, false, (4, 174), (1, 9)),
  (3, yX3_arrange, cX3_arrange, 4, (Option.none : Option Jvm.ClassFile.FieldType), 0, false, (5, 212), (1, 9)),
  (3, yX3_orderRings, cX3_orderRings, 5, (Option.none : Option Jvm.ClassFile.FieldType), 0, false, (5, 219), (1, 9)),
  (3, yX3_membersOf, cX3_membersOf, 4, (Option.some Jvm.ClassFile.FieldType.int), 1, false, (5, 227), (1, 9)),
  (3, yX3_readsOf, cX3_readsOf, 4, (Option.some Jvm.ClassFile.FieldType.int), 1, false, (5, 223), (1, 9)),
  (3, yX3_ringFault, cX3_ringFault, 5, (Option.some Jvm.ClassFile.FieldType.int), 0, false, (5, 231), (1, 9)),
  (4, yX4_init, cX4_init, 2, (Option.none : Option Jvm.ClassFile.FieldType), 1, true, (1, 82), (1, 3)),
  (4, yX4_readProgram, cX4_readProgram, 4, (Option.none : Option Jvm.ClassFile.FieldType), 1, false, (4, 63), (1, 3)),
  (4, yX4_readQuery, cX4_readQuery, 3, (Option.none : Option Jvm.ClassFile.FieldType), 1, false, (7, 152), (1, 3)),
  (4, yX4_readChanges, cX4_readChanges, 7, (Option.none : Option Jvm.ClassFile.FieldType), 1, false, (6, 7), (1, 3)),
  (4, yX4_readCell, cX4_readCell, 3, (Option.some Jvm.ClassFile.FieldType.int), 0, false, (6, 24), (1, 3)),
  (4, yX4_begin, cX4_begin, 3, (Option.none : Option Jvm.ClassFile.FieldType), 2, false, (4, 67), (1, 3)),
  (4, yX4_beginRule, cX4_beginRule, 1, (Option.none : Option Jvm.ClassFile.FieldType), 0, false, (4, 186), (1, 3)),
  (4, yX4_wrongAt, cX4_wrongAt, 2, (Option.none : Option Jvm.ClassFile.FieldType), 1, false, (4, 83), (1, 3)),
  (4, yX4_advance, cX4_advance, 1, (Option.none : Option Jvm.ClassFile.FieldType), 0, false, (4, 75), (1, 3)),
  (4, yX4_need, cX4_need, 2, (Option.none : Option Jvm.ClassFile.FieldType), 1, false, (4, 162), (1, 3)),
  (4, yX4_goesOn, cX4_goesOn, 2, (Option.some Jvm.ClassFile.FieldType.boolean), 0, false, (5, 122), (1, 3))]
def xj_mT1 : List xj_mR := [(4, yX4_mention, cX4_mention, 5, (Option.none : Option Jvm.ClassFile.FieldType), 4, false, (4, 170), (1, 3)),
  (4, yX4_readInput, cX4_readInput, 5, (Option.none : Option Jvm.ClassFile.FieldType), 0, false, (4, 71), (1, 3)),
  (4, yX4_readOutput, cX4_readOutput, 3, (Option.none : Option Jvm.ClassFile.FieldType), 0, false, (4, 178), (1, 3)),
  (4, yX4_readRule, cX4_readRule, 4, (Option.none : Option Jvm.ClassFile.FieldType), 0, false, (4, 182), (1, 3)),
  (4, yX4_readItem, cX4_readItem, 2, (Option.none : Option Jvm.ClassFile.FieldType), 0, false, (5, 60), (1, 3)),
  (4, yX4_readLiteral, cX4_readLiteral, 4, (Option.none : Option Jvm.ClassFile.FieldType), 0, false, (5, 126), (1, 3)),
  (4, yX4_readAtom, cX4_readAtom, 8, (Option.none : Option Jvm.ClassFile.FieldType), 1, false, (5, 130), (1, 3)),
  (4, yX4_readName, cX4_readName, 4, (Option.some Jvm.ClassFile.FieldType.long), 0, false, (4, 79), (1, 3)),
  (4, yX4_predicateOf, cX4_predicateOf, 5, (Option.some Jvm.ClassFile.FieldType.int), 2, false, (4, 154), (1, 3)),
  (4, yX4_readVariable, cX4_readVariable, 5, (Option.some Jvm.ClassFile.FieldType.int), 0, false, (5, 101), (1, 3)),
  (4, yX4_readNumber, cX4_readNumber, 3, (Option.some Jvm.ClassFile.FieldType.int), 1, false, (4, 166), (1, 3)),
  (4, yX4_readValue, cX4_readValue, 5, (Option.some Jvm.ClassFile.FieldType.long), 0, false, (5, 105), (1, 3)),
  (4, yX4_readCellName, cX4_readCellName, 2, (Option.some Jvm.ClassFile.FieldType.int), 0, false, (5, 92), (1, 3)),
  (4, yX4_readExpression, cX4_readExpression, 5, (Option.none : Option Jvm.ClassFile.FieldType), 1, false, (5, 64), (1, 3)),
  (4, yX4_readGathering, cX4_readGathering, 5, (Option.none : Option Jvm.ClassFile.FieldType), 1, false, (5, 88), (1, 3)),
  (4, yX4_strength, cX4_strength, 1, (Option.some Jvm.ClassFile.FieldType.int), 1, false, (5, 80), (1, 3)),
  (4, yX4_emit, cX4_emit, 4, (Option.none : Option Jvm.ClassFile.FieldType), 2, false, (5, 97), (1, 3)),
  (4, yX4_push, cX4_push, 2, (Option.none : Option Jvm.ClassFile.FieldType), 1, false, (5, 84), (1, 3)),
  (4, yX4_countBrackets, cX4_countBrackets, 3, (Option.some Jvm.ClassFile.FieldType.int), 0, false, (5, 77), (1, 3)),
  (4, yX4_settleSigns, cX4_settleSigns, 2, (Option.none : Option Jvm.ClassFile.FieldType), 1, false, (5, 114), (1, 3)),
  (4, yX4_openBracket, cX4_openBracket, 3, (Option.none : Option Jvm.ClassFile.FieldType), 1, false, (5, 73), (1, 3)),
  (4, yX4_passPart, cX4_passPart, 5, (Option.some Jvm.ClassFile.FieldType.boolean), 1, false, (5, 118), (1, 3)),
  (4, yX4_programFault, cX4_programFault, 2, (Option.some Jvm.ClassFile.FieldType.int), 0, false, (5, 192), (1, 3)),
  (4, yX4_queryFault, cX4_queryFault, 1, (Option.some Jvm.ClassFile.FieldType.int), 0, false, (7, 156), (1, 3)),
  (4, yX4_changesFault, cX4_changesFault, 3, (Option.some Jvm.ClassFile.FieldType.int), 0, false, (6, 11), (1, 3)),
  (4, yX4_toldTwice, cX4_toldTwice, 5, (Option.some Jvm.ClassFile.FieldType.int), 0, false, (5, 196), (1, 3)),
  (4, yX4_unknownName, cX4_unknownName, 3, (Option.some Jvm.ClassFile.FieldType.int), 0, false, (5, 200), (1, 3)),
  (4, yX4_otherWidth, cX4_otherWidth, 2, (Option.some Jvm.ClassFile.FieldType.int), 0, false, (5, 204), (1, 3)),
  (5, yX5_init, cX5_init, 3, (Option.none : Option Jvm.ClassFile.FieldType), 2, true, (1, 217), (1, 6)),
  (5, yX5_start, cX5_start, 2, (Option.none : Option Jvm.ClassFile.FieldType), 1, false, (6, 94), (1, 6)),
  (5, yX5_at, cX5_at, 3, (Option.some Jvm.ClassFile.FieldType.long), 2, false, (6, 197), (1, 6)),
  (5, yX5_compare, cX5_compare, 7, (Option.some Jvm.ClassFile.FieldType.int), 3, false, (6, 113), (1, 6)),
  (5, yX5_compareRow, cX5_compareRow, 10, (Option.some Jvm.ClassFile.FieldType.int), 4, false, (6, 137), (1, 6)),
  (5, yX5_search, cX5_search, 7, (Option.some Jvm.ClassFile.FieldType.int), 3, false, (6, 109), (1, 6)),
  (5, yX5_find, cX5_find, 3, (Option.some Jvm.ClassFile.FieldType.int), 1, false, (6, 105), (1, 6)),
  (5, yX5_findKey, cX5_findKey, 4, (Option.some Jvm.ClassFile.FieldType.int), 2, false, (6, 121), (1, 6)),
  (5, yX5_insert, cX5_insert, 4, (Option.none : Option Jvm.ClassFile.FieldType), 3, false, (6, 125), (1, 6)),
  (5, yX5_remove, cX5_remove, 3, (Option.none : Option Jvm.ClassFile.FieldType), 1, false, (6, 117), (1, 6)),
  (5, yX5_read, cX5_read, 3, (Option.none : Option Jvm.ClassFile.FieldType), 2, false, (7, 25), (1, 6)),
  (5, yX5_copyFrom, cX5_copyFrom, 2, (Option.none : Option Jvm.ClassFile.FieldType), 1, false, (6, 90), (1, 6))]
def xj_mT2 : List xj_mR := [(5, yX5_frozen, cX5_frozen, 2, (Option.some (Jvm.ClassFile.FieldType.object "ChangeHouse$Rows")), 0, false, (7, 45), (1, 6)),
  (5, yX5_sameRows, cX5_sameRows, 3, (Option.some Jvm.ClassFile.FieldType.boolean), 1, false, (6, 133), (1, 6)),
  (5, yX5_sameRanks, cX5_sameRanks, 3, (Option.some Jvm.ClassFile.FieldType.boolean), 1, false, (7, 41), (1, 6)),
  (5, yX5_differing, cX5_differing, 5, (Option.some Jvm.ClassFile.FieldType.int), 1, false, (7, 52), (1, 6)),
  (5, yX5_difference, cX5_difference, 7, (Option.some Jvm.ClassFile.FieldType.int), 2, false, (8, 40), (1, 6)),
  (5, yX5_meeting, cX5_meeting, 11, (Option.some Jvm.ClassFile.FieldType.int), 3, false, (7, 209), (1, 6)),
  (5, yX5_isRow, cX5_isRow, 4, (Option.some Jvm.ClassFile.FieldType.boolean), 3, false, (7, 215), (1, 6)),
  (6, yX6_init, cX6_init, 1, (Option.none : Option Jvm.ClassFile.FieldType), 0, true, (4, 191), (1, 26)),
  (6, yX6_finish, cX6_finish, 4, (Option.none : Option Jvm.ClassFile.FieldType), 3, false, (5, 138), (1, 26)),
  (6, yX6_countAtoms, cX6_countAtoms, 3, (Option.some Jvm.ClassFile.FieldType.int), 0, false, (5, 134), (1, 26)),
  (6, yX6_isAtom, cX6_isAtom, 2, (Option.some Jvm.ClassFile.FieldType.boolean), 1, false, (5, 176), (1, 26)),
  (6, yX6_loneVariable, cX6_loneVariable, 3, (Option.some Jvm.ClassFile.FieldType.int), 1, false, (5, 184), (1, 26)),
  (6, yX6_variablesOf, cX6_variablesOf, 4, (Option.some Jvm.ClassFile.FieldType.int), 1, false, (5, 180), (1, 26)),
  (6, yX6_variablesIn, cX6_variablesIn, 4, (Option.some Jvm.ClassFile.FieldType.int), 1, false, (5, 172), (1, 26)),
  (6, yX6_boundBehind, cX6_boundBehind, 7, (Option.some Jvm.ClassFile.FieldType.int), 2, false, (5, 168), (1, 26)),
  (6, yX6_unsafePlace, cX6_unsafePlace, 5, (Option.some Jvm.ClassFile.FieldType.int), 0, false, (5, 208), (1, 26)),
  (6, yX6_makePlan, cX6_makePlan, 8, (Option.none : Option Jvm.ClassFile.FieldType), 0, false, (5, 164), (1, 26)),
  (6, yX6_columnsBound, cX6_columnsBound, 6, (Option.some Jvm.ClassFile.FieldType.int), 2, false, (5, 188), (1, 26)),
  (7, yX7_init, cX7_init, 1, (Option.none : Option Jvm.ClassFile.FieldType), 0, true, (2, 65), (1, 7)),
  (7, yX7_settle, cX7_settle, 7, (Option.none : Option Jvm.ClassFile.FieldType), 4, false, (7, 58), (1, 7)),
  (7, yX7_findRings, cX7_findRings, 4, (Option.none : Option Jvm.ClassFile.FieldType), 0, false, (7, 67), (1, 7)),
  (7, yX7_isIn, cX7_isIn, 5, (Option.some Jvm.ClassFile.FieldType.boolean), 3, false, (7, 70), (1, 7)),
  (7, yX7_workCells, cX7_workCells, 11, (Option.none : Option Jvm.ClassFile.FieldType), 0, false, (7, 74), (1, 7)),
  (7, yX7_countWorked, cX7_countWorked, 10, (Option.none : Option Jvm.ClassFile.FieldType), 3, false, (7, 114), (1, 7)),
  (7, yX7_readsChanged, cX7_readsChanged, 6, (Option.some Jvm.ClassFile.FieldType.boolean), 2, false, (7, 118), (1, 7)),
  (7, yX7_worth, cX7_worth, 9, (Option.some Jvm.ClassFile.FieldType.long), 1, false, (7, 85), (1, 7)),
  (7, yX7_operand, cX7_operand, 7, (Option.some Jvm.ClassFile.FieldType.long), 3, false, (7, 90), (1, 7)),
  (7, yX7_overCells, cX7_overCells, 9, (Option.some Jvm.ClassFile.FieldType.long), 3, false, (7, 94), (1, 7)),
  (7, yX7_bounded, cX7_bounded, 2, (Option.some Jvm.ClassFile.FieldType.long), 1, false, (7, 98), (1, 7)),
  (7, yX7_overRows, cX7_overRows, 12, (Option.some Jvm.ClassFile.FieldType.long), 3, false, (7, 103), (1, 7)),
  (8, yX8_init, cX8_init, 1, (Option.none : Option Jvm.ClassFile.FieldType), 0, true, (1, 42), (1, 2)),
  (8, yX8_add, cX8_add, 3, (Option.none : Option Jvm.ClassFile.FieldType), 1, false, (3, 110), (1, 2)),
  (8, yX8_split, cX8_split, 5, (Option.none : Option Jvm.ClassFile.FieldType), 0, false, (3, 123), (1, 2)),
  (8, yX8_skipBlanks, cX8_skipBlanks, 6, (Option.some Jvm.ClassFile.FieldType.int), 1, false, (3, 127), (1, 2)),
  (8, yX8_addName, cX8_addName, 7, (Option.some Jvm.ClassFile.FieldType.int), 1, false, (3, 134), (1, 2)),
  (8, yX8_nameKind, cX8_nameKind, 3, (Option.some Jvm.ClassFile.FieldType.int), 2, false, (3, 149), (1, 2)),
  (8, yX8_spells, cX8_spells, 5, (Option.some Jvm.ClassFile.FieldType.boolean), 3, false, (3, 154), (1, 2)),
  (8, yX8_addVariable, cX8_addVariable, 7, (Option.some Jvm.ClassFile.FieldType.int), 1, false, (3, 220), (1, 2)),
  (8, yX8_addNumber, cX8_addNumber, 5, (Option.some Jvm.ClassFile.FieldType.int), 1, false, (3, 229), (1, 2)),
  (8, yX8_addSign, cX8_addSign, 6, (Option.some Jvm.ClassFile.FieldType.int), 1, false, (3, 239), (1, 2))]
def xj_mT3 : List xj_mR := [(8, yX8_put, cX8_put, 6, (Option.none : Option Jvm.ClassFile.FieldType), 4, false, (3, 213), (1, 2)),
  (8, yX8_isSmall, cX8_isSmall, 1, (Option.some Jvm.ClassFile.FieldType.boolean), 1, false, (3, 130), (1, 2)),
  (8, yX8_isGreat, cX8_isGreat, 1, (Option.some Jvm.ClassFile.FieldType.boolean), 1, false, (3, 216), (1, 2)),
  (8, yX8_isDigit, cX8_isDigit, 1, (Option.some Jvm.ClassFile.FieldType.boolean), 1, false, (3, 137), (1, 2)),
  (8, yX8_lengthOf, cX8_lengthOf, 2, (Option.some Jvm.ClassFile.FieldType.int), 1, false, (4, 150), (1, 2)),
  (8, yX8_isIf, cX8_isIf, 2, (Option.some Jvm.ClassFile.FieldType.boolean), 1, false, (5, 68), (1, 2)),
  (8, yX8_digitBehind, cX8_digitBehind, 3, (Option.some Jvm.ClassFile.FieldType.boolean), 1, false, (5, 109), (1, 2)),
  (8, yX8_wordOf, cX8_wordOf, 7, (Option.some Jvm.ClassFile.FieldType.long), 2, false, (3, 142), (1, 2)),
  (8, yX8_cellOf, cX8_cellOf, 6, (Option.some Jvm.ClassFile.FieldType.int), 2, false, (3, 225), (1, 2)),
  (9, yX9_init, cX9_init, 1, (Option.none : Option Jvm.ClassFile.FieldType), 0, true, (1, 157), (1, 4)),
  (9, yX9_open, cX9_open, 4, (Option.none : Option Jvm.ClassFile.FieldType), 3, false, (6, 163), (1, 4)),
  (9, yX9_fix, cX9_fix, 4, (Option.some Jvm.ClassFile.FieldType.boolean), 2, false, (8, 75), (1, 4)),
  (9, yX9_next, cX9_next, 3, (Option.some Jvm.ClassFile.FieldType.boolean), 0, false, (6, 175), (1, 4)),
  (9, yX9_hasMore, cX9_hasMore, 2, (Option.some Jvm.ClassFile.FieldType.boolean), 0, false, (6, 185), (1, 4)),
  (9, yX9_findRange, cX9_findRange, 6, (Option.none : Option Jvm.ClassFile.FieldType), 1, false, (6, 180), (1, 4)),
  (9, yX9_nextRow, cX9_nextRow, 5, (Option.some Jvm.ClassFile.FieldType.boolean), 1, false, (6, 189), (1, 4)),
  (9, yX9_match, cX9_match, 12, (Option.some Jvm.ClassFile.FieldType.int), 3, false, (6, 193), (1, 4)),
  (9, yX9_isRepeated, cX9_isRepeated, 8, (Option.some Jvm.ClassFile.FieldType.boolean), 3, false, (6, 201), (1, 4)),
  (9, yX9_hasNone, cX9_hasNone, 4, (Option.some Jvm.ClassFile.FieldType.boolean), 1, false, (6, 205), (1, 4)),
  (9, yX9_compares, cX9_compares, 9, (Option.some Jvm.ClassFile.FieldType.boolean), 1, false, (6, 209), (1, 4)),
  (9, yX9_openVariable, cX9_openVariable, 3, (Option.some Jvm.ClassFile.FieldType.int), 1, false, (6, 213), (1, 4)),
  (9, yX9_worth, cX9_worth, 5, (Option.some Jvm.ClassFile.FieldType.long), 1, false, (6, 218), (1, 4)),
  (9, yX9_headRow, cX9_headRow, 3, (Option.some Jvm.ClassFile.FieldType.boolean), 1, false, (6, 233), (1, 4)),
  (9, yX9_rowOf, cX9_rowOf, 5, (Option.some Jvm.ClassFile.FieldType.int), 2, false, (8, 87), (1, 4)),
  (10, yX10_init, cX10_init, 3, (Option.none : Option Jvm.ClassFile.FieldType), 1, true, (1, 210), (1, 5)),
  (10, yX10_begin, cX10_begin, 8, (Option.none : Option Jvm.ClassFile.FieldType), 2, false, (6, 77), (1, 5)),
  (10, yX10_tell, cX10_tell, 5, (Option.some Jvm.ClassFile.FieldType.boolean), 1, false, (6, 86), (1, 5)),
  (10, yX10_changeLoose, cX10_changeLoose, 4, (Option.none : Option Jvm.ClassFile.FieldType), 2, false, (6, 101), (1, 5)),
  (10, yX10_noteChanged, cX10_noteChanged, 2, (Option.none : Option Jvm.ClassFile.FieldType), 1, false, (6, 129), (1, 5)),
  (10, yX10_workRing, cX10_workRing, 9, (Option.some Jvm.ClassFile.FieldType.boolean), 2, false, (6, 141), (1, 5)),
  (10, yX10_startRing, cX10_startRing, 3, (Option.none : Option Jvm.ClassFile.FieldType), 1, false, (6, 147), (1, 5)),
  (10, yX10_leadersOf, cX10_leadersOf, 6, (Option.some Jvm.ClassFile.FieldType.int), 3, false, (6, 152), (1, 5)),
  (10, yX10_isOwn, cX10_isOwn, 3, (Option.some Jvm.ClassFile.FieldType.boolean), 3, false, (6, 155), (1, 5)),
  (10, yX10_openLevel, cX10_openLevel, 6, (Option.none : Option Jvm.ClassFile.FieldType), 4, false, (6, 159), (1, 5)),
  (10, yX10_takeFresh, cX10_takeFresh, 5, (Option.none : Option Jvm.ClassFile.FieldType), 2, false, (7, 33), (1, 5)),
  (10, yX10_derive, cX10_derive, 3, (Option.some Jvm.ClassFile.FieldType.boolean), 1, false, (6, 170), (1, 5)),
  (10, yX10_give, cX10_give, 4, (Option.some Jvm.ClassFile.FieldType.boolean), 2, false, (6, 237), (1, 5)),
  (10, yX10_gather, cX10_gather, 8, (Option.some Jvm.ClassFile.FieldType.boolean), 1, false, (7, 1), (1, 5)),
  (10, yX10_isAboveFloor, cX10_isAboveFloor, 3, (Option.some Jvm.ClassFile.FieldType.boolean), 1, false, (7, 6), (1, 5)),
  (10, yX10_addToGroup, cX10_addToGroup, 7, (Option.some Jvm.ClassFile.FieldType.boolean), 2, false, (7, 10), (1, 5))]
def xj_mT4 : List xj_mR := [(10, yX10_gatherTwo, cX10_gatherTwo, 5, (Option.some Jvm.ClassFile.FieldType.long), 3, false, (7, 13), (1, 5)),
  (10, yX10_giveGroups, cX10_giveGroups, 3, (Option.some Jvm.ClassFile.FieldType.boolean), 1, false, (7, 21), (1, 5)),
  (10, yX10_outcome, cX10_outcome, 7, (Option.some (Jvm.ClassFile.FieldType.object "ChangeHouse$Moment")), 2, false, (7, 37), (1, 5)),
  (10, yX10_explain, cX10_explain, 8, (Option.none : Option Jvm.ClassFile.FieldType), 3, false, (8, 65), (1, 5)),
  (10, yX10_findWay, cX10_findWay, 8, (Option.some Jvm.ClassFile.FieldType.boolean), 3, false, (8, 70), (1, 5)),
  (10, yX10_isGiven, cX10_isGiven, 3, (Option.some Jvm.ClassFile.FieldType.boolean), 1, false, (8, 79), (1, 5)),
  (10, yX10_isBelowBest, cX10_isBelowBest, 3, (Option.some Jvm.ClassFile.FieldType.boolean), 1, false, (8, 83), (1, 5)),
  (10, yX10_gathersGiven, cX10_gathersGiven, 10, (Option.some Jvm.ClassFile.FieldType.boolean), 2, false, (8, 92), (1, 5)),
  (11, yX11_init, cX11_init, 3, (Option.none : Option Jvm.ClassFile.FieldType), 0, true, (1, 34), (1, 1)),
  (11, yX11_feed, cX11_feed, 6, (Option.some Jvm.ClassFile.FieldType.boolean), 5, false, (3, 106), (1, 1)),
  (11, yX11_end, cX11_end, 2, (Option.some Jvm.ClassFile.FieldType.boolean), 1, false, (3, 114), (1, 1)),
  (11, yX11_place, cX11_place, 1, (Option.some Jvm.ClassFile.FieldType.int), 0, false, (5, 235), (1, 1)),
  (11, yX11_forget, cX11_forget, 2, (Option.some Jvm.ClassFile.FieldType.int), 0, false, (6, 65), (1, 1)),
  (11, yX11_round, cX11_round, 7, (Option.some Jvm.ClassFile.FieldType.int), 0, false, (6, 73), (1, 1)),
  (11, yX11_count, cX11_count, 4, (Option.some Jvm.ClassFile.FieldType.int), 1, false, (7, 130), (1, 1)),
  (11, yX11_predicate, cX11_predicate, 6, (Option.some Jvm.ClassFile.FieldType.int), 2, false, (7, 236), (1, 1)),
  (11, yX11_value, cX11_value, 5, (Option.some Jvm.ClassFile.FieldType.long), 3, false, (8, 18), (1, 1)),
  (11, yX11_edits, cX11_edits, 4, (Option.some Jvm.ClassFile.FieldType.int), 0, false, (7, 138), (1, 1)),
  (11, yX11_edit, cX11_edit, 9, (Option.some Jvm.ClassFile.FieldType.long), 2, false, (8, 30), (1, 1)),
  (11, yX11_ask, cX11_ask, 6, (Option.some Jvm.ClassFile.FieldType.int), 2, false, (7, 160), (1, 1)),
  (11, yX11_answer, cX11_answer, 3, (Option.some Jvm.ClassFile.FieldType.long), 2, false, (8, 47), (1, 1)),
  (11, yX11_rank, cX11_rank, 4, (Option.some Jvm.ClassFile.FieldType.int), 2, false, (8, 54), (1, 1)),
  (11, yX11_reason, cX11_reason, 5, (Option.some Jvm.ClassFile.FieldType.int), 3, false, (8, 61), (1, 1)),
  (11, yX11_sheet, cX11_sheet, 8, (Option.some Jvm.ClassFile.FieldType.long), 3, false, (8, 99), (1, 1)),
  (11, yX11_past, cX11_past, 4, (Option.some Jvm.ClassFile.FieldType.int), 2, false, (7, 170), (1, 1)),
  (11, yX11_pastValue, cX11_pastValue, 6, (Option.some Jvm.ClassFile.FieldType.long), 4, false, (8, 109), (1, 1)),
  (11, yX11_back, cX11_back, 5, (Option.some Jvm.ClassFile.FieldType.int), 1, false, (7, 178), (1, 1)),
  (11, yX11_branch, cX11_branch, 5, (Option.some Jvm.ClassFile.FieldType.int), 2, false, (7, 189), (1, 1)),
  (11, yX11_line, cX11_line, 3, (Option.some Jvm.ClassFile.FieldType.int), 1, false, (7, 197), (1, 1)),
  (11, yX11_merge, cX11_merge, 10, (Option.some Jvm.ClassFile.FieldType.int), 1, false, (7, 201), (1, 1)),
  (11, yX11_meet, cX11_meet, 9, (Option.some Jvm.ClassFile.FieldType.boolean), 3, false, (7, 205), (1, 1)),
  (11, yX11_met, cX11_met, 2, (Option.some Jvm.ClassFile.FieldType.long), 1, false, (8, 116), (1, 1)),
  (11, yX11_reckon, cX11_reckon, 7, (Option.some Jvm.ClassFile.FieldType.long), 3, false, (6, 221), (1, 1)),
  (12, yX12_init, cX12_init, 1, (Option.none : Option Jvm.ClassFile.FieldType), 0, true, (11, 226), (1, 19)),
  (12, yX12_copy, cX12_copy, 4, (Option.none : Option Jvm.ClassFile.FieldType), 1, false, (9, 112), (1, 19)),
  (12, yX12_compare, cX12_compare, 11, (Option.some Jvm.ClassFile.FieldType.int), 8, false, (10, 40), (1, 19)),
  (12, yX12_placeOf, cX12_placeOf, 9, (Option.some Jvm.ClassFile.FieldType.int), 4, false, (10, 37), (1, 19)),
  (12, yX12_has, cX12_has, 7, (Option.some Jvm.ClassFile.FieldType.boolean), 4, false, (10, 56), (1, 19)),
  (12, yX12_add, cX12_add, 8, (Option.none : Option Jvm.ClassFile.FieldType), 4, false, (10, 32), (1, 19)),
  (12, yX12_remove, cX12_remove, 8, (Option.none : Option Jvm.ClassFile.FieldType), 4, false, (10, 193), (1, 19))]
def xj_mT5 : List xj_mR := [(12, yX12_move, cX12_move, 4, (Option.none : Option Jvm.ClassFile.FieldType), 2, false, (10, 44), (1, 19)),
  (13, yX13_init, cX13_init, 1, (Option.none : Option Jvm.ClassFile.FieldType), 0, true, (11, 221), (1, 18)),
  (13, yX13_forget, cX13_forget, 2, (Option.none : Option Jvm.ClassFile.FieldType), 0, false, (10, 24), (1, 18)),
  (13, yX13_forgetRound, cX13_forgetRound, 2, (Option.none : Option Jvm.ClassFile.FieldType), 0, false, (10, 48), (1, 18)),
  (14, yX14_init, cX14_init, 1, (Option.none : Option Jvm.ClassFile.FieldType), 0, true, (11, 63), (1, 17)),
  (14, yX14_predicateOf, cX14_predicateOf, 4, (Option.some Jvm.ClassFile.FieldType.int), 1, false, (8, 229), (1, 17)),
  (15, yX15_isSmall, cX15_isSmall, 1, (Option.some Jvm.ClassFile.FieldType.boolean), 1, false, (8, 148), (1, 12)),
  (15, yX15_isGreat, cX15_isGreat, 1, (Option.some Jvm.ClassFile.FieldType.boolean), 1, false, (8, 165), (1, 12)),
  (15, yX15_isDigit, cX15_isDigit, 1, (Option.some Jvm.ClassFile.FieldType.boolean), 1, false, (8, 155), (1, 12)),
  (15, yX15_see, cX15_see, 2, (Option.some Jvm.ClassFile.FieldType.int), 1, false, (8, 145), (1, 12)),
  (15, yX15_fail, cX15_fail, 2, (Option.none : Option Jvm.ClassFile.FieldType), 1, false, (8, 209), (1, 12)),
  (15, yX15_bad, cX15_bad, 1, (Option.some Jvm.ClassFile.FieldType.boolean), 0, false, (8, 189), (1, 12)),
  (15, yX15_begin, cX15_begin, 4, (Option.none : Option Jvm.ClassFile.FieldType), 3, false, (8, 137), (1, 12)),
  (15, yX15_pass, cX15_pass, 1, (Option.none : Option Jvm.ClassFile.FieldType), 0, false, (8, 205), (1, 12)),
  (15, yX15_lex, cX15_lex, 3, (Option.none : Option Jvm.ClassFile.FieldType), 0, false, (8, 141), (1, 12)),
  (15, yX15_digitOf, cX15_digitOf, 1, (Option.some Jvm.ClassFile.FieldType.int), 1, false, (8, 159), (1, 12)),
  (15, yX15_lexName, cX15_lexName, 4, (Option.none : Option Jvm.ClassFile.FieldType), 0, false, (8, 152), (1, 12)),
  (15, yX15_lexVariable, cX15_lexVariable, 2, (Option.none : Option Jvm.ClassFile.FieldType), 0, false, (8, 169), (1, 12)),
  (15, yX15_lexNumber, cX15_lexNumber, 3, (Option.none : Option Jvm.ClassFile.FieldType), 0, false, (8, 174), (1, 12)),
  (15, yX15_lexSign, cX15_lexSign, 3, (Option.none : Option Jvm.ClassFile.FieldType), 1, false, (8, 183), (1, 12)),
  (15, yX15_isSign, cX15_isSign, 2, (Option.some Jvm.ClassFile.FieldType.boolean), 1, false, (8, 237), (1, 12)),
  (15, yX15_isKind, cX15_isKind, 2, (Option.some Jvm.ClassFile.FieldType.boolean), 1, false, (8, 197), (1, 12)),
  (15, yX15_need, cX15_need, 2, (Option.none : Option Jvm.ClassFile.FieldType), 1, false, (8, 233), (1, 12)),
  (15, yX15_code, cX15_code, 4, (Option.some Jvm.ClassFile.FieldType.long), 1, false, (11, 48), (1, 12)),
  (15, yX15_isReserved, cX15_isReserved, 3, (Option.some Jvm.ClassFile.FieldType.boolean), 1, false, (8, 221), (1, 12)),
  (15, yX15_isWord, cX15_isWord, 3, (Option.some Jvm.ClassFile.FieldType.boolean), 1, false, (8, 193), (1, 12)),
  (15, yX15_isName, cX15_isName, 1, (Option.some Jvm.ClassFile.FieldType.boolean), 0, false, (8, 217), (1, 12)),
  (15, yX15_value, cX15_value, 1, (Option.some Jvm.ClassFile.FieldType.boolean), 0, false, (9, 41), (1, 12)),
  (15, yX15_clear, cX15_clear, 3, (Option.none : Option Jvm.ClassFile.FieldType), 1, false, (8, 133), (1, 12)),
  (15, yX15_mention, cX15_mention, 5, (Option.none : Option Jvm.ClassFile.FieldType), 4, false, (9, 5), (1, 12)),
  (15, yX15_predicate, cX15_predicate, 5, (Option.some Jvm.ClassFile.FieldType.int), 2, false, (8, 225), (1, 12)),
  (15, yX15_readProgram, cX15_readProgram, 5, (Option.none : Option Jvm.ClassFile.FieldType), 4, false, (8, 129), (1, 12)),
  (15, yX15_needName, cX15_needName, 1, (Option.some Jvm.ClassFile.FieldType.int), 0, false, (8, 213), (1, 12)),
  (15, yX15_needNumber, cX15_needNumber, 4, (Option.some Jvm.ClassFile.FieldType.int), 2, false, (9, 1), (1, 12)),
  (15, yX15_readInput, cX15_readInput, 6, (Option.none : Option Jvm.ClassFile.FieldType), 0, false, (8, 201), (1, 12)),
  (15, yX15_readOutput, cX15_readOutput, 3, (Option.none : Option Jvm.ClassFile.FieldType), 0, false, (9, 9), (1, 12)),
  (15, yX15_beginRule, cX15_beginRule, 2, (Option.none : Option Jvm.ClassFile.FieldType), 1, false, (9, 17), (1, 12)),
  (15, yX15_readRule, cX15_readRule, 3, (Option.none : Option Jvm.ClassFile.FieldType), 0, false, (9, 13), (1, 12)),
  (15, yX15_readItem, cX15_readItem, 3, (Option.none : Option Jvm.ClassFile.FieldType), 0, false, (9, 21), (1, 12)),
  (15, yX15_variable, cX15_variable, 3, (Option.some Jvm.ClassFile.FieldType.int), 0, false, (9, 33), (1, 12))]
def xj_mT6 : List xj_mR := [(15, yX15_put, cX15_put, 4, (Option.none : Option Jvm.ClassFile.FieldType), 2, false, (9, 37), (1, 12)),
  (15, yX15_primary, cX15_primary, 2, (Option.none : Option Jvm.ClassFile.FieldType), 0, false, (9, 29), (1, 12)),
  (15, yX15_isOf, cX15_isOf, 2, (Option.some Jvm.ClassFile.FieldType.boolean), 1, false, (9, 53), (1, 12)),
  (15, yX15_expression, cX15_expression, 1, (Option.none : Option Jvm.ClassFile.FieldType), 0, false, (9, 25), (1, 12)),
  (15, yX15_moreOf, cX15_moreOf, 2, (Option.none : Option Jvm.ClassFile.FieldType), 0, false, (9, 45), (1, 12)),
  (15, yX15_product, cX15_product, 2, (Option.none : Option Jvm.ClassFile.FieldType), 0, false, (9, 49), (1, 12)),
  (15, yX15_readLiterals, cX15_readLiterals, 1, (Option.none : Option Jvm.ClassFile.FieldType), 0, false, (9, 57), (1, 12)),
  (15, yX15_readLiteral, cX15_readLiteral, 7, (Option.none : Option Jvm.ClassFile.FieldType), 0, false, (9, 61), (1, 12)),
  (15, yX15_readCompare, cX15_readCompare, 2, (Option.none : Option Jvm.ClassFile.FieldType), 1, false, (9, 73), (1, 12)),
  (15, yX15_readAtom, cX15_readAtom, 8, (Option.none : Option Jvm.ClassFile.FieldType), 4, false, (9, 65), (1, 12)),
  (15, yX15_readTerm, cX15_readTerm, 4, (Option.none : Option Jvm.ClassFile.FieldType), 2, false, (9, 69), (1, 12)),
  (15, yX15_faulty, cX15_faulty, 3, (Option.none : Option Jvm.ClassFile.FieldType), 2, false, (9, 84), (1, 12)),
  (15, yX15_findFaults, cX15_findFaults, 4, (Option.none : Option Jvm.ClassFile.FieldType), 1, false, (9, 77), (1, 12)),
  (15, yX15_isTwice, cX15_isTwice, 2, (Option.some Jvm.ClassFile.FieldType.boolean), 2, false, (9, 80), (1, 12)),
  (15, yX15_findParts, cX15_findParts, 5, (Option.none : Option Jvm.ClassFile.FieldType), 1, false, (9, 88), (1, 12)),
  (15, yX15_variablesOf, cX15_variablesOf, 5, (Option.some Jvm.ClassFile.FieldType.int), 3, false, (9, 98), (1, 12)),
  (15, yX15_isAlone, cX15_isAlone, 3, (Option.some Jvm.ClassFile.FieldType.boolean), 3, false, (9, 101), (1, 12)),
  (15, yX15_boundBy, cX15_boundBy, 8, (Option.some Jvm.ClassFile.FieldType.int), 2, false, (9, 95), (1, 12)),
  (15, yX15_findUnsafe, cX15_findUnsafe, 5, (Option.none : Option Jvm.ClassFile.FieldType), 2, false, (9, 92), (1, 12)),
  (15, yX15_findRings, cX15_findRings, 5, (Option.none : Option Jvm.ClassFile.FieldType), 1, false, (9, 105), (1, 12)),
  (15, yX15_readsOwn, cX15_readsOwn, 4, (Option.some Jvm.ClassFile.FieldType.boolean), 2, false, (9, 108), (1, 12)),
  (15, yX15_at, cX15_at, 3, (Option.some Jvm.ClassFile.FieldType.int), 2, false, (9, 132), (1, 12)),
  (15, yX15_compareRows, cX15_compareRows, 6, (Option.some Jvm.ClassFile.FieldType.int), 5, false, (9, 135), (1, 12)),
  (15, yX15_placeOf, cX15_placeOf, 5, (Option.some Jvm.ClassFile.FieldType.int), 3, false, (9, 128), (1, 12)),
  (15, yX15_add, cX15_add, 7, (Option.none : Option Jvm.ClassFile.FieldType), 4, false, (9, 124), (1, 12)),
  (15, yX15_remove, cX15_remove, 5, (Option.none : Option Jvm.ClassFile.FieldType), 2, false, (9, 147), (1, 12)),
  (15, yX15_worth, cX15_worth, 9, (Option.some Jvm.ClassFile.FieldType.long), 2, false, (9, 191), (1, 12)),
  (15, yX15_isWordValue, cX15_isWordValue, 2, (Option.some Jvm.ClassFile.FieldType.boolean), 1, false, (9, 198), (1, 12)),
  (15, yX15_worked, cX15_worked, 8, (Option.some Jvm.ClassFile.FieldType.long), 3, false, (9, 195), (1, 12)),
  (15, yX15_isTooMuch, cX15_isTooMuch, 4, (Option.some Jvm.ClassFile.FieldType.boolean), 2, false, (9, 201), (1, 12)),
  (15, yX15_isBound, cX15_isBound, 2, (Option.some Jvm.ClassFile.FieldType.boolean), 1, false, (9, 187), (1, 12)),
  (15, yX15_isOpen, cX15_isOpen, 3, (Option.some Jvm.ClassFile.FieldType.boolean), 2, false, (10, 8), (1, 12)),
  (15, yX15_fits, cX15_fits, 9, (Option.some Jvm.ClassFile.FieldType.boolean), 3, false, (9, 215), (1, 12)),
  (15, yX15_isAlike, cX15_isAlike, 6, (Option.some Jvm.ClassFile.FieldType.boolean), 4, false, (10, 16), (1, 12)),
  (15, yX15_hasFirst, cX15_hasFirst, 5, (Option.some Jvm.ClassFile.FieldType.boolean), 3, false, (10, 12), (1, 12)),
  (15, yX15_ways, cX15_ways, 8, (Option.none : Option Jvm.ClassFile.FieldType), 1, false, (9, 171), (1, 12)),
  (15, yX15_finishWay, cX15_finishWay, 2, (Option.none : Option Jvm.ClassFile.FieldType), 0, false, (9, 175), (1, 12)),
  (15, yX15_bindsAll, cX15_bindsAll, 4, (Option.some Jvm.ClassFile.FieldType.boolean), 0, false, (9, 179), (1, 12)),
  (15, yX15_binds, cX15_binds, 7, (Option.some Jvm.ClassFile.FieldType.boolean), 4, false, (9, 183), (1, 12)),
  (15, yX15_holds, cX15_holds, 3, (Option.some Jvm.ClassFile.FieldType.boolean), 0, false, (9, 207), (1, 12))]
def xj_mT7 : List xj_mR := [(15, yX15_isSome, cX15_isSome, 3, (Option.some Jvm.ClassFile.FieldType.boolean), 1, false, (9, 211), (1, 12)),
  (15, yX15_compares, cX15_compares, 6, (Option.some Jvm.ClassFile.FieldType.boolean), 1, false, (9, 219), (1, 12)),
  (15, yX15_makesRow, cX15_makesRow, 2, (Option.some Jvm.ClassFile.FieldType.boolean), 0, false, (9, 227), (1, 12)),
  (15, yX15_useWay, cX15_useWay, 1, (Option.none : Option Jvm.ClassFile.FieldType), 0, false, (9, 223), (1, 12)),
  (15, yX15_newRow, cX15_newRow, 3, (Option.none : Option Jvm.ClassFile.FieldType), 1, false, (9, 231), (1, 12)),
  (15, yX15_answer, cX15_answer, 3, (Option.none : Option Jvm.ClassFile.FieldType), 0, false, (10, 0), (1, 12)),
  (15, yX15_reasonWay, cX15_reasonWay, 3, (Option.none : Option Jvm.ClassFile.FieldType), 0, false, (10, 4), (1, 12)),
  (15, yX15_gather, cX15_gather, 8, (Option.none : Option Jvm.ClassFile.FieldType), 0, false, (9, 235), (1, 12)),
  (15, yX15_gatherAll, cX15_gatherAll, 3, (Option.some Jvm.ClassFile.FieldType.boolean), 1, false, (9, 167), (1, 12)),
  (15, yX15_gives, cX15_gives, 7, (Option.some Jvm.ClassFile.FieldType.boolean), 2, false, (10, 20), (1, 12)),
  (15, yX15_workAll, cX15_workAll, 5, (Option.some Jvm.ClassFile.FieldType.boolean), 0, false, (9, 151), (1, 12)),
  (15, yX15_nextRing, cX15_nextRing, 3, (Option.some Jvm.ClassFile.FieldType.int), 1, false, (9, 155), (1, 12)),
  (15, yX15_readsOf, cX15_readsOf, 5, (Option.some Jvm.ClassFile.FieldType.int), 1, false, (9, 159), (1, 12)),
  (15, yX15_workRing, cX15_workRing, 5, (Option.some Jvm.ClassFile.FieldType.boolean), 1, false, (9, 163), (1, 12)),
  (15, yX15_keep, cX15_keep, 3, (Option.some Jvm.ClassFile.FieldType.int), 1, false, (11, 39), (1, 12)),
  (15, yX15_readText, cX15_readText, 3, (Option.none : Option Jvm.ClassFile.FieldType), 2, false, (8, 125), (1, 12)),
  (15, yX15_load, cX15_load, 3, (Option.none : Option Jvm.ClassFile.FieldType), 0, false, (10, 201), (1, 12)),
  (15, yX15_fillInputs, cX15_fillInputs, 4, (Option.none : Option Jvm.ClassFile.FieldType), 1, false, (9, 139), (1, 12)),
  (15, yX15_round, cX15_round, 4, (Option.some Jvm.ClassFile.FieldType.int), 0, false, (8, 120), (1, 12)),
  (15, yX15_keepInputs, cX15_keepInputs, 5, (Option.none : Option Jvm.ClassFile.FieldType), 1, false, (9, 116), (1, 12)),
  (15, yX15_readOld, cX15_readOld, 2, (Option.none : Option Jvm.ClassFile.FieldType), 1, false, (9, 120), (1, 12)),
  (15, yX15_change, cX15_change, 6, (Option.none : Option Jvm.ClassFile.FieldType), 2, false, (9, 143), (1, 12)),
  (15, yX15_gatherFacts, cX15_gatherFacts, 4, (Option.none : Option Jvm.ClassFile.FieldType), 1, false, (10, 28), (1, 12)),
  (15, yX15_log, cX15_log, 6, (Option.none : Option Jvm.ClassFile.FieldType), 4, false, (10, 60), (1, 12)),
  (15, yX15_logChanges, cX15_logChanges, 4, (Option.some Jvm.ClassFile.FieldType.int), 1, false, (10, 52), (1, 12)),
  (15, yX15_countWorked, cX15_countWorked, 7, (Option.none : Option Jvm.ClassFile.FieldType), 2, false, (10, 64), (1, 12)),
  (15, yX15_tellEdits, cX15_tellEdits, 6, (Option.none : Option Jvm.ClassFile.FieldType), 1, false, (10, 68), (1, 12)),
  (15, yX15_edit, cX15_edit, 7, (Option.none : Option Jvm.ClassFile.FieldType), 5, false, (10, 73), (1, 12)),
  (15, yX15_trim, cX15_trim, 5, (Option.none : Option Jvm.ClassFile.FieldType), 1, false, (10, 170), (1, 12)),
  (15, yX15_behind, cX15_behind, 4, (Option.some Jvm.ClassFile.FieldType.int), 3, false, (10, 173), (1, 12)),
  (15, yX15_isPast, cX15_isPast, 3, (Option.some Jvm.ClassFile.FieldType.boolean), 2, false, (10, 181), (1, 12)),
  (15, yX15_goBack, cX15_goBack, 6, (Option.some Jvm.ClassFile.FieldType.int), 3, false, (10, 189), (1, 12)),
  (15, yX15_become, cX15_become, 6, (Option.none : Option Jvm.ClassFile.FieldType), 2, false, (10, 185), (1, 12)),
  (15, yX15_loseForks, cX15_loseForks, 4, (Option.none : Option Jvm.ClassFile.FieldType), 2, false, (10, 197), (1, 12)),
  (15, yX15_back, cX15_back, 4, (Option.some Jvm.ClassFile.FieldType.int), 1, false, (10, 177), (1, 12)),
  (15, yX15_branch, cX15_branch, 6, (Option.some Jvm.ClassFile.FieldType.int), 2, false, (10, 205), (1, 12)),
  (15, yX15_copyLine, cX15_copyLine, 4, (Option.none : Option Jvm.ClassFile.FieldType), 2, false, (10, 208), (1, 12)),
  (15, yX15_line, cX15_line, 3, (Option.some Jvm.ClassFile.FieldType.int), 1, false, (10, 212), (1, 12)),
  (15, yX15_past, cX15_past, 6, (Option.some Jvm.ClassFile.FieldType.int), 2, false, (10, 216), (1, 12)),
  (15, yX15_isThen, cX15_isThen, 3, (Option.some Jvm.ClassFile.FieldType.boolean), 2, false, (10, 220), (1, 12))]
def xj_mT8 : List xj_mR := [(15, yX15_pastValue, cX15_pastValue, 7, (Option.some Jvm.ClassFile.FieldType.long), 4, false, (10, 224), (1, 12)),
  (15, yX15_lost, cX15_lost, 1, (Option.some Jvm.ClassFile.FieldType.int), 0, false, (10, 229), (1, 12)),
  (15, yX15_lies, cX15_lies, 3, (Option.some Jvm.ClassFile.FieldType.boolean), 3, false, (11, 16), (1, 12)),
  (15, yX15_sameKey, cX15_sameKey, 6, (Option.some Jvm.ClassFile.FieldType.int), 4, false, (11, 1), (1, 12)),
  (15, yX15_isSame, cX15_isSame, 5, (Option.some Jvm.ClassFile.FieldType.boolean), 4, false, (11, 9), (1, 12)),
  (15, yX15_meets, cX15_meets, 9, (Option.some Jvm.ClassFile.FieldType.boolean), 5, false, (11, 5), (1, 12)),
  (15, yX15_merge, cX15_merge, 9, (Option.some Jvm.ClassFile.FieldType.int), 1, false, (10, 233), (1, 12)),
  (15, yX15_findMeeting, cX15_findMeeting, 11, (Option.some Jvm.ClassFile.FieldType.boolean), 2, false, (10, 237), (1, 12)),
  (15, yX15_differences, cX15_differences, 7, (Option.some Jvm.ClassFile.FieldType.int), 4, false, (11, 13), (1, 12)),
  (15, yX15_pend, cX15_pend, 8, (Option.none : Option Jvm.ClassFile.FieldType), 6, false, (11, 19), (1, 12)),
  (15, yX15_met, cX15_met, 2, (Option.some Jvm.ClassFile.FieldType.long), 1, false, (11, 23), (1, 12)),
  (15, yX15_node, cX15_node, 7, (Option.some Jvm.ClassFile.FieldType.int), 5, false, (10, 113), (1, 12)),
  (15, yX15_cellHere, cX15_cellHere, 5, (Option.some Jvm.ClassFile.FieldType.int), 0, false, (10, 97), (1, 12)),
  (15, yX15_readCell, cX15_readCell, 5, (Option.some Jvm.ClassFile.FieldType.int), 3, false, (10, 93), (1, 12)),
  (15, yX15_formula, cX15_formula, 4, (Option.some Jvm.ClassFile.FieldType.int), 0, false, (10, 101), (1, 12)),
  (15, yX15_strong, cX15_strong, 4, (Option.some Jvm.ClassFile.FieldType.int), 0, false, (10, 105), (1, 12)),
  (15, yX15_open, cX15_open, 1, (Option.none : Option Jvm.ClassFile.FieldType), 0, false, (10, 117), (1, 12)),
  (15, yX15_close, cX15_close, 1, (Option.none : Option Jvm.ClassFile.FieldType), 0, false, (10, 121), (1, 12)),
  (15, yX15_operand, cX15_operand, 2, (Option.some Jvm.ClassFile.FieldType.int), 0, false, (10, 109), (1, 12)),
  (15, yX15_readIf, cX15_readIf, 4, (Option.some Jvm.ClassFile.FieldType.int), 0, false, (10, 125), (1, 12)),
  (15, yX15_readOf, cX15_readOf, 6, (Option.some Jvm.ClassFile.FieldType.int), 1, false, (10, 129), (1, 12)),
  (15, yX15_formulaOf, cX15_formulaOf, 3, (Option.some Jvm.ClassFile.FieldType.int), 2, false, (10, 89), (1, 12)),
  (15, yX15_readsCell, cX15_readsCell, 3, (Option.none : Option Jvm.ClassFile.FieldType), 2, false, (10, 133), (1, 12)),
  (15, yX15_has, cX15_has, 5, (Option.some Jvm.ClassFile.FieldType.boolean), 3, false, (10, 142), (1, 12)),
  (15, yX15_findReadings, cX15_findReadings, 6, (Option.none : Option Jvm.ClassFile.FieldType), 2, false, (10, 85), (1, 12)),
  (15, yX15_isWithin, cX15_isWithin, 3, (Option.some Jvm.ClassFile.FieldType.boolean), 3, false, (10, 136), (1, 12)),
  (15, yX15_valueCells, cX15_valueCells, 4, (Option.none : Option Jvm.ClassFile.FieldType), 1, false, (10, 81), (1, 12)),
  (15, yX15_waits, cX15_waits, 3, (Option.some Jvm.ClassFile.FieldType.boolean), 1, false, (10, 146), (1, 12)),
  (15, yX15_setCell, cX15_setCell, 5, (Option.none : Option Jvm.ClassFile.FieldType), 4, false, (10, 139), (1, 12)),
  (15, yX15_valueCell, cX15_valueCell, 6, (Option.none : Option Jvm.ClassFile.FieldType), 2, false, (10, 150), (1, 12)),
  (15, yX15_worthOf, cX15_worthOf, 7, (Option.some Jvm.ClassFile.FieldType.long), 2, false, (10, 154), (1, 12)),
  (15, yX15_signOf, cX15_signOf, 8, (Option.some Jvm.ClassFile.FieldType.long), 3, false, (10, 158), (1, 12)),
  (15, yX15_overCells, cX15_overCells, 7, (Option.some Jvm.ClassFile.FieldType.long), 2, false, (10, 162), (1, 12)),
  (15, yX15_overRows, cX15_overRows, 9, (Option.some Jvm.ClassFile.FieldType.long), 1, false, (10, 166), (1, 12)),
  (15, yX15_workCells, cX15_workCells, 6, (Option.none : Option Jvm.ClassFile.FieldType), 2, false, (10, 77), (1, 12)),
  (15, yX15_sheet, cX15_sheet, 6, (Option.some Jvm.ClassFile.FieldType.long), 3, false, (11, 27), (1, 12)),
  (15, yX15_cell, cX15_cell, 3, (Option.some Jvm.ClassFile.FieldType.int), 0, false, (11, 31), (1, 12)),
  (15, yX15_init, cX15_init, 1, (Option.none : Option Jvm.ClassFile.FieldType), 0, true, (11, 43), (1, 12)),
  (15, yX15_thrown, cX15_thrown, 1, (Option.some Jvm.ClassFile.FieldType.int), 0, false, (13, 236), (1, 12)),
  (15, yX15_feed, cX15_feed, 8, (Option.some Jvm.ClassFile.FieldType.boolean), 5, false, (14, 0), (1, 12))]
def xj_mT9 : List xj_mR := [(15, yX15_end, cX15_end, 2, (Option.some Jvm.ClassFile.FieldType.boolean), 1, false, (14, 4), (1, 12)),
  (15, yX15_take, cX15_take, 2, (Option.some Jvm.ClassFile.FieldType.int), 0, false, (11, 35), (1, 12)),
  (15, yX15_refused, cX15_refused, 3, (Option.some Jvm.ClassFile.FieldType.int), 2, false, (14, 12), (1, 12)),
  (15, yX15_program, cX15_program, 3, (Option.some Jvm.ClassFile.FieldType.int), 0, false, (14, 8), (1, 12)),
  (15, yX15_place, cX15_place, 1, (Option.some Jvm.ClassFile.FieldType.int), 0, false, (14, 16), (1, 12)),
  (15, yX15_change_, cX15_change_, 10, (Option.some Jvm.ClassFile.FieldType.int), 0, false, (14, 20), (1, 12)),
  (15, yX15_readChange, cX15_readChange, 4, (Option.none : Option Jvm.ClassFile.FieldType), 1, false, (14, 24), (1, 12)),
  (15, yX15_forget, cX15_forget, 2, (Option.some Jvm.ClassFile.FieldType.int), 0, false, (14, 28), (1, 12)),
  (15, yX15_query, cX15_query, 5, (Option.some Jvm.ClassFile.FieldType.int), 0, false, (14, 32), (1, 12)),
  (15, yX15_asked, cX15_asked, 4, (Option.some Jvm.ClassFile.FieldType.int), 1, false, (14, 36), (1, 12)),
  (15, yX15_answer_, cX15_answer_, 3, (Option.some Jvm.ClassFile.FieldType.long), 2, false, (14, 40), (1, 12)),
  (15, yX15_isRow, cX15_isRow, 3, (Option.some Jvm.ClassFile.FieldType.boolean), 2, false, (14, 48), (1, 12)),
  (15, yX15_value_, cX15_value_, 4, (Option.some Jvm.ClassFile.FieldType.long), 3, false, (14, 44), (1, 12)),
  (15, yX15_rank, cX15_rank, 3, (Option.some Jvm.ClassFile.FieldType.int), 2, false, (14, 52), (1, 12)),
  (15, yX15_reason, cX15_reason, 6, (Option.some Jvm.ClassFile.FieldType.int), 3, false, (14, 56), (1, 12)),
  (15, yX15_atomRow, cX15_atomRow, 5, (Option.some Jvm.ClassFile.FieldType.int), 1, false, (14, 60), (1, 12)),
  (15, yX15_firstRow, cX15_firstRow, 4, (Option.some Jvm.ClassFile.FieldType.int), 1, false, (14, 64), (1, 12)),
  (15, yX15_count, cX15_count, 3, (Option.some Jvm.ClassFile.FieldType.int), 1, false, (14, 68), (1, 12)),
  (15, yX15_predicate_, cX15_predicate_, 4, (Option.some Jvm.ClassFile.FieldType.int), 2, false, (14, 72), (1, 12)),
  (15, yX15_edits, cX15_edits, 1, (Option.some Jvm.ClassFile.FieldType.int), 0, false, (14, 76), (1, 12)),
  (15, yX15_edit_, cX15_edit_, 4, (Option.some Jvm.ClassFile.FieldType.long), 2, false, (14, 80), (1, 12)),
  (17, yJ7_fill_d0a16, cJ7_fill_d0a16, 5, (Option.none : Option Jvm.ClassFile.FieldType), 2, false, (2, 221), (1, 10)),
  (17, yJ7_fill_53178, cJ7_fill_53178, 4, (Option.none : Option Jvm.ClassFile.FieldType), 2, false, (6, 166), (1, 10)),
  (17, yJ7_copyOf_59c91, cJ7_copyOf_59c91, 3, (Option.some (Jvm.ClassFile.FieldType.array Jvm.ClassFile.FieldType.int)), 2, false, (5, 141), (1, 10)),
  (17, yJ7_copyOf_c38d5, cJ7_copyOf_c38d5, 3, (Option.some (Jvm.ClassFile.FieldType.array Jvm.ClassFile.FieldType.long)), 2, false, (5, 155), (1, 10)),
  (18, yJ0_length_8abf5, cJ0_length_8abf5, 1, (Option.some Jvm.ClassFile.FieldType.int), 0, false, (3, 158), (1, 13)),
  (18, yJ0_charAt_5068e, cJ0_charAt_5068e, 2, (Option.some Jvm.ClassFile.FieldType.char), 1, false, (3, 168), (1, 13)),
  (18, yJ0_indexOf_0f7a4, cJ0_indexOf_0f7a4, 2, (Option.some Jvm.ClassFile.FieldType.int), 1, false, (4, 4), (1, 13)),
  (18, yJ0_indexOf_7cf53, cJ0_indexOf_7cf53, 3, (Option.some Jvm.ClassFile.FieldType.int), 2, false, (4, 8), (1, 13)),
  (18, yJ0_coder_7d493, cJ0_coder_7d493, 1, (Option.some Jvm.ClassFile.FieldType.byte), 0, false, (3, 162), (1, 13)),
  (18, yJ0_isLatin1_aae02, cJ0_isLatin1_aae02, 1, (Option.some Jvm.ClassFile.FieldType.boolean), 0, false, (3, 172), (1, 13)),
  (18, yJ0_checkIndex_df160, cJ0_checkIndex_df160, 2, (Option.none : Option Jvm.ClassFile.FieldType), 2, false, (3, 178), (1, 13)),
  (18, yJ0_checkBoundsBeginEnd_23922, cJ0_checkBoundsBeginEnd_23922, 3, (Option.none : Option Jvm.ClassFile.FieldType), 3, false, (4, 39), (1, 13)),
  (19, yJ1_charAt_3b067, cJ1_charAt_3b067, 2, (Option.some Jvm.ClassFile.FieldType.char), 2, false, (3, 175), (1, 14)),
  (19, yJ1_canEncode_9a6ad, cJ1_canEncode_9a6ad, 1, (Option.some Jvm.ClassFile.FieldType.boolean), 1, false, (4, 15), (1, 14)),
  (19, yJ1_indexOf_4cfef, cJ1_indexOf_4cfef, 4, (Option.some Jvm.ClassFile.FieldType.int), 4, false, (4, 12), (1, 14)),
  (19, yJ1_indexOfChar_4cfef, cJ1_indexOfChar_4cfef, 6, (Option.some Jvm.ClassFile.FieldType.int), 4, false, (4, 24), (1, 14)),
  (10, yX10_isInBounds, cX10_isInBounds, 3, (Option.some Jvm.ClassFile.FieldType.boolean), 2, false, (7, 28), (1, 5))]
def xj_mT : List xj_mR := xj_mT0 ++ (xj_mT1 ++ (xj_mT2 ++ (xj_mT3 ++ (xj_mT4 ++ (xj_mT5 ++ (xj_mT6 ++ (xj_mT7 ++ (xj_mT8 ++ (xj_mT9)))))))))
/-- the exceptions of the class -/
def xj_en : Nat → String := fun k => match k with
  | 0 => "java/lang/IllegalArgumentException"
  | _ => "java/util/NoSuchElementException"
/-- methods with a handler: as above, with the table (from, to, handler, class), the exception, the place of the class's link -/
abbrev xj_wR : Type := xj_mR × (Nat × Nat × Nat × Nat) × Nat × (Nat × Nat)
def xj_wT : List xj_wR := [((11, yX11_program, cX11_program, 5, (Option.some Jvm.ClassFile.FieldType.int), 0, false, (3, 118), (1, 1)), (36, 44, 47, 123), 0, (3, 119)),
  ((11, yX11_change, cX11_change, 6, (Option.some Jvm.ClassFile.FieldType.int), 0, false, (5, 239), (1, 1)), (46, 54, 57, 123), 0, (3, 119)),
  ((11, yX11_cell, cX11_cell, 4, (Option.some Jvm.ClassFile.FieldType.int), 0, false, (6, 20), (1, 1)), (11, 19, 22, 123), 0, (3, 119)),
  ((11, yX11_query, cX11_query, 4, (Option.some Jvm.ClassFile.FieldType.int), 0, false, (7, 148), (1, 1)), (27, 38, 41, 123), 0, (3, 119)),
  ((16, yL_predicate, cL_predicate, 5, (Option.some Jvm.ClassFile.FieldType.int), 4, false, (7, 231), (1, 0)), (0, 10, 13, 13), 1, (7, 232)),
  ((16, yL_value, cL_value, 6, (Option.some Jvm.ClassFile.FieldType.int), 5, false, (8, 14), (1, 0)), (0, 11, 14, 13), 1, (7, 232)),
  ((16, yL_edit, cL_edit, 5, (Option.some Jvm.ClassFile.FieldType.int), 4, false, (8, 26), (1, 0)), (0, 9, 12, 13), 1, (7, 232)),
  ((16, yL_answer, cL_answer, 5, (Option.some Jvm.ClassFile.FieldType.int), 4, false, (8, 43), (1, 0)), (0, 9, 12, 13), 1, (7, 232)),
  ((16, yL_rank, cL_rank, 5, (Option.some Jvm.ClassFile.FieldType.int), 4, false, (8, 50), (1, 0)), (0, 10, 13, 13), 1, (7, 232)),
  ((16, yL_reason, cL_reason, 6, (Option.some Jvm.ClassFile.FieldType.int), 5, false, (8, 57), (1, 0)), (0, 12, 15, 13), 1, (7, 232)),
  ((16, yL_sheet, cL_sheet, 6, (Option.some Jvm.ClassFile.FieldType.int), 5, false, (8, 95), (1, 0)), (0, 11, 14, 13), 1, (7, 232)),
  ((16, yL_pastValue, cL_pastValue, 7, (Option.some Jvm.ClassFile.FieldType.int), 6, false, (8, 105), (1, 0)), (0, 13, 16, 13), 1, (7, 232)),
  ((16, yL_met, cL_met, 4, (Option.some Jvm.ClassFile.FieldType.int), 3, false, (8, 112), (1, 0)), (0, 8, 11, 13), 1, (7, 232))]
def xj_fT_0_0 : List (Nat × Nat × Nat × (Nat × Nat)) := [(9, 0, 0, (6, 41)), (15, 0, 1, (6, 43)), (27, 0, 4, (6, 49)), (31, 0, 2, (6, 45)), (35, 0, 3, (6, 47))]
def xj_fT_1_0 : List (Nat × Nat × Nat × (Nat × Nat)) := [(11, 1, 0, (2, 230)), (17, 1, 3, (2, 236)), (21, 1, 5, (3, 0)), (25, 1, 6, (3, 2)), (28, 1, 9, (3, 10)), (31, 1, 10, (3, 12)), (35, 1, 11, (3, 14)), (39, 1, 12, (3, 16)), (44, 1, 13, (3, 19)), (48, 1, 1, (2, 232)), (51, 1, 2, (2, 234)), (54, 1, 7, (3, 5)), (58, 1, 8, (3, 8)), (67, 5, 1, (1, 225)), (80, 5, 0, (1, 220)), (87, 2, 4, (2, 189)), (90, 2, 5, (2, 193)), (93, 2, 6, (2, 195)), (96, 2, 0, (2, 180)), (99, 3, 0, (2, 99)), (114, 1, 4, (2, 238))]
def xj_fT_2_0 : List (Nat × Nat × Nat × (Nat × Nat)) := [(9, 2, 0, (2, 176)), (15, 2, 1, (2, 181)), (19, 3, 1, (2, 102)), (25, 5, 1, (1, 223)), (30, 3, 3, (2, 109))]
def xj_fT_3_0 : List (Nat × Nat × Nat × (Nat × Nat)) := [(9, 3, 2, (2, 106)), (15, 3, 3, (2, 108)), (19, 3, 4, (2, 114)), (22, 3, 5, (2, 118)), (26, 3, 6, (2, 122)), (29, 3, 7, (2, 125)), (34, 3, 9, (2, 131)), (38, 3, 10, (2, 134)), (41, 3, 11, (2, 137)), (44, 3, 13, (2, 141)), (47, 3, 0, (2, 97)), (51, 3, 1, (2, 101)), (62, 3, 8, (2, 128)), (65, 6, 8, (4, 220)), (72, 6, 0, (4, 194)), (75, 6, 10, (4, 229)), (89, 3, 12, (2, 139)), (95, 6, 9, (4, 226)), (98, 6, 3, (4, 205)), (101, 6, 1, (4, 197))]
def xj_fT_4_0 : List (Nat × Nat × Nat × (Nat × Nat)) := [(9, 4, 7, (1, 94)), (15, 4, 8, (1, 95)), (19, 4, 10, (1, 97)), (22, 4, 11, (1, 98)), (25, 4, 13, (1, 100)), (28, 4, 15, (1, 103)), (31, 4, 16, (1, 105)), (34, 4, 17, (1, 107)), (37, 4, 18, (1, 108)), (40, 4, 19, (1, 110)), (43, 4, 0, (1, 84)), (51, 8, 3, (1, 50)), (54, 4, 1, (1, 85)), (80, 8, 4, (1, 52)), (86, 4, 5, (1, 90)), (90, 4, 9, (1, 96)), (118, 8, 2, (1, 48)), (125, 4, 6, (1, 92)), (147, 4, 3, (1, 88)), (151, 4, 4, (1, 89)), (155, 4, 14, (1, 101)), (159, 4, 2, (1, 87)), (169, 3, 5, (2, 121)), (175, 3, 4, (2, 117)), (182, 3, 6, (2, 124)), (185, 3, 8, (2, 130)), (188, 6, 1, (4, 198)), (191, 6, 0, (4, 196)), (197, 6, 2, (4, 202)), (200, 3, 7, (2, 126))]
def xj_fT_4_1 : List (Nat × Nat × Nat × (Nat × Nat)) := [(203, 3, 9, (2, 133)), (207, 6, 14, (5, 4)), (210, 6, 15, (5, 7)), (213, 6, 3, (4, 207)), (216, 6, 4, (4, 209)), (222, 6, 5, (4, 211)), (225, 6, 8, (4, 222)), (237, 8, 7, (1, 57)), (242, 6, 9, (4, 227)), (243, 6, 12, (4, 238)), (246, 6, 13, (5, 1)), (249, 6, 10, (4, 232)), (250, 6, 11, (4, 235)), (251, 8, 6, (1, 55)), (258, 3, 1, (2, 105)), (260, 3, 2, (2, 107)), (263, 6, 6, (4, 214)), (265, 6, 7, (4, 217)), (274, 4, 12, (1, 99)), (323, 3, 3, (2, 113))]
def xj_fT_5_0 : List (Nat × Nat × Nat × (Nat × Nat)) := [(9, 5, 0, (1, 219)), (15, 5, 2, (1, 228)), (19, 5, 3, (1, 229)), (23, 5, 1, (1, 222))]
def xj_fT_6_0 : List (Nat × Nat × Nat × (Nat × Nat)) := [(9, 6, 0, (4, 193)), (15, 6, 3, (4, 203)), (18, 6, 7, (4, 216)), (22, 6, 9, (4, 223)), (25, 6, 10, (4, 228)), (28, 6, 11, (4, 233)), (31, 6, 12, (4, 236)), (34, 6, 13, (4, 239)), (38, 6, 14, (5, 2)), (41, 6, 15, (5, 5)), (44, 6, 18, (5, 12)), (47, 6, 19, (5, 14)), (56, 6, 16, (5, 8)), (62, 6, 17, (5, 10)), (68, 6, 8, (4, 218)), (89, 6, 6, (4, 212)), (95, 6, 2, (4, 199))]
def xj_fT_7_0 : List (Nat × Nat × Nat × (Nat × Nat)) := [(9, 7, 2, (2, 69)), (15, 7, 3, (2, 70)), (18, 7, 4, (2, 71)), (21, 7, 0, (2, 67)), (25, 2, 2, (2, 186)), (31, 2, 3, (2, 188)), (34, 1, 12, (3, 17)), (40, 2, 5, (2, 192)), (49, 1, 13, (3, 20)), (52, 2, 6, (2, 194)), (55, 7, 1, (2, 68)), (66, 0, 2, (6, 46)), (72, 0, 3, (6, 48)), (97, 1, 6, (3, 3)), (101, 0, 4, (6, 50)), (105, 0, 0, (6, 42)), (108, 2, 0, (2, 179)), (112, 0, 1, (6, 44)), (152, 3, 3, (2, 112)), (157, 2, 1, (2, 184)), (161, 5, 1, (1, 227))]
def xj_fT_8_0 : List (Nat × Nat × Nat × (Nat × Nat)) := [(9, 8, 0, (1, 44)), (15, 8, 3, (1, 49)), (19, 8, 4, (1, 51)), (22, 8, 5, (1, 53)), (25, 8, 6, (1, 54)), (29, 8, 7, (1, 56)), (32, 8, 1, (1, 46)), (36, 8, 2, (1, 47))]
def xj_fT_9_0 : List (Nat × Nat × Nat × (Nat × Nat)) := [(9, 9, 0, (1, 159)), (15, 9, 1, (1, 162)), (19, 9, 2, (1, 164)), (22, 9, 8, (1, 171)), (25, 9, 9, (1, 172)), (28, 9, 10, (1, 173)), (31, 9, 11, (1, 174)), (34, 9, 12, (1, 175)), (37, 9, 13, (1, 176)), (40, 9, 3, (1, 166)), (44, 9, 4, (1, 167)), (48, 9, 5, (1, 168)), (52, 9, 6, (1, 169)), (56, 9, 7, (1, 170)), (66, 6, 8, (4, 219)), (71, 6, 18, (5, 13)), (74, 6, 9, (4, 224)), (95, 6, 19, (5, 15)), (98, 6, 11, (4, 234)), (101, 6, 12, (4, 237)), (104, 6, 13, (5, 0)), (107, 6, 10, (4, 230)), (124, 5, 3, (1, 230)), (144, 6, 14, (5, 3)), (147, 6, 15, (5, 6)), (150, 6, 16, (5, 9)), (153, 6, 17, (5, 11)), (160, 6, 2, (4, 200)), (163, 6, 3, (4, 206))]
def xj_fT_10_0 : List (Nat × Nat × Nat × (Nat × Nat)) := [(11, 10, 2, (2, 4)), (17, 10, 3, (2, 5)), (20, 10, 4, (2, 6)), (23, 10, 5, (2, 7)), (26, 10, 6, (2, 8)), (32, 10, 7, (2, 9)), (36, 10, 8, (2, 10)), (40, 10, 9, (2, 11)), (43, 10, 10, (2, 12)), (46, 10, 11, (2, 13)), (49, 10, 12, (2, 14)), (52, 10, 17, (2, 22)), (56, 10, 0, (2, 2)), (60, 10, 1, (2, 3)), (64, 10, 13, (2, 15)), (68, 10, 14, (2, 17)), (71, 3, 0, (2, 98)), (76, 2, 0, (2, 177)), (79, 3, 1, (2, 103)), (86, 3, 3, (2, 110)), (89, 2, 1, (2, 182)), (92, 3, 5, (2, 119)), (96, 3, 4, (2, 115)), (99, 1, 8, (3, 7)), (104, 1, 9, (3, 11)), (111, 1, 11, (3, 15)), (120, 1, 10, (3, 13)), (127, 5, 1, (1, 224)), (163, 10, 15, (2, 19)), (166, 3, 8, (2, 129))]
def xj_fT_10_1 : List (Nat × Nat × Nat × (Nat × Nat)) := [(169, 3, 9, (2, 132)), (173, 3, 10, (2, 135)), (176, 6, 0, (4, 195)), (189, 6, 3, (4, 204)), (204, 6, 8, (4, 221)), (211, 6, 9, (4, 225)), (214, 6, 10, (4, 231)), (222, 9, 1, (1, 163)), (225, 9, 2, (1, 165)), (245, 6, 2, (4, 201)), (248, 6, 4, (4, 208)), (251, 9, 0, (1, 160)), (254, 6, 5, (4, 210)), (270, 5, 3, (1, 231)), (305, 2, 4, (2, 191)), (308, 2, 6, (2, 196)), (311, 2, 7, (2, 198)), (314, 10, 16, (2, 21)), (341, 6, 6, (4, 215))]
def xj_fT_11_0 : List (Nat × Nat × Nat × (Nat × Nat)) := [(10, 11, 0, (3, 51)), (21, 11, 1, (3, 52)), (28, 11, 2, (3, 53)), (37, 11, 3, (3, 54)), (44, 11, 4, (3, 55)), (50, 11, 5, (3, 56)), (54, 11, 9, (3, 60)), (63, 11, 10, (3, 61)), (67, 11, 11, (3, 62)), (70, 11, 14, (3, 65)), (74, 11, 15, (3, 66)), (89, 2, 2, (2, 185)), (93, 2, 3, (2, 187)), (107, 8, 1, (1, 45)), (113, 11, 7, (3, 58)), (125, 4, 2, (1, 86)), (132, 11, 6, (3, 57)), (135, 1, 7, (3, 6)), (139, 1, 8, (3, 9)), (142, 3, 8, (2, 127)), (149, 2, 0, (2, 178)), (158, 4, 14, (1, 102)), (161, 4, 15, (1, 104)), (165, 4, 16, (1, 106)), (168, 4, 19, (1, 111)), (171, 4, 18, (1, 109)), (181, 1, 12, (3, 18)), (185, 1, 13, (3, 21)), (188, 4, 6, (1, 93)), (199, 1, 1, (2, 233))]
def xj_fT_11_1 : List (Nat × Nat × Nat × (Nat × Nat)) := [(206, 3, 12, (2, 140)), (209, 3, 11, (2, 138)), (216, 11, 8, (3, 59)), (223, 10, 13, (2, 16)), (230, 10, 14, (2, 18)), (240, 11, 12, (3, 63)), (244, 11, 13, (3, 64)), (247, 2, 4, (2, 190)), (250, 1, 2, (2, 235)), (253, 3, 1, (2, 104)), (258, 2, 7, (2, 197)), (264, 3, 3, (2, 111)), (265, 3, 4, (2, 116)), (268, 3, 5, (2, 120)), (271, 3, 6, (2, 123)), (274, 3, 10, (2, 136)), (277, 1, 5, (3, 1)), (279, 2, 1, (2, 183)), (283, 5, 1, (1, 226)), (310, 4, 5, (1, 91)), (318, 6, 6, (4, 213)), (335, 9, 0, (1, 161)), (344, 5, 0, (1, 221)), (347, 5, 3, (1, 232)), (354, 10, 16, (2, 20)), (357, 10, 17, (2, 23)), (366, 1, 6, (3, 4)), (375, 1, 0, (2, 231)), (382, 1, 3, (2, 237)), (385, 1, 4, (2, 239))]
def xj_fT_11_2 : List (Nat × Nat × Nat × (Nat × Nat)) := [(392, 3, 0, (2, 100)), (415, 11, 16, (3, 67))]
def xj_fT_12_0 : List (Nat × Nat × Nat × (Nat × Nat)) := [(9, 12, 0, (11, 228)), (15, 12, 1, (11, 230)), (18, 12, 2, (11, 232)), (22, 12, 3, (11, 234))]
def xj_fT_13_0 : List (Nat × Nat × Nat × (Nat × Nat)) := [(12, 13, 0, (12, 7)), (18, 13, 5, (12, 13)), (22, 13, 6, (12, 15)), (25, 13, 7, (12, 17)), (28, 13, 8, (12, 19)), (33, 13, 9, (12, 21)), (36, 13, 11, (12, 24)), (39, 13, 12, (12, 26)), (42, 13, 13, (12, 28)), (45, 13, 14, (12, 30)), (48, 13, 15, (12, 32)), (51, 13, 18, (12, 36)), (54, 13, 19, (12, 38)), (57, 13, 20, (12, 40)), (60, 13, 21, (12, 42)), (63, 13, 22, (12, 44)), (66, 13, 23, (12, 46)), (69, 13, 24, (12, 48)), (72, 13, 25, (12, 50)), (75, 13, 26, (12, 52)), (78, 13, 28, (12, 56)), (81, 13, 29, (12, 58)), (84, 13, 30, (12, 60)), (87, 13, 31, (12, 62)), (90, 13, 32, (12, 64)), (93, 13, 34, (12, 68)), (97, 13, 35, (12, 70)), (103, 13, 33, (12, 66)), (106, 13, 27, (12, 54))]
def xj_fT_14_0 : List (Nat × Nat × Nat × (Nat × Nat)) := [(9, 14, 0, (11, 65)), (15, 14, 1, (11, 67)), (19, 14, 2, (11, 69)), (22, 14, 3, (11, 71)), (25, 14, 4, (11, 73)), (28, 14, 5, (11, 75)), (32, 14, 6, (11, 77)), (35, 14, 7, (11, 79)), (38, 14, 10, (11, 84)), (41, 14, 11, (11, 86)), (44, 14, 12, (11, 88)), (47, 14, 13, (11, 90)), (50, 14, 15, (11, 93)), (53, 14, 16, (11, 95)), (56, 14, 17, (11, 97)), (59, 14, 18, (11, 99)), (62, 14, 19, (11, 101)), (65, 14, 20, (11, 103)), (68, 14, 21, (11, 105)), (71, 14, 22, (11, 107)), (74, 14, 23, (11, 109)), (77, 14, 24, (11, 111)), (80, 14, 25, (11, 113)), (83, 14, 26, (11, 115)), (86, 14, 27, (11, 117)), (89, 14, 28, (11, 119)), (92, 14, 29, (11, 121)), (95, 14, 30, (11, 123)), (98, 14, 31, (11, 125)), (101, 14, 32, (11, 127))]
def xj_fT_14_1 : List (Nat × Nat × Nat × (Nat × Nat)) := [(104, 14, 33, (11, 129)), (107, 14, 34, (11, 131)), (110, 14, 35, (11, 133)), (113, 14, 36, (11, 135)), (116, 14, 8, (11, 81))]
def xj_fT_15_0 : List (Nat × Nat × Nat × (Nat × Nat)) := [(3, 15, 1, (12, 152)), (7, 15, 0, (12, 151)), (11, 15, 7, (12, 158)), (14, 15, 5, (12, 156)), (17, 15, 8, (12, 159)), (20, 15, 11, (12, 162)), (32, 15, 6, (12, 157)), (43, 15, 4, (12, 155)), (46, 15, 2, (12, 153)), (71, 15, 9, (12, 160)), (82, 15, 10, (12, 161)), (105, 15, 3, (12, 154)), (129, 15, 12, (12, 163)), (132, 15, 13, (12, 164)), (135, 15, 14, (12, 165)), (138, 15, 15, (12, 166)), (141, 15, 16, (12, 167)), (144, 15, 17, (12, 168)), (147, 15, 18, (12, 169)), (150, 15, 19, (12, 170)), (160, 15, 21, (12, 172)), (166, 14, 8, (11, 82)), (171, 14, 9, (11, 83)), (174, 14, 14, (11, 92)), (177, 14, 37, (11, 137)), (180, 14, 1, (11, 68)), (184, 14, 2, (11, 70)), (187, 14, 5, (11, 76)), (191, 14, 6, (11, 78)), (194, 14, 7, (11, 80))]
def xj_fT_15_1 : List (Nat × Nat × Nat × (Nat × Nat)) := [(197, 15, 22, (12, 173)), (201, 14, 10, (11, 85)), (204, 14, 11, (11, 87)), (207, 14, 12, (11, 89)), (210, 14, 13, (11, 91)), (217, 14, 0, (11, 66)), (259, 15, 23, (12, 174)), (262, 15, 24, (12, 175)), (265, 15, 25, (12, 176)), (268, 14, 21, (11, 106)), (271, 14, 22, (11, 108)), (274, 14, 17, (11, 98)), (277, 14, 18, (11, 100)), (280, 14, 19, (11, 102)), (283, 14, 20, (11, 104)), (292, 14, 15, (11, 94)), (295, 14, 16, (11, 96)), (301, 14, 23, (11, 110)), (310, 14, 24, (11, 112)), (313, 14, 25, (11, 114)), (315, 14, 26, (11, 116)), (318, 14, 35, (11, 134)), (321, 14, 36, (11, 136)), (351, 14, 30, (11, 124)), (357, 14, 27, (11, 118)), (360, 14, 31, (11, 126)), (363, 14, 28, (11, 120)), (366, 14, 32, (11, 128)), (373, 14, 29, (11, 122)), (376, 14, 33, (11, 130))]
def xj_fT_15_2 : List (Nat × Nat × Nat × (Nat × Nat)) := [(379, 14, 34, (11, 132)), (382, 15, 26, (12, 177)), (385, 15, 27, (12, 178)), (421, 14, 3, (11, 72)), (424, 15, 28, (12, 179)), (427, 14, 4, (11, 74)), (430, 15, 33, (12, 184)), (433, 15, 32, (12, 183)), (439, 15, 29, (12, 180)), (450, 15, 34, (12, 185)), (453, 15, 42, (12, 193)), (456, 15, 36, (12, 187)), (459, 15, 35, (12, 186)), (479, 15, 37, (12, 188)), (482, 15, 40, (12, 191)), (485, 15, 41, (12, 192)), (498, 15, 43, (12, 194)), (501, 15, 39, (12, 190)), (539, 15, 44, (12, 195)), (542, 15, 38, (12, 189)), (556, 15, 51, (12, 202)), (562, 15, 47, (12, 198)), (565, 15, 45, (12, 196)), (568, 15, 46, (12, 197)), (571, 15, 48, (12, 199)), (574, 15, 52, (12, 203)), (577, 15, 49, (12, 200)), (580, 15, 53, (12, 204)), (583, 15, 54, (12, 205)), (586, 15, 50, (12, 201))]
def xj_fT_15_3 : List (Nat × Nat × Nat × (Nat × Nat)) := [(589, 15, 59, (12, 210)), (592, 15, 57, (12, 208)), (595, 15, 58, (12, 209)), (598, 15, 55, (12, 206)), (601, 15, 56, (12, 207)), (607, 15, 60, (12, 211)), (630, 15, 69, (12, 220)), (633, 15, 71, (12, 222)), (636, 15, 72, (12, 223)), (639, 15, 70, (12, 221)), (642, 15, 67, (12, 218)), (645, 15, 68, (12, 219)), (655, 15, 65, (12, 216)), (658, 15, 64, (12, 215)), (661, 15, 66, (12, 217)), (664, 15, 62, (12, 213)), (667, 15, 61, (12, 212)), (671, 13, 1, (12, 9)), (679, 13, 0, (12, 8)), (690, 12, 3, (11, 235)), (694, 12, 0, (11, 229)), (695, 12, 2, (11, 233)), (696, 12, 1, (11, 231)), (699, 15, 74, (12, 225)), (702, 13, 34, (12, 69)), (705, 15, 76, (12, 227)), (715, 13, 33, (12, 67)), (722, 15, 63, (12, 214)), (728, 15, 77, (12, 228)), (734, 13, 14, (12, 31))]
def xj_fT_15_4 : List (Nat × Nat × Nat × (Nat × Nat)) := [(737, 13, 17, (12, 35)), (740, 13, 2, (12, 10)), (743, 13, 15, (12, 33)), (746, 13, 4, (12, 12)), (749, 13, 21, (12, 43)), (774, 15, 30, (12, 181)), (777, 13, 31, (12, 63)), (778, 13, 29, (12, 59)), (779, 13, 32, (12, 65)), (780, 13, 28, (12, 57)), (788, 13, 5, (12, 14)), (791, 13, 10, (12, 23)), (794, 13, 6, (12, 16)), (797, 13, 8, (12, 20)), (800, 13, 7, (12, 18)), (803, 13, 9, (12, 22)), (806, 13, 22, (12, 45)), (825, 13, 24, (12, 49)), (828, 13, 27, (12, 55)), (831, 13, 25, (12, 51)), (834, 13, 26, (12, 53)), (837, 13, 3, (12, 11)), (844, 13, 11, (12, 25)), (847, 13, 16, (12, 34)), (850, 13, 12, (12, 27)), (853, 13, 13, (12, 29)), (858, 15, 80, (12, 231)), (865, 13, 18, (12, 37)), (868, 13, 35, (12, 71)), (871, 13, 36, (12, 72))]
def xj_fT_15_5 : List (Nat × Nat × Nat × (Nat × Nat)) := [(894, 13, 19, (12, 39)), (926, 15, 82, (12, 233)), (929, 15, 83, (12, 234)), (932, 15, 81, (12, 232)), (943, 15, 84, (12, 235)), (946, 15, 89, (13, 0)), (949, 15, 85, (12, 236)), (952, 15, 86, (12, 237)), (955, 15, 87, (12, 238)), (958, 15, 88, (12, 239)), (964, 15, 90, (13, 1)), (986, 15, 20, (12, 171)), (999, 15, 92, (13, 3)), (1002, 15, 93, (13, 4)), (1005, 15, 94, (13, 5)), (1007, 15, 95, (13, 6)), (1023, 15, 98, (13, 9)), (1026, 15, 99, (13, 10)), (1029, 15, 96, (13, 7)), (1045, 13, 20, (12, 41)), (1048, 13, 23, (12, 47)), (1051, 15, 91, (13, 2)), (1068, 15, 78, (12, 229)), (1071, 15, 79, (12, 230)), (1074, 15, 97, (13, 8)), (1077, 13, 30, (12, 61)), (1106, 15, 31, (12, 182)), (1112, 15, 75, (12, 226)), (1116, 15, 100, (13, 11)), (1119, 15, 101, (13, 12))]
def xj_fT_15_6 : List (Nat × Nat × Nat × (Nat × Nat)) := [(1122, 15, 102, (13, 13)), (1125, 15, 103, (13, 14)), (1128, 15, 104, (13, 15)), (1131, 15, 73, (12, 224)), (1141, 15, 105, (13, 16)), (1144, 15, 106, (13, 17))]
def xj_fT : Nat → List (Nat × Nat × Nat × (Nat × Nat)) := fun o => match o with
  | 0 => xj_fT_0_0
  | 1 => xj_fT_1_0
  | 2 => xj_fT_2_0
  | 3 => xj_fT_3_0
  | 4 => xj_fT_4_0 ++ xj_fT_4_1
  | 5 => xj_fT_5_0
  | 6 => xj_fT_6_0
  | 7 => xj_fT_7_0
  | 8 => xj_fT_8_0
  | 9 => xj_fT_9_0
  | 10 => xj_fT_10_0 ++ xj_fT_10_1
  | 11 => xj_fT_11_0 ++ xj_fT_11_1 ++ xj_fT_11_2
  | 12 => xj_fT_12_0
  | 13 => xj_fT_13_0
  | 14 => xj_fT_14_0 ++ xj_fT_14_1
  | 15 => xj_fT_15_0 ++ xj_fT_15_1 ++ xj_fT_15_2 ++ xj_fT_15_3 ++ xj_fT_15_4 ++ xj_fT_15_5 ++ xj_fT_15_6
  | _ => []
def xj_cT_0_0 : List (Nat × Nat × Nat × (Nat × Nat) × (Nat × Nat) × (Nat × Nat)) := [(3, 3, 0, (6, 32), (1, 36), (1, 37)), (19, 0, 2, (6, 33), (6, 35), (0, 47)), (23, 0, 1, (6, 37), (6, 39), (0, 48))]
def xj_cT_1_0 : List (Nat × Nat × Nat × (Nat × Nat) × (Nat × Nat) × (Nat × Nat)) := [(3, 3, 0, (2, 226), (1, 36), (1, 37)), (72, 0, 78, (7, 226), (7, 23), (7, 24)), (76, 0, 74, (7, 227), (6, 103), (6, 104)), (83, 0, 8, (7, 228), (6, 13), (6, 14)), (104, 0, 5, (7, 183), (6, 1), (6, 2)), (108, 2, 382, (7, 184), (6, 165), (0, 0)), (117, 0, 7, (7, 185), (6, 67), (6, 68))]
def xj_cT_2_0 : List (Nat × Nat × Nat × (Nat × Nat) × (Nat × Nat) × (Nat × Nat)) := [(3, 3, 0, (2, 175), (1, 36), (1, 37)), (34, 0, 21, (7, 143), (6, 79), (6, 80)), (38, 1, 68, (8, 36), (1, 216), (0, 0)), (41, 0, 83, (7, 144), (7, 50), (7, 51))]
def xj_cT_3_0 : List (Nat × Nat × Nat × (Nat × Nat) × (Nat × Nat) × (Nat × Nat)) := [(3, 3, 0, (2, 94), (1, 36), (1, 37)), (54, 0, 20, (6, 82), (4, 156), (4, 157)), (58, 0, 21, (7, 221), (6, 79), (6, 80)), (68, 0, 90, (5, 213), (5, 174), (5, 175)), (82, 0, 25, (5, 216), (5, 218), (0, 46)), (85, 0, 27, (5, 220), (5, 221), (5, 222)), (92, 0, 26, (5, 224), (5, 225), (5, 226))]
def xj_cT_4_0 : List (Nat × Nat × Nat × (Nat × Nat) × (Nat × Nat) × (Nat × Nat)) := [(3, 3, 0, (1, 83), (1, 36), (1, 37)), (47, 0, 34, (4, 64), (4, 66), (0, 10)), (58, 0, 41, (4, 68), (4, 70), (0, 11)), (61, 0, 42, (4, 175), (4, 177), (0, 20)), (64, 0, 43, (4, 179), (4, 181), (0, 21)), (67, 0, 35, (4, 183), (4, 185), (0, 22)), (70, 0, 45, (5, 123), (5, 125), (0, 36)), (73, 0, 37, (4, 72), (4, 74), (0, 12)), (76, 0, 38, (4, 159), (4, 161), (0, 17)), (83, 0, 36, (4, 80), (4, 82), (0, 14)), (93, 0, 88, (5, 135), (5, 136), (5, 137)), (99, 0, 47, (4, 76), (4, 78), (0, 13)), (103, 0, 48, (4, 151), (4, 153), (0, 16)), (107, 0, 51, (5, 102), (5, 104), (0, 32)), (110, 0, 39, (5, 119), (5, 121), (0, 35)), (114, 0, 40, (4, 167), (4, 169), (0, 19)), (121, 0, 52, (5, 89), (5, 91), (0, 29)), (129, 0, 53, (5, 61), (5, 63), (0, 24)), (135, 2, 383, (6, 27), (5, 140), (0, 0)), (141, 2, 384, (6, 28), (5, 154), (0, 0)), (144, 1, 0, (6, 29), (6, 30), (0, 0)), (158, 4, 87, (4, 189), (4, 190), (0, 0)), (165, 0, 50, (4, 163), (4, 165), (0, 18)), (178, 0, 23, (4, 171), (4, 172), (4, 173)), (194, 0, 44, (5, 57), (5, 59), (0, 23)), (219, 0, 49, (5, 98), (5, 100), (0, 31)), (228, 0, 46, (5, 127), (5, 129), (0, 37)), (231, 0, 124, (4, 147), (4, 148), (4, 149)), (234, 0, 89, (5, 131), (5, 132), (5, 133)), (254, 0, 20, (4, 155), (4, 156), (4, 157))]
def xj_cT_4_1 : List (Nat × Nat × Nat × (Nat × Nat) × (Nat × Nat) × (Nat × Nat)) := [(268, 0, 126, (5, 106), (5, 107), (5, 108)), (277, 0, 125, (5, 65), (5, 66), (5, 67)), (280, 0, 60, (5, 70), (5, 72), (0, 25)), (283, 0, 54, (5, 85), (5, 87), (0, 28)), (286, 0, 56, (5, 94), (5, 96), (0, 30)), (290, 2, 55, (5, 78), (5, 79), (0, 0)), (293, 0, 59, (5, 111), (5, 113), (0, 33)), (296, 0, 57, (5, 81), (5, 83), (0, 27)), (299, 0, 61, (5, 115), (5, 117), (0, 34)), (302, 0, 58, (5, 74), (5, 76), (0, 26)), (305, 0, 65, (5, 193), (5, 195), (0, 43)), (308, 0, 66, (5, 197), (5, 199), (0, 44)), (311, 0, 67, (5, 201), (5, 203), (0, 45)), (314, 0, 95, (5, 205), (5, 206), (5, 207)), (317, 0, 24, (5, 209), (5, 210), (5, 211)), (320, 0, 28, (5, 228), (5, 229), (5, 230))]
def xj_cT_5_0 : List (Nat × Nat × Nat × (Nat × Nat) × (Nat × Nat) × (Nat × Nat)) := [(3, 3, 0, (1, 218), (1, 36), (1, 37)), (26, 0, 71, (6, 110), (6, 111), (6, 112)), (30, 0, 73, (6, 106), (6, 107), (6, 108)), (40, 0, 69, (6, 91), (6, 92), (6, 93)), (44, 6, 1, (6, 95), (4, 20), (4, 21)), (50, 1, 68, (7, 47), (1, 216), (0, 0)), (53, 0, 79, (7, 48), (6, 88), (6, 89)), (57, 0, 72, (6, 134), (6, 135), (6, 136)), (61, 0, 78, (7, 210), (7, 23), (7, 24)), (65, 0, 75, (7, 211), (6, 119), (6, 120)), (69, 0, 86, (7, 212), (7, 214), (0, 80))]
def xj_cT_6_0 : List (Nat × Nat × Nat × (Nat × Nat) × (Nat × Nat) × (Nat × Nat)) := [(3, 3, 0, (4, 192), (1, 36), (1, 37)), (50, 2, 383, (5, 139), (5, 140), (0, 0)), (59, 2, 384, (5, 153), (5, 154), (0, 0)), (65, 0, 96, (5, 161), (5, 163), (0, 38)), (71, 0, 90, (5, 173), (5, 174), (5, 175)), (75, 0, 92, (5, 177), (5, 179), (0, 41)), (79, 0, 93, (5, 169), (5, 171), (0, 40)), (82, 0, 91, (5, 181), (5, 182), (5, 183)), (85, 0, 94, (5, 165), (5, 167), (0, 39)), (92, 0, 97, (5, 185), (5, 187), (0, 42))]
def xj_cT_7_0 : List (Nat × Nat × Nat × (Nat × Nat) × (Nat × Nat) × (Nat × Nat)) := [(3, 3, 0, (2, 66), (1, 36), (1, 37)), (56, 0, 100, (7, 64), (7, 66), (0, 70)), (59, 0, 102, (7, 71), (7, 73), (0, 71)), (62, 0, 103, (7, 111), (7, 113), (0, 76)), (75, 2, 101, (7, 68), (7, 69), (0, 0)), (81, 0, 3, (7, 76), (7, 77), (7, 78)), (89, 0, 105, (7, 82), (7, 84), (0, 72)), (93, 0, 104, (7, 115), (7, 117), (0, 77)), (115, 0, 20, (7, 104), (4, 156), (4, 157)), (123, 0, 106, (7, 87), (7, 89), (0, 73)), (127, 5, 192, (7, 109), (6, 220), (0, 0)), (131, 6, 0, (7, 110), (4, 17), (4, 18)), (137, 0, 107, (7, 91), (7, 93), (0, 74)), (141, 0, 109, (7, 100), (7, 102), (0, 75)), (146, 2, 108, (7, 96), (7, 97), (0, 0)), (166, 0, 70, (7, 106), (6, 195), (6, 196)), (170, 6, 3, (7, 107), (3, 234), (3, 235)), (174, 6, 2, (7, 108), (7, 16), (7, 17))]
def xj_cT_8_0 : List (Nat × Nat × Nat × (Nat × Nat) × (Nat × Nat) × (Nat × Nat)) := [(3, 3, 0, (1, 43), (1, 36), (1, 37)), (39, 0, 113, (3, 124), (3, 126), (0, 0)), (43, 2, 121, (3, 128), (3, 129), (0, 0)), (47, 0, 114, (3, 131), (3, 133), (0, 1)), (50, 2, 122, (3, 214), (3, 215), (0, 0)), (53, 0, 117, (3, 217), (3, 219), (0, 6)), (56, 2, 123, (3, 135), (3, 136), (0, 0)), (59, 0, 118, (3, 226), (3, 228), (0, 8)), (62, 0, 119, (3, 236), (3, 238), (0, 9)), (65, 0, 120, (3, 210), (3, 212), (0, 5)), (71, 0, 127, (3, 139), (3, 141), (0, 2)), (75, 0, 115, (3, 146), (3, 148), (0, 3)), (81, 0, 116, (3, 151), (3, 153), (0, 4)), (99, 12, 385, (3, 155), (3, 156), (3, 157)), (105, 12, 386, (3, 165), (3, 166), (3, 167)), (111, 0, 128, (3, 222), (3, 224), (0, 7)), (120, 6, 3, (3, 233), (3, 234), (3, 235)), (128, 12, 387, (4, 1), (4, 2), (4, 3))]
def xj_cT_9_0 : List (Nat × Nat × Nat × (Nat × Nat) × (Nat × Nat) × (Nat × Nat)) := [(3, 3, 0, (1, 158), (1, 36), (1, 37)), (59, 2, 382, (6, 164), (6, 165), (0, 0)), (77, 0, 134, (6, 177), (6, 179), (0, 55)), (81, 0, 133, (6, 182), (6, 184), (0, 56)), (85, 0, 135, (6, 186), (6, 188), (0, 57)), (89, 0, 138, (6, 202), (6, 204), (0, 60)), (92, 0, 139, (6, 206), (6, 208), (0, 61)), (110, 0, 73, (6, 181), (6, 107), (6, 108)), (116, 0, 136, (6, 190), (6, 192), (0, 58)), (120, 0, 137, (6, 198), (6, 200), (0, 59)), (127, 0, 70, (6, 194), (6, 195), (6, 196)), (131, 0, 140, (6, 210), (6, 212), (0, 62)), (135, 0, 141, (6, 215), (6, 217), (0, 63)), (141, 0, 91, (6, 214), (5, 182), (5, 183)), (156, 5, 192, (6, 219), (6, 220), (0, 0))]
def xj_cT_10_0 : List (Nat × Nat × Nat × (Nat × Nat) × (Nat × Nat) × (Nat × Nat)) := [(3, 3, 0, (1, 211), (1, 36), (1, 37)), (29, 1, 68, (1, 215), (1, 216), (0, 0)), (82, 0, 21, (6, 78), (6, 79), (6, 80)), (107, 0, 79, (6, 87), (6, 88), (6, 89)), (123, 0, 147, (6, 98), (6, 100), (0, 49)), (130, 0, 148, (6, 126), (6, 128), (0, 50)), (134, 0, 74, (6, 102), (6, 103), (6, 104)), (138, 0, 77, (6, 114), (6, 115), (6, 116)), (141, 0, 75, (6, 118), (6, 119), (6, 120)), (145, 0, 76, (6, 122), (6, 123), (6, 124)), (149, 0, 81, (6, 130), (6, 131), (6, 132)), (153, 0, 27, (6, 142), (5, 221), (5, 222)), (157, 0, 26, (6, 143), (5, 225), (5, 226)), (160, 0, 150, (6, 144), (6, 146), (0, 51)), (181, 0, 151, (6, 149), (6, 151), (0, 52)), (185, 0, 153, (6, 156), (6, 158), (0, 53)), (192, 0, 155, (6, 167), (6, 169), (0, 54)), (196, 0, 157, (6, 238), (7, 0), (0, 65)), (198, 0, 154, (7, 30), (7, 32), (0, 69)), (201, 0, 69, (6, 148), (6, 92), (6, 93)), (207, 2, 152, (6, 153), (6, 154), (0, 0)), (216, 0, 130, (6, 160), (6, 161), (6, 162)), (228, 0, 78, (7, 22), (7, 23), (7, 24)), (233, 0, 132, (6, 172), (6, 173), (6, 174)), (237, 0, 142, (6, 230), (6, 231), (6, 232)), (241, 0, 156, (6, 234), (6, 236), (0, 64)), (259, 0, 158, (7, 3), (7, 5), (0, 66)), (263, 0, 159, (7, 7), (7, 9), (0, 67)), (267, 0, 161, (7, 18), (7, 20), (0, 68)), (273, 2, 160, (7, 11), (7, 12), (0, 0))]
def xj_cT_10_1 : List (Nat × Nat × Nat × (Nat × Nat) × (Nat × Nat) × (Nat × Nat)) := [(277, 6, 3, (7, 14), (3, 234), (3, 235)), (283, 6, 2, (7, 15), (7, 16), (7, 17)), (288, 2, 397, (7, 26), (7, 27), (0, 0)), (291, 0, 82, (7, 38), (7, 39), (7, 40)), (294, 0, 80, (7, 42), (7, 43), (7, 44)), (298, 0, 83, (7, 49), (7, 50), (7, 51)), (302, 1, 14, (7, 54), (2, 173), (0, 0)), (317, 2, 382, (8, 66), (6, 165), (0, 0)), (323, 0, 164, (8, 67), (8, 69), (0, 81)), (327, 0, 167, (8, 89), (8, 91), (0, 84)), (331, 0, 91, (8, 71), (5, 182), (5, 183)), (334, 0, 131, (8, 72), (8, 73), (8, 74)), (338, 0, 165, (8, 76), (8, 78), (0, 82)), (344, 0, 166, (8, 80), (8, 82), (0, 83)), (347, 0, 143, (8, 84), (8, 85), (8, 86))]
def xj_cT_11_0 : List (Nat × Nat × Nat × (Nat × Nat) × (Nat × Nat) × (Nat × Nat)) := [(1, 3, 0, (1, 35), (1, 36), (1, 37)), (9, 4, 110, (1, 40), (1, 41), (0, 0)), (18, 1, 29, (1, 80), (1, 81), (0, 0)), (27, 4, 129, (1, 155), (1, 156), (0, 0)), (34, 1, 144, (1, 208), (1, 209), (0, 0)), (43, 4, 98, (2, 63), (2, 64), (0, 0)), (60, 1, 68, (2, 86), (1, 216), (0, 0)), (81, 1, 19, (2, 91), (2, 92), (0, 0)), (84, 1, 14, (2, 172), (2, 173), (0, 0)), (98, 2, 381, (2, 219), (2, 220), (0, 0)), (104, 1, 4, (2, 223), (2, 224), (0, 0)), (110, 0, 111, (3, 107), (3, 108), (3, 109)), (116, 0, 112, (3, 120), (3, 121), (3, 122)), (119, 0, 30, (4, 60), (4, 61), (4, 62)), (128, 0, 62, (5, 189), (5, 190), (5, 191)), (145, 0, 5, (6, 0), (6, 1), (6, 2)), (152, 0, 32, (6, 4), (6, 5), (6, 6)), (155, 0, 64, (6, 8), (6, 9), (6, 10)), (174, 0, 8, (6, 12), (6, 13), (6, 14)), (178, 0, 33, (6, 21), (6, 22), (6, 23)), (192, 0, 7, (6, 66), (6, 67), (6, 68)), (195, 0, 145, (6, 74), (6, 75), (6, 76)), (202, 0, 146, (6, 83), (6, 84), (6, 85)), (212, 0, 149, (6, 138), (6, 139), (6, 140)), (219, 0, 162, (7, 34), (7, 35), (7, 36)), (226, 0, 99, (7, 55), (7, 56), (7, 57)), (233, 0, 10, (7, 119), (7, 120), (7, 121)), (237, 0, 11, (7, 123), (7, 124), (7, 125)), (255, 0, 16, (7, 131), (7, 132), (7, 133)), (284, 0, 18, (7, 139), (7, 140), (7, 141))]
def xj_cT_11_1 : List (Nat × Nat × Nat × (Nat × Nat) × (Nat × Nat) × (Nat × Nat)) := [(288, 0, 15, (8, 19), (8, 20), (8, 21)), (292, 0, 70, (8, 23), (6, 195), (6, 196)), (296, 0, 17, (8, 31), (8, 32), (8, 33)), (300, 0, 84, (8, 37), (8, 38), (8, 39)), (304, 0, 31, (7, 149), (7, 150), (7, 151)), (307, 0, 63, (7, 153), (7, 154), (7, 155)), (314, 0, 179, (7, 157), (7, 159), (0, 78)), (323, 0, 69, (7, 161), (6, 92), (6, 93)), (326, 0, 130, (7, 162), (6, 161), (6, 162)), (331, 0, 132, (7, 164), (6, 173), (6, 174)), (336, 0, 74, (7, 165), (6, 103), (6, 104)), (340, 0, 76, (7, 166), (6, 123), (6, 124)), (350, 0, 163, (8, 62), (8, 63), (8, 64)), (371, 0, 6, (7, 171), (7, 172), (7, 173)), (379, 0, 12, (7, 179), (7, 180), (7, 181)), (388, 0, 13, (7, 190), (7, 191), (7, 192)), (395, 0, 190, (7, 202), (7, 204), (0, 79)), (399, 0, 22, (7, 217), (7, 218), (7, 219)), (403, 0, 9, (7, 222), (7, 223), (7, 224)), (407, 0, 85, (7, 206), (7, 207), (7, 208)), (411, 0, 78, (7, 216), (7, 23), (7, 24)), (422, 6, 4, (6, 225), (6, 226), (6, 227))]
def xj_cT_12_0 : List (Nat × Nat × Nat × (Nat × Nat) × (Nat × Nat) × (Nat × Nat)) := [(3, 3, 0, (11, 227), (1, 36), (1, 37)), (26, 2, 195, (10, 38), (10, 39), (0, 0)), (30, 0, 196, (10, 33), (10, 35), (0, 166)), (34, 0, 200, (10, 41), (10, 43), (0, 167))]
def xj_cT_13_0 : List (Nat × Nat × Nat × (Nat × Nat) × (Nat × Nat) × (Nat × Nat)) := [(3, 3, 0, (11, 222), (1, 36), (1, 37)), (11, 4, 193, (11, 224), (11, 225), (0, 0)), (100, 0, 202, (12, 6), (10, 22), (10, 23))]
def xj_cT_14_0 : List (Nat × Nat × Nat × (Nat × Nat) × (Nat × Nat) × (Nat × Nat)) := [(3, 3, 0, (11, 64), (1, 36), (1, 37))]
def xj_cT_15_0 : List (Nat × Nat × Nat × (Nat × Nat) × (Nat × Nat) × (Nat × Nat)) := [(24, 0, 214, (8, 138), (8, 140), (0, 89)), (28, 0, 211, (8, 186), (8, 188), (0, 95)), (35, 0, 210, (8, 206), (8, 208), (0, 100)), (39, 0, 209, (8, 142), (8, 144), (0, 90)), (49, 2, 206, (8, 146), (8, 147), (0, 0)), (53, 0, 216, (8, 149), (8, 151), (0, 91)), (56, 2, 207, (8, 163), (8, 164), (0, 0)), (59, 0, 217, (8, 166), (8, 168), (0, 92)), (62, 2, 208, (8, 153), (8, 154), (0, 0)), (65, 0, 218, (8, 171), (8, 173), (0, 93)), (68, 0, 219, (8, 180), (8, 182), (0, 94)), (77, 2, 215, (8, 157), (8, 158), (0, 0)), (97, 6, 3, (8, 178), (3, 234), (3, 235)), (110, 12, 387, (8, 185), (4, 2), (4, 3)), (115, 0, 220, (8, 234), (8, 236), (0, 106)), (118, 0, 213, (8, 202), (8, 204), (0, 99)), (121, 12, 385, (11, 49), (3, 156), (3, 157)), (125, 12, 386, (11, 50), (3, 166), (3, 167)), (153, 0, 221, (8, 194), (8, 196), (0, 97)), (156, 0, 224, (8, 218), (8, 220), (0, 103)), (163, 0, 226, (8, 214), (8, 216), (0, 102)), (213, 0, 205, (8, 226), (8, 227), (8, 228)), (221, 0, 228, (8, 130), (8, 132), (0, 87)), (225, 0, 212, (8, 134), (8, 136), (0, 88)), (229, 0, 225, (8, 190), (8, 192), (0, 96)), (232, 0, 234, (8, 198), (8, 200), (0, 98)), (235, 0, 235, (9, 6), (9, 8), (0, 109)), (238, 0, 237, (9, 10), (9, 12), (0, 110)), (241, 0, 230, (8, 222), (8, 224), (0, 104)), (245, 0, 232, (8, 210), (8, 212), (0, 101))]
def xj_cT_15_1 : List (Nat × Nat × Nat × (Nat × Nat) × (Nat × Nat) × (Nat × Nat)) := [(248, 0, 222, (8, 230), (8, 232), (0, 105)), (251, 0, 233, (8, 238), (9, 0), (0, 107)), (255, 0, 229, (9, 2), (9, 4), (0, 108)), (286, 0, 236, (9, 14), (9, 16), (0, 111)), (289, 0, 238, (9, 18), (9, 20), (0, 112)), (298, 0, 246, (9, 54), (9, 56), (0, 121)), (304, 0, 243, (9, 22), (9, 24), (0, 113)), (307, 0, 239, (9, 30), (9, 32), (0, 115)), (324, 0, 240, (9, 34), (9, 36), (0, 116)), (328, 0, 227, (9, 38), (9, 40), (0, 117)), (331, 0, 241, (9, 26), (9, 28), (0, 114)), (334, 0, 244, (9, 42), (9, 44), (0, 118)), (337, 0, 245, (9, 46), (9, 48), (0, 119)), (340, 0, 242, (9, 50), (9, 52), (0, 120)), (344, 0, 247, (9, 58), (9, 60), (0, 122)), (347, 0, 249, (9, 62), (9, 64), (0, 123)), (354, 0, 248, (9, 70), (9, 72), (0, 125)), (369, 0, 250, (9, 66), (9, 68), (0, 124)), (388, 2, 253, (9, 78), (9, 79), (0, 0)), (392, 0, 251, (9, 81), (9, 83), (0, 127)), (395, 0, 254, (9, 85), (9, 87), (0, 128)), (398, 0, 258, (9, 89), (9, 91), (0, 129)), (402, 0, 259, (9, 102), (9, 104), (0, 130)), (405, 2, 260, (9, 106), (9, 107), (0, 0)), (409, 2, 255, (9, 96), (9, 97), (0, 0)), (413, 2, 256, (9, 99), (9, 100), (0, 0)), (417, 2, 257, (9, 93), (9, 94), (0, 0)), (436, 0, 261, (9, 129), (9, 131), (0, 135)), (442, 2, 262, (9, 133), (9, 134), (0, 0)), (446, 0, 263, (9, 125), (9, 127), (0, 134))]
def xj_cT_15_2 : List (Nat × Nat × Nat × (Nat × Nat) × (Nat × Nat) × (Nat × Nat)) := [(462, 0, 268, (9, 192), (9, 194), (0, 150)), (466, 2, 267, (9, 196), (9, 197), (0, 0)), (469, 2, 269, (9, 199), (9, 200), (0, 0)), (475, 6, 4, (9, 202), (6, 226), (6, 227)), (488, 0, 270, (9, 184), (9, 186), (0, 148)), (491, 0, 271, (10, 5), (10, 7), (0, 161)), (494, 0, 273, (10, 13), (10, 15), (0, 163)), (504, 0, 276, (9, 172), (9, 174), (0, 145)), (507, 0, 275, (9, 168), (9, 170), (0, 144)), (510, 0, 272, (9, 212), (9, 214), (0, 153)), (514, 0, 274, (10, 9), (10, 11), (0, 162)), (517, 0, 277, (9, 176), (9, 178), (0, 146)), (520, 0, 279, (9, 204), (9, 206), (0, 151)), (523, 0, 283, (9, 220), (9, 222), (0, 155)), (526, 0, 278, (9, 180), (9, 182), (0, 147)), (529, 0, 266, (9, 188), (9, 190), (0, 149)), (533, 0, 280, (9, 208), (9, 210), (0, 152)), (536, 0, 281, (9, 216), (9, 218), (0, 154)), (545, 0, 282, (9, 224), (9, 226), (0, 156)), (548, 0, 284, (9, 228), (9, 230), (0, 157)), (551, 0, 287, (9, 232), (9, 234), (0, 158)), (553, 0, 285, (9, 237), (9, 239), (0, 159)), (559, 0, 286, (10, 1), (10, 3), (0, 160)), (604, 6, 2, (9, 236), (7, 16), (7, 17)), (610, 0, 289, (10, 17), (10, 19), (0, 164)), (614, 0, 291, (9, 152), (9, 154), (0, 140)), (617, 0, 293, (9, 160), (9, 162), (0, 142)), (620, 0, 292, (9, 156), (9, 158), (0, 141)), (623, 0, 288, (9, 164), (9, 166), (0, 143)), (626, 0, 264, (9, 121), (9, 123), (0, 133))]
def xj_cT_15_3 : List (Nat × Nat × Nat × (Nat × Nat) × (Nat × Nat) × (Nat × Nat)) := [(648, 0, 231, (8, 126), (8, 128), (0, 86)), (652, 0, 252, (9, 74), (9, 76), (0, 126)), (676, 0, 295, (8, 121), (8, 123), (0, 85)), (683, 0, 297, (9, 136), (9, 138), (0, 136)), (687, 0, 290, (9, 148), (9, 150), (0, 139)), (708, 0, 194, (9, 109), (9, 110), (9, 111)), (711, 0, 299, (9, 113), (9, 115), (0, 131)), (718, 0, 301, (9, 140), (9, 142), (0, 137)), (725, 0, 202, (10, 21), (10, 22), (10, 23)), (731, 0, 302, (10, 25), (10, 27), (0, 165)), (751, 0, 203, (10, 45), (10, 46), (10, 47)), (754, 0, 304, (10, 49), (10, 51), (0, 168)), (758, 0, 305, (10, 61), (10, 63), (0, 170)), (762, 0, 306, (10, 65), (10, 67), (0, 171)), (765, 0, 354, (10, 74), (10, 76), (0, 173)), (768, 0, 308, (10, 167), (10, 169), (0, 194)), (771, 0, 300, (9, 117), (9, 119), (0, 132)), (782, 0, 265, (9, 144), (9, 146), (0, 138)), (785, 0, 198, (10, 29), (10, 30), (10, 31)), (809, 0, 197, (10, 53), (10, 54), (10, 55)), (813, 0, 303, (10, 57), (10, 59), (0, 169)), (817, 2, 195, (10, 69), (10, 39), (0, 0)), (821, 0, 307, (10, 70), (10, 72), (0, 172)), (840, 2, 309, (10, 171), (10, 172), (0, 0)), (856, 0, 199, (10, 190), (10, 191), (10, 192)), (861, 0, 311, (10, 186), (10, 188), (0, 197)), (874, 0, 310, (10, 178), (10, 180), (0, 195)), (878, 0, 312, (10, 182), (10, 184), (0, 196)), (881, 0, 313, (10, 194), (10, 196), (0, 198)), (884, 0, 296, (10, 198), (10, 200), (0, 199))]
def xj_cT_15_4 : List (Nat × Nat × Nat × (Nat × Nat) × (Nat × Nat) × (Nat × Nat)) := [(887, 0, 346, (10, 78), (10, 80), (0, 174)), (890, 2, 316, (10, 206), (10, 207), (0, 0)), (897, 0, 319, (10, 217), (10, 219), (0, 200)), (900, 0, 318, (10, 225), (10, 214), (10, 215)), (903, 0, 321, (10, 226), (10, 228), (0, 201)), (906, 0, 323, (10, 238), (11, 0), (0, 203)), (910, 0, 324, (11, 6), (11, 8), (0, 205)), (914, 0, 327, (10, 234), (10, 236), (0, 202)), (918, 0, 328, (11, 10), (11, 12), (0, 206)), (922, 0, 325, (11, 2), (11, 4), (0, 204)), (935, 2, 322, (11, 14), (11, 15), (0, 0)), (939, 2, 329, (11, 17), (11, 18), (0, 0)), (961, 0, 332, (10, 94), (10, 96), (0, 178)), (967, 0, 334, (10, 98), (10, 100), (0, 179)), (970, 0, 335, (10, 102), (10, 104), (0, 180)), (973, 0, 331, (10, 110), (10, 112), (0, 182)), (977, 0, 338, (10, 106), (10, 108), (0, 181)), (980, 0, 336, (10, 114), (10, 116), (0, 183)), (983, 0, 337, (10, 118), (10, 120), (0, 184)), (989, 0, 339, (10, 122), (10, 124), (0, 185)), (992, 0, 340, (10, 126), (10, 128), (0, 186)), (995, 0, 333, (10, 90), (10, 92), (0, 177)), (1010, 0, 341, (10, 86), (10, 88), (0, 176)), (1014, 0, 342, (10, 130), (10, 132), (0, 187)), (1017, 2, 345, (10, 134), (10, 135), (0, 0)), (1020, 0, 344, (10, 82), (10, 84), (0, 175)), (1032, 2, 348, (10, 137), (10, 138), (0, 0)), (1036, 2, 343, (10, 140), (10, 141), (0, 0)), (1039, 0, 347, (10, 143), (10, 145), (0, 188)), (1042, 0, 349, (10, 147), (10, 149), (0, 189))]
def xj_cT_15_5 : List (Nat × Nat × Nat × (Nat × Nat) × (Nat × Nat) × (Nat × Nat)) := [(1054, 0, 350, (10, 151), (10, 153), (0, 190)), (1058, 0, 351, (10, 155), (10, 157), (0, 191)), (1061, 0, 352, (10, 159), (10, 161), (0, 192)), (1064, 0, 353, (10, 163), (10, 165), (0, 193)), (1080, 0, 361, (11, 32), (11, 34), (0, 207)), (1083, 0, 294, (11, 36), (11, 38), (0, 208)), (1086, 3, 0, (11, 44), (1, 36), (1, 37)), (1092, 2, 223, (11, 46), (11, 47), (0, 0)), (1105, 4, 204, (11, 61), (11, 62), (0, 0)), (1110, 1, 201, (11, 219), (11, 220), (0, 0)), (1115, 4, 193, (12, 150), (11, 225), (0, 0)), (1134, 0, 362, (14, 9), (14, 11), (0, 209)), (1136, 0, 366, (14, 21), (14, 23), (0, 210)), (1139, 0, 369, (14, 33), (14, 35), (0, 211)), (1147, 0, 371, (14, 45), (14, 47), (0, 212)), (1150, 0, 375, (14, 57), (14, 59), (0, 213)), (1153, 0, 376, (14, 61), (14, 63), (0, 214))]
def xj_cT_16_0 : List (Nat × Nat × Nat × (Nat × Nat) × (Nat × Nat) × (Nat × Nat)) := [(7, 0, 175, (7, 233), (7, 234), (7, 235)), (15, 0, 176, (8, 15), (8, 16), (8, 17)), (19, 0, 178, (8, 27), (8, 28), (8, 29)), (23, 0, 180, (8, 44), (8, 45), (8, 46)), (26, 0, 181, (8, 51), (8, 52), (8, 53)), (29, 0, 182, (8, 58), (8, 59), (8, 60)), (33, 0, 183, (8, 96), (8, 97), (8, 98)), (36, 0, 185, (8, 106), (8, 107), (8, 108)), (40, 0, 191, (8, 113), (8, 114), (8, 115)), (44, 1, 168, (1, 32), (1, 33), (0, 0)), (47, 1, 357, (11, 41), (11, 42), (0, 0)), (48, 0, 169, (3, 103), (3, 104), (3, 105)), (52, 0, 359, (13, 237), (13, 238), (13, 239)), (53, 0, 170, (3, 111), (3, 112), (3, 113)), (57, 0, 360, (14, 1), (14, 2), (14, 3)), (58, 10, 0, (3, 115), (3, 116), (3, 117)), (62, 0, 363, (14, 5), (14, 6), (14, 7)), (63, 0, 171, (5, 232), (5, 233), (5, 234)), (66, 0, 364, (14, 13), (14, 14), (14, 15)), (67, 10, 1, (5, 236), (5, 237), (5, 238)), (70, 0, 365, (14, 17), (14, 18), (14, 19)), (71, 10, 2, (6, 17), (6, 18), (6, 19)), (74, 0, 356, (11, 28), (11, 29), (11, 30)), (75, 0, 172, (6, 62), (6, 63), (6, 64)), (78, 0, 367, (14, 25), (14, 26), (14, 27)), (79, 0, 173, (6, 70), (6, 71), (6, 72)), (82, 0, 298, (8, 117), (8, 118), (8, 119)), (83, 0, 174, (7, 127), (7, 128), (7, 129)), (87, 0, 377, (14, 65), (14, 66), (14, 67)), (88, 11, 4, (7, 229), (7, 230), (0, 0))]
def xj_cT_16_1 : List (Nat × Nat × Nat × (Nat × Nat) × (Nat × Nat) × (Nat × Nat)) := [(93, 0, 378, (14, 69), (14, 70), (14, 71)), (94, 0, 358, (13, 233), (13, 234), (13, 235)), (97, 11, 5, (8, 12), (8, 13), (0, 0)), (100, 0, 372, (14, 41), (14, 42), (14, 43)), (101, 0, 177, (7, 135), (7, 136), (7, 137)), (104, 0, 379, (14, 73), (14, 74), (14, 75)), (105, 11, 6, (8, 24), (8, 25), (0, 0)), (107, 0, 380, (14, 77), (14, 78), (14, 79)), (108, 10, 3, (7, 145), (7, 146), (7, 147)), (111, 0, 368, (14, 29), (14, 30), (14, 31)), (112, 11, 7, (8, 41), (8, 42), (0, 0)), (114, 0, 370, (14, 37), (14, 38), (14, 39)), (115, 11, 8, (8, 48), (8, 49), (0, 0)), (117, 0, 373, (14, 49), (14, 50), (14, 51)), (118, 11, 9, (8, 55), (8, 56), (0, 0)), (120, 0, 374, (14, 53), (14, 54), (14, 55)), (121, 11, 10, (8, 93), (8, 94), (0, 0)), (123, 0, 355, (11, 24), (11, 25), (11, 26)), (124, 0, 184, (7, 167), (7, 168), (7, 169)), (127, 0, 318, (10, 213), (10, 214), (10, 215)), (128, 11, 11, (8, 103), (8, 104), (0, 0)), (131, 0, 320, (10, 221), (10, 222), (10, 223)), (132, 0, 186, (7, 175), (7, 176), (7, 177)), (135, 0, 314, (10, 174), (10, 175), (10, 176)), (136, 0, 187, (7, 186), (7, 187), (7, 188)), (139, 0, 315, (10, 202), (10, 203), (10, 204)), (140, 0, 188, (7, 194), (7, 195), (7, 196)), (143, 0, 317, (10, 209), (10, 210), (10, 211)), (144, 0, 189, (7, 198), (7, 199), (7, 200)), (147, 0, 326, (10, 230), (10, 231), (10, 232))]
def xj_cT_16_2 : List (Nat × Nat × Nat × (Nat × Nat) × (Nat × Nat) × (Nat × Nat)) := [(148, 11, 12, (8, 110), (8, 111), (0, 0)), (151, 0, 330, (11, 20), (11, 21), (11, 22))]
def xj_cT_17_0 : List (Nat × Nat × Nat × (Nat × Nat) × (Nat × Nat) × (Nat × Nat)) := [(304, 6, 1, (5, 149), (4, 20), (4, 21))]
def xj_cT_18_0 : List (Nat × Nat × Nat × (Nat × Nat) × (Nat × Nat) × (Nat × Nat)) := [(335, 12, 389, (3, 159), (3, 160), (3, 161)), (492, 12, 390, (3, 169), (3, 170), (3, 171)), (495, 2, 393, (3, 173), (3, 174), (0, 0)), (505, 12, 385, (4, 9), (3, 156), (3, 157)), (633, 12, 388, (4, 5), (4, 6), (4, 7)), (637, 2, 395, (4, 10), (4, 11), (0, 0))]
def xj_cT_19_0 : List (Nat × Nat × Nat × (Nat × Nat) × (Nat × Nat) × (Nat × Nat)) := [(9, 2, 391, (3, 176), (3, 177), (0, 0)), (38, 6, 1, (4, 19), (4, 20), (4, 21)), (88, 2, 394, (4, 13), (4, 14), (0, 0)), (92, 6, 0, (4, 16), (4, 17), (4, 18)), (95, 2, 396, (4, 22), (4, 23), (0, 0))]
def xj_cT : Nat → List (Nat × Nat × Nat × (Nat × Nat) × (Nat × Nat) × (Nat × Nat)) := fun o => match o with
  | 0 => xj_cT_0_0
  | 1 => xj_cT_1_0
  | 2 => xj_cT_2_0
  | 3 => xj_cT_3_0
  | 4 => xj_cT_4_0 ++ xj_cT_4_1
  | 5 => xj_cT_5_0
  | 6 => xj_cT_6_0
  | 7 => xj_cT_7_0
  | 8 => xj_cT_8_0
  | 9 => xj_cT_9_0
  | 10 => xj_cT_10_0 ++ xj_cT_10_1
  | 11 => xj_cT_11_0 ++ xj_cT_11_1
  | 12 => xj_cT_12_0
  | 13 => xj_cT_13_0
  | 14 => xj_cT_14_0
  | 15 => xj_cT_15_0 ++ xj_cT_15_1 ++ xj_cT_15_2 ++ xj_cT_15_3 ++ xj_cT_15_4 ++ xj_cT_15_5
  | 16 => xj_cT_16_0 ++ xj_cT_16_1 ++ xj_cT_16_2
  | 17 => xj_cT_17_0
  | 18 => xj_cT_18_0
  | 19 => xj_cT_19_0
  | _ => []
def xj_nT_1_0 : List (Nat × Nat × (Nat × Nat) × (Nat × Nat) × (Nat × Nat)) := [(9, 2, (2, 227), (2, 88), (1, 8)), (42, 0, (2, 229), (6, 26), (1, 28))]
def xj_nT_2_0 : List (Nat × Nat × (Nat × Nat) × (Nat × Nat) × (Nat × Nat)) := [(26, 5, (8, 35), (1, 214), (1, 6))]
def xj_nT_3_0 : List (Nat × Nat × (Nat × Nat) × (Nat × Nat) × (Nat × Nat)) := [(32, 6, (2, 95), (4, 188), (1, 26))]
def xj_nT_4_0 : List (Nat × Nat × (Nat × Nat) × (Nat × Nat) × (Nat × Nat)) := [(94, 6, (4, 187), (4, 188), (1, 26)), (133, 0, (6, 25), (6, 26), (1, 28))]
def xj_nT_5_0 : List (Nat × Nat × (Nat × Nat) × (Nat × Nat) × (Nat × Nat)) := [(10, 5, (7, 46), (1, 214), (1, 6))]
def xj_nT_10_0 : List (Nat × Nat × (Nat × Nat) × (Nat × Nat) × (Nat × Nat)) := [(9, 5, (1, 212), (1, 214), (1, 6)), (77, 2, (7, 53), (2, 88), (1, 8))]
def xj_nT_11_0 : List (Nat × Nat × (Nat × Nat) × (Nat × Nat) × (Nat × Nat)) := [(7, 8, (1, 38), (1, 39), (1, 2)), (16, 4, (1, 78), (1, 79), (1, 3)), (25, 9, (1, 153), (1, 154), (1, 4)), (32, 10, (1, 206), (1, 207), (1, 5)), (41, 7, (2, 61), (2, 62), (1, 7)), (48, 1, (2, 83), (2, 222), (1, 11)), (58, 5, (2, 85), (1, 214), (1, 6)), (77, 2, (2, 87), (2, 88), (1, 8)), (79, 3, (2, 89), (2, 90), (1, 9)), (87, 0, (2, 216), (6, 26), (1, 28))]
def xj_nT_13_0 : List (Nat × Nat × (Nat × Nat) × (Nat × Nat) × (Nat × Nat)) := [(9, 12, (11, 223), (10, 36), (1, 19))]
def xj_nT_15_0 : List (Nat × Nat × (Nat × Nat) × (Nat × Nat) × (Nat × Nat)) := [(167, 14, (11, 59), (11, 60), (1, 17)), (672, 13, (11, 216), (11, 218), (1, 18)), (691, 12, (12, 149), (10, 36), (1, 19))]
def xj_nT_16_0 : List (Nat × Nat × (Nat × Nat) × (Nat × Nat) × (Nat × Nat)) := [(8, 11, (1, 30), (1, 31), (1, 1)), (45, 15, (11, 40), (8, 124), (1, 12))]
def xj_nT : Nat → List (Nat × Nat × (Nat × Nat) × (Nat × Nat) × (Nat × Nat)) := fun o => match o with
  | 1 => xj_nT_1_0
  | 2 => xj_nT_2_0
  | 3 => xj_nT_3_0
  | 4 => xj_nT_4_0
  | 5 => xj_nT_5_0
  | 10 => xj_nT_10_0
  | 11 => xj_nT_11_0
  | 13 => xj_nT_13_0
  | 15 => xj_nT_15_0
  | 16 => xj_nT_16_0
  | _ => []
def xj_aT_1_0 : List (Nat × Nat × (Nat × Nat) × (Nat × Nat)) := [(9, 2, (2, 227), (2, 228)), (42, 0, (2, 229), (2, 217))]
def xj_aT_2_0 : List (Nat × Nat × (Nat × Nat) × (Nat × Nat)) := [(26, 5, (8, 35), (1, 213))]
def xj_aT_3_0 : List (Nat × Nat × (Nat × Nat) × (Nat × Nat)) := [(32, 6, (2, 95), (2, 96))]
def xj_aT_4_0 : List (Nat × Nat × (Nat × Nat) × (Nat × Nat)) := [(94, 6, (4, 187), (2, 96)), (133, 0, (6, 25), (2, 217))]
def xj_aT_5_0 : List (Nat × Nat × (Nat × Nat) × (Nat × Nat)) := [(10, 5, (7, 46), (1, 213))]
def xj_aT_10_0 : List (Nat × Nat × (Nat × Nat) × (Nat × Nat)) := [(9, 5, (1, 212), (1, 213)), (77, 2, (7, 53), (2, 228))]
def xj_aT_11_0 : List (Nat × Nat × (Nat × Nat) × (Nat × Nat)) := [(48, 1, (2, 83), (2, 84)), (58, 5, (2, 85), (1, 213)), (77, 2, (2, 87), (2, 228)), (87, 0, (2, 216), (2, 217))]
def xj_aT_15_0 : List (Nat × Nat × (Nat × Nat) × (Nat × Nat)) := [(672, 13, (11, 216), (11, 217))]
def xj_aT : Nat → List (Nat × Nat × (Nat × Nat) × (Nat × Nat)) := fun o => match o with
  | 1 => xj_aT_1_0
  | 2 => xj_aT_2_0
  | 3 => xj_aT_3_0
  | 4 => xj_aT_4_0
  | 5 => xj_aT_5_0
  | 10 => xj_aT_10_0
  | 11 => xj_aT_11_0
  | 15 => xj_aT_15_0
  | _ => []
def xj_lT_4_0 : List (Nat × Int64 × (Nat × Nat)) := [(240, (-1 : Int64), (5, 93)), (272, (1000000000000 : Int64), (5, 110))]
def xj_lT_7_0 : List (Nat × Int64 × (Nat × Nat)) := [(79, (-1 : Int64), (7, 75)), (85, (9000000000000000000 : Int64), (7, 80)), (87, (-8999999999999999999 : Int64), (7, 81)), (121, (-1000000000000 : Int64), (7, 86)), (144, (1000000000000 : Int64), (7, 95)), (150, (-8999999999999999997 : Int64), (7, 99)), (155, (-8999999999999999996 : Int64), (7, 105))]
def xj_lT_8_0 : List (Nat × Int64 × (Nat × Nat)) := [(69, (38 : Int64), (3, 138)), (109, (63 : Int64), (3, 221)), (114, (10 : Int64), (3, 230)), (116, (48 : Int64), (3, 231)), (118, (1000000000001 : Int64), (3, 232)), (133, (-1 : Int64), (3, 143)), (135, (27 : Int64), (3, 144)), (137, (2000000000000 : Int64), (3, 145))]
def xj_lT_9_0 : List (Nat × Int64 × (Nat × Nat)) := [(139, (-1000000000000 : Int64), (6, 229))]
def xj_lT_10_0 : List (Nat × Int64 × (Nat × Nat)) := [(257, (1000000000000 : Int64), (7, 2)), (286, (-1000000000000 : Int64), (7, 29))]
def xj_lT_11_0 : List (Nat × Int64 × (Nat × Nat)) := [(96, (9000000000000000000 : Int64), (2, 218)), (360, (-1000000000000 : Int64), (6, 222)), (362, (2 : Int64), (8, 100)), (364, (-9000000000000000000 : Int64), (8, 101)), (369, (-1 : Int64), (8, 102)), (418, (1000000000000 : Int64), (6, 223)), (420, (-8999999999999999998 : Int64), (6, 224)), (428, (-8999999999999999997 : Int64), (6, 228))]
def xj_lT_15_0 : List (Nat × Int64 × (Nat × Nat)) := [(75, (38 : Int64), (8, 156)), (80, (-1 : Int64), (8, 160)), (85, (27 : Int64), (8, 161)), (87, (2000000000000 : Int64), (8, 162)), (89, (64 : Int64), (8, 170)), (91, (4000000000000 : Int64), (8, 175)), (93, (10 : Int64), (8, 176)), (95, (48 : Int64), (8, 177)), (103, (1000000000000 : Int64), (8, 179)), (473, (-1000000000000 : Int64), (9, 203))]
def xj_lT : Nat → List (Nat × Int64 × (Nat × Nat)) := fun o => match o with
  | 4 => xj_lT_4_0
  | 7 => xj_lT_7_0
  | 8 => xj_lT_8_0
  | 9 => xj_lT_9_0
  | 10 => xj_lT_10_0
  | 11 => xj_lT_11_0
  | 15 => xj_lT_15_0
  | _ => []
def xj_iT_9_0 : List (Nat × Int32 × (Nat × Nat)) := [(65, (1000000000 : Int32), (6, 176))]
def xj_iT_10_0 : List (Nat × Int32 × (Nat × Nat)) := [(232, (10000000 : Int32), (6, 171))]
def xj_iT_11_0 : List (Nat × Int32 × (Nat × Nat)) := [(330, (10000000 : Int32), (7, 163))]
def xj_iT_13_0 : List (Nat × Int32 × (Nat × Nat)) := [(32, (48000 : Int32), (12, 5))]
def xj_iT_15_0 : List (Nat × Int32 × (Nat × Nat)) := [(1109, (33280 : Int32), (11, 215)), (1111, (90000 : Int32), (12, 148))]
def xj_iT : Nat → List (Nat × Int32 × (Nat × Nat)) := fun o => match o with
  | 9 => xj_iT_9_0
  | 10 => xj_iT_10_0
  | 11 => xj_iT_11_0
  | 13 => xj_iT_13_0
  | 15 => xj_iT_15_0
  | _ => []
-- arrayClass: {'char': '1, 75', 'int': '1, 76', 'long': '1, 77', 'boolean': '2, 171', 'byte': '4, 146'}
def xj_ty : Nat → Nat → FieldType := fun c => match c with
  | 0 => tyX0
  | 1 => tyX1
  | 2 => tyX2
  | 3 => tyX3
  | 4 => tyX4
  | 5 => tyX5
  | 6 => tyX6
  | 7 => tyX7
  | 8 => tyX8
  | 9 => tyX9
  | 10 => tyX10
  | 11 => tyX11
  | 12 => tyX12
  | 13 => tyX13
  | 14 => tyX14
  | _ => tyX15
def xj_uT_0_0 : List (Nat × Nat × Nat) := [(0, 6, 51), (1, 6, 53), (2, 6, 55), (3, 6, 57), (4, 6, 59)]
def xj_uT_1_0 : List (Nat × Nat × Nat) := [(0, 3, 22), (1, 3, 24), (2, 3, 26), (3, 3, 28), (4, 3, 30), (5, 3, 32), (6, 3, 34), (7, 3, 36), (8, 3, 38), (9, 3, 40), (10, 3, 42), (11, 3, 44), (12, 3, 46), (13, 3, 48)]
def xj_uT_2_0 : List (Nat × Nat × Nat) := [(0, 2, 199), (1, 2, 201), (2, 2, 203), (3, 2, 205), (4, 2, 207), (5, 2, 209), (6, 2, 211), (7, 2, 213)]
def xj_uT_3_0 : List (Nat × Nat × Nat) := [(0, 2, 142), (1, 2, 144), (2, 2, 146), (3, 2, 148), (4, 2, 150), (5, 2, 152), (6, 2, 154), (7, 2, 156), (8, 2, 158), (9, 2, 160), (10, 2, 162), (11, 2, 164), (12, 2, 166), (13, 2, 168)]
def xj_uT_4_0 : List (Nat × Nat × Nat) := [(0, 1, 112), (1, 1, 114), (2, 1, 116), (3, 1, 118), (4, 1, 120), (5, 1, 122), (6, 1, 124), (7, 1, 126), (8, 1, 128), (9, 1, 130), (10, 1, 132), (11, 1, 134), (12, 1, 136), (13, 1, 138), (14, 1, 140), (15, 1, 142), (16, 1, 144), (17, 1, 146), (18, 1, 148), (19, 1, 150)]
def xj_uT_5_0 : List (Nat × Nat × Nat) := [(0, 1, 233), (1, 1, 235), (2, 1, 237), (3, 1, 239)]
def xj_uT_6_0 : List (Nat × Nat × Nat) := [(0, 5, 16), (1, 5, 18), (2, 5, 20), (3, 5, 22), (4, 5, 24), (5, 5, 26), (6, 5, 28), (7, 5, 30), (8, 5, 32), (9, 5, 34), (10, 5, 36), (11, 5, 38), (12, 5, 40), (13, 5, 42), (14, 5, 44), (15, 5, 46), (16, 5, 48), (17, 5, 50), (18, 5, 52), (19, 5, 54)]
def xj_uT_7_0 : List (Nat × Nat × Nat) := [(0, 2, 72), (1, 2, 74), (2, 2, 76), (3, 2, 78), (4, 2, 80)]
def xj_uT_8_0 : List (Nat × Nat × Nat) := [(0, 1, 58), (1, 1, 60), (2, 1, 62), (3, 1, 64), (4, 1, 66), (5, 1, 68), (6, 1, 70), (7, 1, 72)]
def xj_uT_9_0 : List (Nat × Nat × Nat) := [(0, 1, 177), (1, 1, 179), (2, 1, 181), (3, 1, 183), (4, 1, 185), (5, 1, 187), (6, 1, 189), (7, 1, 191), (8, 1, 193), (9, 1, 195), (10, 1, 197), (11, 1, 199), (12, 1, 201), (13, 1, 203)]
def xj_uT_10_0 : List (Nat × Nat × Nat) := [(0, 2, 24), (1, 2, 26), (2, 2, 28), (3, 2, 30), (4, 2, 32), (5, 2, 34), (6, 2, 36), (7, 2, 38), (8, 2, 40), (9, 2, 42), (10, 2, 44), (11, 2, 46), (12, 2, 48), (13, 2, 50), (14, 2, 52), (15, 2, 54), (16, 2, 56), (17, 2, 58)]
def xj_uT_11_0 : List (Nat × Nat × Nat) := [(0, 3, 68), (1, 3, 70), (2, 3, 72), (3, 3, 74), (4, 3, 76), (5, 3, 78), (6, 3, 80), (7, 3, 82), (8, 3, 84), (9, 3, 86), (10, 3, 88), (11, 3, 90), (12, 3, 92), (13, 3, 94), (14, 3, 96), (15, 3, 98), (16, 3, 100)]
def xj_uT_12_0 : List (Nat × Nat × Nat) := [(0, 11, 236), (1, 11, 238), (2, 12, 0), (3, 12, 2)]
def xj_uT_13_0 : List (Nat × Nat × Nat) := [(0, 12, 73), (1, 12, 75), (2, 12, 77), (3, 12, 79), (4, 12, 81), (5, 12, 83), (6, 12, 85), (7, 12, 87), (8, 12, 89), (9, 12, 91), (10, 12, 93), (11, 12, 95), (12, 12, 97), (13, 12, 99), (14, 12, 101), (15, 12, 103), (16, 12, 105), (17, 12, 107), (18, 12, 109), (19, 12, 111), (20, 12, 113), (21, 12, 115), (22, 12, 117), (23, 12, 119), (24, 12, 121), (25, 12, 123), (26, 12, 125), (27, 12, 127), (28, 12, 129), (29, 12, 131)]
def xj_uT_13_1 : List (Nat × Nat × Nat) := [(30, 12, 133), (31, 12, 135), (32, 12, 137), (33, 12, 139), (34, 12, 141), (35, 12, 143), (36, 12, 145)]
def xj_uT_14_0 : List (Nat × Nat × Nat) := [(0, 11, 138), (1, 11, 140), (2, 11, 142), (3, 11, 144), (4, 11, 146), (5, 11, 148), (6, 11, 150), (7, 11, 152), (8, 11, 154), (9, 11, 156), (10, 11, 158), (11, 11, 160), (12, 11, 162), (13, 11, 164), (14, 11, 166), (15, 11, 168), (16, 11, 170), (17, 11, 172), (18, 11, 174), (19, 11, 176), (20, 11, 178), (21, 11, 180), (22, 11, 182), (23, 11, 184), (24, 11, 186), (25, 11, 188), (26, 11, 190), (27, 11, 192), (28, 11, 194), (29, 11, 196)]
def xj_uT_14_1 : List (Nat × Nat × Nat) := [(30, 11, 198), (31, 11, 200), (32, 11, 202), (33, 11, 204), (34, 11, 206), (35, 11, 208), (36, 11, 210), (37, 11, 212)]
def xj_uT_15_0 : List (Nat × Nat × Nat) := [(0, 13, 18), (1, 13, 20), (2, 13, 22), (3, 13, 24), (4, 13, 26), (5, 13, 28), (6, 13, 30), (7, 13, 32), (8, 13, 34), (9, 13, 36), (10, 13, 38), (11, 13, 40), (12, 13, 42), (13, 13, 44), (14, 13, 46), (15, 13, 48), (16, 13, 50), (17, 13, 52), (18, 13, 54), (19, 13, 56), (20, 13, 58), (21, 13, 60), (22, 13, 62), (23, 13, 64), (24, 13, 66), (25, 13, 68), (26, 13, 70), (27, 13, 72), (28, 13, 74), (29, 13, 76)]
def xj_uT_15_1 : List (Nat × Nat × Nat) := [(30, 13, 78), (31, 13, 80), (32, 13, 82), (33, 13, 84), (34, 13, 86), (35, 13, 88), (36, 13, 90), (37, 13, 92), (38, 13, 94), (39, 13, 96), (40, 13, 98), (41, 13, 100), (42, 13, 102), (43, 13, 104), (44, 13, 106), (45, 13, 108), (46, 13, 110), (47, 13, 112), (48, 13, 114), (49, 13, 116), (50, 13, 118), (51, 13, 120), (52, 13, 122), (53, 13, 124), (54, 13, 126), (55, 13, 128), (56, 13, 130), (57, 13, 132), (58, 13, 134), (59, 13, 136)]
def xj_uT_15_2 : List (Nat × Nat × Nat) := [(60, 13, 138), (61, 13, 140), (62, 13, 142), (63, 13, 144), (64, 13, 146), (65, 13, 148), (66, 13, 150), (67, 13, 152), (68, 13, 154), (69, 13, 156), (70, 13, 158), (71, 13, 160), (72, 13, 162), (73, 13, 164), (74, 13, 166), (75, 13, 168), (76, 13, 170), (77, 13, 172), (78, 13, 174), (79, 13, 176), (80, 13, 178), (81, 13, 180), (82, 13, 182), (83, 13, 184), (84, 13, 186), (85, 13, 188), (86, 13, 190), (87, 13, 192), (88, 13, 194), (89, 13, 196)]
def xj_uT_15_3 : List (Nat × Nat × Nat) := [(90, 13, 198), (91, 13, 200), (92, 13, 202), (93, 13, 204), (94, 13, 206), (95, 13, 208), (96, 13, 210), (97, 13, 212), (98, 13, 214), (99, 13, 216), (100, 13, 218), (101, 13, 220), (102, 13, 222), (103, 13, 224), (104, 13, 226), (105, 13, 228), (106, 13, 230)]
def xj_uT : Nat → List (Nat × Nat × Nat) := fun o => match o with
  | 0 => xj_uT_0_0
  | 1 => xj_uT_1_0
  | 2 => xj_uT_2_0
  | 3 => xj_uT_3_0
  | 4 => xj_uT_4_0
  | 5 => xj_uT_5_0
  | 6 => xj_uT_6_0
  | 7 => xj_uT_7_0
  | 8 => xj_uT_8_0
  | 9 => xj_uT_9_0
  | 10 => xj_uT_10_0
  | 11 => xj_uT_11_0
  | 12 => xj_uT_12_0
  | 13 => xj_uT_13_0 ++ xj_uT_13_1
  | 14 => xj_uT_14_0 ++ xj_uT_14_1
  | _ => xj_uT_15_0 ++ xj_uT_15_1 ++ xj_uT_15_2 ++ xj_uT_15_3
/-- the pieces of lw_tbl -/
def xj_seg : Nat → List Cond := fun j => match j with
  | 0 => k2_sels lw_privs
  | 1 => tables_1_1
  | 2 => tables_1_2
  | 3 => tables_1_3
  | 4 => tables_1_4
  | 5 => tables_1_5
  | 6 => tables_1_6
  | 7 => tables_1_7
  | 8 => tables_1_8
  | 9 => tables_1_9
  | 10 => tables_1_10
  | 11 => tables_1_11
  | 12 => tables_1_12
  | 13 => tables_1_13
  | _ => tables_1_14
