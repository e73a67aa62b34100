/-! Tables of the links, written by a program (wip/whole/mk_links.py): class numbers, methods, fields, calls, classes, constants; each with the place of its word in lw_tbl -/
def xj_nm : Nat → String := fun o => match o with
  | 0 => "ChangeHouse$Formula"
  | 1 => "ChangeHouse$Line"
  | 2 => "ChangeHouse$Moment"
  | 3 => "ChangeHouse$Program"
  | 4 => "ChangeHouse$Reader"
  | 5 => "ChangeHouse$Rows"
  | 6 => "ChangeHouse$Rule"
  | 7 => "ChangeHouse$Sheet"
  | 8 => "ChangeHouse$Tape"
  | 9 => "ChangeHouse$Ways"
  | 10 => "ChangeHouse$Works"
  | 11 => "ChangeHouse"
  | 12 => "ChangeHouseModel$Facts"
  | 13 => "ChangeHouseModel$Line"
  | 14 => "ChangeHouseModel$Program"
  | 15 => "ChangeHouseModel"
  | 16 => "ChangeHouseLaw"
  | 17 => "java/util/Arrays"
  | _ => "java/lang/Math"
/-- a method: its class, name, code, locals, answer, parameters, whether a constructor, places of its code word and of its class's initialized word -/
abbrev xj_mR : Type := Nat × MethodName × ByteArray × Nat × Option FieldType × Nat × Bool × Nat × Nat
def xj_mT0 : List xj_mR := [(0, yX0_init, cX0_init, 5, (Option.none : Option Jvm.ClassFile.FieldType), 2, true, 1448, 243),
  (0, yX0_addReads, cX0_addReads, 4, (Option.none : Option Jvm.ClassFile.FieldType), 2, false, 1457, 243),
  (0, yX0_addRead, cX0_addRead, 2, (Option.none : Option Jvm.ClassFile.FieldType), 1, false, 1453, 243),
  (0, yX0_readsAny, cX0_readsAny, 5, (Option.some Jvm.ClassFile.FieldType.boolean), 2, false, 1733, 243),
  (1, yX1_init, cX1_init, 2, (Option.none : Option Jvm.ClassFile.FieldType), 1, true, 680, 226),
  (1, yX1_present, cX1_present, 1, (Option.some (Jvm.ClassFile.FieldType.object "ChangeHouse$Moment")), 0, false, 1420, 226),
  (1, yX1_isPast, cX1_isPast, 2, (Option.some Jvm.ClassFile.FieldType.boolean), 1, false, 1828, 226),
  (1, yX1_emptyPending, cX1_emptyPending, 2, (Option.none : Option Jvm.ClassFile.FieldType), 0, false, 1486, 226),
  (1, yX1_addChange, cX1_addChange, 6, (Option.none : Option Jvm.ClassFile.FieldType), 5, false, 1432, 226),
  (1, yX1_addMissing, cX1_addMissing, 7, (Option.none : Option Jvm.ClassFile.FieldType), 4, false, 1879, 226),
  (1, yX1_countWorked, cX1_countWorked, 4, (Option.none : Option Jvm.ClassFile.FieldType), 2, false, 1776, 226),
  (1, yX1_append, cX1_append, 7, (Option.none : Option Jvm.ClassFile.FieldType), 1, false, 1780, 226),
  (1, yX1_goBack, cX1_goBack, 2, (Option.none : Option Jvm.ClassFile.FieldType), 1, false, 1836, 226),
  (1, yX1_become, cX1_become, 4, (Option.none : Option Jvm.ClassFile.FieldType), 2, false, 1847, 226),
  (2, yX2_init, cX2_init, 3, (Option.none : Option Jvm.ClassFile.FieldType), 2, true, 629, 223),
  (2, yX2_has, cX2_has, 4, (Option.some Jvm.ClassFile.FieldType.boolean), 3, false, 1916, 223),
  (2, yX2_rowsOfAll, cX2_rowsOfAll, 3, (Option.some Jvm.ClassFile.FieldType.int), 0, false, 1788, 223),
  (2, yX2_rowsAhead, cX2_rowsAhead, 4, (Option.some (Jvm.ClassFile.FieldType.object "ChangeHouse$Rows")), 2, false, 1928, 223),
  (2, yX2_differing, cX2_differing, 4, (Option.some Jvm.ClassFile.FieldType.int), 2, false, 1796, 223),
  (3, yX3_init, cX3_init, 2, (Option.none : Option Jvm.ClassFile.FieldType), 1, true, 548, 224),
  (3, yX3_find, cX3_find, 4, (Option.some Jvm.ClassFile.FieldType.int), 1, false, 1093, 224),
  (3, yX3_like, cX3_like, 4, (Option.some Jvm.ClassFile.FieldType.int), 2, false, 1498, 224),
  (3, yX3_inputLike, cX3_inputLike, 4, (Option.some Jvm.ClassFile.FieldType.int), 2, false, 1874, 224),
  (3, yX3_tellWidth, cX3_tellWidth, 3, (Option.none : Option Jvm.ClassFile.FieldType), 2, false, 1109, 224),
  (3, yX3_arrange, cX3_arrange, 4, (Option.none : Option Jvm.ClassFile.FieldType), 0, false, 1389, 224),
  (3, yX3_orderRings, cX3_orderRings, 5, (Option.none : Option Jvm.ClassFile.FieldType), 0, false, 1396, 224),
  (3, yX3_membersOf, cX3_membersOf, 4, (Option.some Jvm.ClassFile.FieldType.int), 1, false, 1404, 224),
  (3, yX3_readsOf, cX3_readsOf, 4, (Option.some Jvm.ClassFile.FieldType.int), 1, false, 1400, 224),
  (3, yX3_ringFault, cX3_ringFault, 5, (Option.some Jvm.ClassFile.FieldType.int), 0, false, 1408, 224),
  (4, yX4_init, cX4_init, 2, (Option.none : Option Jvm.ClassFile.FieldType), 1, true, 297, 218),
  (4, yX4_readProgram, cX4_readProgram, 4, (Option.none : Option Jvm.ClassFile.FieldType), 1, false, 998, 218),
  (4, yX4_readQuery, cX4_readQuery, 3, (Option.none : Option Jvm.ClassFile.FieldType), 1, false, 1806, 218),
  (4, yX4_readChanges, cX4_readChanges, 7, (Option.none : Option Jvm.ClassFile.FieldType), 1, false, 1424, 218),
  (4, yX4_readCell, cX4_readCell, 3, (Option.some Jvm.ClassFile.FieldType.int), 0, false, 1441, 218),
  (4, yX4_begin, cX4_begin, 3, (Option.none : Option Jvm.ClassFile.FieldType), 2, false, 1002, 218),
  (4, yX4_beginRule, cX4_beginRule, 1, (Option.none : Option Jvm.ClassFile.FieldType), 0, false, 1121, 218),
  (4, yX4_wrongAt, cX4_wrongAt, 2, (Option.none : Option Jvm.ClassFile.FieldType), 1, false, 1018, 218),
  (4, yX4_advance, cX4_advance, 1, (Option.none : Option Jvm.ClassFile.FieldType), 0, false, 1010, 218),
  (4, yX4_need, cX4_need, 2, (Option.none : Option Jvm.ClassFile.FieldType), 1, false, 1097, 218),
  (4, yX4_goesOn, cX4_goesOn, 2, (Option.some Jvm.ClassFile.FieldType.boolean), 0, false, 1299, 218),
  (4, yX4_mention, cX4_mention, 5, (Option.none : Option Jvm.ClassFile.FieldType), 4, false, 1105, 218),
  (4, yX4_readInput, cX4_readInput, 5, (Option.none : Option Jvm.ClassFile.FieldType), 0, false, 1006, 218),
  (4, yX4_readOutput, cX4_readOutput, 3, (Option.none : Option Jvm.ClassFile.FieldType), 0, false, 1113, 218),
  (4, yX4_readRule, cX4_readRule, 4, (Option.none : Option Jvm.ClassFile.FieldType), 0, false, 1117, 218),
  (4, yX4_readItem, cX4_readItem, 2, (Option.none : Option Jvm.ClassFile.FieldType), 0, false, 1237, 218),
  (4, yX4_readLiteral, cX4_readLiteral, 4, (Option.none : Option Jvm.ClassFile.FieldType), 0, false, 1303, 218),
  (4, yX4_readAtom, cX4_readAtom, 8, (Option.none : Option Jvm.ClassFile.FieldType), 1, false, 1307, 218),
  (4, yX4_readName, cX4_readName, 4, (Option.some Jvm.ClassFile.FieldType.long), 0, false, 1014, 218),
  (4, yX4_predicateOf, cX4_predicateOf, 5, (Option.some Jvm.ClassFile.FieldType.int), 2, false, 1089, 218),
  (4, yX4_readVariable, cX4_readVariable, 5, (Option.some Jvm.ClassFile.FieldType.int), 0, false, 1278, 218),
  (4, yX4_readNumber, cX4_readNumber, 3, (Option.some Jvm.ClassFile.FieldType.int), 1, false, 1101, 218),
  (4, yX4_readValue, cX4_readValue, 5, (Option.some Jvm.ClassFile.FieldType.long), 0, false, 1282, 218),
  (4, yX4_readCellName, cX4_readCellName, 2, (Option.some Jvm.ClassFile.FieldType.int), 0, false, 1269, 218),
  (4, yX4_readExpression, cX4_readExpression, 5, (Option.none : Option Jvm.ClassFile.FieldType), 1, false, 1241, 218),
  (4, yX4_readGathering, cX4_readGathering, 5, (Option.none : Option Jvm.ClassFile.FieldType), 1, false, 1265, 218),
  (4, yX4_strength, cX4_strength, 1, (Option.some Jvm.ClassFile.FieldType.int), 1, false, 1257, 218),
  (4, yX4_emit, cX4_emit, 4, (Option.none : Option Jvm.ClassFile.FieldType), 2, false, 1274, 218),
  (4, yX4_push, cX4_push, 2, (Option.none : Option Jvm.ClassFile.FieldType), 1, false, 1261, 218),
  (4, yX4_countBrackets, cX4_countBrackets, 3, (Option.some Jvm.ClassFile.FieldType.int), 0, false, 1254, 218),
  (4, yX4_settleSigns, cX4_settleSigns, 2, (Option.none : Option Jvm.ClassFile.FieldType), 1, false, 1291, 218)]
def xj_mT1 : List xj_mR := [(4, yX4_openBracket, cX4_openBracket, 3, (Option.none : Option Jvm.ClassFile.FieldType), 1, false, 1250, 218),
  (4, yX4_passPart, cX4_passPart, 5, (Option.some Jvm.ClassFile.FieldType.boolean), 1, false, 1295, 218),
  (4, yX4_programFault, cX4_programFault, 2, (Option.some Jvm.ClassFile.FieldType.int), 0, false, 1369, 218),
  (4, yX4_queryFault, cX4_queryFault, 1, (Option.some Jvm.ClassFile.FieldType.int), 0, false, 1810, 218),
  (4, yX4_changesFault, cX4_changesFault, 3, (Option.some Jvm.ClassFile.FieldType.int), 0, false, 1428, 218),
  (4, yX4_toldTwice, cX4_toldTwice, 5, (Option.some Jvm.ClassFile.FieldType.int), 0, false, 1373, 218),
  (4, yX4_unknownName, cX4_unknownName, 3, (Option.some Jvm.ClassFile.FieldType.int), 0, false, 1377, 218),
  (4, yX4_otherWidth, cX4_otherWidth, 2, (Option.some Jvm.ClassFile.FieldType.int), 0, false, 1381, 218),
  (5, yX5_init, cX5_init, 3, (Option.none : Option Jvm.ClassFile.FieldType), 2, true, 432, 221),
  (5, yX5_start, cX5_start, 2, (Option.none : Option Jvm.ClassFile.FieldType), 1, false, 1511, 221),
  (5, yX5_at, cX5_at, 3, (Option.some Jvm.ClassFile.FieldType.long), 2, false, 1614, 221),
  (5, yX5_compare, cX5_compare, 7, (Option.some Jvm.ClassFile.FieldType.int), 3, false, 1530, 221),
  (5, yX5_compareRow, cX5_compareRow, 10, (Option.some Jvm.ClassFile.FieldType.int), 4, false, 1554, 221),
  (5, yX5_search, cX5_search, 7, (Option.some Jvm.ClassFile.FieldType.int), 3, false, 1526, 221),
  (5, yX5_find, cX5_find, 3, (Option.some Jvm.ClassFile.FieldType.int), 1, false, 1522, 221),
  (5, yX5_findKey, cX5_findKey, 4, (Option.some Jvm.ClassFile.FieldType.int), 2, false, 1538, 221),
  (5, yX5_insert, cX5_insert, 4, (Option.none : Option Jvm.ClassFile.FieldType), 3, false, 1542, 221),
  (5, yX5_remove, cX5_remove, 3, (Option.none : Option Jvm.ClassFile.FieldType), 1, false, 1534, 221),
  (5, yX5_read, cX5_read, 3, (Option.none : Option Jvm.ClassFile.FieldType), 2, false, 1682, 221),
  (5, yX5_copyFrom, cX5_copyFrom, 2, (Option.none : Option Jvm.ClassFile.FieldType), 1, false, 1507, 221),
  (5, yX5_frozen, cX5_frozen, 2, (Option.some (Jvm.ClassFile.FieldType.object "ChangeHouse$Rows")), 0, false, 1699, 221),
  (5, yX5_sameRows, cX5_sameRows, 3, (Option.some Jvm.ClassFile.FieldType.boolean), 1, false, 1550, 221),
  (5, yX5_sameRanks, cX5_sameRanks, 3, (Option.some Jvm.ClassFile.FieldType.boolean), 1, false, 1695, 221),
  (5, yX5_differing, cX5_differing, 5, (Option.some Jvm.ClassFile.FieldType.int), 1, false, 1706, 221),
  (5, yX5_difference, cX5_difference, 7, (Option.some Jvm.ClassFile.FieldType.int), 2, false, 1934, 221),
  (5, yX5_meeting, cX5_meeting, 11, (Option.some Jvm.ClassFile.FieldType.int), 3, false, 1863, 221),
  (5, yX5_isRow, cX5_isRow, 4, (Option.some Jvm.ClassFile.FieldType.boolean), 3, false, 1869, 221),
  (6, yX6_init, cX6_init, 1, (Option.none : Option Jvm.ClassFile.FieldType), 0, true, 1126, 241),
  (6, yX6_finish, cX6_finish, 4, (Option.none : Option Jvm.ClassFile.FieldType), 3, false, 1315, 241),
  (6, yX6_countAtoms, cX6_countAtoms, 3, (Option.some Jvm.ClassFile.FieldType.int), 0, false, 1311, 241),
  (6, yX6_isAtom, cX6_isAtom, 2, (Option.some Jvm.ClassFile.FieldType.boolean), 1, false, 1353, 241),
  (6, yX6_loneVariable, cX6_loneVariable, 3, (Option.some Jvm.ClassFile.FieldType.int), 1, false, 1361, 241),
  (6, yX6_variablesOf, cX6_variablesOf, 4, (Option.some Jvm.ClassFile.FieldType.int), 1, false, 1357, 241),
  (6, yX6_variablesIn, cX6_variablesIn, 4, (Option.some Jvm.ClassFile.FieldType.int), 1, false, 1349, 241),
  (6, yX6_boundBehind, cX6_boundBehind, 7, (Option.some Jvm.ClassFile.FieldType.int), 2, false, 1345, 241),
  (6, yX6_unsafePlace, cX6_unsafePlace, 5, (Option.some Jvm.ClassFile.FieldType.int), 0, false, 1385, 241),
  (6, yX6_makePlan, cX6_makePlan, 8, (Option.none : Option Jvm.ClassFile.FieldType), 0, false, 1341, 241),
  (6, yX6_columnsBound, cX6_columnsBound, 6, (Option.some Jvm.ClassFile.FieldType.int), 2, false, 1365, 241),
  (7, yX7_init, cX7_init, 1, (Option.none : Option Jvm.ClassFile.FieldType), 0, true, 520, 222),
  (7, yX7_settle, cX7_settle, 7, (Option.none : Option Jvm.ClassFile.FieldType), 4, false, 1712, 222),
  (7, yX7_findRings, cX7_findRings, 4, (Option.none : Option Jvm.ClassFile.FieldType), 0, false, 1721, 222),
  (7, yX7_isIn, cX7_isIn, 5, (Option.some Jvm.ClassFile.FieldType.boolean), 3, false, 1724, 222),
  (7, yX7_workCells, cX7_workCells, 11, (Option.none : Option Jvm.ClassFile.FieldType), 0, false, 1728, 222),
  (7, yX7_countWorked, cX7_countWorked, 10, (Option.none : Option Jvm.ClassFile.FieldType), 3, false, 1768, 222),
  (7, yX7_readsChanged, cX7_readsChanged, 6, (Option.some Jvm.ClassFile.FieldType.boolean), 2, false, 1772, 222),
  (7, yX7_worth, cX7_worth, 9, (Option.some Jvm.ClassFile.FieldType.long), 1, false, 1739, 222),
  (7, yX7_operand, cX7_operand, 7, (Option.some Jvm.ClassFile.FieldType.long), 3, false, 1744, 222),
  (7, yX7_overCells, cX7_overCells, 9, (Option.some Jvm.ClassFile.FieldType.long), 3, false, 1748, 222),
  (7, yX7_bounded, cX7_bounded, 2, (Option.some Jvm.ClassFile.FieldType.long), 1, false, 1752, 222),
  (7, yX7_overRows, cX7_overRows, 12, (Option.some Jvm.ClassFile.FieldType.long), 3, false, 1757, 222),
  (8, yX8_init, cX8_init, 1, (Option.none : Option Jvm.ClassFile.FieldType), 0, true, 257, 217),
  (8, yX8_add, cX8_add, 3, (Option.none : Option Jvm.ClassFile.FieldType), 1, false, 805, 217),
  (8, yX8_split, cX8_split, 5, (Option.none : Option Jvm.ClassFile.FieldType), 0, false, 818, 217),
  (8, yX8_skipBlanks, cX8_skipBlanks, 6, (Option.some Jvm.ClassFile.FieldType.int), 1, false, 822, 217),
  (8, yX8_addName, cX8_addName, 7, (Option.some Jvm.ClassFile.FieldType.int), 1, false, 829, 217),
  (8, yX8_nameKind, cX8_nameKind, 3, (Option.some Jvm.ClassFile.FieldType.int), 2, false, 844, 217),
  (8, yX8_spells, cX8_spells, 5, (Option.some Jvm.ClassFile.FieldType.boolean), 3, false, 849, 217),
  (8, yX8_addVariable, cX8_addVariable, 7, (Option.some Jvm.ClassFile.FieldType.int), 1, false, 915, 217),
  (8, yX8_addNumber, cX8_addNumber, 5, (Option.some Jvm.ClassFile.FieldType.int), 1, false, 924, 217),
  (8, yX8_addSign, cX8_addSign, 6, (Option.some Jvm.ClassFile.FieldType.int), 1, false, 934, 217)]
def xj_mT2 : List xj_mR := [(8, yX8_put, cX8_put, 6, (Option.none : Option Jvm.ClassFile.FieldType), 4, false, 908, 217),
  (8, yX8_isSmall, cX8_isSmall, 1, (Option.some Jvm.ClassFile.FieldType.boolean), 1, false, 825, 217),
  (8, yX8_isGreat, cX8_isGreat, 1, (Option.some Jvm.ClassFile.FieldType.boolean), 1, false, 911, 217),
  (8, yX8_isDigit, cX8_isDigit, 1, (Option.some Jvm.ClassFile.FieldType.boolean), 1, false, 832, 217),
  (8, yX8_lengthOf, cX8_lengthOf, 2, (Option.some Jvm.ClassFile.FieldType.int), 1, false, 1085, 217),
  (8, yX8_isIf, cX8_isIf, 2, (Option.some Jvm.ClassFile.FieldType.boolean), 1, false, 1245, 217),
  (8, yX8_digitBehind, cX8_digitBehind, 3, (Option.some Jvm.ClassFile.FieldType.boolean), 1, false, 1286, 217),
  (8, yX8_wordOf, cX8_wordOf, 7, (Option.some Jvm.ClassFile.FieldType.long), 2, false, 837, 217),
  (8, yX8_cellOf, cX8_cellOf, 6, (Option.some Jvm.ClassFile.FieldType.int), 2, false, 920, 217),
  (9, yX9_init, cX9_init, 1, (Option.none : Option Jvm.ClassFile.FieldType), 0, true, 372, 219),
  (9, yX9_open, cX9_open, 4, (Option.none : Option Jvm.ClassFile.FieldType), 3, false, 1580, 219),
  (9, yX9_fix, cX9_fix, 4, (Option.some Jvm.ClassFile.FieldType.boolean), 2, false, 1969, 219),
  (9, yX9_next, cX9_next, 3, (Option.some Jvm.ClassFile.FieldType.boolean), 0, false, 1592, 219),
  (9, yX9_hasMore, cX9_hasMore, 2, (Option.some Jvm.ClassFile.FieldType.boolean), 0, false, 1602, 219),
  (9, yX9_findRange, cX9_findRange, 6, (Option.none : Option Jvm.ClassFile.FieldType), 1, false, 1597, 219),
  (9, yX9_nextRow, cX9_nextRow, 5, (Option.some Jvm.ClassFile.FieldType.boolean), 1, false, 1606, 219),
  (9, yX9_match, cX9_match, 12, (Option.some Jvm.ClassFile.FieldType.int), 3, false, 1610, 219),
  (9, yX9_isRepeated, cX9_isRepeated, 8, (Option.some Jvm.ClassFile.FieldType.boolean), 3, false, 1618, 219),
  (9, yX9_hasNone, cX9_hasNone, 4, (Option.some Jvm.ClassFile.FieldType.boolean), 1, false, 1622, 219),
  (9, yX9_compares, cX9_compares, 9, (Option.some Jvm.ClassFile.FieldType.boolean), 1, false, 1626, 219),
  (9, yX9_openVariable, cX9_openVariable, 3, (Option.some Jvm.ClassFile.FieldType.int), 1, false, 1630, 219),
  (9, yX9_worth, cX9_worth, 5, (Option.some Jvm.ClassFile.FieldType.long), 1, false, 1635, 219),
  (9, yX9_headRow, cX9_headRow, 3, (Option.some Jvm.ClassFile.FieldType.boolean), 1, false, 1650, 219),
  (9, yX9_rowOf, cX9_rowOf, 5, (Option.some Jvm.ClassFile.FieldType.int), 2, false, 1981, 219),
  (10, yX10_init, cX10_init, 3, (Option.none : Option Jvm.ClassFile.FieldType), 1, true, 425, 220),
  (10, yX10_begin, cX10_begin, 8, (Option.none : Option Jvm.ClassFile.FieldType), 2, false, 1494, 220),
  (10, yX10_tell, cX10_tell, 5, (Option.some Jvm.ClassFile.FieldType.boolean), 1, false, 1503, 220),
  (10, yX10_changeLoose, cX10_changeLoose, 4, (Option.none : Option Jvm.ClassFile.FieldType), 2, false, 1518, 220),
  (10, yX10_noteChanged, cX10_noteChanged, 2, (Option.none : Option Jvm.ClassFile.FieldType), 1, false, 1546, 220),
  (10, yX10_workRing, cX10_workRing, 9, (Option.some Jvm.ClassFile.FieldType.boolean), 2, false, 1558, 220),
  (10, yX10_startRing, cX10_startRing, 3, (Option.none : Option Jvm.ClassFile.FieldType), 1, false, 1564, 220),
  (10, yX10_leadersOf, cX10_leadersOf, 6, (Option.some Jvm.ClassFile.FieldType.int), 3, false, 1569, 220),
  (10, yX10_isOwn, cX10_isOwn, 3, (Option.some Jvm.ClassFile.FieldType.boolean), 3, false, 1572, 220),
  (10, yX10_openLevel, cX10_openLevel, 6, (Option.none : Option Jvm.ClassFile.FieldType), 4, false, 1576, 220),
  (10, yX10_takeFresh, cX10_takeFresh, 5, (Option.none : Option Jvm.ClassFile.FieldType), 2, false, 1687, 220),
  (10, yX10_derive, cX10_derive, 3, (Option.some Jvm.ClassFile.FieldType.boolean), 1, false, 1587, 220),
  (10, yX10_give, cX10_give, 4, (Option.some Jvm.ClassFile.FieldType.boolean), 2, false, 1654, 220),
  (10, yX10_gather, cX10_gather, 8, (Option.some Jvm.ClassFile.FieldType.boolean), 1, false, 1658, 220),
  (10, yX10_isAboveFloor, cX10_isAboveFloor, 3, (Option.some Jvm.ClassFile.FieldType.boolean), 1, false, 1663, 220),
  (10, yX10_addToGroup, cX10_addToGroup, 7, (Option.some Jvm.ClassFile.FieldType.boolean), 2, false, 1667, 220),
  (10, yX10_gatherTwo, cX10_gatherTwo, 5, (Option.some Jvm.ClassFile.FieldType.long), 3, false, 1670, 220),
  (10, yX10_giveGroups, cX10_giveGroups, 6, (Option.some Jvm.ClassFile.FieldType.boolean), 1, false, 1678, 220),
  (10, yX10_outcome, cX10_outcome, 7, (Option.some (Jvm.ClassFile.FieldType.object "ChangeHouse$Moment")), 2, false, 1691, 220),
  (10, yX10_explain, cX10_explain, 8, (Option.none : Option Jvm.ClassFile.FieldType), 3, false, 1959, 220),
  (10, yX10_findWay, cX10_findWay, 8, (Option.some Jvm.ClassFile.FieldType.boolean), 3, false, 1964, 220),
  (10, yX10_isGiven, cX10_isGiven, 3, (Option.some Jvm.ClassFile.FieldType.boolean), 1, false, 1973, 220),
  (10, yX10_isBelowBest, cX10_isBelowBest, 3, (Option.some Jvm.ClassFile.FieldType.boolean), 1, false, 1977, 220),
  (10, yX10_gathersGiven, cX10_gathersGiven, 10, (Option.some Jvm.ClassFile.FieldType.boolean), 2, false, 1986, 220),
  (11, yX11_init, cX11_init, 3, (Option.none : Option Jvm.ClassFile.FieldType), 0, true, 249, 216),
  (11, yX11_feed, cX11_feed, 6, (Option.some Jvm.ClassFile.FieldType.boolean), 5, false, 801, 216),
  (11, yX11_end, cX11_end, 2, (Option.some Jvm.ClassFile.FieldType.boolean), 1, false, 809, 216),
  (11, yX11_place, cX11_place, 1, (Option.some Jvm.ClassFile.FieldType.int), 0, false, 1412, 216),
  (11, yX11_forget, cX11_forget, 2, (Option.some Jvm.ClassFile.FieldType.int), 0, false, 1482, 216),
  (11, yX11_round, cX11_round, 7, (Option.some Jvm.ClassFile.FieldType.int), 0, false, 1490, 216),
  (11, yX11_count, cX11_count, 4, (Option.some Jvm.ClassFile.FieldType.int), 1, false, 1784, 216),
  (11, yX11_predicate, cX11_predicate, 6, (Option.some Jvm.ClassFile.FieldType.int), 2, false, 1890, 216),
  (11, yX11_value, cX11_value, 5, (Option.some Jvm.ClassFile.FieldType.long), 3, false, 1912, 216),
  (11, yX11_edits, cX11_edits, 4, (Option.some Jvm.ClassFile.FieldType.int), 0, false, 1792, 216),
  (11, yX11_edit, cX11_edit, 9, (Option.some Jvm.ClassFile.FieldType.long), 2, false, 1924, 216),
  (11, yX11_ask, cX11_ask, 6, (Option.some Jvm.ClassFile.FieldType.int), 2, false, 1814, 216)]
def xj_mT3 : List xj_mR := [(11, yX11_answer, cX11_answer, 3, (Option.some Jvm.ClassFile.FieldType.long), 2, false, 1941, 216),
  (11, yX11_rank, cX11_rank, 4, (Option.some Jvm.ClassFile.FieldType.int), 2, false, 1948, 216),
  (11, yX11_reason, cX11_reason, 5, (Option.some Jvm.ClassFile.FieldType.int), 3, false, 1955, 216),
  (11, yX11_sheet, cX11_sheet, 8, (Option.some Jvm.ClassFile.FieldType.long), 3, false, 1993, 216),
  (11, yX11_past, cX11_past, 4, (Option.some Jvm.ClassFile.FieldType.int), 2, false, 1824, 216),
  (11, yX11_pastValue, cX11_pastValue, 6, (Option.some Jvm.ClassFile.FieldType.long), 4, false, 2003, 216),
  (11, yX11_back, cX11_back, 5, (Option.some Jvm.ClassFile.FieldType.int), 1, false, 1832, 216),
  (11, yX11_branch, cX11_branch, 5, (Option.some Jvm.ClassFile.FieldType.int), 2, false, 1843, 216),
  (11, yX11_line, cX11_line, 3, (Option.some Jvm.ClassFile.FieldType.int), 1, false, 1851, 216),
  (11, yX11_merge, cX11_merge, 10, (Option.some Jvm.ClassFile.FieldType.int), 1, false, 1855, 216),
  (11, yX11_meet, cX11_meet, 9, (Option.some Jvm.ClassFile.FieldType.boolean), 3, false, 1859, 216),
  (11, yX11_met, cX11_met, 2, (Option.some Jvm.ClassFile.FieldType.long), 1, false, 2010, 216),
  (11, yX11_reckon, cX11_reckon, 7, (Option.some Jvm.ClassFile.FieldType.long), 3, false, 1638, 216),
  (12, yX12_init, cX12_init, 1, (Option.none : Option Jvm.ClassFile.FieldType), 0, true, 2840, 234),
  (12, yX12_copy, cX12_copy, 4, (Option.none : Option Jvm.ClassFile.FieldType), 1, false, 2246, 234),
  (12, yX12_compare, cX12_compare, 11, (Option.some Jvm.ClassFile.FieldType.int), 8, false, 2414, 234),
  (12, yX12_placeOf, cX12_placeOf, 9, (Option.some Jvm.ClassFile.FieldType.int), 4, false, 2411, 234),
  (12, yX12_has, cX12_has, 7, (Option.some Jvm.ClassFile.FieldType.boolean), 4, false, 2430, 234),
  (12, yX12_add, cX12_add, 8, (Option.none : Option Jvm.ClassFile.FieldType), 4, false, 2406, 234),
  (12, yX12_remove, cX12_remove, 8, (Option.none : Option Jvm.ClassFile.FieldType), 4, false, 2567, 234),
  (12, yX12_move, cX12_move, 4, (Option.none : Option Jvm.ClassFile.FieldType), 2, false, 2418, 234),
  (13, yX13_init, cX13_init, 1, (Option.none : Option Jvm.ClassFile.FieldType), 0, true, 2835, 233),
  (13, yX13_forget, cX13_forget, 2, (Option.none : Option Jvm.ClassFile.FieldType), 0, false, 2398, 233),
  (13, yX13_forgetRound, cX13_forgetRound, 2, (Option.none : Option Jvm.ClassFile.FieldType), 0, false, 2422, 233),
  (14, yX14_init, cX14_init, 1, (Option.none : Option Jvm.ClassFile.FieldType), 0, true, 2677, 232),
  (14, yX14_predicateOf, cX14_predicateOf, 4, (Option.some Jvm.ClassFile.FieldType.int), 1, false, 2123, 232),
  (15, yX15_isSmall, cX15_isSmall, 1, (Option.some Jvm.ClassFile.FieldType.boolean), 1, false, 2042, 227),
  (15, yX15_isGreat, cX15_isGreat, 1, (Option.some Jvm.ClassFile.FieldType.boolean), 1, false, 2059, 227),
  (15, yX15_isDigit, cX15_isDigit, 1, (Option.some Jvm.ClassFile.FieldType.boolean), 1, false, 2049, 227),
  (15, yX15_see, cX15_see, 2, (Option.some Jvm.ClassFile.FieldType.int), 1, false, 2039, 227),
  (15, yX15_fail, cX15_fail, 2, (Option.none : Option Jvm.ClassFile.FieldType), 1, false, 2103, 227),
  (15, yX15_bad, cX15_bad, 1, (Option.some Jvm.ClassFile.FieldType.boolean), 0, false, 2083, 227),
  (15, yX15_begin, cX15_begin, 4, (Option.none : Option Jvm.ClassFile.FieldType), 3, false, 2031, 227),
  (15, yX15_pass, cX15_pass, 1, (Option.none : Option Jvm.ClassFile.FieldType), 0, false, 2099, 227),
  (15, yX15_lex, cX15_lex, 3, (Option.none : Option Jvm.ClassFile.FieldType), 0, false, 2035, 227),
  (15, yX15_digitOf, cX15_digitOf, 1, (Option.some Jvm.ClassFile.FieldType.int), 1, false, 2053, 227),
  (15, yX15_lexName, cX15_lexName, 4, (Option.none : Option Jvm.ClassFile.FieldType), 0, false, 2046, 227),
  (15, yX15_lexVariable, cX15_lexVariable, 2, (Option.none : Option Jvm.ClassFile.FieldType), 0, false, 2063, 227),
  (15, yX15_lexNumber, cX15_lexNumber, 3, (Option.none : Option Jvm.ClassFile.FieldType), 0, false, 2068, 227),
  (15, yX15_lexSign, cX15_lexSign, 3, (Option.none : Option Jvm.ClassFile.FieldType), 1, false, 2077, 227),
  (15, yX15_isSign, cX15_isSign, 2, (Option.some Jvm.ClassFile.FieldType.boolean), 1, false, 2131, 227),
  (15, yX15_isKind, cX15_isKind, 2, (Option.some Jvm.ClassFile.FieldType.boolean), 1, false, 2091, 227),
  (15, yX15_need, cX15_need, 2, (Option.none : Option Jvm.ClassFile.FieldType), 1, false, 2127, 227),
  (15, yX15_code, cX15_code, 4, (Option.some Jvm.ClassFile.FieldType.long), 1, false, 2662, 227),
  (15, yX15_isReserved, cX15_isReserved, 3, (Option.some Jvm.ClassFile.FieldType.boolean), 1, false, 2115, 227),
  (15, yX15_isWord, cX15_isWord, 3, (Option.some Jvm.ClassFile.FieldType.boolean), 1, false, 2087, 227),
  (15, yX15_isName, cX15_isName, 1, (Option.some Jvm.ClassFile.FieldType.boolean), 0, false, 2111, 227),
  (15, yX15_value, cX15_value, 1, (Option.some Jvm.ClassFile.FieldType.boolean), 0, false, 2175, 227),
  (15, yX15_clear, cX15_clear, 3, (Option.none : Option Jvm.ClassFile.FieldType), 1, false, 2027, 227),
  (15, yX15_mention, cX15_mention, 5, (Option.none : Option Jvm.ClassFile.FieldType), 4, false, 2139, 227),
  (15, yX15_predicate, cX15_predicate, 5, (Option.some Jvm.ClassFile.FieldType.int), 2, false, 2119, 227),
  (15, yX15_readProgram, cX15_readProgram, 5, (Option.none : Option Jvm.ClassFile.FieldType), 4, false, 2023, 227),
  (15, yX15_needName, cX15_needName, 1, (Option.some Jvm.ClassFile.FieldType.int), 0, false, 2107, 227),
  (15, yX15_needNumber, cX15_needNumber, 4, (Option.some Jvm.ClassFile.FieldType.int), 2, false, 2135, 227),
  (15, yX15_readInput, cX15_readInput, 6, (Option.none : Option Jvm.ClassFile.FieldType), 0, false, 2095, 227),
  (15, yX15_readOutput, cX15_readOutput, 3, (Option.none : Option Jvm.ClassFile.FieldType), 0, false, 2143, 227),
  (15, yX15_beginRule, cX15_beginRule, 2, (Option.none : Option Jvm.ClassFile.FieldType), 1, false, 2151, 227),
  (15, yX15_readRule, cX15_readRule, 3, (Option.none : Option Jvm.ClassFile.FieldType), 0, false, 2147, 227),
  (15, yX15_readItem, cX15_readItem, 3, (Option.none : Option Jvm.ClassFile.FieldType), 0, false, 2155, 227),
  (15, yX15_variable, cX15_variable, 3, (Option.some Jvm.ClassFile.FieldType.int), 0, false, 2167, 227)]
def xj_mT4 : List xj_mR := [(15, yX15_put, cX15_put, 4, (Option.none : Option Jvm.ClassFile.FieldType), 2, false, 2171, 227),
  (15, yX15_primary, cX15_primary, 2, (Option.none : Option Jvm.ClassFile.FieldType), 0, false, 2163, 227),
  (15, yX15_isOf, cX15_isOf, 2, (Option.some Jvm.ClassFile.FieldType.boolean), 1, false, 2187, 227),
  (15, yX15_expression, cX15_expression, 1, (Option.none : Option Jvm.ClassFile.FieldType), 0, false, 2159, 227),
  (15, yX15_moreOf, cX15_moreOf, 2, (Option.none : Option Jvm.ClassFile.FieldType), 0, false, 2179, 227),
  (15, yX15_product, cX15_product, 2, (Option.none : Option Jvm.ClassFile.FieldType), 0, false, 2183, 227),
  (15, yX15_readLiterals, cX15_readLiterals, 1, (Option.none : Option Jvm.ClassFile.FieldType), 0, false, 2191, 227),
  (15, yX15_readLiteral, cX15_readLiteral, 7, (Option.none : Option Jvm.ClassFile.FieldType), 0, false, 2195, 227),
  (15, yX15_readCompare, cX15_readCompare, 2, (Option.none : Option Jvm.ClassFile.FieldType), 1, false, 2207, 227),
  (15, yX15_readAtom, cX15_readAtom, 8, (Option.none : Option Jvm.ClassFile.FieldType), 4, false, 2199, 227),
  (15, yX15_readTerm, cX15_readTerm, 4, (Option.none : Option Jvm.ClassFile.FieldType), 2, false, 2203, 227),
  (15, yX15_faulty, cX15_faulty, 3, (Option.none : Option Jvm.ClassFile.FieldType), 2, false, 2218, 227),
  (15, yX15_findFaults, cX15_findFaults, 4, (Option.none : Option Jvm.ClassFile.FieldType), 1, false, 2211, 227),
  (15, yX15_isTwice, cX15_isTwice, 2, (Option.some Jvm.ClassFile.FieldType.boolean), 2, false, 2214, 227),
  (15, yX15_findParts, cX15_findParts, 5, (Option.none : Option Jvm.ClassFile.FieldType), 1, false, 2222, 227),
  (15, yX15_variablesOf, cX15_variablesOf, 5, (Option.some Jvm.ClassFile.FieldType.int), 3, false, 2232, 227),
  (15, yX15_isAlone, cX15_isAlone, 3, (Option.some Jvm.ClassFile.FieldType.boolean), 3, false, 2235, 227),
  (15, yX15_boundBy, cX15_boundBy, 8, (Option.some Jvm.ClassFile.FieldType.int), 2, false, 2229, 227),
  (15, yX15_findUnsafe, cX15_findUnsafe, 5, (Option.none : Option Jvm.ClassFile.FieldType), 2, false, 2226, 227),
  (15, yX15_findRings, cX15_findRings, 5, (Option.none : Option Jvm.ClassFile.FieldType), 1, false, 2239, 227),
  (15, yX15_readsOwn, cX15_readsOwn, 4, (Option.some Jvm.ClassFile.FieldType.boolean), 2, false, 2242, 227),
  (15, yX15_at, cX15_at, 3, (Option.some Jvm.ClassFile.FieldType.int), 2, false, 2266, 227),
  (15, yX15_compareRows, cX15_compareRows, 6, (Option.some Jvm.ClassFile.FieldType.int), 5, false, 2269, 227),
  (15, yX15_placeOf, cX15_placeOf, 5, (Option.some Jvm.ClassFile.FieldType.int), 3, false, 2262, 227),
  (15, yX15_add, cX15_add, 7, (Option.none : Option Jvm.ClassFile.FieldType), 4, false, 2258, 227),
  (15, yX15_remove, cX15_remove, 5, (Option.none : Option Jvm.ClassFile.FieldType), 2, false, 2281, 227),
  (15, yX15_worth, cX15_worth, 9, (Option.some Jvm.ClassFile.FieldType.long), 2, false, 2325, 227),
  (15, yX15_isWordValue, cX15_isWordValue, 2, (Option.some Jvm.ClassFile.FieldType.boolean), 1, false, 2332, 227),
  (15, yX15_worked, cX15_worked, 8, (Option.some Jvm.ClassFile.FieldType.long), 3, false, 2329, 227),
  (15, yX15_isTooMuch, cX15_isTooMuch, 4, (Option.some Jvm.ClassFile.FieldType.boolean), 2, false, 2335, 227),
  (15, yX15_isBound, cX15_isBound, 2, (Option.some Jvm.ClassFile.FieldType.boolean), 1, false, 2321, 227),
  (15, yX15_isOpen, cX15_isOpen, 3, (Option.some Jvm.ClassFile.FieldType.boolean), 2, false, 2382, 227),
  (15, yX15_fits, cX15_fits, 9, (Option.some Jvm.ClassFile.FieldType.boolean), 3, false, 2349, 227),
  (15, yX15_isAlike, cX15_isAlike, 6, (Option.some Jvm.ClassFile.FieldType.boolean), 4, false, 2390, 227),
  (15, yX15_hasFirst, cX15_hasFirst, 5, (Option.some Jvm.ClassFile.FieldType.boolean), 3, false, 2386, 227),
  (15, yX15_ways, cX15_ways, 8, (Option.none : Option Jvm.ClassFile.FieldType), 1, false, 2305, 227),
  (15, yX15_finishWay, cX15_finishWay, 2, (Option.none : Option Jvm.ClassFile.FieldType), 0, false, 2309, 227),
  (15, yX15_bindsAll, cX15_bindsAll, 4, (Option.some Jvm.ClassFile.FieldType.boolean), 0, false, 2313, 227),
  (15, yX15_binds, cX15_binds, 7, (Option.some Jvm.ClassFile.FieldType.boolean), 4, false, 2317, 227),
  (15, yX15_holds, cX15_holds, 3, (Option.some Jvm.ClassFile.FieldType.boolean), 0, false, 2341, 227),
  (15, yX15_isSome, cX15_isSome, 3, (Option.some Jvm.ClassFile.FieldType.boolean), 1, false, 2345, 227),
  (15, yX15_compares, cX15_compares, 6, (Option.some Jvm.ClassFile.FieldType.boolean), 1, false, 2353, 227),
  (15, yX15_makesRow, cX15_makesRow, 2, (Option.some Jvm.ClassFile.FieldType.boolean), 0, false, 2361, 227),
  (15, yX15_useWay, cX15_useWay, 1, (Option.none : Option Jvm.ClassFile.FieldType), 0, false, 2357, 227),
  (15, yX15_newRow, cX15_newRow, 3, (Option.none : Option Jvm.ClassFile.FieldType), 1, false, 2365, 227),
  (15, yX15_answer, cX15_answer, 3, (Option.none : Option Jvm.ClassFile.FieldType), 0, false, 2374, 227),
  (15, yX15_reasonWay, cX15_reasonWay, 3, (Option.none : Option Jvm.ClassFile.FieldType), 0, false, 2378, 227),
  (15, yX15_gather, cX15_gather, 8, (Option.none : Option Jvm.ClassFile.FieldType), 0, false, 2369, 227),
  (15, yX15_gatherAll, cX15_gatherAll, 3, (Option.some Jvm.ClassFile.FieldType.boolean), 1, false, 2301, 227),
  (15, yX15_gives, cX15_gives, 7, (Option.some Jvm.ClassFile.FieldType.boolean), 2, false, 2394, 227),
  (15, yX15_workAll, cX15_workAll, 5, (Option.some Jvm.ClassFile.FieldType.boolean), 0, false, 2285, 227),
  (15, yX15_nextRing, cX15_nextRing, 3, (Option.some Jvm.ClassFile.FieldType.int), 1, false, 2289, 227),
  (15, yX15_readsOf, cX15_readsOf, 5, (Option.some Jvm.ClassFile.FieldType.int), 1, false, 2293, 227),
  (15, yX15_workRing, cX15_workRing, 5, (Option.some Jvm.ClassFile.FieldType.boolean), 1, false, 2297, 227),
  (15, yX15_keep, cX15_keep, 3, (Option.some Jvm.ClassFile.FieldType.int), 1, false, 2653, 227),
  (15, yX15_readText, cX15_readText, 3, (Option.none : Option Jvm.ClassFile.FieldType), 2, false, 2019, 227),
  (15, yX15_load, cX15_load, 3, (Option.none : Option Jvm.ClassFile.FieldType), 0, false, 2575, 227),
  (15, yX15_fillInputs, cX15_fillInputs, 4, (Option.none : Option Jvm.ClassFile.FieldType), 1, false, 2273, 227),
  (15, yX15_round, cX15_round, 4, (Option.some Jvm.ClassFile.FieldType.int), 0, false, 2014, 227),
  (15, yX15_keepInputs, cX15_keepInputs, 5, (Option.none : Option Jvm.ClassFile.FieldType), 1, false, 2250, 227)]
def xj_mT5 : List xj_mR := [(15, yX15_readOld, cX15_readOld, 2, (Option.none : Option Jvm.ClassFile.FieldType), 1, false, 2254, 227),
  (15, yX15_change, cX15_change, 6, (Option.none : Option Jvm.ClassFile.FieldType), 2, false, 2277, 227),
  (15, yX15_gatherFacts, cX15_gatherFacts, 4, (Option.none : Option Jvm.ClassFile.FieldType), 1, false, 2402, 227),
  (15, yX15_log, cX15_log, 6, (Option.none : Option Jvm.ClassFile.FieldType), 4, false, 2434, 227),
  (15, yX15_logChanges, cX15_logChanges, 4, (Option.some Jvm.ClassFile.FieldType.int), 1, false, 2426, 227),
  (15, yX15_countWorked, cX15_countWorked, 7, (Option.none : Option Jvm.ClassFile.FieldType), 2, false, 2438, 227),
  (15, yX15_tellEdits, cX15_tellEdits, 6, (Option.none : Option Jvm.ClassFile.FieldType), 1, false, 2442, 227),
  (15, yX15_edit, cX15_edit, 7, (Option.none : Option Jvm.ClassFile.FieldType), 5, false, 2447, 227),
  (15, yX15_trim, cX15_trim, 5, (Option.none : Option Jvm.ClassFile.FieldType), 1, false, 2544, 227),
  (15, yX15_behind, cX15_behind, 4, (Option.some Jvm.ClassFile.FieldType.int), 3, false, 2547, 227),
  (15, yX15_isPast, cX15_isPast, 3, (Option.some Jvm.ClassFile.FieldType.boolean), 2, false, 2555, 227),
  (15, yX15_goBack, cX15_goBack, 6, (Option.some Jvm.ClassFile.FieldType.int), 3, false, 2563, 227),
  (15, yX15_become, cX15_become, 6, (Option.none : Option Jvm.ClassFile.FieldType), 2, false, 2559, 227),
  (15, yX15_loseForks, cX15_loseForks, 4, (Option.none : Option Jvm.ClassFile.FieldType), 2, false, 2571, 227),
  (15, yX15_back, cX15_back, 4, (Option.some Jvm.ClassFile.FieldType.int), 1, false, 2551, 227),
  (15, yX15_branch, cX15_branch, 6, (Option.some Jvm.ClassFile.FieldType.int), 2, false, 2579, 227),
  (15, yX15_copyLine, cX15_copyLine, 4, (Option.none : Option Jvm.ClassFile.FieldType), 2, false, 2582, 227),
  (15, yX15_line, cX15_line, 3, (Option.some Jvm.ClassFile.FieldType.int), 1, false, 2586, 227),
  (15, yX15_past, cX15_past, 6, (Option.some Jvm.ClassFile.FieldType.int), 2, false, 2590, 227),
  (15, yX15_isThen, cX15_isThen, 3, (Option.some Jvm.ClassFile.FieldType.boolean), 2, false, 2594, 227),
  (15, yX15_pastValue, cX15_pastValue, 7, (Option.some Jvm.ClassFile.FieldType.long), 4, false, 2598, 227),
  (15, yX15_lost, cX15_lost, 1, (Option.some Jvm.ClassFile.FieldType.int), 0, false, 2603, 227),
  (15, yX15_lies, cX15_lies, 3, (Option.some Jvm.ClassFile.FieldType.boolean), 3, false, 2630, 227),
  (15, yX15_sameKey, cX15_sameKey, 6, (Option.some Jvm.ClassFile.FieldType.int), 4, false, 2615, 227),
  (15, yX15_isSame, cX15_isSame, 5, (Option.some Jvm.ClassFile.FieldType.boolean), 4, false, 2623, 227),
  (15, yX15_meets, cX15_meets, 9, (Option.some Jvm.ClassFile.FieldType.boolean), 5, false, 2619, 227),
  (15, yX15_merge, cX15_merge, 9, (Option.some Jvm.ClassFile.FieldType.int), 1, false, 2607, 227),
  (15, yX15_findMeeting, cX15_findMeeting, 11, (Option.some Jvm.ClassFile.FieldType.boolean), 2, false, 2611, 227),
  (15, yX15_differences, cX15_differences, 7, (Option.some Jvm.ClassFile.FieldType.int), 4, false, 2627, 227),
  (15, yX15_pend, cX15_pend, 8, (Option.none : Option Jvm.ClassFile.FieldType), 6, false, 2633, 227),
  (15, yX15_met, cX15_met, 2, (Option.some Jvm.ClassFile.FieldType.long), 1, false, 2637, 227),
  (15, yX15_node, cX15_node, 7, (Option.some Jvm.ClassFile.FieldType.int), 5, false, 2487, 227),
  (15, yX15_cellHere, cX15_cellHere, 5, (Option.some Jvm.ClassFile.FieldType.int), 0, false, 2471, 227),
  (15, yX15_readCell, cX15_readCell, 5, (Option.some Jvm.ClassFile.FieldType.int), 3, false, 2467, 227),
  (15, yX15_formula, cX15_formula, 4, (Option.some Jvm.ClassFile.FieldType.int), 0, false, 2475, 227),
  (15, yX15_strong, cX15_strong, 4, (Option.some Jvm.ClassFile.FieldType.int), 0, false, 2479, 227),
  (15, yX15_open, cX15_open, 1, (Option.none : Option Jvm.ClassFile.FieldType), 0, false, 2491, 227),
  (15, yX15_close, cX15_close, 1, (Option.none : Option Jvm.ClassFile.FieldType), 0, false, 2495, 227),
  (15, yX15_operand, cX15_operand, 2, (Option.some Jvm.ClassFile.FieldType.int), 0, false, 2483, 227),
  (15, yX15_readIf, cX15_readIf, 4, (Option.some Jvm.ClassFile.FieldType.int), 0, false, 2499, 227),
  (15, yX15_readOf, cX15_readOf, 6, (Option.some Jvm.ClassFile.FieldType.int), 1, false, 2503, 227),
  (15, yX15_formulaOf, cX15_formulaOf, 3, (Option.some Jvm.ClassFile.FieldType.int), 2, false, 2463, 227),
  (15, yX15_readsCell, cX15_readsCell, 3, (Option.none : Option Jvm.ClassFile.FieldType), 2, false, 2507, 227),
  (15, yX15_has, cX15_has, 5, (Option.some Jvm.ClassFile.FieldType.boolean), 3, false, 2516, 227),
  (15, yX15_findReadings, cX15_findReadings, 6, (Option.none : Option Jvm.ClassFile.FieldType), 2, false, 2459, 227),
  (15, yX15_isWithin, cX15_isWithin, 3, (Option.some Jvm.ClassFile.FieldType.boolean), 3, false, 2510, 227),
  (15, yX15_valueCells, cX15_valueCells, 4, (Option.none : Option Jvm.ClassFile.FieldType), 1, false, 2455, 227),
  (15, yX15_waits, cX15_waits, 3, (Option.some Jvm.ClassFile.FieldType.boolean), 1, false, 2520, 227),
  (15, yX15_setCell, cX15_setCell, 5, (Option.none : Option Jvm.ClassFile.FieldType), 4, false, 2513, 227),
  (15, yX15_valueCell, cX15_valueCell, 6, (Option.none : Option Jvm.ClassFile.FieldType), 2, false, 2524, 227),
  (15, yX15_worthOf, cX15_worthOf, 7, (Option.some Jvm.ClassFile.FieldType.long), 2, false, 2528, 227),
  (15, yX15_signOf, cX15_signOf, 8, (Option.some Jvm.ClassFile.FieldType.long), 3, false, 2532, 227),
  (15, yX15_overCells, cX15_overCells, 7, (Option.some Jvm.ClassFile.FieldType.long), 2, false, 2536, 227),
  (15, yX15_overRows, cX15_overRows, 9, (Option.some Jvm.ClassFile.FieldType.long), 1, false, 2540, 227),
  (15, yX15_workCells, cX15_workCells, 6, (Option.none : Option Jvm.ClassFile.FieldType), 2, false, 2451, 227),
  (15, yX15_sheet, cX15_sheet, 6, (Option.some Jvm.ClassFile.FieldType.long), 3, false, 2641, 227),
  (15, yX15_cell, cX15_cell, 3, (Option.some Jvm.ClassFile.FieldType.int), 0, false, 2645, 227),
  (15, yX15_init, cX15_init, 1, (Option.none : Option Jvm.ClassFile.FieldType), 0, true, 2657, 227),
  (15, yX15_thrown, cX15_thrown, 1, (Option.some Jvm.ClassFile.FieldType.int), 0, false, 3330, 227),
  (15, yX15_feed, cX15_feed, 8, (Option.some Jvm.ClassFile.FieldType.boolean), 5, false, 3334, 227)]
def xj_mT6 : List xj_mR := [(15, yX15_end, cX15_end, 2, (Option.some Jvm.ClassFile.FieldType.boolean), 1, false, 3338, 227),
  (15, yX15_take, cX15_take, 2, (Option.some Jvm.ClassFile.FieldType.int), 0, false, 2649, 227),
  (15, yX15_refused, cX15_refused, 3, (Option.some Jvm.ClassFile.FieldType.int), 2, false, 3346, 227),
  (15, yX15_program, cX15_program, 3, (Option.some Jvm.ClassFile.FieldType.int), 0, false, 3342, 227),
  (15, yX15_place, cX15_place, 1, (Option.some Jvm.ClassFile.FieldType.int), 0, false, 3350, 227),
  (15, yX15_change_, cX15_change_, 10, (Option.some Jvm.ClassFile.FieldType.int), 0, false, 3354, 227),
  (15, yX15_readChange, cX15_readChange, 4, (Option.none : Option Jvm.ClassFile.FieldType), 1, false, 3358, 227),
  (15, yX15_forget, cX15_forget, 2, (Option.some Jvm.ClassFile.FieldType.int), 0, false, 3362, 227),
  (15, yX15_query, cX15_query, 5, (Option.some Jvm.ClassFile.FieldType.int), 0, false, 3366, 227),
  (15, yX15_asked, cX15_asked, 4, (Option.some Jvm.ClassFile.FieldType.int), 1, false, 3370, 227),
  (15, yX15_answer_, cX15_answer_, 3, (Option.some Jvm.ClassFile.FieldType.long), 2, false, 3374, 227),
  (15, yX15_isRow, cX15_isRow, 3, (Option.some Jvm.ClassFile.FieldType.boolean), 2, false, 3382, 227),
  (15, yX15_value_, cX15_value_, 4, (Option.some Jvm.ClassFile.FieldType.long), 3, false, 3378, 227),
  (15, yX15_rank, cX15_rank, 3, (Option.some Jvm.ClassFile.FieldType.int), 2, false, 3386, 227),
  (15, yX15_reason, cX15_reason, 6, (Option.some Jvm.ClassFile.FieldType.int), 3, false, 3390, 227),
  (15, yX15_atomRow, cX15_atomRow, 5, (Option.some Jvm.ClassFile.FieldType.int), 1, false, 3394, 227),
  (15, yX15_firstRow, cX15_firstRow, 4, (Option.some Jvm.ClassFile.FieldType.int), 1, false, 3398, 227),
  (15, yX15_count, cX15_count, 3, (Option.some Jvm.ClassFile.FieldType.int), 1, false, 3402, 227),
  (15, yX15_predicate_, cX15_predicate_, 4, (Option.some Jvm.ClassFile.FieldType.int), 2, false, 3406, 227),
  (15, yX15_edits, cX15_edits, 1, (Option.some Jvm.ClassFile.FieldType.int), 0, false, 3410, 227),
  (15, yX15_edit_, cX15_edit_, 4, (Option.some Jvm.ClassFile.FieldType.long), 2, false, 3414, 227),
  (17, yJ7_fill_d0a16, cJ7_fill_d0a16, 5, (Option.none : Option Jvm.ClassFile.FieldType), 2, false, 676, 225),
  (17, yJ7_fill_53178, cJ7_fill_53178, 4, (Option.none : Option Jvm.ClassFile.FieldType), 2, false, 1583, 225),
  (17, yJ7_copyOf_59c91, cJ7_copyOf_59c91, 3, (Option.some (Jvm.ClassFile.FieldType.array Jvm.ClassFile.FieldType.int)), 2, false, 1318, 225),
  (17, yJ7_copyOf_c38d5, cJ7_copyOf_c38d5, 3, (Option.some (Jvm.ClassFile.FieldType.array Jvm.ClassFile.FieldType.long)), 2, false, 1332, 225),
  (18, yJ9_abs_067f4, cJ9_abs_067f4, 2, (Option.some Jvm.ClassFile.FieldType.long), 1, false, 1644, 235),
  (18, yJ9_max_7cf53, cJ9_max_7cf53, 2, (Option.some Jvm.ClassFile.FieldType.int), 2, false, 953, 235),
  (18, yJ9_max_f86c9, cJ9_max_f86c9, 4, (Option.some Jvm.ClassFile.FieldType.long), 2, false, 1674, 235),
  (18, yJ9_min_7cf53, cJ9_min_7cf53, 2, (Option.some Jvm.ClassFile.FieldType.int), 2, false, 956, 235),
  (18, yJ9_min_f86c9, cJ9_min_f86c9, 4, (Option.some Jvm.ClassFile.FieldType.long), 2, false, 930, 235)]
def xj_mT : List xj_mR := xj_mT0 ++ (xj_mT1 ++ (xj_mT2 ++ (xj_mT3 ++ (xj_mT4 ++ (xj_mT5 ++ (xj_mT6))))))
def xj_fT : Nat → List (Nat × Nat × Nat × Nat) := fun o => match o with
  | 0 => [(9, 0, 0, 1458), (15, 0, 1, 1460), (27, 0, 4, 1466), (31, 0, 2, 1462), (35, 0, 3, 1464)]
  | 1 => [(11, 1, 0, 685), (17, 1, 3, 691), (21, 1, 5, 695), (25, 1, 6, 697), (28, 1, 9, 705), (31, 1, 10, 707), (35, 1, 11, 709), (39, 1, 12, 711), (44, 1, 13, 714), (48, 1, 1, 687), (51, 1, 2, 689), (54, 1, 7, 700), (58, 1, 8, 703), (67, 5, 1, 440), (80, 5, 0, 435), (87, 2, 4, 644), (90, 2, 5, 648), (93, 2, 6, 650), (96, 2, 0, 635), (99, 3, 0, 554), (114, 1, 4, 693)]
  | 2 => [(9, 2, 0, 631), (15, 2, 1, 636), (19, 3, 1, 557), (25, 5, 1, 438), (30, 3, 3, 564)]
  | 3 => [(9, 3, 2, 561), (15, 3, 3, 563), (19, 3, 4, 569), (22, 3, 5, 573), (26, 3, 6, 577), (29, 3, 7, 580), (34, 3, 9, 586), (38, 3, 10, 589), (41, 3, 11, 592), (44, 3, 13, 596), (47, 3, 0, 552), (51, 3, 1, 556), (62, 3, 8, 583), (65, 6, 8, 1157), (72, 6, 0, 1129), (75, 6, 10, 1166), (89, 3, 12, 594), (95, 6, 9, 1163), (98, 6, 3, 1140), (101, 6, 1, 1132)]
  | 4 => [(9, 4, 7, 309), (15, 4, 8, 310), (19, 4, 10, 312), (22, 4, 11, 313), (25, 4, 13, 315), (28, 4, 15, 318), (31, 4, 16, 320), (34, 4, 17, 322), (37, 4, 18, 323), (40, 4, 19, 325), (43, 4, 0, 299), (51, 8, 3, 265), (54, 4, 1, 300), (80, 8, 4, 267), (86, 4, 5, 305), (90, 4, 9, 311), (118, 8, 2, 263), (125, 4, 6, 307), (147, 4, 3, 303), (151, 4, 4, 304), (155, 4, 14, 316), (159, 4, 2, 302), (169, 3, 5, 576), (175, 3, 4, 572), (182, 3, 6, 579), (185, 3, 8, 585), (188, 6, 1, 1133), (191, 6, 0, 1131), (197, 6, 2, 1137), (200, 3, 7, 581), (203, 3, 9, 588), (207, 6, 14, 1181), (210, 6, 15, 1184), (213, 6, 3, 1142), (216, 6, 4, 1145), (222, 6, 5, 1148), (225, 6, 8, 1159), (237, 8, 7, 272), (242, 6, 9, 1164), (243, 6, 12, 1175), (246, 6, 13, 1178), (249, 6, 10, 1169), (250, 6, 11, 1172), (251, 8, 6, 270), (258, 3, 1, 560), (260, 3, 2, 562), (263, 6, 6, 1151), (265, 6, 7, 1154), (274, 4, 12, 314), (323, 3, 3, 568)]
  | 5 => [(9, 5, 0, 434), (15, 5, 2, 443), (19, 5, 3, 444), (23, 5, 1, 437)]
  | 6 => [(9, 6, 0, 1128), (15, 6, 3, 1138), (18, 6, 7, 1153), (22, 6, 9, 1160), (25, 6, 10, 1165), (28, 6, 11, 1170), (31, 6, 12, 1173), (34, 6, 13, 1176), (38, 6, 14, 1179), (41, 6, 15, 1182), (44, 6, 18, 1189), (47, 6, 19, 1191), (56, 6, 16, 1185), (62, 6, 17, 1187), (68, 6, 8, 1155), (89, 6, 6, 1149), (95, 6, 4, 1143), (98, 6, 5, 1146), (101, 6, 2, 1134)]
  | 7 => [(9, 7, 2, 524), (15, 7, 3, 525), (18, 7, 4, 526), (21, 7, 0, 522), (25, 2, 2, 641), (31, 2, 3, 643), (34, 1, 12, 712), (40, 2, 5, 647), (49, 1, 13, 715), (52, 2, 6, 649), (55, 7, 1, 523), (66, 0, 2, 1463), (72, 0, 3, 1465), (97, 1, 6, 698), (101, 0, 4, 1467), (105, 0, 0, 1459), (108, 2, 0, 634), (112, 0, 1, 1461), (152, 3, 3, 567), (157, 2, 1, 639), (161, 5, 1, 442)]
  | 8 => [(9, 8, 0, 259), (15, 8, 3, 264), (19, 8, 4, 266), (22, 8, 5, 268), (25, 8, 6, 269), (29, 8, 7, 271), (32, 8, 1, 261), (36, 8, 2, 262)]
  | 9 => [(9, 9, 0, 374), (15, 9, 1, 377), (19, 9, 2, 379), (22, 9, 8, 386), (25, 9, 9, 387), (28, 9, 10, 388), (31, 9, 11, 389), (34, 9, 12, 390), (37, 9, 13, 391), (40, 9, 3, 381), (44, 9, 4, 382), (48, 9, 5, 383), (52, 9, 6, 384), (56, 9, 7, 385), (66, 6, 8, 1156), (71, 6, 18, 1190), (74, 6, 9, 1161), (95, 6, 19, 1192), (98, 6, 11, 1171), (101, 6, 12, 1174), (104, 6, 13, 1177), (107, 6, 10, 1167), (124, 5, 3, 445), (144, 6, 14, 1180), (147, 6, 15, 1183), (150, 6, 16, 1186), (153, 6, 17, 1188), (160, 6, 2, 1135), (163, 6, 3, 1141)]
  | 10 => [(11, 10, 2, 459), (17, 10, 3, 460), (20, 10, 4, 461), (23, 10, 5, 462), (26, 10, 6, 463), (32, 10, 7, 464), (36, 10, 8, 465), (40, 10, 9, 466), (43, 10, 10, 467), (46, 10, 11, 468), (49, 10, 12, 469), (52, 10, 17, 477), (56, 10, 0, 457), (60, 10, 1, 458), (64, 10, 13, 470), (68, 10, 14, 472), (71, 3, 0, 553), (76, 2, 0, 632), (79, 3, 1, 558), (86, 3, 3, 565), (89, 2, 1, 637), (92, 3, 5, 574), (96, 3, 4, 570), (99, 1, 8, 702), (104, 1, 9, 706), (111, 1, 11, 710), (120, 1, 10, 708), (127, 5, 1, 439), (163, 10, 15, 474), (166, 3, 8, 584), (169, 3, 9, 587), (173, 3, 10, 590), (176, 6, 0, 1130), (189, 6, 3, 1139), (204, 6, 8, 1158), (211, 6, 9, 1162), (214, 6, 10, 1168), (222, 9, 1, 378), (225, 9, 2, 380), (245, 6, 2, 1136), (248, 6, 4, 1144), (251, 9, 0, 375), (254, 6, 5, 1147), (270, 5, 3, 446), (302, 2, 4, 646), (305, 2, 6, 651), (308, 2, 7, 653), (311, 10, 16, 476), (338, 6, 6, 1152)]
  | 11 => [(10, 11, 0, 746), (21, 11, 1, 747), (28, 11, 2, 748), (37, 11, 3, 749), (44, 11, 4, 750), (50, 11, 5, 751), (54, 11, 9, 755), (63, 11, 10, 756), (67, 11, 11, 757), (70, 11, 14, 760), (74, 11, 15, 761), (89, 2, 2, 640), (93, 2, 3, 642), (107, 8, 1, 260), (113, 11, 7, 753), (125, 4, 2, 301), (132, 11, 6, 752), (135, 1, 7, 701), (139, 1, 8, 704), (142, 3, 8, 582), (149, 2, 0, 633), (158, 4, 14, 317), (161, 4, 15, 319), (165, 4, 16, 321), (168, 4, 19, 326), (171, 4, 18, 324), (181, 1, 12, 713), (185, 1, 13, 716), (188, 4, 6, 308), (199, 1, 1, 688), (206, 3, 12, 595), (209, 3, 11, 593), (216, 11, 8, 754), (223, 10, 13, 471), (230, 10, 14, 473), (240, 11, 12, 758), (244, 11, 13, 759), (247, 2, 4, 645), (250, 1, 2, 690), (253, 3, 1, 559), (258, 2, 7, 652), (264, 3, 3, 566), (265, 3, 4, 571), (268, 3, 5, 575), (271, 3, 6, 578), (274, 3, 10, 591), (277, 1, 5, 696), (279, 2, 1, 638), (283, 5, 1, 441), (310, 4, 5, 306), (318, 6, 6, 1150), (335, 9, 0, 376), (344, 5, 0, 436), (347, 5, 3, 447), (354, 10, 16, 475), (357, 10, 17, 478), (366, 1, 6, 699), (375, 1, 0, 686), (382, 1, 3, 692), (385, 1, 4, 694), (392, 3, 0, 555), (415, 11, 16, 762)]
  | 12 => [(9, 12, 0, 2842), (15, 12, 1, 2844), (18, 12, 2, 2846), (22, 12, 3, 2848)]
  | 13 => [(12, 13, 0, 2861), (18, 13, 5, 2867), (22, 13, 6, 2869), (25, 13, 7, 2871), (28, 13, 8, 2873), (33, 13, 9, 2875), (36, 13, 11, 2878), (39, 13, 12, 2880), (42, 13, 13, 2882), (45, 13, 14, 2884), (48, 13, 15, 2886), (51, 13, 18, 2890), (54, 13, 19, 2892), (57, 13, 20, 2894), (60, 13, 21, 2896), (63, 13, 22, 2898), (66, 13, 23, 2900), (69, 13, 24, 2902), (72, 13, 25, 2904), (75, 13, 26, 2906), (78, 13, 28, 2910), (81, 13, 29, 2912), (84, 13, 30, 2914), (87, 13, 31, 2916), (90, 13, 32, 2918), (93, 13, 34, 2922), (97, 13, 35, 2924), (103, 13, 33, 2920), (106, 13, 27, 2908)]
  | 14 => [(9, 14, 0, 2679), (15, 14, 1, 2681), (19, 14, 2, 2683), (22, 14, 3, 2685), (25, 14, 4, 2687), (28, 14, 5, 2689), (32, 14, 6, 2691), (35, 14, 7, 2693), (38, 14, 10, 2698), (41, 14, 11, 2700), (44, 14, 12, 2702), (47, 14, 13, 2704), (50, 14, 15, 2707), (53, 14, 16, 2709), (56, 14, 17, 2711), (59, 14, 18, 2713), (62, 14, 19, 2715), (65, 14, 20, 2717), (68, 14, 21, 2719), (71, 14, 22, 2721), (74, 14, 23, 2723), (77, 14, 24, 2725), (80, 14, 25, 2727), (83, 14, 26, 2729), (86, 14, 27, 2731), (89, 14, 28, 2733), (92, 14, 29, 2735), (95, 14, 30, 2737), (98, 14, 31, 2739), (101, 14, 32, 2741), (104, 14, 33, 2743), (107, 14, 34, 2745), (110, 14, 35, 2747), (113, 14, 36, 2749), (116, 14, 8, 2695)]
  | 15 => [(3, 15, 1, 3006), (7, 15, 0, 3005), (11, 15, 7, 3012), (14, 15, 5, 3010), (17, 15, 8, 3013), (20, 15, 11, 3016), (32, 15, 6, 3011), (43, 15, 4, 3009), (46, 15, 2, 3007), (71, 15, 9, 3014), (82, 15, 10, 3015), (105, 15, 3, 3008), (129, 15, 12, 3017), (132, 15, 13, 3018), (135, 15, 14, 3019), (138, 15, 15, 3020), (141, 15, 16, 3021), (144, 15, 17, 3022), (147, 15, 18, 3023), (150, 15, 19, 3024), (160, 15, 21, 3026), (166, 14, 8, 2696), (171, 14, 9, 2697), (174, 14, 14, 2706), (177, 14, 37, 2751), (180, 14, 1, 2682), (184, 14, 2, 2684), (187, 14, 5, 2690), (191, 14, 6, 2692), (194, 14, 7, 2694), (197, 15, 22, 3027), (201, 14, 10, 2699), (204, 14, 11, 2701), (207, 14, 12, 2703), (210, 14, 13, 2705), (217, 14, 0, 2680), (259, 15, 23, 3028), (262, 15, 24, 3029), (265, 15, 25, 3030), (268, 14, 21, 2720), (271, 14, 22, 2722), (274, 14, 17, 2712), (277, 14, 18, 2714), (280, 14, 19, 2716), (283, 14, 20, 2718), (292, 14, 15, 2708), (295, 14, 16, 2710), (301, 14, 23, 2724), (310, 14, 24, 2726), (313, 14, 25, 2728), (315, 14, 26, 2730), (318, 14, 35, 2748), (321, 14, 36, 2750), (351, 14, 30, 2738), (357, 14, 27, 2732), (360, 14, 31, 2740), (363, 14, 28, 2734), (366, 14, 32, 2742), (373, 14, 29, 2736), (376, 14, 33, 2744), (379, 14, 34, 2746), (382, 15, 26, 3031), (385, 15, 27, 3032), (421, 14, 3, 2686), (424, 15, 28, 3033), (427, 14, 4, 2688), (430, 15, 33, 3038), (433, 15, 32, 3037), (439, 15, 29, 3034), (450, 15, 34, 3039), (453, 15, 42, 3047), (456, 15, 36, 3041), (459, 15, 35, 3040), (479, 15, 37, 3042), (482, 15, 40, 3045), (485, 15, 41, 3046), (498, 15, 43, 3048), (501, 15, 39, 3044), (539, 15, 44, 3049), (542, 15, 38, 3043), (556, 15, 51, 3056), (562, 15, 47, 3052), (565, 15, 45, 3050), (568, 15, 46, 3051), (571, 15, 48, 3053), (574, 15, 52, 3057), (577, 15, 49, 3054), (580, 15, 53, 3058), (583, 15, 54, 3059), (586, 15, 50, 3055), (589, 15, 59, 3064), (592, 15, 57, 3062), (595, 15, 58, 3063), (598, 15, 55, 3060), (601, 15, 56, 3061), (607, 15, 60, 3065), (630, 15, 69, 3074), (633, 15, 71, 3076), (636, 15, 72, 3077), (639, 15, 70, 3075), (642, 15, 67, 3072), (645, 15, 68, 3073), (655, 15, 65, 3070), (658, 15, 64, 3069), (661, 15, 66, 3071), (664, 15, 62, 3067), (667, 15, 61, 3066), (671, 13, 1, 2863), (679, 13, 0, 2862), (690, 12, 3, 2849), (694, 12, 0, 2843), (695, 12, 2, 2847), (696, 12, 1, 2845), (699, 15, 74, 3079), (702, 13, 34, 2923), (705, 15, 76, 3081), (715, 13, 33, 2921), (722, 15, 63, 3068), (728, 15, 77, 3082), (734, 13, 14, 2885), (737, 13, 17, 2889), (740, 13, 2, 2864), (743, 13, 15, 2887), (746, 13, 4, 2866), (749, 13, 21, 2897), (774, 15, 30, 3035), (777, 13, 31, 2917), (778, 13, 29, 2913), (779, 13, 32, 2919), (780, 13, 28, 2911), (788, 13, 5, 2868), (791, 13, 10, 2877), (794, 13, 6, 2870), (797, 13, 8, 2874), (800, 13, 7, 2872), (803, 13, 9, 2876), (806, 13, 22, 2899), (825, 13, 24, 2903), (828, 13, 27, 2909), (831, 13, 25, 2905), (834, 13, 26, 2907), (837, 13, 3, 2865), (844, 13, 11, 2879), (847, 13, 16, 2888), (850, 13, 12, 2881), (853, 13, 13, 2883), (858, 15, 80, 3085), (865, 13, 18, 2891), (868, 13, 35, 2925), (871, 13, 36, 2926), (894, 13, 19, 2893), (926, 15, 82, 3087), (929, 15, 83, 3088), (932, 15, 81, 3086), (943, 15, 84, 3089), (946, 15, 89, 3094), (949, 15, 85, 3090), (952, 15, 86, 3091), (955, 15, 87, 3092), (958, 15, 88, 3093), (964, 15, 90, 3095), (986, 15, 20, 3025), (999, 15, 92, 3097), (1002, 15, 93, 3098), (1005, 15, 94, 3099), (1007, 15, 95, 3100), (1023, 15, 98, 3103), (1026, 15, 99, 3104), (1029, 15, 96, 3101), (1045, 13, 20, 2895), (1048, 13, 23, 2901), (1051, 15, 91, 3096), (1068, 15, 78, 3083), (1071, 15, 79, 3084), (1074, 15, 97, 3102), (1077, 13, 30, 2915), (1106, 15, 31, 3036), (1112, 15, 75, 3080), (1116, 15, 100, 3105), (1119, 15, 101, 3106), (1122, 15, 102, 3107), (1125, 15, 103, 3108), (1128, 15, 104, 3109), (1131, 15, 73, 3078), (1141, 15, 105, 3110), (1144, 15, 106, 3111)]
  | _ => []
def xj_cT : Nat → List (Nat × Nat × Nat × Nat × Nat × Nat) := fun o => match o with
  | 0 => [(3, 3, 0, 1449, 251, 252), (19, 0, 2, 1450, 1452, 47), (23, 0, 1, 1454, 1456, 48)]
  | 1 => [(3, 3, 0, 681, 251, 252), (72, 0, 78, 1880, 1680, 1681), (76, 0, 74, 1881, 1520, 1521), (83, 0, 8, 1882, 1430, 1431), (104, 0, 5, 1837, 1418, 1419), (108, 2, 382, 1838, 1582, 0), (117, 0, 7, 1839, 1484, 1485)]
  | 2 => [(3, 3, 0, 630, 251, 252), (34, 0, 21, 1797, 1496, 1497), (38, 1, 68, 1930, 431, 0), (41, 0, 83, 1798, 1704, 1705)]
  | 3 => [(3, 3, 0, 549, 251, 252), (54, 0, 20, 1499, 1091, 1092), (58, 0, 21, 1875, 1496, 1497), (68, 0, 90, 1390, 1351, 1352), (82, 0, 25, 1393, 1395, 46), (85, 0, 27, 1397, 1398, 1399), (92, 0, 26, 1401, 1402, 1403)]
  | 4 => [(3, 3, 0, 298, 251, 252), (47, 0, 34, 999, 1001, 10), (58, 0, 41, 1003, 1005, 11), (61, 0, 42, 1110, 1112, 20), (64, 0, 43, 1114, 1116, 21), (67, 0, 35, 1118, 1120, 22), (70, 0, 45, 1300, 1302, 36), (73, 0, 37, 1007, 1009, 12), (76, 0, 38, 1094, 1096, 17), (83, 0, 36, 1015, 1017, 14), (93, 0, 88, 1312, 1313, 1314), (99, 0, 47, 1011, 1013, 13), (103, 0, 48, 1086, 1088, 16), (107, 0, 51, 1279, 1281, 32), (110, 0, 39, 1296, 1298, 35), (114, 0, 40, 1102, 1104, 19), (121, 0, 52, 1266, 1268, 29), (129, 0, 53, 1238, 1240, 24), (135, 2, 383, 1444, 1317, 0), (141, 2, 384, 1445, 1331, 0), (144, 1, 0, 1446, 1447, 0), (158, 4, 87, 1124, 1125, 0), (165, 0, 50, 1098, 1100, 18), (178, 0, 23, 1106, 1107, 1108), (194, 0, 44, 1234, 1236, 23), (219, 0, 49, 1275, 1277, 31), (228, 0, 46, 1304, 1306, 37), (231, 0, 124, 1082, 1083, 1084), (234, 0, 89, 1308, 1309, 1310), (254, 0, 20, 1090, 1091, 1092), (268, 0, 126, 1283, 1284, 1285), (277, 0, 125, 1242, 1243, 1244), (280, 0, 60, 1247, 1249, 25), (283, 0, 54, 1262, 1264, 28), (286, 0, 56, 1271, 1273, 30), (290, 2, 55, 1255, 1256, 0), (293, 0, 59, 1288, 1290, 33), (296, 0, 57, 1258, 1260, 27), (299, 0, 61, 1292, 1294, 34), (302, 0, 58, 1251, 1253, 26), (305, 0, 65, 1370, 1372, 43), (308, 0, 66, 1374, 1376, 44), (311, 0, 67, 1378, 1380, 45), (314, 0, 95, 1382, 1383, 1384), (317, 0, 24, 1386, 1387, 1388), (320, 0, 28, 1405, 1406, 1407)]
  | 5 => [(3, 3, 0, 433, 251, 252), (26, 0, 71, 1527, 1528, 1529), (30, 0, 73, 1523, 1524, 1525), (40, 0, 69, 1508, 1509, 1510), (44, 2, 388, 1512, 955, 0), (50, 1, 68, 1701, 431, 0), (53, 0, 79, 1702, 1505, 1506), (57, 0, 72, 1551, 1552, 1553), (61, 0, 78, 1864, 1680, 1681), (65, 0, 75, 1865, 1536, 1537), (69, 0, 86, 1866, 1868, 80)]
  | 6 => [(3, 3, 0, 1127, 251, 252), (50, 2, 383, 1316, 1317, 0), (59, 2, 384, 1330, 1331, 0), (65, 0, 96, 1338, 1340, 38), (71, 0, 90, 1350, 1351, 1352), (75, 0, 92, 1354, 1356, 41), (79, 0, 93, 1346, 1348, 40), (82, 0, 91, 1358, 1359, 1360), (85, 0, 94, 1342, 1344, 39), (92, 0, 97, 1362, 1364, 42)]
  | 7 => [(3, 3, 0, 521, 251, 252), (56, 0, 100, 1718, 1720, 70), (59, 0, 102, 1725, 1727, 71), (62, 0, 103, 1765, 1767, 76), (75, 2, 101, 1722, 1723, 0), (81, 0, 3, 1730, 1731, 1732), (89, 0, 105, 1736, 1738, 72), (93, 0, 104, 1769, 1771, 77), (115, 0, 20, 1758, 1091, 1092), (123, 0, 106, 1741, 1743, 73), (127, 5, 192, 1763, 1637, 0), (131, 2, 386, 1764, 952, 0), (137, 0, 107, 1745, 1747, 74), (141, 0, 109, 1754, 1756, 75), (146, 2, 108, 1750, 1751, 0), (166, 0, 70, 1760, 1612, 1613), (170, 2, 389, 1761, 929, 0), (174, 2, 387, 1762, 1673, 0)]
  | 8 => [(3, 3, 0, 258, 251, 252), (39, 0, 113, 819, 821, 0), (43, 2, 121, 823, 824, 0), (47, 0, 114, 826, 828, 1), (50, 2, 122, 909, 910, 0), (53, 0, 117, 912, 914, 6), (56, 2, 123, 830, 831, 0), (59, 0, 118, 921, 923, 8), (62, 0, 119, 931, 933, 9), (65, 0, 120, 905, 907, 5), (71, 0, 127, 834, 836, 2), (75, 0, 115, 841, 843, 3), (81, 0, 116, 846, 848, 4), (111, 0, 128, 917, 919, 7), (120, 2, 389, 928, 929, 0)]
  | 9 => [(3, 3, 0, 373, 251, 252), (59, 2, 382, 1581, 1582, 0), (77, 0, 134, 1594, 1596, 55), (81, 0, 133, 1599, 1601, 56), (85, 0, 135, 1603, 1605, 57), (89, 0, 138, 1619, 1621, 60), (92, 0, 139, 1623, 1625, 61), (110, 0, 73, 1598, 1524, 1525), (116, 0, 136, 1607, 1609, 58), (120, 0, 137, 1615, 1617, 59), (127, 0, 70, 1611, 1612, 1613), (131, 0, 140, 1627, 1629, 62), (135, 0, 141, 1632, 1634, 63), (141, 0, 91, 1631, 1359, 1360), (156, 5, 192, 1636, 1637, 0)]
  | 10 => [(3, 3, 0, 426, 251, 252), (29, 1, 68, 430, 431, 0), (82, 0, 21, 1495, 1496, 1497), (107, 0, 79, 1504, 1505, 1506), (123, 0, 147, 1515, 1517, 49), (130, 0, 148, 1543, 1545, 50), (134, 0, 74, 1519, 1520, 1521), (138, 0, 77, 1531, 1532, 1533), (141, 0, 75, 1535, 1536, 1537), (145, 0, 76, 1539, 1540, 1541), (149, 0, 81, 1547, 1548, 1549), (153, 0, 27, 1559, 1398, 1399), (157, 0, 26, 1560, 1402, 1403), (160, 0, 150, 1561, 1563, 51), (181, 0, 151, 1566, 1568, 52), (185, 0, 153, 1573, 1575, 53), (192, 0, 155, 1584, 1586, 54), (196, 0, 157, 1655, 1657, 65), (198, 0, 154, 1684, 1686, 69), (201, 0, 69, 1565, 1509, 1510), (207, 2, 152, 1570, 1571, 0), (216, 0, 130, 1577, 1578, 1579), (228, 0, 78, 1679, 1680, 1681), (233, 0, 132, 1589, 1590, 1591), (237, 0, 142, 1647, 1648, 1649), (241, 0, 156, 1651, 1653, 64), (259, 0, 158, 1660, 1662, 66), (263, 0, 159, 1664, 1666, 67), (267, 0, 161, 1675, 1677, 68), (273, 2, 160, 1668, 1669, 0), (277, 2, 389, 1671, 929, 0), (283, 2, 387, 1672, 1673, 0), (288, 0, 82, 1692, 1693, 1694), (291, 0, 80, 1696, 1697, 1698), (295, 0, 83, 1703, 1704, 1705), (299, 1, 14, 1708, 628, 0), (314, 2, 382, 1960, 1582, 0), (320, 0, 164, 1961, 1963, 81), (324, 0, 167, 1983, 1985, 84), (328, 0, 91, 1965, 1359, 1360), (331, 0, 131, 1966, 1967, 1968), (335, 0, 165, 1970, 1972, 82), (341, 0, 166, 1974, 1976, 83), (344, 0, 143, 1978, 1979, 1980)]
  | 11 => [(1, 3, 0, 250, 251, 252), (9, 4, 110, 255, 256, 0), (18, 1, 29, 295, 296, 0), (27, 4, 129, 370, 371, 0), (34, 1, 144, 423, 424, 0), (43, 4, 98, 518, 519, 0), (60, 1, 68, 541, 431, 0), (81, 1, 19, 546, 547, 0), (84, 1, 14, 627, 628, 0), (98, 2, 381, 674, 675, 0), (104, 1, 4, 678, 679, 0), (110, 0, 111, 802, 803, 804), (116, 0, 112, 815, 816, 817), (119, 0, 30, 995, 996, 997), (128, 0, 62, 1366, 1367, 1368), (145, 0, 5, 1417, 1418, 1419), (152, 0, 32, 1421, 1422, 1423), (155, 0, 64, 1425, 1426, 1427), (174, 0, 8, 1429, 1430, 1431), (178, 0, 33, 1438, 1439, 1440), (192, 0, 7, 1483, 1484, 1485), (195, 0, 145, 1491, 1492, 1493), (202, 0, 146, 1500, 1501, 1502), (212, 0, 149, 1555, 1556, 1557), (219, 0, 162, 1688, 1689, 1690), (226, 0, 99, 1709, 1710, 1711), (233, 0, 10, 1773, 1774, 1775), (237, 0, 11, 1777, 1778, 1779), (255, 0, 16, 1785, 1786, 1787), (284, 0, 18, 1793, 1794, 1795), (288, 0, 15, 1913, 1914, 1915), (292, 0, 70, 1917, 1612, 1613), (296, 0, 17, 1925, 1926, 1927), (300, 0, 84, 1931, 1932, 1933), (304, 0, 31, 1803, 1804, 1805), (307, 0, 63, 1807, 1808, 1809), (314, 0, 179, 1811, 1813, 78), (323, 0, 69, 1815, 1509, 1510), (326, 0, 130, 1816, 1578, 1579), (331, 0, 132, 1818, 1590, 1591), (336, 0, 74, 1819, 1520, 1521), (340, 0, 76, 1820, 1540, 1541), (350, 0, 163, 1956, 1957, 1958), (371, 0, 6, 1825, 1826, 1827), (379, 0, 12, 1833, 1834, 1835), (388, 0, 13, 1844, 1845, 1846), (395, 0, 190, 1856, 1858, 79), (399, 0, 22, 1871, 1872, 1873), (403, 0, 9, 1876, 1877, 1878), (407, 0, 85, 1860, 1861, 1862), (411, 0, 78, 1870, 1680, 1681), (422, 2, 385, 1642, 1643, 0)]
  | 12 => [(3, 3, 0, 2841, 251, 252), (26, 2, 195, 2412, 2413, 0), (30, 0, 196, 2407, 2409, 166), (34, 0, 200, 2415, 2417, 167)]
  | 13 => [(3, 3, 0, 2836, 251, 252), (11, 4, 193, 2838, 2839, 0), (100, 0, 202, 2860, 2396, 2397)]
  | 14 => [(3, 3, 0, 2678, 251, 252)]
  | 15 => [(24, 0, 214, 2032, 2034, 89), (28, 0, 211, 2080, 2082, 95), (35, 0, 210, 2100, 2102, 100), (39, 0, 209, 2036, 2038, 90), (49, 2, 206, 2040, 2041, 0), (53, 0, 216, 2043, 2045, 91), (56, 2, 207, 2057, 2058, 0), (59, 0, 217, 2060, 2062, 92), (62, 2, 208, 2047, 2048, 0), (65, 0, 218, 2065, 2067, 93), (68, 0, 219, 2074, 2076, 94), (77, 2, 215, 2051, 2052, 0), (97, 2, 389, 2072, 929, 0), (115, 0, 220, 2128, 2130, 106), (118, 0, 213, 2096, 2098, 99), (153, 0, 221, 2088, 2090, 97), (156, 0, 224, 2112, 2114, 103), (163, 0, 226, 2108, 2110, 102), (213, 0, 205, 2120, 2121, 2122), (221, 0, 228, 2024, 2026, 87), (225, 0, 212, 2028, 2030, 88), (229, 0, 225, 2084, 2086, 96), (232, 0, 234, 2092, 2094, 98), (235, 0, 235, 2140, 2142, 109), (238, 0, 237, 2144, 2146, 110), (241, 0, 230, 2116, 2118, 104), (245, 0, 232, 2104, 2106, 101), (248, 0, 222, 2124, 2126, 105), (251, 0, 233, 2132, 2134, 107), (255, 0, 229, 2136, 2138, 108), (286, 0, 236, 2148, 2150, 111), (289, 0, 238, 2152, 2154, 112), (298, 0, 246, 2188, 2190, 121), (304, 0, 243, 2156, 2158, 113), (307, 0, 239, 2164, 2166, 115), (324, 0, 240, 2168, 2170, 116), (328, 0, 227, 2172, 2174, 117), (331, 0, 241, 2160, 2162, 114), (334, 0, 244, 2176, 2178, 118), (337, 0, 245, 2180, 2182, 119), (340, 0, 242, 2184, 2186, 120), (344, 0, 247, 2192, 2194, 122), (347, 0, 249, 2196, 2198, 123), (354, 0, 248, 2204, 2206, 125), (369, 0, 250, 2200, 2202, 124), (388, 2, 253, 2212, 2213, 0), (392, 0, 251, 2215, 2217, 127), (395, 0, 254, 2219, 2221, 128), (398, 0, 258, 2223, 2225, 129), (402, 0, 259, 2236, 2238, 130), (405, 2, 260, 2240, 2241, 0), (409, 2, 255, 2230, 2231, 0), (413, 2, 256, 2233, 2234, 0), (417, 2, 257, 2227, 2228, 0), (436, 0, 261, 2263, 2265, 135), (442, 2, 262, 2267, 2268, 0), (446, 0, 263, 2259, 2261, 134), (462, 0, 268, 2326, 2328, 150), (466, 2, 267, 2330, 2331, 0), (469, 2, 269, 2333, 2334, 0), (475, 2, 385, 2336, 1643, 0), (488, 0, 270, 2318, 2320, 148), (491, 0, 271, 2379, 2381, 161), (494, 0, 273, 2387, 2389, 163), (504, 0, 276, 2306, 2308, 145), (507, 0, 275, 2302, 2304, 144), (510, 0, 272, 2346, 2348, 153), (514, 0, 274, 2383, 2385, 162), (517, 0, 277, 2310, 2312, 146), (520, 0, 279, 2338, 2340, 151), (523, 0, 283, 2354, 2356, 155), (526, 0, 278, 2314, 2316, 147), (529, 0, 266, 2322, 2324, 149), (533, 0, 280, 2342, 2344, 152), (536, 0, 281, 2350, 2352, 154), (545, 0, 282, 2358, 2360, 156), (548, 0, 284, 2362, 2364, 157), (551, 0, 287, 2366, 2368, 158), (553, 0, 285, 2371, 2373, 159), (559, 0, 286, 2375, 2377, 160), (604, 2, 387, 2370, 1673, 0), (610, 0, 289, 2391, 2393, 164), (614, 0, 291, 2286, 2288, 140), (617, 0, 293, 2294, 2296, 142), (620, 0, 292, 2290, 2292, 141), (623, 0, 288, 2298, 2300, 143), (626, 0, 264, 2255, 2257, 133), (648, 0, 231, 2020, 2022, 86), (652, 0, 252, 2208, 2210, 126), (676, 0, 295, 2015, 2017, 85), (683, 0, 297, 2270, 2272, 136), (687, 0, 290, 2282, 2284, 139), (708, 0, 194, 2243, 2244, 2245), (711, 0, 299, 2247, 2249, 131), (718, 0, 301, 2274, 2276, 137), (725, 0, 202, 2395, 2396, 2397), (731, 0, 302, 2399, 2401, 165), (751, 0, 203, 2419, 2420, 2421), (754, 0, 304, 2423, 2425, 168), (758, 0, 305, 2435, 2437, 170), (762, 0, 306, 2439, 2441, 171), (765, 0, 354, 2448, 2450, 173), (768, 0, 308, 2541, 2543, 194), (771, 0, 300, 2251, 2253, 132), (782, 0, 265, 2278, 2280, 138), (785, 0, 198, 2403, 2404, 2405), (809, 0, 197, 2427, 2428, 2429), (813, 0, 303, 2431, 2433, 169), (817, 2, 195, 2443, 2413, 0), (821, 0, 307, 2444, 2446, 172), (840, 2, 309, 2545, 2546, 0), (856, 0, 199, 2564, 2565, 2566), (861, 0, 311, 2560, 2562, 197), (874, 0, 310, 2552, 2554, 195), (878, 0, 312, 2556, 2558, 196), (881, 0, 313, 2568, 2570, 198), (884, 0, 296, 2572, 2574, 199), (887, 0, 346, 2452, 2454, 174), (890, 2, 316, 2580, 2581, 0), (897, 0, 319, 2591, 2593, 200), (900, 0, 318, 2599, 2588, 2589), (903, 0, 321, 2600, 2602, 201), (906, 0, 323, 2612, 2614, 203), (910, 0, 324, 2620, 2622, 205), (914, 0, 327, 2608, 2610, 202), (918, 0, 328, 2624, 2626, 206), (922, 0, 325, 2616, 2618, 204), (935, 2, 322, 2628, 2629, 0), (939, 2, 329, 2631, 2632, 0), (961, 0, 332, 2468, 2470, 178), (967, 0, 334, 2472, 2474, 179), (970, 0, 335, 2476, 2478, 180), (973, 0, 331, 2484, 2486, 182), (977, 0, 338, 2480, 2482, 181), (980, 0, 336, 2488, 2490, 183), (983, 0, 337, 2492, 2494, 184), (989, 0, 339, 2496, 2498, 185), (992, 0, 340, 2500, 2502, 186), (995, 0, 333, 2464, 2466, 177), (1010, 0, 341, 2460, 2462, 176), (1014, 0, 342, 2504, 2506, 187), (1017, 2, 345, 2508, 2509, 0), (1020, 0, 344, 2456, 2458, 175), (1032, 2, 348, 2511, 2512, 0), (1036, 2, 343, 2514, 2515, 0), (1039, 0, 347, 2517, 2519, 188), (1042, 0, 349, 2521, 2523, 189), (1054, 0, 350, 2525, 2527, 190), (1058, 0, 351, 2529, 2531, 191), (1061, 0, 352, 2533, 2535, 192), (1064, 0, 353, 2537, 2539, 193), (1080, 0, 361, 2646, 2648, 207), (1083, 0, 294, 2650, 2652, 208), (1086, 3, 0, 2658, 251, 252), (1092, 2, 223, 2660, 2661, 0), (1105, 4, 204, 2675, 2676, 0), (1110, 1, 201, 2833, 2834, 0), (1115, 4, 193, 3004, 2839, 0), (1134, 0, 362, 3343, 3345, 209), (1136, 0, 366, 3355, 3357, 210), (1139, 0, 369, 3367, 3369, 211), (1147, 0, 371, 3379, 3381, 212), (1150, 0, 375, 3391, 3393, 213), (1153, 0, 376, 3395, 3397, 214)]
  | 16 => [(7, 0, 175, 1887, 1888, 1889), (15, 0, 176, 1909, 1910, 1911), (19, 0, 178, 1921, 1922, 1923), (23, 0, 180, 1938, 1939, 1940), (26, 0, 181, 1945, 1946, 1947), (29, 0, 182, 1952, 1953, 1954), (33, 0, 183, 1990, 1991, 1992), (36, 0, 185, 2000, 2001, 2002), (40, 0, 191, 2007, 2008, 2009), (44, 1, 168, 247, 248, 0), (47, 1, 357, 2655, 2656, 0), (48, 0, 169, 798, 799, 800), (52, 0, 359, 3331, 3332, 3333), (53, 0, 170, 806, 807, 808), (57, 0, 360, 3335, 3336, 3337), (62, 0, 363, 3339, 3340, 3341), (63, 0, 171, 1409, 1410, 1411), (66, 0, 364, 3347, 3348, 3349), (70, 0, 365, 3351, 3352, 3353), (74, 0, 356, 2642, 2643, 2644), (75, 0, 172, 1479, 1480, 1481), (78, 0, 367, 3359, 3360, 3361), (79, 0, 173, 1487, 1488, 1489), (82, 0, 298, 2011, 2012, 2013), (83, 0, 174, 1781, 1782, 1783), (87, 0, 377, 3399, 3400, 3401), (93, 0, 378, 3403, 3404, 3405), (94, 0, 358, 3327, 3328, 3329), (100, 0, 372, 3375, 3376, 3377), (101, 0, 177, 1789, 1790, 1791), (104, 0, 379, 3407, 3408, 3409), (107, 0, 380, 3411, 3412, 3413), (111, 0, 368, 3363, 3364, 3365), (114, 0, 370, 3371, 3372, 3373), (117, 0, 373, 3383, 3384, 3385), (120, 0, 374, 3387, 3388, 3389), (123, 0, 355, 2638, 2639, 2640), (124, 0, 184, 1821, 1822, 1823), (127, 0, 318, 2587, 2588, 2589), (131, 0, 320, 2595, 2596, 2597), (132, 0, 186, 1829, 1830, 1831), (135, 0, 314, 2548, 2549, 2550), (136, 0, 187, 1840, 1841, 1842), (139, 0, 315, 2576, 2577, 2578), (140, 0, 188, 1848, 1849, 1850), (143, 0, 317, 2583, 2584, 2585), (144, 0, 189, 1852, 1853, 1854), (147, 0, 326, 2604, 2605, 2606), (151, 0, 330, 2634, 2635, 2636)]
  | 17 => [(304, 2, 388, 1326, 955, 0)]
  | _ => []
def xj_nT : Nat → List (Nat × Nat × Nat × Nat × Nat) := fun o => match o with
  | 1 => [(9, 2, 682, 543, 223), (42, 0, 684, 1443, 243)]
  | 2 => [(26, 5, 1929, 429, 221)]
  | 3 => [(32, 6, 550, 1123, 241)]
  | 4 => [(94, 6, 1122, 1123, 241), (133, 0, 1442, 1443, 243)]
  | 5 => [(10, 5, 1700, 429, 221)]
  | 10 => [(9, 5, 427, 429, 221), (77, 2, 1707, 543, 223)]
  | 11 => [(7, 8, 253, 254, 217), (16, 4, 293, 294, 218), (25, 9, 368, 369, 219), (32, 10, 421, 422, 220), (41, 7, 516, 517, 222), (48, 1, 538, 677, 226), (58, 5, 540, 429, 221), (77, 2, 542, 543, 223), (79, 3, 544, 545, 224), (87, 0, 671, 1443, 243)]
  | 13 => [(9, 12, 2837, 2410, 234)]
  | 15 => [(167, 14, 2673, 2674, 232), (672, 13, 2830, 2832, 233), (691, 12, 3003, 2410, 234)]
  | 16 => [(8, 11, 245, 246, 216), (45, 15, 2654, 2018, 227)]
  | _ => []
def xj_aT : Nat → List (Nat × Nat × Nat × Nat) := fun o => match o with
  | 1 => [(9, 2, 682, 683), (42, 0, 684, 672)]
  | 2 => [(26, 5, 1929, 428)]
  | 3 => [(32, 6, 550, 551)]
  | 4 => [(94, 6, 1122, 551), (133, 0, 1442, 672)]
  | 5 => [(10, 5, 1700, 428)]
  | 10 => [(9, 5, 427, 428), (77, 2, 1707, 683)]
  | 11 => [(48, 1, 538, 539), (58, 5, 540, 428), (77, 2, 542, 683), (87, 0, 671, 672)]
  | 15 => [(672, 13, 2830, 2831)]
  | _ => []
def xj_lT : Nat → List (Nat × Int64 × Nat) := fun o => match o with
  | 4 => [(240, (-1 : Int64), 1270), (272, (1000000000000 : Int64), 1287)]
  | 7 => [(79, (-1 : Int64), 1729), (85, (9000000000000000000 : Int64), 1734), (87, (-8999999999999999999 : Int64), 1735), (121, (-1000000000000 : Int64), 1740), (144, (1000000000000 : Int64), 1749), (150, (-8999999999999999997 : Int64), 1753), (155, (-8999999999999999996 : Int64), 1759)]
  | 8 => [(69, (38 : Int64), 833), (109, (63 : Int64), 916), (114, (10 : Int64), 925), (116, (48 : Int64), 926), (118, (1000000000001 : Int64), 927), (133, (-1 : Int64), 838), (135, (27 : Int64), 839), (137, (2000000000000 : Int64), 840)]
  | 9 => [(139, (-1000000000000 : Int64), 1646)]
  | 10 => [(257, (1000000000000 : Int64), 1659), (286, (-1000000000000 : Int64), 1683)]
  | 11 => [(96, (9000000000000000000 : Int64), 673), (360, (-1000000000000 : Int64), 1639), (362, (2 : Int64), 1994), (364, (-9000000000000000000 : Int64), 1995), (369, (-1 : Int64), 1996), (418, (1000000000000 : Int64), 1640), (420, (-8999999999999999998 : Int64), 1641), (428, (-8999999999999999997 : Int64), 1645)]
  | 15 => [(75, (38 : Int64), 2050), (80, (-1 : Int64), 2054), (85, (27 : Int64), 2055), (87, (2000000000000 : Int64), 2056), (89, (64 : Int64), 2064), (91, (4000000000000 : Int64), 2069), (93, (10 : Int64), 2070), (95, (48 : Int64), 2071), (103, (1000000000000 : Int64), 2073), (473, (-1000000000000 : Int64), 2337)]
  | _ => []
def xj_iT : Nat → List (Nat × Int32 × Nat) := fun o => match o with
  | 9 => [(65, (1000000000 : Int32), 1593)]
  | 10 => [(232, (10000000 : Int32), 1588)]
  | 11 => [(330, (10000000 : Int32), 1817)]
  | 13 => [(32, (48000 : Int32), 2859)]
  | 15 => [(1109, (33280 : Int32), 2829), (1111, (90000 : Int32), 3002)]
  | _ => []
-- arrayClass: {'char': 290, 'int': 291, 'long': 292, 'boolean': 626, 'byte': 1081}
def xj_ty : Nat → Nat → FieldType := fun c => match c with
  | 0 => tyX0
  | 1 => tyX1
  | 2 => tyX2
  | 3 => tyX3
  | 4 => tyX4
  | 5 => tyX5
  | 6 => tyX6
  | 7 => tyX7
  | 8 => tyX8
  | 9 => tyX9
  | 10 => tyX10
  | 11 => tyX11
  | 12 => tyX12
  | 13 => tyX13
  | 14 => tyX14
  | _ => tyX15
