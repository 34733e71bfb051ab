/-! ===== the cells of both objects by number, the methods by number (printed by wip/gen/tables.py) ===== -/
/-- a cell: (0, kind of object, fields: 0 a number, 1 a text, 2 + t the cell t); (1, n) ints, (2, n) longs, (3, n) booleans; (4, kind, cells) references -/
def shp_0 : List (Nat × Nat × List Nat) := [(0, 11, [3, 5, 8, 11, 15, 24, 25, 26, 37, 41, 47, 55, 61, 66, 71]), (0, 9, [4, 0, 0]), (1, 168, []), (0, 2, [3, 6, 7, 0]), (1, 24, []), (1, 24, []), (0, 2, [3, 9, 10, 0]), (1, 24, []), (1, 24, []), (0, 6, [12, 13, 0, 0, 0, 0, 1, 0, 0, 0]), (1, 900, []), (0, 9, [14, 0, 0]), (1, 168, []), (4, 0, [14, 16, 18, 20]), (0, 7, [17, 0, 0]), (2, 40, [])]
def shp_1 : List (Nat × Nat × List Nat) := [(0, 7, [19, 0, 0]), (2, 40, []), (0, 7, [21, 0, 0]), (2, 40, []), (0, 7, [23, 0, 0]), (2, 40, []), (4, 1, [25, 30]), (4, 2, [27, 32]), (3, 2, []), (0, 9, [28, 0, 0]), (1, 168, []), (0, 2, [27, 30, 31, 0]), (1, 24, []), (1, 24, []), (0, 9, [33, 0, 0]), (1, 168, [])]
def shp_2 : List (Nat × Nat × List Nat) := [(0, 2, [32, 35, 36, 0]), (1, 24, []), (1, 24, []), (0, 4, [3, 38, 0, 0, 0]), (0, 2, [3, 39, 40, 0]), (1, 24, []), (1, 24, []), (0, 5, [3, 42, 43, 44, 45, 46, 0]), (1, 12, []), (1, 128, []), (1, 128, []), (1, 128, []), (1, 128, []), (0, 1, [3, 41, 48, 49, 50, 51, 52, 53, 54, 0]), (1, 1024, []), (1, 1024, [])]
def shp_3 : List (Nat × Nat × List Nat) := [(1, 1024, []), (1, 8, []), (1, 8, []), (1, 8, []), (1, 8, []), (0, 8, [3, 56, 57, 58, 59, 60, 0, 0, 0]), (1, 6, []), (1, 24, []), (1, 8, []), (1, 8, []), (1, 8, []), (0, 0, [41, 62, 63, 64, 65, 0, 0, 0]), (1, 12, []), (1, 12, []), (1, 12, []), (1, 4096, [])]
def shp_4 : List (Nat × Nat × List Nat) := [(0, 3, [3, 67, 68, 69, 70, 0]), (1, 2048, []), (1, 8, []), (1, 8, []), (1, 8, []), (0, 10, [3, 5, 72, 73, 74, 75, 0]), (1, 5, []), (1, 5, []), (1, 32, []), (1, 32, []), (0, 12, [0, 77, 78, 79, 80, 0, 0, 0, 0, 0, 0, 0, 0, 0, 0, 81, 0, 0, 82, 0, 83, 84, 85, 86, 0, 0, 87, 88, 0, 89, 90, 0, 0, 91, 92, 93, 94, 95, 96, 97]), (1, 660, []), (3, 2, []), (1, 900, []), (1, 171, []), (1, 49, [])]
def shp_5 : List (Nat × Nat × List Nat) := [(1, 16, []), (3, 8192, []), (3, 262144, []), (1, 6, []), (1, 6, []), (1, 8, []), (1, 8, []), (1, 5, []), (1, 5, []), (1, 24, []), (3, 4096, []), (1, 12, []), (1, 4096, []), (1, 4, []), (1, 4, []), (2, 160, [])]
def shp : List (Nat × Nat × List Nat) := (shp_0 ++ (shp_1 ++ (shp_2 ++ (shp_3 ++ (shp_4 ++ shp_5)))))
abbrev nC : Nat := 96
abbrev MD : Type := MethodName × ByteArray × Nat × Option FieldType × String × Nat
def MT_0 : List MD := [
  (⟨"LargerWithin$Chest", "weigh", "(IIII)V"⟩, prog_2_method_2_code, 6, (Option.none : Option Jvm.ClassFile.FieldType), "LargerWithin$Chest", 0),
  (⟨"LargerWithin$Chest", "sound", "(IIII)V"⟩, prog_2_method_3_code, 6, (Option.none : Option Jvm.ClassFile.FieldType), "LargerWithin$Chest", 0),
  (⟨"LargerWithin$Chest", "begin", "(I)V"⟩, prog_2_method_4_code, 2, (Option.none : Option Jvm.ClassFile.FieldType), "LargerWithin$Chest", 0),
  (⟨"LargerWithin$Chest", "note", "(I)V"⟩, prog_2_method_5_code, 3, (Option.none : Option Jvm.ClassFile.FieldType), "LargerWithin$Chest", 0),
  (⟨"LargerWithin$Chest", "found", "()I"⟩, prog_2_method_6_code, 1, (Option.some Jvm.ClassFile.FieldType.int), "LargerWithin$Chest", 0),
  (⟨"LargerWithin$Chest", "surelyIn", "()I"⟩, prog_2_method_7_code, 1, (Option.some Jvm.ClassFile.FieldType.int), "LargerWithin$Chest", 0),
  (⟨"LargerWithin$Chest", "surelyOut", "()I"⟩, prog_2_method_8_code, 1, (Option.some Jvm.ClassFile.FieldType.int), "LargerWithin$Chest", 0),
  (⟨"LargerWithin$Chest", "bestLook", "()I"⟩, prog_2_method_9_code, 5, (Option.some Jvm.ClassFile.FieldType.int), "LargerWithin$Chest", 0),
  (⟨"LargerWithin$Chest", "looksNeeded", "()I"⟩, prog_2_method_10_code, 3, (Option.some Jvm.ClassFile.FieldType.int), "LargerWithin$Chest", 0),
  (⟨"LargerWithin$Chest", "noteSetsWith", "()V"⟩, prog_2_method_11_code, 3, (Option.none : Option Jvm.ClassFile.FieldType), "LargerWithin$Chest", 0),
  (⟨"LargerWithin$Chest", "looksFor", "(I)I"⟩, prog_2_method_12_code, 7, (Option.some Jvm.ClassFile.FieldType.int), "LargerWithin$Chest", 0),
  (⟨"LargerWithin$Household", "seek", "(IZ)I"⟩, prog_3_method_2_code, 5, (Option.some Jvm.ClassFile.FieldType.int), "LargerWithin$Household", 1),
  (⟨"LargerWithin$Household", "noteTakers", "()V"⟩, prog_3_method_3_code, 2, (Option.none : Option Jvm.ClassFile.FieldType), "LargerWithin$Household", 1),
  (⟨"LargerWithin$Household", "takersOf", "(III)I"⟩, prog_3_method_4_code, 6, (Option.some Jvm.ClassFile.FieldType.int), "LargerWithin$Household", 1),
  (⟨"LargerWithin$Household", "takes", "(II)Z"⟩, prog_3_method_5_code, 3, (Option.some Jvm.ClassFile.FieldType.boolean), "LargerWithin$Household", 1),
  (⟨"LargerWithin$Household", "priceOf", "(IZ)I"⟩, prog_3_method_6_code, 5, (Option.some Jvm.ClassFile.FieldType.int), "LargerWithin$Household", 1)]
def MT_1 : List MD := [
  (⟨"LargerWithin$Household", "offer", "(III)V"⟩, prog_3_method_7_code, 5, (Option.none : Option Jvm.ClassFile.FieldType), "LargerWithin$Household", 1),
  (⟨"LargerWithin$Household", "extend", "(IIII)V"⟩, prog_3_method_8_code, 6, (Option.none : Option Jvm.ClassFile.FieldType), "LargerWithin$Household", 1),
  (⟨"LargerWithin$Household", "takesNoMore", "(III)Z"⟩, prog_3_method_9_code, 5, (Option.some Jvm.ClassFile.FieldType.boolean), "LargerWithin$Household", 1),
  (⟨"LargerWithin$Household", "boxFor", "(II)I"⟩, prog_3_method_10_code, 6, (Option.some Jvm.ClassFile.FieldType.int), "LargerWithin$Household", 1),
  (⟨"LargerWithin$Household", "lineUp", "(I)V"⟩, prog_3_method_11_code, 3, (Option.none : Option Jvm.ClassFile.FieldType), "LargerWithin$Household", 1),
  (⟨"LargerWithin$Household", "greatestPart", "(II)I"⟩, prog_3_method_12_code, 4, (Option.some Jvm.ClassFile.FieldType.int), "LargerWithin$Household", 1),
  (⟨"LargerWithin$Household", "canTake", "(II)Z"⟩, prog_3_method_13_code, 5, (Option.some Jvm.ClassFile.FieldType.boolean), "LargerWithin$Household", 1),
  (⟨"LargerWithin$Layout", "clear", "()V"⟩, prog_4_method_2_code, 1, (Option.none : Option Jvm.ClassFile.FieldType), "LargerWithin$Layout", 2),
  (⟨"LargerWithin$Layout", "takeFrom", "(LLargerWithin$Layout;)V"⟩, prog_4_method_3_code, 2, (Option.none : Option Jvm.ClassFile.FieldType), "LargerWithin$Layout", 2),
  (⟨"LargerWithin$Layout", "boxOf", "(I)I"⟩, prog_4_method_4_code, 2, (Option.some Jvm.ClassFile.FieldType.int), "LargerWithin$Layout", 2),
  (⟨"LargerWithin$Layout", "setBox", "(II)V"⟩, prog_4_method_5_code, 3, (Option.none : Option Jvm.ClassFile.FieldType), "LargerWithin$Layout", 2),
  (⟨"LargerWithin$Layout", "lay", "(II)V"⟩, prog_4_method_6_code, 3, (Option.none : Option Jvm.ClassFile.FieldType), "LargerWithin$Layout", 2),
  (⟨"LargerWithin$Layout", "lift", "(I)V"⟩, prog_4_method_7_code, 2, (Option.none : Option Jvm.ClassFile.FieldType), "LargerWithin$Layout", 2),
  (⟨"LargerWithin$Layout", "manyIn", "(I)I"⟩, prog_4_method_8_code, 4, (Option.some Jvm.ClassFile.FieldType.int), "LargerWithin$Layout", 2),
  (⟨"LargerWithin$Layout", "itemAtLevel", "(II)I"⟩, prog_4_method_9_code, 4, (Option.some Jvm.ClassFile.FieldType.int), "LargerWithin$Layout", 2),
  (⟨"LargerWithin$Layout", "manyPacked", "()I"⟩, prog_4_method_10_code, 1, (Option.some Jvm.ClassFile.FieldType.int), "LargerWithin$Layout", 2)]
def MT_2 : List MD := [
  (⟨"LargerWithin$Layout", "worthPacked", "()I"⟩, prog_4_method_11_code, 3, (Option.some Jvm.ClassFile.FieldType.int), "LargerWithin$Layout", 2),
  (⟨"LargerWithin$Layout", "onFloor", "(I)I"⟩, prog_4_method_12_code, 4, (Option.some Jvm.ClassFile.FieldType.int), "LargerWithin$Layout", 2),
  (⟨"LargerWithin$Layout", "around", "(I)I"⟩, prog_4_method_13_code, 4, (Option.some Jvm.ClassFile.FieldType.int), "LargerWithin$Layout", 2),
  (⟨"LargerWithin$Layout", "isWithin", "(II)Z"⟩, prog_4_method_14_code, 5, (Option.some Jvm.ClassFile.FieldType.boolean), "LargerWithin$Layout", 2),
  (⟨"LargerWithin$Layout", "fillOf", "(I)I"⟩, prog_4_method_15_code, 4, (Option.some Jvm.ClassFile.FieldType.int), "LargerWithin$Layout", 2),
  (⟨"LargerWithin$Layout", "halvedOf", "(I)I"⟩, prog_4_method_16_code, 4, (Option.some Jvm.ClassFile.FieldType.int), "LargerWithin$Layout", 2),
  (⟨"LargerWithin$Layout", "roomOf", "(I)I"⟩, prog_4_method_17_code, 2, (Option.some Jvm.ClassFile.FieldType.int), "LargerWithin$Layout", 2),
  (⟨"LargerWithin$Layout", "loadOf", "(I)I"⟩, prog_4_method_18_code, 4, (Option.some Jvm.ClassFile.FieldType.int), "LargerWithin$Layout", 2),
  (⟨"LargerWithin$Layout", "heftOf", "(I)I"⟩, prog_4_method_19_code, 2, (Option.some Jvm.ClassFile.FieldType.int), "LargerWithin$Layout", 2),
  (⟨"LargerWithin$Layout", "spareLoad", "(I)I"⟩, prog_4_method_20_code, 5, (Option.some Jvm.ClassFile.FieldType.int), "LargerWithin$Layout", 2),
  (⟨"LargerWithin$Layout", "liftings", "(II)I"⟩, prog_4_method_21_code, 6, (Option.some Jvm.ClassFile.FieldType.int), "LargerWithin$Layout", 2),
  (⟨"LargerWithin$Layout", "manyAbove", "(II)I"⟩, prog_4_method_22_code, 6, (Option.some Jvm.ClassFile.FieldType.int), "LargerWithin$Layout", 2),
  (⟨"LargerWithin$Layout", "itemOver", "(II)I"⟩, prog_4_method_23_code, 7, (Option.some Jvm.ClassFile.FieldType.int), "LargerWithin$Layout", 2),
  (⟨"LargerWithin$Layout", "outward", "(II)I"⟩, prog_4_method_24_code, 5, (Option.some Jvm.ClassFile.FieldType.int), "LargerWithin$Layout", 2),
  (⟨"LargerWithin$Layout", "whyNotPut", "(II)I"⟩, prog_4_method_25_code, 3, (Option.some Jvm.ClassFile.FieldType.int), "LargerWithin$Layout", 2),
  (⟨"LargerWithin$Layout", "hasRoomFor", "(II)Z"⟩, prog_4_method_26_code, 4, (Option.some Jvm.ClassFile.FieldType.boolean), "LargerWithin$Layout", 2)]
def MT_3 : List MD := [
  (⟨"LargerWithin$Layout", "whyNotTaken", "(I)I"⟩, prog_4_method_27_code, 2, (Option.some Jvm.ClassFile.FieldType.int), "LargerWithin$Layout", 2),
  (⟨"LargerWithin$Layout", "doActs", "(LLargerWithin$Row;)I"⟩, prog_4_method_28_code, 3, (Option.some Jvm.ClassFile.FieldType.int), "LargerWithin$Layout", 2),
  (⟨"LargerWithin$Layout", "whyStopped", "()I"⟩, prog_4_method_29_code, 1, (Option.some Jvm.ClassFile.FieldType.int), "LargerWithin$Layout", 2),
  (⟨"LargerWithin$Layout", "doAct", "(J)I"⟩, prog_4_method_30_code, 10, (Option.some Jvm.ClassFile.FieldType.int), "LargerWithin$Layout", 2),
  (⟨"LargerWithin$Nest", "many", "()I"⟩, prog_5_method_2_code, 1, (Option.some Jvm.ClassFile.FieldType.int), "LargerWithin$Nest", 3),
  (⟨"LargerWithin$Nest", "boxAt", "(I)I"⟩, prog_5_method_3_code, 2, (Option.some Jvm.ClassFile.FieldType.int), "LargerWithin$Nest", 3),
  (⟨"LargerWithin$Nest", "seek", "()V"⟩, prog_5_method_4_code, 3, (Option.none : Option Jvm.ClassFile.FieldType), "LargerWithin$Nest", 3),
  (⟨"LargerWithin$Nest", "notePairs", "(I)V"⟩, prog_5_method_5_code, 3, (Option.none : Option Jvm.ClassFile.FieldType), "LargerWithin$Nest", 3),
  (⟨"LargerWithin$Nest", "mostAround", "(II)I"⟩, prog_5_method_6_code, 6, (Option.some Jvm.ClassFile.FieldType.int), "LargerWithin$Nest", 3),
  (⟨"LargerWithin$Nest", "manyWith", "(IIII)I"⟩, prog_5_method_7_code, 7, (Option.some Jvm.ClassFile.FieldType.int), "LargerWithin$Nest", 3),
  (⟨"LargerWithin$Nest", "lineUp", "()V"⟩, prog_5_method_8_code, 5, (Option.none : Option Jvm.ClassFile.FieldType), "LargerWithin$Nest", 3),
  (⟨"LargerWithin$Nest", "firstAround", "(III)I"⟩, prog_5_method_9_code, 6, (Option.some Jvm.ClassFile.FieldType.int), "LargerWithin$Nest", 3),
  (⟨"LargerWithin$Packing", "read", "(LLargerWithin$Row;)Z"⟩, prog_6_method_2_code, 6, (Option.some Jvm.ClassFile.FieldType.boolean), "LargerWithin$Packing", 4),
  (⟨"LargerWithin$Packing", "wrong", "()I"⟩, prog_6_method_3_code, 1, (Option.some Jvm.ClassFile.FieldType.int), "LargerWithin$Packing", 4),
  (⟨"LargerWithin$Packing", "culprit", "()I"⟩, prog_6_method_4_code, 1, (Option.some Jvm.ClassFile.FieldType.int), "LargerWithin$Packing", 4),
  (⟨"LargerWithin$Packing", "findWrong", "()V"⟩, prog_6_method_5_code, 1, (Option.none : Option Jvm.ClassFile.FieldType), "LargerWithin$Packing", 4)]
def MT_4 : List MD := [
  (⟨"LargerWithin$Packing", "blame", "(II)V"⟩, prog_6_method_6_code, 3, (Option.none : Option Jvm.ClassFile.FieldType), "LargerWithin$Packing", 4),
  (⟨"LargerWithin$Packing", "firstInItself", "()I"⟩, prog_6_method_7_code, 2, (Option.some Jvm.ClassFile.FieldType.int), "LargerWithin$Packing", 4),
  (⟨"LargerWithin$Packing", "firstTooWide", "()I"⟩, prog_6_method_8_code, 3, (Option.some Jvm.ClassFile.FieldType.int), "LargerWithin$Packing", 4),
  (⟨"LargerWithin$Packing", "firstTooHeavy", "()I"⟩, prog_6_method_9_code, 2, (Option.some Jvm.ClassFile.FieldType.int), "LargerWithin$Packing", 4),
  (⟨"LargerWithin$Packing", "firstTooFull", "()I"⟩, prog_6_method_10_code, 2, (Option.some Jvm.ClassFile.FieldType.int), "LargerWithin$Packing", 4),
  (⟨"LargerWithin$Packing", "lostBits", "()I"⟩, prog_6_method_11_code, 3, (Option.some Jvm.ClassFile.FieldType.int), "LargerWithin$Packing", 4),
  (⟨"LargerWithin$Packing", "manyPacked", "()I"⟩, prog_6_method_12_code, 1, (Option.some Jvm.ClassFile.FieldType.int), "LargerWithin$Packing", 4),
  (⟨"LargerWithin$Packing", "act", "(I)I"⟩, prog_6_method_13_code, 5, (Option.some Jvm.ClassFile.FieldType.int), "LargerWithin$Packing", 4),
  (⟨"LargerWithin$Packing", "firstReady", "(I)I"⟩, prog_6_method_14_code, 3, (Option.some Jvm.ClassFile.FieldType.int), "LargerWithin$Packing", 4),
  (⟨"LargerWithin$Packing", "hasAllOfIts", "(II)Z"⟩, prog_6_method_15_code, 4, (Option.some Jvm.ClassFile.FieldType.boolean), "LargerWithin$Packing", 4),
  (⟨"LargerWithin$Picked", "pick", "(II)V"⟩, prog_7_method_2_code, 4, (Option.none : Option Jvm.ClassFile.FieldType), "LargerWithin$Picked", 5),
  (⟨"LargerWithin$Picked", "sumUp", "(II)V"⟩, prog_7_method_3_code, 7, (Option.none : Option Jvm.ClassFile.FieldType), "LargerWithin$Picked", 5),
  (⟨"LargerWithin$Picked", "sumUpOne", "(III)V"⟩, prog_7_method_4_code, 4, (Option.none : Option Jvm.ClassFile.FieldType), "LargerWithin$Picked", 5),
  (⟨"LargerWithin$Picked", "many", "()I"⟩, prog_7_method_5_code, 1, (Option.some Jvm.ClassFile.FieldType.int), "LargerWithin$Picked", 5),
  (⟨"LargerWithin$Picked", "choices", "()I"⟩, prog_7_method_6_code, 1, (Option.some Jvm.ClassFile.FieldType.int), "LargerWithin$Picked", 5),
  (⟨"LargerWithin$Picked", "memberAt", "(I)I"⟩, prog_7_method_7_code, 2, (Option.some Jvm.ClassFile.FieldType.int), "LargerWithin$Picked", 5)]
def MT_5 : List MD := [
  (⟨"LargerWithin$Picked", "low", "(I)I"⟩, prog_7_method_8_code, 1, (Option.some Jvm.ClassFile.FieldType.int), "LargerWithin$Picked", 99),
  (⟨"LargerWithin$Picked", "high", "(I)I"⟩, prog_7_method_9_code, 1, (Option.some Jvm.ClassFile.FieldType.int), "LargerWithin$Picked", 99),
  (⟨"LargerWithin$Picked", "size", "(I)I"⟩, prog_7_method_10_code, 2, (Option.some Jvm.ClassFile.FieldType.int), "LargerWithin$Picked", 5),
  (⟨"LargerWithin$Picked", "outline", "(I)I"⟩, prog_7_method_11_code, 2, (Option.some Jvm.ClassFile.FieldType.int), "LargerWithin$Picked", 5),
  (⟨"LargerWithin$Picked", "weight", "(I)I"⟩, prog_7_method_12_code, 2, (Option.some Jvm.ClassFile.FieldType.int), "LargerWithin$Picked", 5),
  (⟨"LargerWithin$Picked", "worth", "(I)I"⟩, prog_7_method_13_code, 2, (Option.some Jvm.ClassFile.FieldType.int), "LargerWithin$Picked", 5),
  (⟨"LargerWithin$Picked", "passes", "(IIII)Z"⟩, prog_7_method_14_code, 5, (Option.some Jvm.ClassFile.FieldType.boolean), "LargerWithin$Picked", 5),
  (⟨"LargerWithin$Picked", "goInto", "(II)Z"⟩, prog_7_method_15_code, 3, (Option.some Jvm.ClassFile.FieldType.boolean), "LargerWithin$Picked", 5),
  (⟨"LargerWithin$Picked", "bits", "(I)I"⟩, prog_7_method_16_code, 4, (Option.some Jvm.ClassFile.FieldType.int), "LargerWithin$Picked", 5),
  (⟨"LargerWithin$Picked", "worthiest", "(III)I"⟩, prog_7_method_17_code, 6, (Option.some Jvm.ClassFile.FieldType.int), "LargerWithin$Picked", 5),
  (⟨"LargerWithin$Picked", "evenest", "(II)I"⟩, prog_7_method_18_code, 7, (Option.some Jvm.ClassFile.FieldType.int), "LargerWithin$Picked", 5),
  (⟨"LargerWithin$Picked", "worthApart", "(I)I"⟩, prog_7_method_19_code, 2, (Option.some Jvm.ClassFile.FieldType.int), "LargerWithin$Picked", 5),
  (⟨"LargerWithin$Reader", "hasPlaceFor", "(I)Z"⟩, prog_8_method_2_code, 2, (Option.some Jvm.ClassFile.FieldType.boolean), "LargerWithin$Reader", 6),
  (⟨"LargerWithin$Reader", "append", "(I)V"⟩, prog_8_method_3_code, 3, (Option.none : Option Jvm.ClassFile.FieldType), "LargerWithin$Reader", 6),
  (⟨"LargerWithin$Reader", "length", "()I"⟩, prog_8_method_4_code, 1, (Option.some Jvm.ClassFile.FieldType.int), "LargerWithin$Reader", 6),
  (⟨"LargerWithin$Reader", "faultKind", "()I"⟩, prog_8_method_5_code, 1, (Option.some Jvm.ClassFile.FieldType.int), "LargerWithin$Reader", 6)]
def MT_6 : List MD := [
  (⟨"LargerWithin$Reader", "faultPlace", "()I"⟩, prog_8_method_6_code, 1, (Option.some Jvm.ClassFile.FieldType.int), "LargerWithin$Reader", 6),
  (⟨"LargerWithin$Reader", "fresh", "()LLargerWithin$Store;"⟩, prog_8_method_7_code, 1, (Option.some (Jvm.ClassFile.FieldType.object "LargerWithin$Store")), "LargerWithin$Reader", 6),
  (⟨"LargerWithin$Reader", "read", "(I)V"⟩, prog_8_method_8_code, 3, (Option.none : Option Jvm.ClassFile.FieldType), "LargerWithin$Reader", 6),
  (⟨"LargerWithin$Reader", "blame", "(II)V"⟩, prog_8_method_9_code, 3, (Option.none : Option Jvm.ClassFile.FieldType), "LargerWithin$Reader", 6),
  (⟨"LargerWithin$Reader", "sign", "(I)I"⟩, prog_8_method_10_code, 2, (Option.some Jvm.ClassFile.FieldType.int), "LargerWithin$Reader", 6),
  (⟨"LargerWithin$Reader", "isLetter", "(I)Z"⟩, prog_8_method_11_code, 1, (Option.some Jvm.ClassFile.FieldType.boolean), "LargerWithin$Reader", 99),
  (⟨"LargerWithin$Reader", "isDigit", "(I)Z"⟩, prog_8_method_12_code, 1, (Option.some Jvm.ClassFile.FieldType.boolean), "LargerWithin$Reader", 99),
  (⟨"LargerWithin$Reader", "beginsToken", "(I)Z"⟩, prog_8_method_13_code, 5, (Option.some Jvm.ClassFile.FieldType.boolean), "LargerWithin$Reader", 6),
  (⟨"LargerWithin$Reader", "readToken", "(I)V"⟩, prog_8_method_14_code, 3, (Option.none : Option Jvm.ClassFile.FieldType), "LargerWithin$Reader", 6),
  (⟨"LargerWithin$Reader", "readWord", "(I)V"⟩, prog_8_method_15_code, 2, (Option.none : Option Jvm.ClassFile.FieldType), "LargerWithin$Reader", 6),
  (⟨"LargerWithin$Reader", "beginLine", "(I)V"⟩, prog_8_method_16_code, 2, (Option.none : Option Jvm.ClassFile.FieldType), "LargerWithin$Reader", 6),
  (⟨"LargerWithin$Reader", "behindWord", "(Ljava/lang/String;II)I"⟩, prog_8_method_17_code, 5, (Option.some Jvm.ClassFile.FieldType.int), "LargerWithin$Reader", 6),
  (⟨"LargerWithin$Reader", "patternSign", "(Ljava/lang/String;I)I"⟩, prog_8_method_18_code, 2, (Option.some Jvm.ClassFile.FieldType.int), "LargerWithin$Reader", 99),
  (⟨"LargerWithin$Reader", "readNumber", "(I)V"⟩, prog_8_method_19_code, 4, (Option.none : Option Jvm.ClassFile.FieldType), "LargerWithin$Reader", 6),
  (⟨"LargerWithin$Reader", "kindOfNumber", "()I"⟩, prog_8_method_20_code, 2, (Option.some Jvm.ClassFile.FieldType.int), "LargerWithin$Reader", 6),
  (⟨"LargerWithin$Reader", "isInBounds", "(I)Z"⟩, prog_8_method_21_code, 4, (Option.some Jvm.ClassFile.FieldType.boolean), "LargerWithin$Reader", 6)]
def MT_7 : List MD := [
  (⟨"LargerWithin$Reader", "readStop", "(I)V"⟩, prog_8_method_22_code, 2, (Option.none : Option Jvm.ClassFile.FieldType), "LargerWithin$Reader", 6),
  (⟨"LargerWithin$Row", "begin", "(II)V"⟩, prog_9_method_2_code, 3, (Option.none : Option Jvm.ClassFile.FieldType), "LargerWithin$Row", 7),
  (⟨"LargerWithin$Row", "isMissing", "()Z"⟩, prog_9_method_3_code, 1, (Option.some Jvm.ClassFile.FieldType.boolean), "LargerWithin$Row", 7),
  (⟨"LargerWithin$Row", "many", "()I"⟩, prog_9_method_4_code, 1, (Option.some Jvm.ClassFile.FieldType.int), "LargerWithin$Row", 7),
  (⟨"LargerWithin$Row", "hasPlace", "(I)Z"⟩, prog_9_method_5_code, 2, (Option.some Jvm.ClassFile.FieldType.boolean), "LargerWithin$Row", 7),
  (⟨"LargerWithin$Row", "get", "(I)J"⟩, prog_9_method_6_code, 2, (Option.some Jvm.ClassFile.FieldType.long), "LargerWithin$Row", 7),
  (⟨"LargerWithin$Row", "set", "(IJ)V"⟩, prog_9_method_7_code, 4, (Option.none : Option Jvm.ClassFile.FieldType), "LargerWithin$Row", 7),
  (⟨"LargerWithin$Row", "cut", "(J)J"⟩, prog_9_method_8_code, 3, (Option.some Jvm.ClassFile.FieldType.long), "LargerWithin$Row", 7),
  (⟨"LargerWithin$Shutting", "ways", "()I"⟩, prog_10_method_2_code, 1, (Option.some Jvm.ClassFile.FieldType.int), "LargerWithin$Shutting", 8),
  (⟨"LargerWithin$Shutting", "boxOf", "(I)I"⟩, prog_10_method_3_code, 2, (Option.some Jvm.ClassFile.FieldType.int), "LargerWithin$Shutting", 8),
  (⟨"LargerWithin$Shutting", "seek", "(IIZ)V"⟩, prog_10_method_4_code, 5, (Option.none : Option Jvm.ClassFile.FieldType), "LargerWithin$Shutting", 8),
  (⟨"LargerWithin$Shutting", "placeFrom", "(IZ)V"⟩, prog_10_method_5_code, 5, (Option.none : Option Jvm.ClassFile.FieldType), "LargerWithin$Shutting", 8),
  (⟨"LargerWithin$Shutting", "mayHost", "(II)Z"⟩, prog_10_method_6_code, 5, (Option.some Jvm.ClassFile.FieldType.boolean), "LargerWithin$Shutting", 8),
  (⟨"LargerWithin$Shutting", "move", "(III)V"⟩, prog_10_method_7_code, 8, (Option.none : Option Jvm.ClassFile.FieldType), "LargerWithin$Shutting", 8),
  (⟨"LargerWithin$Shutting", "isSound", "(II)Z"⟩, prog_10_method_8_code, 5, (Option.some Jvm.ClassFile.FieldType.boolean), "LargerWithin$Shutting", 8),
  (⟨"LargerWithin$Shutting", "fitsNow", "(I)Z"⟩, prog_10_method_9_code, 2, (Option.some Jvm.ClassFile.FieldType.boolean), "LargerWithin$Shutting", 8)]
def MT_8 : List MD := [
  (⟨"LargerWithin$Store", "clear", "()V"⟩, prog_11_method_2_code, 1, (Option.none : Option Jvm.ClassFile.FieldType), "LargerWithin$Store", 9),
  (⟨"LargerWithin$Store", "takeFrom", "(LLargerWithin$Store;)V"⟩, prog_11_method_3_code, 2, (Option.none : Option Jvm.ClassFile.FieldType), "LargerWithin$Store", 9),
  (⟨"LargerWithin$Store", "boxes", "()I"⟩, prog_11_method_4_code, 1, (Option.some Jvm.ClassFile.FieldType.int), "LargerWithin$Store", 9),
  (⟨"LargerWithin$Store", "things", "()I"⟩, prog_11_method_5_code, 1, (Option.some Jvm.ClassFile.FieldType.int), "LargerWithin$Store", 9),
  (⟨"LargerWithin$Store", "itemCount", "()I"⟩, prog_11_method_6_code, 1, (Option.some Jvm.ClassFile.FieldType.int), "LargerWithin$Store", 9),
  (⟨"LargerWithin$Store", "hasBox", "(J)Z"⟩, prog_11_method_7_code, 3, (Option.some Jvm.ClassFile.FieldType.boolean), "LargerWithin$Store", 9),
  (⟨"LargerWithin$Store", "hasItem", "(J)Z"⟩, prog_11_method_8_code, 3, (Option.some Jvm.ClassFile.FieldType.boolean), "LargerWithin$Store", 9),
  (⟨"LargerWithin$Store", "boxBits", "()I"⟩, prog_11_method_9_code, 1, (Option.some Jvm.ClassFile.FieldType.int), "LargerWithin$Store", 9),
  (⟨"LargerWithin$Store", "thingBits", "()I"⟩, prog_11_method_10_code, 1, (Option.some Jvm.ClassFile.FieldType.int), "LargerWithin$Store", 9),
  (⟨"LargerWithin$Store", "itemBits", "()I"⟩, prog_11_method_11_code, 1, (Option.some Jvm.ClassFile.FieldType.int), "LargerWithin$Store", 9),
  (⟨"LargerWithin$Store", "itemAt", "(I)I"⟩, prog_11_method_12_code, 2, (Option.some Jvm.ClassFile.FieldType.int), "LargerWithin$Store", 9),
  (⟨"LargerWithin$Store", "told", "(II)I"⟩, prog_11_method_13_code, 3, (Option.some Jvm.ClassFile.FieldType.int), "LargerWithin$Store", 9),
  (⟨"LargerWithin$Store", "tell", "(III)V"⟩, prog_11_method_14_code, 4, (Option.none : Option Jvm.ClassFile.FieldType), "LargerWithin$Store", 9),
  (⟨"LargerWithin$Store", "roomOf", "(II)I"⟩, prog_11_method_15_code, 3, (Option.some Jvm.ClassFile.FieldType.int), "LargerWithin$Store", 9),
  (⟨"LargerWithin$Store", "takesAlone", "(II)Z"⟩, prog_11_method_16_code, 4, (Option.some Jvm.ClassFile.FieldType.boolean), "LargerWithin$Store", 9),
  (⟨"LargerWithin$Store", "weightOfBoxes", "(I)I"⟩, prog_11_method_17_code, 4, (Option.some Jvm.ClassFile.FieldType.int), "LargerWithin$Store", 9)]
def MT_9 : List MD := [
  (⟨"LargerWithin$Store", "nextItem", "(Z)I"⟩, prog_11_method_18_code, 2, (Option.some Jvm.ClassFile.FieldType.int), "LargerWithin$Store", 9),
  (⟨"LargerWithin$Store", "isFull", "(Z)Z"⟩, prog_11_method_19_code, 2, (Option.some Jvm.ClassFile.FieldType.boolean), "LargerWithin$Store", 9),
  (⟨"LargerWithin$Store", "keep", "(Z)V"⟩, prog_11_method_20_code, 2, (Option.none : Option Jvm.ClassFile.FieldType), "LargerWithin$Store", 9),
  (⟨"LargerWithin$Voyage", "areItems", "(LLargerWithin$Row;I)Z"⟩, prog_12_method_2_code, 7, (Option.some Jvm.ClassFile.FieldType.boolean), "LargerWithin$Voyage", 10),
  (⟨"LargerWithin$Voyage", "liftingsAsTold", "(LLargerWithin$Row;)I"⟩, prog_12_method_3_code, 6, (Option.some Jvm.ClassFile.FieldType.int), "LargerWithin$Voyage", 10),
  (⟨"LargerWithin$Voyage", "fewest", "()I"⟩, prog_12_method_4_code, 1, (Option.some Jvm.ClassFile.FieldType.int), "LargerWithin$Voyage", 10),
  (⟨"LargerWithin$Voyage", "itemAt", "(I)I"⟩, prog_12_method_5_code, 2, (Option.some Jvm.ClassFile.FieldType.int), "LargerWithin$Voyage", 10),
  (⟨"LargerWithin$Voyage", "seek", "(LLargerWithin$Row;)V"⟩, prog_12_method_6_code, 6, (Option.none : Option Jvm.ClassFile.FieldType), "LargerWithin$Voyage", 10),
  (⟨"LargerWithin$Voyage", "sortIn", "(LLargerWithin$Row;)V"⟩, prog_12_method_7_code, 4, (Option.none : Option Jvm.ClassFile.FieldType), "LargerWithin$Voyage", 10),
  (⟨"LargerWithin$Voyage", "chooseNext", "(I)V"⟩, prog_12_method_8_code, 6, (Option.none : Option Jvm.ClassFile.FieldType), "LargerWithin$Voyage", 10),
  (⟨"LargerWithin", "feed", "(IIIII)I"⟩, prog_1_method_2_code, 6, (Option.some Jvm.ClassFile.FieldType.int), "LargerWithin", 11),
  (⟨"LargerWithin", "store", "(I)I"⟩, prog_1_method_3_code, 2, (Option.some Jvm.ClassFile.FieldType.int), "LargerWithin", 11),
  (⟨"LargerWithin", "fault", "(I)I"⟩, prog_1_method_4_code, 2, (Option.some Jvm.ClassFile.FieldType.int), "LargerWithin", 11),
  (⟨"LargerWithin", "item", "(II)I"⟩, prog_1_method_5_code, 3, (Option.some Jvm.ClassFile.FieldType.int), "LargerWithin", 11),
  (⟨"LargerWithin", "lies", "(II)I"⟩, prog_1_method_6_code, 3, (Option.some Jvm.ClassFile.FieldType.int), "LargerWithin", 11),
  (⟨"LargerWithin", "box", "(II)I"⟩, prog_1_method_7_code, 4, (Option.some Jvm.ClassFile.FieldType.int), "LargerWithin", 11)]
def MT_10 : List MD := [
  (⟨"LargerWithin", "may", "(II)I"⟩, prog_1_method_8_code, 3, (Option.some Jvm.ClassFile.FieldType.int), "LargerWithin", 11),
  (⟨"LargerWithin", "put", "(II)I"⟩, prog_1_method_9_code, 4, (Option.some Jvm.ClassFile.FieldType.int), "LargerWithin", 11),
  (⟨"LargerWithin", "take", "(I)I"⟩, prog_1_method_10_code, 3, (Option.some Jvm.ClassFile.FieldType.int), "LargerWithin", 11),
  (⟨"LargerWithin", "empty", "()I"⟩, prog_1_method_11_code, 2, (Option.some Jvm.ClassFile.FieldType.int), "LargerWithin", 11),
  (⟨"LargerWithin", "over", "(II)I"⟩, prog_1_method_12_code, 3, (Option.some Jvm.ClassFile.FieldType.int), "LargerWithin", 11),
  (⟨"LargerWithin", "judge", "(II)I"⟩, prog_1_method_13_code, 5, (Option.some Jvm.ClassFile.FieldType.int), "LargerWithin", 11),
  (⟨"LargerWithin", "perform", "(I)I"⟩, prog_1_method_14_code, 3, (Option.some Jvm.ClassFile.FieldType.int), "LargerWithin", 11),
  (⟨"LargerWithin", "packing", "(II)I"⟩, prog_1_method_15_code, 4, (Option.some Jvm.ClassFile.FieldType.int), "LargerWithin", 11),
  (⟨"LargerWithin", "how", "(II)I"⟩, prog_1_method_16_code, 4, (Option.some Jvm.ClassFile.FieldType.int), "LargerWithin", 11),
  (⟨"LargerWithin", "lost", "(I)I"⟩, prog_1_method_17_code, 3, (Option.some Jvm.ClassFile.FieldType.int), "LargerWithin", 11),
  (⟨"LargerWithin", "most", "(III)I"⟩, prog_1_method_18_code, 5, (Option.some Jvm.ClassFile.FieldType.int), "LargerWithin", 11),
  (⟨"LargerWithin", "household", "(IZI)I"⟩, prog_1_method_19_code, 5, (Option.some Jvm.ClassFile.FieldType.int), "LargerWithin", 11),
  (⟨"LargerWithin", "holds", "(IZI)I"⟩, prog_1_method_20_code, 5, (Option.some Jvm.ClassFile.FieldType.int), "LargerWithin", 11),
  (⟨"LargerWithin", "shut", "(II)I"⟩, prog_1_method_21_code, 3, (Option.some Jvm.ClassFile.FieldType.int), "LargerWithin", 11),
  (⟨"LargerWithin", "shutIn", "(III)I"⟩, prog_1_method_22_code, 4, (Option.some Jvm.ClassFile.FieldType.int), "LargerWithin", 11),
  (⟨"LargerWithin", "even", "(IIII)I"⟩, prog_1_method_23_code, 6, (Option.some Jvm.ClassFile.FieldType.int), "LargerWithin", 11)]
def MT_11 : List MD := [
  (⟨"LargerWithin", "lightestFor", "(I)I"⟩, prog_1_method_24_code, 5, (Option.some Jvm.ClassFile.FieldType.int), "LargerWithin", 11),
  (⟨"LargerWithin", "nest", "(I)I"⟩, prog_1_method_25_code, 2, (Option.some Jvm.ClassFile.FieldType.int), "LargerWithin", 11),
  (⟨"LargerWithin", "voyage", "(I)I"⟩, prog_1_method_26_code, 3, (Option.some Jvm.ClassFile.FieldType.int), "LargerWithin", 11),
  (⟨"LargerWithin", "voyages", "(II)I"⟩, prog_1_method_27_code, 4, (Option.some Jvm.ClassFile.FieldType.int), "LargerWithin", 11),
  (⟨"LargerWithin", "chest", "(IIII)I"⟩, prog_1_method_28_code, 6, (Option.some Jvm.ClassFile.FieldType.int), "LargerWithin", 11),
  (⟨"LargerWithin", "sure", "(IIIIZ)I"⟩, prog_1_method_29_code, 7, (Option.some Jvm.ClassFile.FieldType.int), "LargerWithin", 11),
  (⟨"LargerWithin", "look", "(IIII)I"⟩, prog_1_method_30_code, 6, (Option.some Jvm.ClassFile.FieldType.int), "LargerWithin", 11),
  (⟨"LargerWithin", "looks", "(IIII)I"⟩, prog_1_method_31_code, 6, (Option.some Jvm.ClassFile.FieldType.int), "LargerWithin", 11),
  (⟨"LargerWithin", "sounded", "(IIII)I"⟩, prog_1_method_32_code, 5, (Option.some Jvm.ClassFile.FieldType.int), "LargerWithin", 11),
  (⟨"LargerWithin", "needs", "(I)I"⟩, prog_1_method_33_code, 5, (Option.some Jvm.ClassFile.FieldType.int), "LargerWithin", 11),
  (⟨"LargerWithin", "room", "(III)I"⟩, prog_1_method_34_code, 5, (Option.some Jvm.ClassFile.FieldType.int), "LargerWithin", 11),
  (⟨"LargerWithin", "deepest", "(I)I"⟩, prog_1_method_35_code, 4, (Option.some Jvm.ClassFile.FieldType.int), "LargerWithin", 11),
  (⟨"LargerWithin", "carriers", "(II)I"⟩, prog_1_method_36_code, 8, (Option.some Jvm.ClassFile.FieldType.int), "LargerWithin", 11),
  (⟨"LargerWithin", "numbers", "(III)I"⟩, prog_1_method_37_code, 4, (Option.some Jvm.ClassFile.FieldType.int), "LargerWithin", 11),
  (⟨"LargerWithin", "write", "(IIJ)J"⟩, prog_1_method_38_code, 6, (Option.some Jvm.ClassFile.FieldType.long), "LargerWithin", 11),
  (⟨"LargerWithin", "copy", "(I)I"⟩, prog_1_method_39_code, 5, (Option.some Jvm.ClassFile.FieldType.int), "LargerWithin", 11)]
def MT_12 : List MD := [
  (⟨"LargerWithin", "image", "(I)I"⟩, prog_1_method_40_code, 2, (Option.some Jvm.ClassFile.FieldType.int), "LargerWithin", 11),
  (⟨"LargerWithin", "restore", "(I)I"⟩, prog_1_method_41_code, 2, (Option.some Jvm.ClassFile.FieldType.int), "LargerWithin", 11),
  (⟨"LargerWithin", "count", "(I)I"⟩, prog_1_method_42_code, 2, (Option.some Jvm.ClassFile.FieldType.int), "LargerWithin", 11),
  (⟨"LargerWithin", "isRow", "(I)Z"⟩, prog_1_method_43_code, 1, (Option.some Jvm.ClassFile.FieldType.boolean), "LargerWithin", 99),
  (⟨"LargerWithin", "isImage", "(I)Z"⟩, prog_1_method_44_code, 1, (Option.some Jvm.ClassFile.FieldType.boolean), "LargerWithin", 99),
  (⟨"LargerWithin", "hasOnly", "(II)Z"⟩, prog_1_method_45_code, 2, (Option.some Jvm.ClassFile.FieldType.boolean), "LargerWithin", 99),
  (⟨"LargerWithin", "roomBy", "(III)I"⟩, prog_1_method_46_code, 3, (Option.some Jvm.ClassFile.FieldType.int), "LargerWithin", 99),
  (⟨"LargerWithin", "drawAfter", "(I)I"⟩, prog_1_method_47_code, 1, (Option.some Jvm.ClassFile.FieldType.int), "LargerWithin", 99),
  (⟨"LargerWithin", "rowRefusal", "(I)I"⟩, prog_1_method_48_code, 2, (Option.some Jvm.ClassFile.FieldType.int), "LargerWithin", 11),
  (⟨"LargerWithin", "packingRefusal", "(I)I"⟩, prog_1_method_49_code, 3, (Option.some Jvm.ClassFile.FieldType.int), "LargerWithin", 11),
  (⟨"LargerWithin", "weighIfSound", "(IIII)I"⟩, prog_1_method_50_code, 5, (Option.some Jvm.ClassFile.FieldType.int), "LargerWithin", 11),
  (⟨"LargerWithin", "isThingSet", "(II)Z"⟩, prog_1_method_51_code, 3, (Option.some Jvm.ClassFile.FieldType.boolean), "LargerWithin", 11),
  (⟨"LargerWithin", "isItemOf", "(II)Z"⟩, prog_1_method_52_code, 3, (Option.some Jvm.ClassFile.FieldType.boolean), "LargerWithin", 11),
  (⟨"LargerWithin", "canBeShut", "(II)Z"⟩, prog_1_method_53_code, 3, (Option.some Jvm.ClassFile.FieldType.boolean), "LargerWithin", 11),
  (⟨"LargerWithin", "carryOut", "(I)I"⟩, prog_1_method_54_code, 2, (Option.some Jvm.ClassFile.FieldType.int), "LargerWithin", 11),
  (⟨"LargerWithin", "carryIn", "(II)I"⟩, prog_1_method_55_code, 3, (Option.some Jvm.ClassFile.FieldType.int), "LargerWithin", 11)]
def MT_13 : List MD := [
  (⟨"LargerWithinModel", "within", "(JJJ)Z"⟩, prog_14_method_2_code, 6, (Option.some Jvm.ClassFile.FieldType.boolean), "LargerWithinModel", 99),
  (⟨"LargerWithinModel", "feed", "(IIIII)I"⟩, prog_14_method_4_code, 8, (Option.some Jvm.ClassFile.FieldType.int), "LargerWithinModel", 12),
  (⟨"LargerWithinModel", "see", "(I)I"⟩, prog_14_method_5_code, 2, (Option.some Jvm.ClassFile.FieldType.int), "LargerWithinModel", 12),
  (⟨"LargerWithinModel", "isSmall", "(I)Z"⟩, prog_14_method_6_code, 1, (Option.some Jvm.ClassFile.FieldType.boolean), "LargerWithinModel", 99),
  (⟨"LargerWithinModel", "isDigit", "(I)Z"⟩, prog_14_method_7_code, 1, (Option.some Jvm.ClassFile.FieldType.boolean), "LargerWithinModel", 99),
  (⟨"LargerWithinModel", "keyAt", "()I"⟩, prog_14_method_8_code, 4, (Option.some Jvm.ClassFile.FieldType.int), "LargerWithinModel", 12),
  (⟨"LargerWithinModel", "next", "()V"⟩, prog_14_method_9_code, 1, (Option.none : Option Jvm.ClassFile.FieldType), "LargerWithinModel", 12),
  (⟨"LargerWithinModel", "fails", "(I)V"⟩, prog_14_method_10_code, 2, (Option.none : Option Jvm.ClassFile.FieldType), "LargerWithinModel", 12),
  (⟨"LargerWithinModel", "is", "(I)Z"⟩, prog_14_method_11_code, 2, (Option.some Jvm.ClassFile.FieldType.boolean), "LargerWithinModel", 12),
  (⟨"LargerWithinModel", "must", "(I)V"⟩, prog_14_method_12_code, 2, (Option.none : Option Jvm.ClassFile.FieldType), "LargerWithinModel", 12),
  (⟨"LargerWithinModel", "takes", "(II)I"⟩, prog_14_method_13_code, 4, (Option.some Jvm.ClassFile.FieldType.int), "LargerWithinModel", 12),
  (⟨"LargerWithinModel", "takesBehind", "(III)I"⟩, prog_14_method_14_code, 4, (Option.some Jvm.ClassFile.FieldType.int), "LargerWithinModel", 12),
  (⟨"LargerWithinModel", "place", "(II)I"⟩, prog_14_method_15_code, 2, (Option.some Jvm.ClassFile.FieldType.int), "LargerWithinModel", 99),
  (⟨"LargerWithinModel", "readBox", "()V"⟩, prog_14_method_16_code, 8, (Option.none : Option Jvm.ClassFile.FieldType), "LargerWithinModel", 12),
  (⟨"LargerWithinModel", "readThing", "()V"⟩, prog_14_method_17_code, 6, (Option.none : Option Jvm.ClassFile.FieldType), "LargerWithinModel", 12),
  (⟨"LargerWithinModel", "store", "(I)I"⟩, prog_14_method_18_code, 3, (Option.some Jvm.ClassFile.FieldType.int), "LargerWithinModel", 12)]
def MT_14 : List MD := [
  (⟨"LargerWithinModel", "fault", "(I)I"⟩, prog_14_method_19_code, 2, (Option.some Jvm.ClassFile.FieldType.int), "LargerWithinModel", 12),
  (⟨"LargerWithinModel", "isBox", "(J)Z"⟩, prog_14_method_20_code, 3, (Option.some Jvm.ClassFile.FieldType.boolean), "LargerWithinModel", 12),
  (⟨"LargerWithinModel", "isItem", "(J)Z"⟩, prog_14_method_21_code, 3, (Option.some Jvm.ClassFile.FieldType.boolean), "LargerWithinModel", 12),
  (⟨"LargerWithinModel", "of", "(II)I"⟩, prog_14_method_22_code, 3, (Option.some Jvm.ClassFile.FieldType.int), "LargerWithinModel", 12),
  (⟨"LargerWithinModel", "item", "(II)I"⟩, prog_14_method_23_code, 3, (Option.some Jvm.ClassFile.FieldType.int), "LargerWithinModel", 12),
  (⟨"LargerWithinModel", "around", "(I)I"⟩, prog_14_method_24_code, 2, (Option.some Jvm.ClassFile.FieldType.int), "LargerWithinModel", 12),
  (⟨"LargerWithinModel", "isDeepIn", "(II)Z"⟩, prog_14_method_25_code, 4, (Option.some Jvm.ClassFile.FieldType.boolean), "LargerWithinModel", 12),
  (⟨"LargerWithinModel", "isOver", "(II)Z"⟩, prog_14_method_26_code, 4, (Option.some Jvm.ClassFile.FieldType.boolean), "LargerWithinModel", 12),
  (⟨"LargerWithinModel", "overMany", "(I)I"⟩, prog_14_method_27_code, 4, (Option.some Jvm.ClassFile.FieldType.int), "LargerWithinModel", 12),
  (⟨"LargerWithinModel", "loadOf", "(I)I"⟩, prog_14_method_28_code, 4, (Option.some Jvm.ClassFile.FieldType.int), "LargerWithinModel", 12),
  (⟨"LargerWithinModel", "fillOf", "(I)I"⟩, prog_14_method_29_code, 4, (Option.some Jvm.ClassFile.FieldType.int), "LargerWithinModel", 12),
  (⟨"LargerWithinModel", "halvedOf", "(I)I"⟩, prog_14_method_30_code, 4, (Option.some Jvm.ClassFile.FieldType.int), "LargerWithinModel", 12),
  (⟨"LargerWithinModel", "roomBy", "(III)I"⟩, prog_14_method_31_code, 5, (Option.some Jvm.ClassFile.FieldType.int), "LargerWithinModel", 99),
  (⟨"LargerWithinModel", "roomOf", "(II)I"⟩, prog_14_method_32_code, 3, (Option.some Jvm.ClassFile.FieldType.int), "LargerWithinModel", 12),
  (⟨"LargerWithinModel", "heftOf", "(I)I"⟩, prog_14_method_33_code, 2, (Option.some Jvm.ClassFile.FieldType.int), "LargerWithinModel", 12),
  (⟨"LargerWithinModel", "depthOf", "(I)I"⟩, prog_14_method_34_code, 4, (Option.some Jvm.ClassFile.FieldType.int), "LargerWithinModel", 12)]
def MT_15 : List MD := [
  (⟨"LargerWithinModel", "lies", "(II)I"⟩, prog_14_method_35_code, 3, (Option.some Jvm.ClassFile.FieldType.int), "LargerWithinModel", 12),
  (⟨"LargerWithinModel", "manyIn", "(I)I"⟩, prog_14_method_36_code, 4, (Option.some Jvm.ClassFile.FieldType.int), "LargerWithinModel", 12),
  (⟨"LargerWithinModel", "inBox", "(II)I"⟩, prog_14_method_37_code, 6, (Option.some Jvm.ClassFile.FieldType.int), "LargerWithinModel", 12),
  (⟨"LargerWithinModel", "box", "(II)I"⟩, prog_14_method_38_code, 3, (Option.some Jvm.ClassFile.FieldType.int), "LargerWithinModel", 12),
  (⟨"LargerWithinModel", "bears", "(II)Z"⟩, prog_14_method_39_code, 4, (Option.some Jvm.ClassFile.FieldType.boolean), "LargerWithinModel", 12),
  (⟨"LargerWithinModel", "refuses", "(II)I"⟩, prog_14_method_40_code, 4, (Option.some Jvm.ClassFile.FieldType.int), "LargerWithinModel", 12),
  (⟨"LargerWithinModel", "comes", "(II)V"⟩, prog_14_method_41_code, 3, (Option.none : Option Jvm.ClassFile.FieldType), "LargerWithinModel", 12),
  (⟨"LargerWithinModel", "may", "(II)I"⟩, prog_14_method_42_code, 3, (Option.some Jvm.ClassFile.FieldType.int), "LargerWithinModel", 12),
  (⟨"LargerWithinModel", "put", "(II)I"⟩, prog_14_method_43_code, 4, (Option.some Jvm.ClassFile.FieldType.int), "LargerWithinModel", 12),
  (⟨"LargerWithinModel", "canBeTaken", "(I)Z"⟩, prog_14_method_44_code, 2, (Option.some Jvm.ClassFile.FieldType.boolean), "LargerWithinModel", 12),
  (⟨"LargerWithinModel", "take", "(I)I"⟩, prog_14_method_45_code, 3, (Option.some Jvm.ClassFile.FieldType.int), "LargerWithinModel", 12),
  (⟨"LargerWithinModel", "itemsIn", "()I"⟩, prog_14_method_46_code, 3, (Option.some Jvm.ClassFile.FieldType.int), "LargerWithinModel", 12),
  (⟨"LargerWithinModel", "empty", "()I"⟩, prog_14_method_47_code, 3, (Option.some Jvm.ClassFile.FieldType.int), "LargerWithinModel", 12),
  (⟨"LargerWithinModel", "over", "(II)I"⟩, prog_14_method_48_code, 9, (Option.some Jvm.ClassFile.FieldType.int), "LargerWithinModel", 12),
  (⟨"LargerWithinModel", "keeps", "()V"⟩, prog_14_method_49_code, 2, (Option.none : Option Jvm.ClassFile.FieldType), "LargerWithinModel", 12),
  (⟨"LargerWithinModel", "isAgain", "()V"⟩, prog_14_method_50_code, 2, (Option.none : Option Jvm.ClassFile.FieldType), "LargerWithinModel", 12)]
def MT_16 : List MD := [
  (⟨"LargerWithinModel", "acts", "(J)I"⟩, prog_14_method_51_code, 4, (Option.some Jvm.ClassFile.FieldType.int), "LargerWithinModel", 12),
  (⟨"LargerWithinModel", "actsAll", "(I)I"⟩, prog_14_method_52_code, 3, (Option.some Jvm.ClassFile.FieldType.int), "LargerWithinModel", 12),
  (⟨"LargerWithinModel", "judge", "(II)I"⟩, prog_14_method_53_code, 5, (Option.some Jvm.ClassFile.FieldType.int), "LargerWithinModel", 12),
  (⟨"LargerWithinModel", "perform", "(I)I"⟩, prog_14_method_54_code, 2, (Option.some Jvm.ClassFile.FieldType.int), "LargerWithinModel", 12),
  (⟨"LargerWithinModel", "itemAt", "(I)I"⟩, prog_14_method_55_code, 2, (Option.some Jvm.ClassFile.FieldType.int), "LargerWithinModel", 12),
  (⟨"LargerWithinModel", "itemMany", "()I"⟩, prog_14_method_56_code, 1, (Option.some Jvm.ClassFile.FieldType.int), "LargerWithinModel", 12),
  (⟨"LargerWithinModel", "firstNoBox", "(I)I"⟩, prog_14_method_57_code, 5, (Option.some Jvm.ClassFile.FieldType.int), "LargerWithinModel", 12),
  (⟨"LargerWithinModel", "lays", "(I)V"⟩, prog_14_method_58_code, 3, (Option.none : Option Jvm.ClassFile.FieldType), "LargerWithinModel", 12),
  (⟨"LargerWithinModel", "isRing", "(I)Z"⟩, prog_14_method_59_code, 4, (Option.some Jvm.ClassFile.FieldType.boolean), "LargerWithinModel", 12),
  (⟨"LargerWithinModel", "firstWrong", "()I"⟩, prog_14_method_60_code, 3, (Option.some Jvm.ClassFile.FieldType.int), "LargerWithinModel", 12),
  (⟨"LargerWithinModel", "packing", "(II)I"⟩, prog_14_method_61_code, 4, (Option.some Jvm.ClassFile.FieldType.int), "LargerWithinModel", 12),
  (⟨"LargerWithinModel", "lost", "(I)I"⟩, prog_14_method_62_code, 6, (Option.some Jvm.ClassFile.FieldType.int), "LargerWithinModel", 12),
  (⟨"LargerWithinModel", "bitsOf", "(I)I"⟩, prog_14_method_63_code, 3, (Option.some Jvm.ClassFile.FieldType.int), "LargerWithinModel", 99),
  (⟨"LargerWithinModel", "itemsAll", "()I"⟩, prog_14_method_64_code, 1, (Option.some Jvm.ClassFile.FieldType.int), "LargerWithinModel", 12),
  (⟨"LargerWithinModel", "thingsAll", "()I"⟩, prog_14_method_65_code, 1, (Option.some Jvm.ClassFile.FieldType.int), "LargerWithinModel", 12),
  (⟨"LargerWithinModel", "takesFew", "(IIZ)V"⟩, prog_14_method_66_code, 5, (Option.none : Option Jvm.ClassFile.FieldType), "LargerWithinModel", 12)]
def MT_17 : List MD := [
  (⟨"LargerWithinModel", "asItems", "(I)I"⟩, prog_14_method_67_code, 4, (Option.some Jvm.ClassFile.FieldType.int), "LargerWithinModel", 12),
  (⟨"LargerWithinModel", "sumOf", "(II)I"⟩, prog_14_method_68_code, 5, (Option.some Jvm.ClassFile.FieldType.int), "LargerWithinModel", 12),
  (⟨"LargerWithinModel", "passes", "(II)Z"⟩, prog_14_method_69_code, 4, (Option.some Jvm.ClassFile.FieldType.boolean), "LargerWithinModel", 12),
  (⟨"LargerWithinModel", "most", "(III)I"⟩, prog_14_method_70_code, 6, (Option.some Jvm.ClassFile.FieldType.int), "LargerWithinModel", 12),
  (⟨"LargerWithinModel", "laysBoxes", "()V"⟩, prog_14_method_71_code, 5, (Option.none : Option Jvm.ClassFile.FieldType), "LargerWithinModel", 12),
  (⟨"LargerWithinModel", "canWith", "(III)Z"⟩, prog_14_method_72_code, 6, (Option.some Jvm.ClassFile.FieldType.boolean), "LargerWithinModel", 12),
  (⟨"LargerWithinModel", "weightOf", "(I)I"⟩, prog_14_method_73_code, 4, (Option.some Jvm.ClassFile.FieldType.int), "LargerWithinModel", 12),
  (⟨"LargerWithinModel", "isBetter", "(IIZ)Z"⟩, prog_14_method_74_code, 6, (Option.some Jvm.ClassFile.FieldType.boolean), "LargerWithinModel", 12),
  (⟨"LargerWithinModel", "bestBoxes", "(IZ)I"⟩, prog_14_method_75_code, 5, (Option.some Jvm.ClassFile.FieldType.int), "LargerWithinModel", 12),
  (⟨"LargerWithinModel", "isHousehold", "(I)Z"⟩, prog_14_method_76_code, 2, (Option.some Jvm.ClassFile.FieldType.boolean), "LargerWithinModel", 12),
  (⟨"LargerWithinModel", "household", "(IZI)I"⟩, prog_14_method_77_code, 5, (Option.some Jvm.ClassFile.FieldType.int), "LargerWithinModel", 12),
  (⟨"LargerWithinModel", "holds", "(IZI)I"⟩, prog_14_method_78_code, 8, (Option.some Jvm.ClassFile.FieldType.int), "LargerWithinModel", 12),
  (⟨"LargerWithinModel", "isOf", "(II)Z"⟩, prog_14_method_79_code, 2, (Option.some Jvm.ClassFile.FieldType.boolean), "LargerWithinModel", 99),
  (⟨"LargerWithinModel", "isShut", "(I)Z"⟩, prog_14_method_80_code, 2, (Option.some Jvm.ClassFile.FieldType.boolean), "LargerWithinModel", 12),
  (⟨"LargerWithinModel", "shuts", "(III)V"⟩, prog_14_method_81_code, 6, (Option.none : Option Jvm.ClassFile.FieldType), "LargerWithinModel", 12),
  (⟨"LargerWithinModel", "shutWays", "(II)I"⟩, prog_14_method_82_code, 4, (Option.some Jvm.ClassFile.FieldType.int), "LargerWithinModel", 12)]
def MT_18 : List MD := [
  (⟨"LargerWithinModel", "shut", "(II)I"⟩, prog_14_method_83_code, 3, (Option.some Jvm.ClassFile.FieldType.int), "LargerWithinModel", 12),
  (⟨"LargerWithinModel", "shutIn", "(III)I"⟩, prog_14_method_84_code, 5, (Option.some Jvm.ClassFile.FieldType.int), "LargerWithinModel", 12),
  (⟨"LargerWithinModel", "even", "(IIII)I"⟩, prog_14_method_85_code, 10, (Option.some Jvm.ClassFile.FieldType.int), "LargerWithinModel", 12),
  (⟨"LargerWithinModel", "lightestFor", "(I)I"⟩, prog_14_method_86_code, 4, (Option.some Jvm.ClassFile.FieldType.int), "LargerWithinModel", 12),
  (⟨"LargerWithinModel", "canNest", "(II)Z"⟩, prog_14_method_87_code, 6, (Option.some Jvm.ClassFile.FieldType.boolean), "LargerWithinModel", 12),
  (⟨"LargerWithinModel", "nests", "(II)V"⟩, prog_14_method_88_code, 4, (Option.none : Option Jvm.ClassFile.FieldType), "LargerWithinModel", 12),
  (⟨"LargerWithinModel", "nest", "(I)I"⟩, prog_14_method_89_code, 2, (Option.some Jvm.ClassFile.FieldType.int), "LargerWithinModel", 12),
  (⟨"LargerWithinModel", "areItems", "(I)Z"⟩, prog_14_method_90_code, 6, (Option.some Jvm.ClassFile.FieldType.boolean), "LargerWithinModel", 12),
  (⟨"LargerWithinModel", "lifts", "(I)I"⟩, prog_14_method_91_code, 3, (Option.some Jvm.ClassFile.FieldType.int), "LargerWithinModel", 12),
  (⟨"LargerWithinModel", "voyage", "(I)I"⟩, prog_14_method_92_code, 4, (Option.some Jvm.ClassFile.FieldType.int), "LargerWithinModel", 12),
  (⟨"LargerWithinModel", "trips", "(III)V"⟩, prog_14_method_93_code, 7, (Option.none : Option Jvm.ClassFile.FieldType), "LargerWithinModel", 12),
  (⟨"LargerWithinModel", "voyages", "(II)I"⟩, prog_14_method_94_code, 5, (Option.some Jvm.ClassFile.FieldType.int), "LargerWithinModel", 12),
  (⟨"LargerWithinModel", "how", "(II)I"⟩, prog_14_method_95_code, 9, (Option.some Jvm.ClassFile.FieldType.int), "LargerWithinModel", 12),
  (⟨"LargerWithinModel", "isChest", "(III)Z"⟩, prog_14_method_96_code, 4, (Option.some Jvm.ClassFile.FieldType.boolean), "LargerWithinModel", 12),
  (⟨"LargerWithinModel", "laysChest", "(IIII)I"⟩, prog_14_method_97_code, 7, (Option.some Jvm.ClassFile.FieldType.int), "LargerWithinModel", 12),
  (⟨"LargerWithinModel", "chest", "(IIII)I"⟩, prog_14_method_98_code, 5, (Option.some Jvm.ClassFile.FieldType.int), "LargerWithinModel", 12)]
def MT_19 : List MD := [
  (⟨"LargerWithinModel", "sure", "(IIIIZ)I"⟩, prog_14_method_99_code, 10, (Option.some Jvm.ClassFile.FieldType.int), "LargerWithinModel", 12),
  (⟨"LargerWithinModel", "look", "(IIII)I"⟩, prog_14_method_100_code, 11, (Option.some Jvm.ClassFile.FieldType.int), "LargerWithinModel", 12),
  (⟨"LargerWithinModel", "looks", "(IIII)I"⟩, prog_14_method_101_code, 13, (Option.some Jvm.ClassFile.FieldType.int), "LargerWithinModel", 12),
  (⟨"LargerWithinModel", "sounded", "(IIII)I"⟩, prog_14_method_102_code, 7, (Option.some Jvm.ClassFile.FieldType.int), "LargerWithinModel", 12),
  (⟨"LargerWithinModel", "needs", "(I)I"⟩, prog_14_method_103_code, 3, (Option.some Jvm.ClassFile.FieldType.int), "LargerWithinModel", 12),
  (⟨"LargerWithinModel", "room", "(III)I"⟩, prog_14_method_104_code, 4, (Option.some Jvm.ClassFile.FieldType.int), "LargerWithinModel", 12),
  (⟨"LargerWithinModel", "deepest", "(I)I"⟩, prog_14_method_105_code, 3, (Option.some Jvm.ClassFile.FieldType.int), "LargerWithinModel", 12),
  (⟨"LargerWithinModel", "carriers", "(II)I"⟩, prog_14_method_106_code, 8, (Option.some Jvm.ClassFile.FieldType.int), "LargerWithinModel", 12),
  (⟨"LargerWithinModel", "cut", "(JI)J"⟩, prog_14_method_107_code, 3, (Option.some Jvm.ClassFile.FieldType.long), "LargerWithinModel", 99),
  (⟨"LargerWithinModel", "numbers", "(III)I"⟩, prog_14_method_108_code, 5, (Option.some Jvm.ClassFile.FieldType.int), "LargerWithinModel", 12),
  (⟨"LargerWithinModel", "write", "(IIJ)J"⟩, prog_14_method_109_code, 5, (Option.some Jvm.ClassFile.FieldType.long), "LargerWithinModel", 12),
  (⟨"LargerWithinModel", "copy", "(I)I"⟩, prog_14_method_110_code, 3, (Option.some Jvm.ClassFile.FieldType.int), "LargerWithinModel", 12),
  (⟨"LargerWithinModel", "image", "(I)I"⟩, prog_14_method_111_code, 3, (Option.some Jvm.ClassFile.FieldType.int), "LargerWithinModel", 12),
  (⟨"LargerWithinModel", "restore", "(I)I"⟩, prog_14_method_112_code, 3, (Option.some Jvm.ClassFile.FieldType.int), "LargerWithinModel", 12),
  (⟨"LargerWithinModel", "worthIn", "()I"⟩, prog_14_method_113_code, 3, (Option.some Jvm.ClassFile.FieldType.int), "LargerWithinModel", 12),
  (⟨"LargerWithinModel", "count", "(I)I"⟩, prog_14_method_114_code, 2, (Option.some Jvm.ClassFile.FieldType.int), "LargerWithinModel", 12)]
def MT_20 : List MD := [
  (⟨"java/lang/Integer", "numberOfLeadingZeros", "(I)I"⟩, prog_15_method_47_code, 2, (Option.some Jvm.ClassFile.FieldType.int), "java/lang/Integer", 99),
  (⟨"java/lang/Integer", "bitCount", "(I)I"⟩, prog_15_method_49_code, 1, (Option.some Jvm.ClassFile.FieldType.int), "java/lang/Integer", 99),
  (⟨"java/util/Arrays", "fill", "([JJ)V"⟩, prog_21_method_101_code, 5, (Option.none : Option Jvm.ClassFile.FieldType), "java/util/Arrays", 99),
  (⟨"java/util/Arrays", "fill", "([II)V"⟩, prog_21_method_103_code, 4, (Option.none : Option Jvm.ClassFile.FieldType), "java/util/Arrays", 99),
  (⟨"LargerWithinLaw", "law", "([I)Z"⟩, code, 4, (Option.some Jvm.ClassFile.FieldType.boolean), "LargerWithinLaw", 99)]
def MT : List (List MD) := [MT_0, MT_1, MT_2, MT_3, MT_4, MT_5, MT_6, MT_7, MT_8, MT_9, MT_10, MT_11, MT_12, MT_13, MT_14, MT_15, MT_16, MT_17, MT_18, MT_19, MT_20]
def md (mi : Nat) : MD := (MT.getD (mi / 16) []).getD (mi % 16) (⟨"", "", ""⟩, ByteArray.empty, 0, none, "", 99)
abbrev m_Chest_weigh : Nat := 0
abbrev m_Chest_sound : Nat := 1
abbrev m_Chest_begin : Nat := 2
abbrev m_Chest_note : Nat := 3
abbrev m_Chest_found : Nat := 4
abbrev m_Chest_surelyIn : Nat := 5
abbrev m_Chest_surelyOut : Nat := 6
abbrev m_Chest_bestLook : Nat := 7
abbrev m_Chest_looksNeeded : Nat := 8
abbrev m_Chest_noteSetsWith : Nat := 9
abbrev m_Chest_looksFor : Nat := 10
abbrev m_Household_seek : Nat := 11
abbrev m_Household_noteTakers : Nat := 12
abbrev m_Household_takersOf : Nat := 13
abbrev m_Household_takes : Nat := 14
abbrev m_Household_priceOf : Nat := 15
abbrev m_Household_offer : Nat := 16
abbrev m_Household_extend : Nat := 17
abbrev m_Household_takesNoMore : Nat := 18
abbrev m_Household_boxFor : Nat := 19
abbrev m_Household_lineUp : Nat := 20
abbrev m_Household_greatestPart : Nat := 21
abbrev m_Household_canTake : Nat := 22
abbrev m_Layout_clear : Nat := 23
abbrev m_Layout_takeFrom : Nat := 24
abbrev m_Layout_boxOf : Nat := 25
abbrev m_Layout_setBox : Nat := 26
abbrev m_Layout_lay : Nat := 27
abbrev m_Layout_lift : Nat := 28
abbrev m_Layout_manyIn : Nat := 29
abbrev m_Layout_itemAtLevel : Nat := 30
abbrev m_Layout_manyPacked : Nat := 31
abbrev m_Layout_worthPacked : Nat := 32
abbrev m_Layout_onFloor : Nat := 33
abbrev m_Layout_around : Nat := 34
abbrev m_Layout_isWithin : Nat := 35
abbrev m_Layout_fillOf : Nat := 36
abbrev m_Layout_halvedOf : Nat := 37
abbrev m_Layout_roomOf : Nat := 38
abbrev m_Layout_loadOf : Nat := 39
abbrev m_Layout_heftOf : Nat := 40
abbrev m_Layout_spareLoad : Nat := 41
abbrev m_Layout_liftings : Nat := 42
abbrev m_Layout_manyAbove : Nat := 43
abbrev m_Layout_itemOver : Nat := 44
abbrev m_Layout_outward : Nat := 45
abbrev m_Layout_whyNotPut : Nat := 46
abbrev m_Layout_hasRoomFor : Nat := 47
abbrev m_Layout_whyNotTaken : Nat := 48
abbrev m_Layout_doActs : Nat := 49
abbrev m_Layout_whyStopped : Nat := 50
abbrev m_Layout_doAct : Nat := 51
abbrev m_Nest_many : Nat := 52
abbrev m_Nest_boxAt : Nat := 53
abbrev m_Nest_seek : Nat := 54
abbrev m_Nest_notePairs : Nat := 55
abbrev m_Nest_mostAround : Nat := 56
abbrev m_Nest_manyWith : Nat := 57
abbrev m_Nest_lineUp : Nat := 58
abbrev m_Nest_firstAround : Nat := 59
abbrev m_Packing_read : Nat := 60
abbrev m_Packing_wrong : Nat := 61
abbrev m_Packing_culprit : Nat := 62
abbrev m_Packing_findWrong : Nat := 63
abbrev m_Packing_blame : Nat := 64
abbrev m_Packing_firstInItself : Nat := 65
abbrev m_Packing_firstTooWide : Nat := 66
abbrev m_Packing_firstTooHeavy : Nat := 67
abbrev m_Packing_firstTooFull : Nat := 68
abbrev m_Packing_lostBits : Nat := 69
abbrev m_Packing_manyPacked : Nat := 70
abbrev m_Packing_act : Nat := 71
abbrev m_Packing_firstReady : Nat := 72
abbrev m_Packing_hasAllOfIts : Nat := 73
abbrev m_Picked_pick : Nat := 74
abbrev m_Picked_sumUp : Nat := 75
abbrev m_Picked_sumUpOne : Nat := 76
abbrev m_Picked_many : Nat := 77
abbrev m_Picked_choices : Nat := 78
abbrev m_Picked_memberAt : Nat := 79
abbrev m_Picked_low : Nat := 80
abbrev m_Picked_high : Nat := 81
abbrev m_Picked_size : Nat := 82
abbrev m_Picked_outline : Nat := 83
abbrev m_Picked_weight : Nat := 84
abbrev m_Picked_worth : Nat := 85
abbrev m_Picked_passes : Nat := 86
abbrev m_Picked_goInto : Nat := 87
abbrev m_Picked_bits : Nat := 88
abbrev m_Picked_worthiest : Nat := 89
abbrev m_Picked_evenest : Nat := 90
abbrev m_Picked_worthApart : Nat := 91
abbrev m_Reader_hasPlaceFor : Nat := 92
abbrev m_Reader_append : Nat := 93
abbrev m_Reader_length : Nat := 94
abbrev m_Reader_faultKind : Nat := 95
abbrev m_Reader_faultPlace : Nat := 96
abbrev m_Reader_fresh : Nat := 97
abbrev m_Reader_read : Nat := 98
abbrev m_Reader_blame : Nat := 99
abbrev m_Reader_sign : Nat := 100
abbrev m_Reader_isLetter : Nat := 101
abbrev m_Reader_isDigit : Nat := 102
abbrev m_Reader_beginsToken : Nat := 103
abbrev m_Reader_readToken : Nat := 104
abbrev m_Reader_readWord : Nat := 105
abbrev m_Reader_beginLine : Nat := 106
abbrev m_Reader_behindWord : Nat := 107
abbrev m_Reader_patternSign : Nat := 108
abbrev m_Reader_readNumber : Nat := 109
abbrev m_Reader_kindOfNumber : Nat := 110
abbrev m_Reader_isInBounds : Nat := 111
abbrev m_Reader_readStop : Nat := 112
abbrev m_Row_begin : Nat := 113
abbrev m_Row_isMissing : Nat := 114
abbrev m_Row_many : Nat := 115
abbrev m_Row_hasPlace : Nat := 116
abbrev m_Row_get : Nat := 117
abbrev m_Row_set : Nat := 118
abbrev m_Row_cut : Nat := 119
abbrev m_Shutting_ways : Nat := 120
abbrev m_Shutting_boxOf : Nat := 121
abbrev m_Shutting_seek : Nat := 122
abbrev m_Shutting_placeFrom : Nat := 123
abbrev m_Shutting_mayHost : Nat := 124
abbrev m_Shutting_move : Nat := 125
abbrev m_Shutting_isSound : Nat := 126
abbrev m_Shutting_fitsNow : Nat := 127
abbrev m_Store_clear : Nat := 128
abbrev m_Store_takeFrom : Nat := 129
abbrev m_Store_boxes : Nat := 130
abbrev m_Store_things : Nat := 131
abbrev m_Store_itemCount : Nat := 132
abbrev m_Store_hasBox : Nat := 133
abbrev m_Store_hasItem : Nat := 134
abbrev m_Store_boxBits : Nat := 135
abbrev m_Store_thingBits : Nat := 136
abbrev m_Store_itemBits : Nat := 137
abbrev m_Store_itemAt : Nat := 138
abbrev m_Store_told : Nat := 139
abbrev m_Store_tell : Nat := 140
abbrev m_Store_roomOf : Nat := 141
abbrev m_Store_takesAlone : Nat := 142
abbrev m_Store_weightOfBoxes : Nat := 143
abbrev m_Store_nextItem : Nat := 144
abbrev m_Store_isFull : Nat := 145
abbrev m_Store_keep : Nat := 146
abbrev m_Voyage_areItems : Nat := 147
abbrev m_Voyage_liftingsAsTold : Nat := 148
abbrev m_Voyage_fewest : Nat := 149
abbrev m_Voyage_itemAt : Nat := 150
abbrev m_Voyage_seek : Nat := 151
abbrev m_Voyage_sortIn : Nat := 152
abbrev m_Voyage_chooseNext : Nat := 153
abbrev m_X_feed : Nat := 154
abbrev m_X_store : Nat := 155
abbrev m_X_fault : Nat := 156
abbrev m_X_item : Nat := 157
abbrev m_X_lies : Nat := 158
abbrev m_X_box : Nat := 159
abbrev m_X_may : Nat := 160
abbrev m_X_put : Nat := 161
abbrev m_X_take : Nat := 162
abbrev m_X_empty : Nat := 163
abbrev m_X_over : Nat := 164
abbrev m_X_judge : Nat := 165
abbrev m_X_perform : Nat := 166
abbrev m_X_packing : Nat := 167
abbrev m_X_how : Nat := 168
abbrev m_X_lost : Nat := 169
abbrev m_X_most : Nat := 170
abbrev m_X_household : Nat := 171
abbrev m_X_holds : Nat := 172
abbrev m_X_shut : Nat := 173
abbrev m_X_shutIn : Nat := 174
abbrev m_X_even : Nat := 175
abbrev m_X_lightestFor : Nat := 176
abbrev m_X_nest : Nat := 177
abbrev m_X_voyage : Nat := 178
abbrev m_X_voyages : Nat := 179
abbrev m_X_chest : Nat := 180
abbrev m_X_sure : Nat := 181
abbrev m_X_look : Nat := 182
abbrev m_X_looks : Nat := 183
abbrev m_X_sounded : Nat := 184
abbrev m_X_needs : Nat := 185
abbrev m_X_room : Nat := 186
abbrev m_X_deepest : Nat := 187
abbrev m_X_carriers : Nat := 188
abbrev m_X_numbers : Nat := 189
abbrev m_X_write : Nat := 190
abbrev m_X_copy : Nat := 191
abbrev m_X_image : Nat := 192
abbrev m_X_restore : Nat := 193
abbrev m_X_count : Nat := 194
abbrev m_X_isRow : Nat := 195
abbrev m_X_isImage : Nat := 196
abbrev m_X_hasOnly : Nat := 197
abbrev m_X_roomBy : Nat := 198
abbrev m_X_drawAfter : Nat := 199
abbrev m_X_rowRefusal : Nat := 200
abbrev m_X_packingRefusal : Nat := 201
abbrev m_X_weighIfSound : Nat := 202
abbrev m_X_isThingSet : Nat := 203
abbrev m_X_isItemOf : Nat := 204
abbrev m_X_canBeShut : Nat := 205
abbrev m_X_carryOut : Nat := 206
abbrev m_X_carryIn : Nat := 207
abbrev m_M_within : Nat := 208
abbrev m_M_feed : Nat := 209
abbrev m_M_see : Nat := 210
abbrev m_M_isSmall : Nat := 211
abbrev m_M_isDigit : Nat := 212
abbrev m_M_keyAt : Nat := 213
abbrev m_M_next : Nat := 214
abbrev m_M_fails : Nat := 215
abbrev m_M_is : Nat := 216
abbrev m_M_must : Nat := 217
abbrev m_M_takes : Nat := 218
abbrev m_M_takesBehind : Nat := 219
abbrev m_M_place : Nat := 220
abbrev m_M_readBox : Nat := 221
abbrev m_M_readThing : Nat := 222
abbrev m_M_store : Nat := 223
abbrev m_M_fault : Nat := 224
abbrev m_M_isBox : Nat := 225
abbrev m_M_isItem : Nat := 226
abbrev m_M_of : Nat := 227
abbrev m_M_item : Nat := 228
abbrev m_M_around : Nat := 229
abbrev m_M_isDeepIn : Nat := 230
abbrev m_M_isOver : Nat := 231
abbrev m_M_overMany : Nat := 232
abbrev m_M_loadOf : Nat := 233
abbrev m_M_fillOf : Nat := 234
abbrev m_M_halvedOf : Nat := 235
abbrev m_M_roomBy : Nat := 236
abbrev m_M_roomOf : Nat := 237
abbrev m_M_heftOf : Nat := 238
abbrev m_M_depthOf : Nat := 239
abbrev m_M_lies : Nat := 240
abbrev m_M_manyIn : Nat := 241
abbrev m_M_inBox : Nat := 242
abbrev m_M_box : Nat := 243
abbrev m_M_bears : Nat := 244
abbrev m_M_refuses : Nat := 245
abbrev m_M_comes : Nat := 246
abbrev m_M_may : Nat := 247
abbrev m_M_put : Nat := 248
abbrev m_M_canBeTaken : Nat := 249
abbrev m_M_take : Nat := 250
abbrev m_M_itemsIn : Nat := 251
abbrev m_M_empty : Nat := 252
abbrev m_M_over : Nat := 253
abbrev m_M_keeps : Nat := 254
abbrev m_M_isAgain : Nat := 255
abbrev m_M_acts : Nat := 256
abbrev m_M_actsAll : Nat := 257
abbrev m_M_judge : Nat := 258
abbrev m_M_perform : Nat := 259
abbrev m_M_itemAt : Nat := 260
abbrev m_M_itemMany : Nat := 261
abbrev m_M_firstNoBox : Nat := 262
abbrev m_M_lays : Nat := 263
abbrev m_M_isRing : Nat := 264
abbrev m_M_firstWrong : Nat := 265
abbrev m_M_packing : Nat := 266
abbrev m_M_lost : Nat := 267
abbrev m_M_bitsOf : Nat := 268
abbrev m_M_itemsAll : Nat := 269
abbrev m_M_thingsAll : Nat := 270
abbrev m_M_takesFew : Nat := 271
abbrev m_M_asItems : Nat := 272
abbrev m_M_sumOf : Nat := 273
abbrev m_M_passes : Nat := 274
abbrev m_M_most : Nat := 275
abbrev m_M_laysBoxes : Nat := 276
abbrev m_M_canWith : Nat := 277
abbrev m_M_weightOf : Nat := 278
abbrev m_M_isBetter : Nat := 279
abbrev m_M_bestBoxes : Nat := 280
abbrev m_M_isHousehold : Nat := 281
abbrev m_M_household : Nat := 282
abbrev m_M_holds : Nat := 283
abbrev m_M_isOf : Nat := 284
abbrev m_M_isShut : Nat := 285
abbrev m_M_shuts : Nat := 286
abbrev m_M_shutWays : Nat := 287
abbrev m_M_shut : Nat := 288
abbrev m_M_shutIn : Nat := 289
abbrev m_M_even : Nat := 290
abbrev m_M_lightestFor : Nat := 291
abbrev m_M_canNest : Nat := 292
abbrev m_M_nests : Nat := 293
abbrev m_M_nest : Nat := 294
abbrev m_M_areItems : Nat := 295
abbrev m_M_lifts : Nat := 296
abbrev m_M_voyage : Nat := 297
abbrev m_M_trips : Nat := 298
abbrev m_M_voyages : Nat := 299
abbrev m_M_how : Nat := 300
abbrev m_M_isChest : Nat := 301
abbrev m_M_laysChest : Nat := 302
abbrev m_M_chest : Nat := 303
abbrev m_M_sure : Nat := 304
abbrev m_M_look : Nat := 305
abbrev m_M_looks : Nat := 306
abbrev m_M_sounded : Nat := 307
abbrev m_M_needs : Nat := 308
abbrev m_M_room : Nat := 309
abbrev m_M_deepest : Nat := 310
abbrev m_M_carriers : Nat := 311
abbrev m_M_cut : Nat := 312
abbrev m_M_numbers : Nat := 313
abbrev m_M_write : Nat := 314
abbrev m_M_copy : Nat := 315
abbrev m_M_image : Nat := 316
abbrev m_M_restore : Nat := 317
abbrev m_M_worthIn : Nat := 318
abbrev m_M_count : Nat := 319
abbrev m_Integer_numberOfLeadingZeros : Nat := 320
abbrev m_Integer_bitCount : Nat := 321
abbrev m_Arrays_fillJ : Nat := 322
abbrev m_Arrays_fillI : Nat := 323
abbrev m_Law_law : Nat := 324
