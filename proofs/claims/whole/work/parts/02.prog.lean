/-! the program as tables: classes, methods, what the constant pools resolve to (written by wip/whole/gen.py) -/
def cnm : List String := ["ClaySeals", "ClaySeals$Line", "ClaySeals$Rings", "ClaySeals$Lumps", "ClaySeals$Matches", "ClaySeals$Ways", "ClaySeals$Choices", "ClaySeals$Groups", "ClaySeals$Followers", "ClaySeals$Strangers", "ClaySeals$Sheets", "ClaySealsModel", "ClaySealsLaw", "java/lang/Integer", "java/lang/Long"]
def cn (c : Nat) : String := cnm.getD c ""
def cfl : List (List (String × String × Bool)) := [[("line", "LClaySeals$Line;", true), ("rings", "LClaySeals$Rings;", true), ("lumps", "LClaySeals$Lumps;", true), ("matches", "LClaySeals$Matches;", true), ("leading", "LClaySeals$Ways;", true), ("strangers", "LClaySeals$Strangers;", true), ("sheets", "LClaySeals$Sheets;", true)], [("bytes", "[I", true), ("length", "I", false), ("marks", "I", false), ("unseen", "I", false)], [("picture", "[I", true), ("older", "[I", true), ("cutDay", "[I", true), ("total", "I", false), ("heldRing", "[I", true), ("heldPerson", "[I", true), ("heldDays", "[J", true), ("heldTotal", "I", false)], [("marks", "[I", true), ("blanks", "[I", true), ("unseen", "[I", true), ("from", "[I", true), ("to", "[I", true), ("back", "[I", true), ("door", "[I", true), ("total", "I", false), ("aside", "I", false)], [("rings", "LClaySeals$Rings;", true), ("lumps", "LClaySeals$Lumps;", true)], [("matches", "LClaySeals$Matches;", true), ("choices", "LClaySeals$Choices;", true), ("groups", "LClaySeals$Groups;", true), ("followers", "LClaySeals$Followers;", true), ("stone", "[I", true), ("bestRing", "[I", true), ("bestTurned", "[I", true), ("ringsOf", "[I", true), ("found", "I", false), ("fewest", "I", false), ("isFresh", "Z", false)], [("matches", "LClaySeals$Matches;", true), ("lumpAt", "[I", true), ("places", "I", false), ("start", "[I", true), ("ring", "[I", true), ("turned", "[I", true), ("whole", "[I", true), ("chipped", "[I", true), ("days", "[J", true), ("total", "I", false)], [("choices", "LClaySeals$Choices;", true), ("chosen", "[I", true), ("members", "[I", true), ("before", "[I", true), ("after", "[I", true), ("day", "[I", true)], [("choices", "LClaySeals$Choices;", true), ("groups", "LClaySeals$Groups;", true), ("answers", "[I", true), ("changedAt", "[I", true), ("taken", "[I", true)], [("lumps", "LClaySeals$Lumps;", true), ("lumpAt", "[I", true), ("friends", "[I", true), ("members", "[I", true), ("numberOf", "[I", true), ("places", "I", false), ("fewest", "I", false), ("isFresh", "Z", false)], [("items", "[I", true), ("form", "[I", true), ("size", "[I", true), ("latest", "I", false)], [("typed", "I", false), ("text", "[I", true), ("lineMarks", "I", false), ("lineUnseen", "I", false), ("rings", "I", false), ("picture", "[I", true), ("anewOf", "[I", true), ("anewDay", "[I", true), ("helds", "I", false), ("heldRing", "[I", true), ("heldBy", "[I", true), ("heldFrom", "[I", true), ("heldTo", "[I", true), ("isWorked", "Z", false), ("lumps", "I", false), ("marks", "[I", true), ("unseen", "[I", true), ("lumpFrom", "[I", true), ("lumpTo", "[I", true), ("backOf", "[I", true), ("doorOf", "[I", true), ("asides", "I", false), ("optionMany", "[I", true), ("optionRing", "[I", true), ("optionTurn", "[I", true), ("optionChip", "[I", true), ("optionWhole", "[I", true), ("ringDays", "[J", true), ("chosen", "[I", true), ("order", "[I", true), ("ordered", "I", false), ("member", "[I", true), ("before", "[I", true), ("dayOf", "[I", true), ("waysMany", "I", false), ("bestStones", "I", false), ("bestOption", "[I", true), ("mays", "[I", true), ("numbers", "[I", true), ("apart", "[I", true), ("isThere", "[Z", true), ("forms", "[I", true), ("sizes", "[I", true), ("items", "[I", true), ("moved", "[I", true), ("finding", "I", false)]]
def cft : List (List FieldType) := [[.object "ClaySeals$Line", .object "ClaySeals$Rings", .object "ClaySeals$Lumps", .object "ClaySeals$Matches", .object "ClaySeals$Ways", .object "ClaySeals$Strangers", .object "ClaySeals$Sheets"], [.array .int, .int, .int, .int], [.array .int, .array .int, .array .int, .int, .array .int, .array .int, .array .long, .int], [.array .int, .array .int, .array .int, .array .int, .array .int, .array .int, .array .int, .int, .int], [.object "ClaySeals$Rings", .object "ClaySeals$Lumps"], [.object "ClaySeals$Matches", .object "ClaySeals$Choices", .object "ClaySeals$Groups", .object "ClaySeals$Followers", .array .int, .array .int, .array .int, .array .int, .int, .int, .boolean], [.object "ClaySeals$Matches", .array .int, .int, .array .int, .array .int, .array .int, .array .int, .array .int, .array .long, .int], [.object "ClaySeals$Choices", .array .int, .array .int, .array .int, .array .int, .array .int], [.object "ClaySeals$Choices", .object "ClaySeals$Groups", .array .int, .array .int, .array .int], [.object "ClaySeals$Lumps", .array .int, .array .int, .array .int, .array .int, .int, .int, .boolean], [.array .int, .array .int, .array .int, .int], [.int, .array .int, .int, .int, .int, .array .int, .array .int, .array .int, .int, .array .int, .array .int, .array .int, .array .int, .boolean, .int, .array .int, .array .int, .array .int, .array .int, .array .int, .array .int, .int, .array .int, .array .int, .array .int, .array .int, .array .int, .array .long, .array .int, .array .int, .int, .array .int, .array .int, .array .int, .int, .int, .array .int, .array .int, .array .int, .array .int, .array .boolean, .array .int, .array .int, .array .int, .array .int, .int]]
def cfg : List (List Nat) := [[2, 2, 2, 2, 2, 2, 2], [2, 0, 0, 0], [2, 2, 2, 0, 2, 2, 2, 0], [2, 2, 2, 2, 2, 2, 2, 0, 0], [2, 2], [2, 2, 2, 2, 2, 2, 2, 2, 0, 0, 1], [2, 2, 0, 2, 2, 2, 2, 2, 2, 0], [2, 2, 2, 2, 2, 2], [2, 2, 2, 2, 2], [2, 2, 2, 2, 2, 0, 0, 1], [2, 2, 2, 0], [0, 2, 0, 0, 0, 2, 2, 2, 0, 2, 2, 2, 2, 1, 0, 2, 2, 2, 2, 2, 2, 0, 2, 2, 2, 2, 2, 2, 2, 2, 0, 2, 2, 2, 0, 0, 2, 2, 2, 2, 2, 2, 2, 2, 2, 0]]
def cfp : List (List Nat) := [[467, 469, 471, 473, 475, 477, 479], [149, 151, 153, 155], [184, 186, 188, 190, 192, 194, 196, 198], [228, 230, 232, 234, 236, 238, 240, 242, 244], [259, 261], [382, 384, 386, 388, 390, 392, 394, 396, 398, 400, 402], [296, 298, 300, 302, 304, 306, 308, 310, 312, 314], [330, 332, 334, 336, 338, 340], [355, 357, 359, 361, 363], [421, 423, 425, 427, 429, 431, 433, 435], [451, 453, 455, 457], [1069, 1071, 1073, 1075, 1077, 1079, 1081, 1083, 1085, 1087, 1089, 1091, 1093, 1095, 1097, 1099, 1101, 1103, 1105, 1107, 1109, 1111, 1113, 1115, 1117, 1119, 1121, 1123, 1125, 1127, 1129, 1131, 1133, 1135, 1137, 1139, 1141, 1143, 1145, 1147, 1149, 1151, 1153, 1155, 1157, 1159]]
def cT (c : Nat) : u_T := fun k => (cn c, ((cfl.getD c []).getD k ("", "", false)))
def cty (c k : Nat) : FieldType := (cft.getD c []).getD k .int
def ctg (c k : Nat) : Nat := (cfg.getD c []).getD k 0
def cN (c : Nat) : Nat := (cfl.getD c []).length
def clsL : List vw_C := (List.range 12).map fun c => (cn c, cT c, cN c)
def cip : List Nat := [112, 113, 114, 115, 116, 117, 118, 119, 120, 121, 122, 123, 111, 124, 125]
def cinst : List Nat := [129, 137, 160, 203, 248, 265, 271, 318, 344, 406, 439, 1018]
abbrev MI := MethodName × ByteArray × Nat × Option FieldType × Nat × Nat × Nat
def mts : List MI := [
  (⟨"ClaySeals", "<init>", "()V"⟩, prog_1_method_1_code, 1, none, 2, 0, 0),
  (⟨"ClaySeals", "type", "(I)I"⟩, prog_1_method_2_code, 2, some .int, 1, 1, 0),
  (⟨"ClaySeals", "isBelow", "(II)Z"⟩, prog_1_method_49_code, 2, some .boolean, 0, 2, 0),
  (⟨"ClaySeals", "wipe", "()I"⟩, prog_1_method_3_code, 1, some .int, 1, 0, 0),
  (⟨"ClaySeals", "fault", "()I"⟩, prog_1_method_4_code, 1, some .int, 1, 0, 0),
  (⟨"ClaySeals", "ring", "()I"⟩, prog_1_method_5_code, 2, some .int, 1, 0, 0),
  (⟨"ClaySeals", "anew", "(III)I"⟩, prog_1_method_6_code, 4, some .int, 1, 3, 0),
  (⟨"ClaySeals", "isRing", "(I)Z"⟩, prog_1_method_45_code, 2, some .boolean, 1, 1, 0),
  (⟨"ClaySeals", "isDay", "(I)Z"⟩, prog_1_method_47_code, 1, some .boolean, 0, 1, 0),
  (⟨"ClaySeals", "held", "(IIII)I"⟩, prog_1_method_7_code, 5, some .int, 1, 4, 0),
  (⟨"ClaySeals", "areDays", "(II)Z"⟩, prog_1_method_48_code, 2, some .boolean, 0, 2, 0),
  (⟨"ClaySeals", "daysBetween", "(II)J"⟩, prog_1_method_51_code, 2, some .long, 0, 2, 0),
  (⟨"ClaySeals", "read", "(I)I"⟩, prog_1_method_8_code, 6, some .int, 1, 1, 0),
  (⟨"ClaySeals", "lump", "(IIII)I"⟩, prog_1_method_9_code, 6, some .int, 1, 4, 0),
  (⟨"ClaySeals", "turnedRight", "(II)I"⟩, prog_1_method_53_code, 6, some .int, 0, 2, 0),
  (⟨"ClaySeals", "hasBit", "(II)Z"⟩, prog_1_method_50_code, 2, some .boolean, 0, 2, 0),
  (⟨"ClaySeals", "forgetLumps", "()V"⟩, prog_1_method_40_code, 1, none, 1, 0, 0),
  (⟨"ClaySeals", "aside", "(I)I"⟩, prog_1_method_10_code, 3, some .int, 1, 1, 0),
  (⟨"ClaySeals", "lumpIs", "(II)I"⟩, prog_1_method_11_code, 3, some .int, 1, 2, 0),
  (⟨"ClaySeals", "isLump", "(I)Z"⟩, prog_1_method_46_code, 2, some .boolean, 1, 1, 0),
  (⟨"ClaySeals", "ringIs", "(II)I"⟩, prog_1_method_12_code, 3, some .int, 1, 2, 0),
  (⟨"ClaySeals", "can", "(II)I"⟩, prog_1_method_13_code, 5, some .int, 1, 2, 0),
  (⟨"ClaySeals", "cells", "(IIII)I"⟩, prog_1_method_14_code, 5, some .int, 1, 4, 0),
  (⟨"ClaySeals", "earlier", "(IIIII)I"⟩, prog_1_method_15_code, 6, some .int, 1, 5, 0),
  (⟨"ClaySeals", "ways", "()I"⟩, prog_1_method_16_code, 1, some .int, 1, 0, 0),
  (⟨"ClaySeals", "stones", "()I"⟩, prog_1_method_17_code, 2, some .int, 1, 0, 0),
  (⟨"ClaySeals", "best", "(II)I"⟩, prog_1_method_18_code, 4, some .int, 1, 2, 0),
  (⟨"ClaySeals", "may", "(I)I"⟩, prog_1_method_19_code, 3, some .int, 1, 1, 0),
  (⟨"ClaySeals", "sure", "()I"⟩, prog_1_method_20_code, 4, some .int, 1, 0, 0),
  (⟨"ClaySeals", "stonesItMayBeOf", "(I)I"⟩, prog_1_method_41_code, 4, some .int, 1, 1, 0),
  (⟨"ClaySeals", "pressed", "(I)I"⟩, prog_1_method_21_code, 5, some .int, 1, 1, 0),
  (⟨"ClaySeals", "isPressedBy", "(II)Z"⟩, prog_1_method_42_code, 4, some .boolean, 1, 2, 0),
  (⟨"ClaySeals", "empty", "()I"⟩, prog_1_method_22_code, 4, some .int, 1, 0, 0),
  (⟨"ClaySeals", "hasLump", "(I)Z"⟩, prog_1_method_43_code, 3, some .boolean, 1, 1, 0),
  (⟨"ClaySeals", "leftOut", "()I"⟩, prog_1_method_23_code, 1, some .int, 1, 0, 0),
  (⟨"ClaySeals", "joined", "(II)I"⟩, prog_1_method_24_code, 3, some .int, 1, 2, 0),
  (⟨"ClaySeals", "least", "()I"⟩, prog_1_method_25_code, 1, some .int, 1, 0, 0),
  (⟨"ClaySeals", "ones", "(I)I"⟩, prog_1_method_26_code, 2, some .int, 1, 1, 0),
  (⟨"ClaySeals", "near", "(II)I"⟩, prog_1_method_27_code, 3, some .int, 1, 2, 0),
  (⟨"ClaySeals", "copyOf", "(II)I"⟩, prog_1_method_28_code, 7, some .int, 1, 2, 0),
  (⟨"ClaySeals", "shut", "(III)I"⟩, prog_1_method_29_code, 6, some .int, 1, 3, 0),
  (⟨"ClaySeals", "gap", "(I)I"⟩, prog_1_method_30_code, 5, some .int, 1, 1, 0),
  (⟨"ClaySeals", "longestHole", "(J)I"⟩, prog_1_method_52_code, 6, some .int, 0, 1, 0),
  (⟨"ClaySeals", "clean", "()I"⟩, prog_1_method_31_code, 6, some .int, 1, 0, 0),
  (⟨"ClaySeals", "worthOfCleaning", "(I)I"⟩, prog_1_method_44_code, 4, some .int, 1, 1, 0),
  (⟨"ClaySeals", "sheet", "(III)I"⟩, prog_1_method_32_code, 4, some .int, 1, 3, 0),
  (⟨"ClaySeals", "lose", "(I)I"⟩, prog_1_method_33_code, 3, some .int, 1, 1, 0),
  (⟨"ClaySeals", "put", "(IIII)I"⟩, prog_1_method_34_code, 6, some .int, 1, 4, 0),
  (⟨"ClaySeals", "get", "(III)I"⟩, prog_1_method_35_code, 5, some .int, 1, 3, 0),
  (⟨"ClaySeals", "copy", "(IIIII)I"⟩, prog_1_method_36_code, 6, some .int, 1, 5, 0),
  (⟨"ClaySeals", "write", "(I)I"⟩, prog_1_method_37_code, 5, some .int, 1, 1, 0),
  (⟨"ClaySeals", "count", "(I)I"⟩, prog_1_method_38_code, 2, some .int, 1, 1, 0),
  (⟨"ClaySeals", "digest", "()J"⟩, prog_1_method_39_code, 5, some .long, 1, 0, 0),
  (⟨"ClaySeals$Line", "<init>", "()V"⟩, prog_5_method_1_code, 1, none, 2, 0, 1),
  (⟨"ClaySeals$Line", "append", "(I)I"⟩, prog_5_method_2_code, 2, some .int, 1, 1, 1),
  (⟨"ClaySeals$Line", "clear", "()I"⟩, prog_5_method_3_code, 2, some .int, 1, 0, 1),
  (⟨"ClaySeals$Line", "findFault", "()I"⟩, prog_5_method_4_code, 5, some .int, 1, 0, 1),
  (⟨"ClaySeals$Line", "isSign", "(I)Z"⟩, prog_5_method_8_code, 1, some .boolean, 0, 1, 1),
  (⟨"ClaySeals$Line", "numberAt", "(I)I"⟩, prog_5_method_5_code, 3, some .int, 1, 1, 1),
  (⟨"ClaySeals$Line", "isFigureAt", "(I)Z"⟩, prog_5_method_6_code, 2, some .boolean, 1, 1, 1),
  (⟨"ClaySeals$Line", "show", "(III)V"⟩, prog_5_method_7_code, 5, none, 1, 3, 1),
  (⟨"ClaySeals$Rings", "<init>", "()V"⟩, prog_8_method_1_code, 1, none, 2, 0, 2),
  (⟨"ClaySeals$Rings", "add", "(I)I"⟩, prog_8_method_2_code, 3, some .int, 1, 1, 2),
  (⟨"ClaySeals$Rings", "newerThan", "(I)I"⟩, prog_8_method_4_code, 3, some .int, 1, 1, 2),
  (⟨"ClaySeals$Rings", "hold", "(IIJ)I"⟩, prog_8_method_3_code, 6, some .int, 1, 3, 2),
  (⟨"ClaySeals$Rings", "stoneOf", "(I)I"⟩, prog_8_method_5_code, 4, some .int, 1, 1, 2),
  (⟨"ClaySeals$Rings", "timesHeld", "(I)I"⟩, prog_8_method_7_code, 4, some .int, 1, 1, 2),
  (⟨"ClaySeals$Rings", "pressDays", "(I)J"⟩, prog_8_method_8_code, 5, some .long, 1, 1, 2),
  (⟨"ClaySeals$Rings", "unlikeCells", "(II)I"⟩, prog_8_method_9_code, 6, some .int, 1, 2, 2),
  (⟨"ClaySeals$Rings", "stonesOfAll", "()I"⟩, prog_8_method_6_code, 3, some .int, 1, 0, 2),
  (⟨"ClaySeals$Lumps", "<init>", "()V"⟩, prog_6_method_1_code, 1, none, 2, 0, 3),
  (⟨"ClaySeals$Lumps", "add", "(II)I"⟩, prog_6_method_2_code, 7, some .int, 1, 2, 3),
  (⟨"ClaySeals$Lumps", "place", "(IIIII)V"⟩, prog_6_method_3_code, 6, none, 1, 5, 3),
  (⟨"ClaySeals$Lumps", "marksOf", "(I)I"⟩, prog_6_method_4_code, 2, some .int, 1, 1, 3),
  (⟨"ClaySeals$Lumps", "isAside", "(I)Z"⟩, prog_6_method_5_code, 2, some .boolean, 1, 1, 3),
  (⟨"ClaySeals$Lumps", "daysOf", "(I)J"⟩, prog_6_method_7_code, 2, some .long, 1, 1, 3),
  (⟨"ClaySeals$Lumps", "areTooMany", "()Z"⟩, prog_6_method_6_code, 1, some .boolean, 1, 0, 3),
  (⟨"ClaySeals$Lumps", "canBeJoined", "(II)Z"⟩, prog_6_method_11_code, 9, some .boolean, 1, 2, 3),
  (⟨"ClaySeals$Lumps", "isPegAt", "(II)Z"⟩, prog_6_method_9_code, 3, some .boolean, 1, 2, 3),
  (⟨"ClaySeals$Lumps", "isOnDay", "(IIZ)Z"⟩, prog_6_method_10_code, 4, some .boolean, 1, 3, 3),
  (⟨"ClaySeals$Lumps", "unseenOfAll", "()I"⟩, prog_6_method_8_code, 3, some .int, 1, 0, 3),
  (⟨"ClaySeals$Matches", "<init>", "(LClaySeals$Rings;LClaySeals$Lumps;)V"⟩, prog_7_method_1_code, 3, none, 2, 2, 4),
  (⟨"ClaySeals$Matches", "canBe", "(III)Z"⟩, prog_7_method_2_code, 4, some .boolean, 1, 3, 4),
  (⟨"ClaySeals$Matches", "showsNoOther", "(III)Z"⟩, prog_7_method_3_code, 4, some .boolean, 1, 3, 4),
  (⟨"ClaySeals$Matches", "whole", "(II)I"⟩, prog_7_method_4_code, 3, some .int, 1, 2, 4),
  (⟨"ClaySeals$Matches", "sharedDays", "(II)J"⟩, prog_7_method_6_code, 3, some .long, 1, 2, 4),
  (⟨"ClaySeals$Matches", "chipped", "(III)I"⟩, prog_7_method_5_code, 4, some .int, 1, 3, 4),
  (⟨"ClaySeals$Ways", "<init>", "(LClaySeals$Matches;)V"⟩, prog_11_method_1_code, 2, none, 2, 1, 5),
  (⟨"ClaySeals$Ways", "forget", "()V"⟩, prog_11_method_2_code, 1, none, 1, 0, 5),
  (⟨"ClaySeals$Ways", "refusal", "()I"⟩, prog_11_method_3_code, 1, some .int, 1, 0, 5),
  (⟨"ClaySeals$Ways", "begin", "()V"⟩, prog_11_method_4_code, 2, none, 1, 0, 5),
  (⟨"ClaySeals$Ways", "placesFrom", "(I)I"⟩, prog_11_method_5_code, 2, some .int, 1, 1, 5),
  (⟨"ClaySeals$Ways", "lead", "(II)V"⟩, prog_11_method_6_code, 8, none, 1, 2, 5),
  (⟨"ClaySeals$Ways", "tell", "(I)V"⟩, prog_11_method_7_code, 3, none, 1, 1, 5),
  (⟨"ClaySeals$Ways", "fewestLeftOut", "()I"⟩, prog_11_method_8_code, 4, some .int, 1, 0, 5),
  (⟨"ClaySeals$Ways", "lumpsAt", "(I)I"⟩, prog_11_method_9_code, 4, some .int, 1, 1, 5),
  (⟨"ClaySeals$Choices", "<init>", "(LClaySeals$Matches;)V"⟩, prog_2_method_1_code, 2, none, 2, 1, 6),
  (⟨"ClaySeals$Choices", "gather", "()V"⟩, prog_2_method_2_code, 5, none, 1, 0, 6),
  (⟨"ClaySeals$Choices", "gatherTurns", "(IIJ)V"⟩, prog_2_method_3_code, 7, none, 1, 3, 6),
  (⟨"ClaySeals$Choices", "isLikeOneFrom", "(I)Z"⟩, prog_2_method_4_code, 3, some .boolean, 1, 1, 6),
  (⟨"ClaySeals$Choices", "endOf", "(II)I"⟩, prog_2_method_6_code, 3, some .int, 1, 2, 6),
  (⟨"ClaySeals$Choices", "startOf", "(II)I"⟩, prog_2_method_5_code, 3, some .int, 1, 2, 6),
  (⟨"ClaySeals$Groups", "<init>", "(LClaySeals$Choices;)V"⟩, prog_4_method_1_code, 2, none, 2, 1, 7),
  (⟨"ClaySeals$Groups", "enter", "(II)V"⟩, prog_4_method_2_code, 5, none, 1, 2, 7),
  (⟨"ClaySeals$Groups", "agree", "(I)Z"⟩, prog_4_method_4_code, 8, some .boolean, 1, 1, 7),
  (⟨"ClaySeals$Groups", "leave", "(I)V"⟩, prog_4_method_3_code, 4, none, 1, 1, 7),
  (⟨"ClaySeals$Followers", "<init>", "(LClaySeals$Choices;LClaySeals$Groups;)V"⟩, prog_3_method_1_code, 3, none, 2, 2, 8),
  (⟨"ClaySeals$Followers", "change", "(II)V"⟩, prog_3_method_2_code, 6, none, 1, 2, 8),
  (⟨"ClaySeals$Followers", "tableOf", "(I)I"⟩, prog_3_method_3_code, 2, some .int, 1, 1, 8),
  (⟨"ClaySeals$Followers", "canAllFollow", "(I)Z"⟩, prog_3_method_4_code, 3, some .boolean, 1, 1, 8),
  (⟨"ClaySeals$Followers", "canFollow", "(II)Z"⟩, prog_3_method_5_code, 9, some .boolean, 1, 2, 8),
  (⟨"ClaySeals$Followers", "nextOf", "(II)I"⟩, prog_3_method_7_code, 4, some .int, 1, 2, 8),
  (⟨"ClaySeals$Followers", "canBeTurned", "(III)Z"⟩, prog_3_method_6_code, 8, some .boolean, 1, 3, 8),
  (⟨"ClaySeals$Strangers", "<init>", "(LClaySeals$Lumps;)V"⟩, prog_10_method_1_code, 2, none, 2, 1, 9),
  (⟨"ClaySeals$Strangers", "forget", "()V"⟩, prog_10_method_2_code, 1, none, 1, 0, 9),
  (⟨"ClaySeals$Strangers", "refresh", "()V"⟩, prog_10_method_3_code, 1, none, 1, 0, 9),
  (⟨"ClaySeals$Strangers", "gather", "()V"⟩, prog_10_method_4_code, 3, none, 1, 0, 9),
  (⟨"ClaySeals$Strangers", "share", "(II)Z"⟩, prog_10_method_5_code, 5, some .boolean, 1, 2, 9),
  (⟨"ClaySeals$Sheets", "<init>", "()V"⟩, prog_9_method_1_code, 1, none, 2, 0, 10),
  (⟨"ClaySeals$Sheets", "isSheet", "(I)Z"⟩, prog_9_method_2_code, 2, some .boolean, 1, 1, 10),
  (⟨"ClaySeals$Sheets", "isLost", "(I)Z"⟩, prog_9_method_4_code, 2, some .boolean, 1, 1, 10),
  (⟨"ClaySeals$Sheets", "find", "(I)I"⟩, prog_9_method_5_code, 2, some .int, 1, 1, 10),
  (⟨"ClaySeals$Sheets", "item", "(II)I"⟩, prog_9_method_8_code, 3, some .int, 1, 2, 10),
  (⟨"ClaySeals$Sheets", "isForm", "(I)Z"⟩, prog_9_method_3_code, 2, some .boolean, 1, 1, 10),
  (⟨"ClaySeals$Sheets", "begin", "(III)V"⟩, prog_9_method_6_code, 5, none, 1, 3, 10),
  (⟨"ClaySeals$Sheets", "findingAt", "(III)I"⟩, prog_9_method_7_code, 4, some .int, 1, 3, 10),
  (⟨"ClaySeals$Sheets", "store", "(III)V"⟩, prog_9_method_9_code, 5, none, 1, 3, 10),
  (⟨"ClaySeals$Sheets", "hasItems", "(III)Z"⟩, prog_9_method_10_code, 4, some .boolean, 1, 3, 10),
  (⟨"ClaySeals$Sheets", "move", "(IIIII)V"⟩, prog_9_method_11_code, 6, none, 1, 5, 10),
  (⟨"ClaySealsModel", "<init>", "()V"⟩, prog_13_method_1_code, 1, none, 2, 0, 11),
  (⟨"ClaySealsModel", "type", "(I)I"⟩, prog_13_method_9_code, 2, some .int, 1, 1, 11),
  (⟨"ClaySealsModel", "in", "(III)Z"⟩, prog_13_method_3_code, 3, some .boolean, 0, 3, 11),
  (⟨"ClaySealsModel", "wipe", "()I"⟩, prog_13_method_10_code, 2, some .int, 1, 0, 11),
  (⟨"ClaySealsModel", "fault", "()I"⟩, prog_13_method_14_code, 1, some .int, 1, 0, 11),
  (⟨"ClaySealsModel", "faultNow", "()I"⟩, prog_13_method_13_code, 6, some .int, 1, 0, 11),
  (⟨"ClaySealsModel", "byteAt", "(I)I"⟩, prog_13_method_11_code, 2, some .int, 1, 1, 11),
  (⟨"ClaySealsModel", "isFigure", "(I)Z"⟩, prog_13_method_12_code, 1, some .boolean, 0, 1, 11),
  (⟨"ClaySealsModel", "ring", "()I"⟩, prog_13_method_17_code, 1, some .int, 1, 0, 11),
  (⟨"ClaySealsModel", "anew", "(III)I"⟩, prog_13_method_19_code, 4, some .int, 1, 3, 11),
  (⟨"ClaySealsModel", "isRing", "(I)Z"⟩, prog_13_method_15_code, 2, some .boolean, 1, 1, 11),
  (⟨"ClaySealsModel", "isDay", "(I)Z"⟩, prog_13_method_16_code, 1, some .boolean, 0, 1, 11),
  (⟨"ClaySealsModel", "newer", "(I)I"⟩, prog_13_method_18_code, 3, some .int, 1, 1, 11),
  (⟨"ClaySealsModel", "held", "(IIII)I"⟩, prog_13_method_21_code, 5, some .int, 1, 4, 11),
  (⟨"ClaySealsModel", "holds", "(IIII)I"⟩, prog_13_method_20_code, 5, some .int, 1, 4, 11),
  (⟨"ClaySealsModel", "read", "(I)I"⟩, prog_13_method_22_code, 4, some .int, 1, 1, 11),
  (⟨"ClaySealsModel", "isSheet", "(I)Z"⟩, prog_13_method_78_code, 1, some .boolean, 0, 1, 11),
  (⟨"ClaySealsModel", "meets", "(I)I"⟩, prog_13_method_77_code, 2, some .int, 1, 1, 11),
  (⟨"ClaySealsModel", "ringIs", "(II)I"⟩, prog_13_method_28_code, 3, some .int, 1, 2, 11),
  (⟨"ClaySealsModel", "ringNow", "(II)I"⟩, prog_13_method_27_code, 3, some .int, 1, 2, 11),
  (⟨"ClaySealsModel", "stoneOf", "(I)I"⟩, prog_13_method_26_code, 3, some .int, 1, 1, 11),
  (⟨"ClaySealsModel", "heldMany", "(I)I"⟩, prog_13_method_24_code, 4, some .int, 1, 1, 11),
  (⟨"ClaySealsModel", "lump", "(IIII)I"⟩, prog_13_method_30_code, 5, some .int, 1, 4, 11),
  (⟨"ClaySealsModel", "aside", "(I)I"⟩, prog_13_method_33_code, 3, some .int, 1, 1, 11),
  (⟨"ClaySealsModel", "allLumps", "()I"⟩, prog_13_method_31_code, 1, some .int, 1, 0, 11),
  (⟨"ClaySealsModel", "lumpIs", "(II)I"⟩, prog_13_method_35_code, 3, some .int, 1, 2, 11),
  (⟨"ClaySealsModel", "isLump", "(I)Z"⟩, prog_13_method_29_code, 2, some .boolean, 1, 1, 11),
  (⟨"ClaySealsModel", "lumpNow", "(II)I"⟩, prog_13_method_34_code, 3, some .int, 1, 2, 11),
  (⟨"ClaySealsModel", "can", "(II)I"⟩, prog_13_method_37_code, 5, some .int, 1, 2, 11),
  (⟨"ClaySealsModel", "canBe", "(III)Z"⟩, prog_13_method_36_code, 4, some .boolean, 1, 3, 11),
  (⟨"ClaySealsModel", "turnedBits", "(II)I"⟩, prog_13_method_8_code, 4, some .int, 0, 2, 11),
  (⟨"ClaySealsModel", "has", "(II)Z"⟩, prog_13_method_5_code, 2, some .boolean, 0, 2, 11),
  (⟨"ClaySealsModel", "cellAt", "(II)I"⟩, prog_13_method_7_code, 4, some .int, 0, 2, 11),
  (⟨"ClaySealsModel", "quarter", "(I)I"⟩, prog_13_method_6_code, 1, some .int, 0, 1, 11),
  (⟨"ClaySealsModel", "span", "(II)J"⟩, prog_13_method_23_code, 5, some .long, 0, 2, 11),
  (⟨"ClaySealsModel", "daysOf", "(I)J"⟩, prog_13_method_25_code, 5, some .long, 1, 1, 11),
  (⟨"ClaySealsModel", "cells", "(IIII)I"⟩, prog_13_method_39_code, 5, some .int, 1, 4, 11),
  (⟨"ClaySealsModel", "cellsOf", "(IIII)I"⟩, prog_13_method_38_code, 9, some .int, 1, 4, 11),
  (⟨"ClaySealsModel", "earlier", "(IIIII)I"⟩, prog_13_method_40_code, 6, some .int, 1, 5, 11),
  (⟨"ClaySealsModel", "ways", "()I"⟩, prog_13_method_48_code, 1, some .int, 1, 0, 11),
  (⟨"ClaySealsModel", "waysNow", "()I"⟩, prog_13_method_47_code, 1, some .int, 1, 0, 11),
  (⟨"ClaySealsModel", "works", "()Z"⟩, prog_13_method_45_code, 2, some .boolean, 1, 0, 11),
  (⟨"ClaySealsModel", "present", "()I"⟩, prog_13_method_32_code, 1, some .int, 1, 0, 11),
  (⟨"ClaySealsModel", "onesOf", "(I)I"⟩, prog_13_method_4_code, 3, some .int, 0, 1, 11),
  (⟨"ClaySealsModel", "options", "()V"⟩, prog_13_method_41_code, 10, none, 1, 0, 11),
  (⟨"ClaySealsModel", "goes", "(IIZ)I"⟩, prog_13_method_44_code, 8, some .int, 1, 3, 11),
  (⟨"ClaySealsModel", "tallies", "()V"⟩, prog_13_method_43_code, 4, none, 1, 0, 11),
  (⟨"ClaySealsModel", "agree", "(I)Z"⟩, prog_13_method_42_code, 9, some .boolean, 1, 1, 11),
  (⟨"ClaySealsModel", "stones", "()I"⟩, prog_13_method_50_code, 1, some .int, 1, 0, 11),
  (⟨"ClaySealsModel", "stonesNow", "()I"⟩, prog_13_method_49_code, 2, some .int, 1, 0, 11),
  (⟨"ClaySealsModel", "refuses", "()I"⟩, prog_13_method_46_code, 1, some .int, 1, 0, 11),
  (⟨"ClaySealsModel", "best", "(II)I"⟩, prog_13_method_52_code, 3, some .int, 1, 2, 11),
  (⟨"ClaySealsModel", "bestNow", "(II)I"⟩, prog_13_method_51_code, 4, some .int, 1, 2, 11),
  (⟨"ClaySealsModel", "may", "(I)I"⟩, prog_13_method_54_code, 2, some .int, 1, 1, 11),
  (⟨"ClaySealsModel", "mayNow", "(I)I"⟩, prog_13_method_53_code, 3, some .int, 1, 1, 11),
  (⟨"ClaySealsModel", "sure", "()I"⟩, prog_13_method_57_code, 1, some .int, 1, 0, 11),
  (⟨"ClaySealsModel", "sureNow", "()I"⟩, prog_13_method_56_code, 4, some .int, 1, 0, 11),
  (⟨"ClaySealsModel", "stonesOf", "(I)I"⟩, prog_13_method_55_code, 4, some .int, 1, 1, 11),
  (⟨"ClaySealsModel", "pressed", "(I)I"⟩, prog_13_method_59_code, 5, some .int, 1, 1, 11),
  (⟨"ClaySealsModel", "isBy", "(II)Z"⟩, prog_13_method_58_code, 4, some .boolean, 1, 2, 11),
  (⟨"ClaySealsModel", "empty", "()I"⟩, prog_13_method_61_code, 1, some .int, 1, 0, 11),
  (⟨"ClaySealsModel", "emptyNow", "()I"⟩, prog_13_method_60_code, 6, some .int, 1, 0, 11),
  (⟨"ClaySealsModel", "leftOut", "()I"⟩, prog_13_method_63_code, 1, some .int, 1, 0, 11),
  (⟨"ClaySealsModel", "leftNow", "()I"⟩, prog_13_method_62_code, 5, some .int, 1, 0, 11),
  (⟨"ClaySealsModel", "joined", "(II)I"⟩, prog_13_method_65_code, 3, some .int, 1, 2, 11),
  (⟨"ClaySealsModel", "joins", "(II)Z"⟩, prog_13_method_64_code, 8, some .boolean, 1, 2, 11),
  (⟨"ClaySealsModel", "least", "()I"⟩, prog_13_method_68_code, 1, some .int, 1, 0, 11),
  (⟨"ClaySealsModel", "leastNow", "()I"⟩, prog_13_method_67_code, 4, some .int, 1, 0, 11),
  (⟨"ClaySealsModel", "gives", "(I)Z"⟩, prog_13_method_66_code, 5, some .boolean, 1, 1, 11),
  (⟨"ClaySealsModel", "ones", "(I)I"⟩, prog_13_method_69_code, 3, some .int, 1, 1, 11),
  (⟨"ClaySealsModel", "near", "(II)I"⟩, prog_13_method_71_code, 3, some .int, 1, 2, 11),
  (⟨"ClaySealsModel", "nearOf", "(II)I"⟩, prog_13_method_70_code, 6, some .int, 1, 2, 11),
  (⟨"ClaySealsModel", "copyOf", "(II)I"⟩, prog_13_method_72_code, 7, some .int, 1, 2, 11),
  (⟨"ClaySealsModel", "shut", "(III)I"⟩, prog_13_method_74_code, 7, some .int, 1, 3, 11),
  (⟨"ClaySealsModel", "isPeg", "(II)Z"⟩, prog_13_method_73_code, 3, some .boolean, 1, 2, 11),
  (⟨"ClaySealsModel", "gap", "(I)I"⟩, prog_13_method_75_code, 7, some .int, 1, 1, 11),
  (⟨"ClaySealsModel", "clean", "()I"⟩, prog_13_method_76_code, 7, some .int, 1, 0, 11),
  (⟨"ClaySealsModel", "sheet", "(III)I"⟩, prog_13_method_79_code, 5, some .int, 1, 3, 11),
  (⟨"ClaySealsModel", "lose", "(I)I"⟩, prog_13_method_80_code, 2, some .int, 1, 1, 11),
  (⟨"ClaySealsModel", "put", "(IIII)I"⟩, prog_13_method_83_code, 6, some .int, 1, 4, 11),
  (⟨"ClaySealsModel", "lacks", "(III)I"⟩, prog_13_method_81_code, 4, some .int, 1, 3, 11),
  (⟨"ClaySealsModel", "keep", "(III)V"⟩, prog_13_method_82_code, 4, none, 1, 3, 11),
  (⟨"ClaySealsModel", "get", "(III)I"⟩, prog_13_method_84_code, 5, some .int, 1, 3, 11),
  (⟨"ClaySealsModel", "copy", "(IIIII)I"⟩, prog_13_method_85_code, 7, some .int, 1, 5, 11),
  (⟨"ClaySealsModel", "write", "(I)I"⟩, prog_13_method_86_code, 4, some .int, 1, 1, 11),
  (⟨"ClaySealsModel", "count", "(I)I"⟩, prog_13_method_88_code, 2, some .int, 1, 1, 11),
  (⟨"ClaySealsModel", "countNow", "(I)I"⟩, prog_13_method_87_code, 4, some .int, 1, 1, 11),
  (⟨"ClaySealsModel", "digest", "()J"⟩, prog_13_method_89_code, 5, some .long, 1, 0, 11),
  (⟨"java/lang/Integer", "bitCount", "(I)I"⟩, prog_14_method_49_code, 1, some .int, 0, 1, 13),
  (⟨"java/lang/Long", "bitCount", "(J)I"⟩, prog_15_method_50_code, 2, some .int, 0, 1, 14),
  (⟨"ClaySealsLaw", "law", "([I)Z"⟩, code, 4, some .boolean, 0, 1, 12)]
def mps : List (Nat × Nat × Nat × Nat) := [(132, 112, 131, 0), (485, 112, 483, 484), (488, 112, 487, 0), (496, 112, 494, 495), (504, 112, 502, 503), (527, 112, 525, 526), (539, 112, 537, 538), (543, 112, 542, 8), (546, 112, 545, 0), (554, 112, 552, 553), (557, 112, 556, 0), (560, 112, 559, 0), (568, 112, 566, 567), (590, 112, 588, 589), (598, 112, 597, 0), (601, 112, 600, 0), (609, 112, 608, 17), (617, 112, 615, 616), (621, 112, 619, 620), (625, 112, 624, 19), (638, 112, 636, 637), (650, 112, 648, 649), (682, 112, 680, 681), (691, 112, 689, 690), (695, 112, 693, 694), (804, 112, 802, 803), (808, 112, 806, 807), (812, 112, 810, 811), (816, 112, 814, 815), (820, 112, 819, 51), (825, 112, 823, 824), (829, 112, 828, 52), (834, 112, 832, 833), (838, 112, 837, 53), (842, 112, 840, 841), (855, 112, 853, 854), (863, 112, 861, 862), (885, 112, 883, 884), (889, 112, 887, 888), (902, 112, 900, 901), (906, 112, 904, 905), (919, 112, 917, 918), (923, 112, 922, 0), (928, 112, 926, 927), (932, 112, 931, 63), (936, 112, 934, 935), (948, 112, 946, 947), (952, 112, 950, 951), (965, 112, 963, 964), (970, 112, 968, 969), (985, 112, 983, 984), (990, 112, 988, 989), (1002, 112, 1000, 1001), (140, 113, 139, 0), (492, 113, 491, 0), (500, 113, 499, 1), (508, 113, 507, 2), (511, 113, 510, 0), (515, 113, 514, 3), (519, 113, 518, 4), (523, 113, 522, 5), (163, 114, 162, 0), (531, 114, 530, 6), (550, 114, 549, 9), (564, 114, 563, 10), (642, 114, 641, 22), (646, 114, 645, 23), (675, 114, 674, 29), (893, 114, 892, 60), (994, 114, 993, 70), (206, 115, 205, 0), (594, 115, 593, 15), (605, 115, 604, 16), (629, 115, 628, 20), (633, 115, 632, 21), (670, 115, 669, 28), (703, 115, 702, 32), (859, 115, 858, 56), (910, 115, 909, 61), (915, 115, 914, 62), (998, 115, 997, 71), (251, 116, 250, 0), (654, 116, 653, 24), (658, 116, 657, 25), (662, 116, 661, 26), (666, 116, 665, 27), (686, 116, 685, 30), (268, 117, 267, 0), (535, 117, 534, 7), (699, 117, 698, 31), (713, 117, 712, 33), (743, 117, 742, 39), (790, 117, 789, 49), (795, 117, 794, 50), (846, 117, 845, 54), (850, 117, 849, 55), (274, 118, 273, 0), (717, 118, 716, 34), (723, 118, 722, 35), (730, 118, 729, 36), (764, 118, 763, 44), (768, 118, 767, 45), (321, 119, 320, 0), (772, 119, 771, 46), (776, 119, 775, 47), (786, 119, 785, 48), (347, 120, 346, 0), (734, 120, 733, 37), (738, 120, 737, 38), (747, 120, 746, 40), (752, 120, 751, 41), (756, 120, 755, 42), (760, 120, 759, 43), (409, 121, 408, 0), (613, 121, 612, 18), (868, 121, 867, 57), (872, 121, 871, 58), (878, 121, 877, 59), (442, 122, 441, 0), (572, 122, 571, 11), (577, 122, 576, 12), (581, 122, 580, 13), (585, 122, 584, 14), (940, 122, 939, 64), (944, 122, 943, 65), (956, 122, 955, 66), (961, 122, 960, 67), (974, 122, 973, 68), (978, 122, 977, 69), (1021, 123, 1020, 0), (1166, 123, 1164, 1165), (1169, 123, 1168, 0), (1173, 123, 1171, 1172), (1177, 123, 1175, 1176), (1181, 123, 1180, 72), (1185, 123, 1184, 73), (1188, 123, 1187, 0), (1192, 123, 1190, 1191), (1196, 123, 1194, 1195), (1200, 123, 1199, 74), (1203, 123, 1202, 0), (1207, 123, 1206, 75), (1211, 123, 1209, 1210), (1215, 123, 1214, 76), (1219, 123, 1217, 1218), (1222, 123, 1221, 0), (1226, 123, 1225, 77), (1230, 123, 1228, 1229), (1234, 123, 1233, 78), (1238, 123, 1237, 79), (1242, 123, 1241, 80), (1246, 123, 1244, 1245), (1250, 123, 1248, 1249), (1254, 123, 1253, 81), (1258, 123, 1256, 1257), (1262, 123, 1261, 82), (1266, 123, 1265, 83), (1270, 123, 1268, 1269), (1274, 123, 1273, 84), (1277, 123, 1276, 0), (1280, 123, 1279, 0), (1283, 123, 1282, 0), (1286, 123, 1285, 0), (1289, 123, 1288, 0), (1293, 123, 1292, 85), (1298, 123, 1296, 1297), (1302, 123, 1301, 86), (1306, 123, 1304, 1305), (1310, 123, 1308, 1309), (1314, 123, 1313, 87), (1318, 123, 1317, 88), (1322, 123, 1321, 89), (1325, 123, 1324, 0), (1329, 123, 1328, 90), (1333, 123, 1332, 91), (1337, 123, 1336, 92), (1341, 123, 1340, 93), (1345, 123, 1343, 1344), (1349, 123, 1348, 94), (1353, 123, 1352, 95), (1357, 123, 1355, 1356), (1361, 123, 1360, 96), (1365, 123, 1363, 1364), (1369, 123, 1368, 97), (1373, 123, 1371, 1372), (1377, 123, 1376, 98), (1381, 123, 1380, 99), (1385, 123, 1383, 1384), (1389, 123, 1388, 100), (1393, 123, 1391, 1392), (1397, 123, 1396, 101), (1401, 123, 1399, 1400), (1405, 123, 1404, 102), (1409, 123, 1407, 1408), (1413, 123, 1412, 103), (1418, 123, 1416, 1417), (1422, 123, 1421, 104), (1426, 123, 1425, 105), (1430, 123, 1428, 1429), (1434, 123, 1432, 1433), (1438, 123, 1437, 106), (1442, 123, 1440, 1441), (1446, 123, 1444, 1445), (1450, 123, 1449, 107), (1454, 123, 1452, 1453), (1458, 123, 1456, 1457), (1462, 123, 1460, 1461), (1466, 123, 1464, 1465), (1470, 123, 1468, 1469), (1474, 123, 1473, 108), (1478, 123, 1477, 109), (1482, 123, 1480, 1481), (1487, 123, 1485, 1486), (1491, 123, 1489, 1490), (1495, 123, 1493, 1494), (1499, 123, 1498, 110), (1503, 123, 1501, 1502), (706, 124, 705, 0), (779, 125, 778, 0), (0, 0, 0, 0)]
def mI (M : Nat) : MI := mts.getD M (⟨"", "", ""⟩, ⟨#[]⟩, 0, none, 9, 0, 99)
def mn (M : Nat) : MethodName := (mI M).1
def mb (M : Nat) : ByteArray := (mI M).2.1
def mL (M : Nat) : Nat := (mI M).2.2.1
def mr (M : Nat) : Option FieldType := (mI M).2.2.2.1
def mk (M : Nat) : Nat := (mI M).2.2.2.2.1
def ma (M : Nat) : Nat := (mI M).2.2.2.2.2.1
def mc (M : Nat) : Nat := (mI M).2.2.2.2.2.2
abbrev RE := Nat × Nat × Nat × Nat × Nat
def rsv : List (List RE) := [
  [(1, 7, 0, 0, 133), (7, 4, 1, 0, 136), (9, 3, 53, 0, 138), (306, 1, 1, 1, 144), (86, 1, 1, 2, 146), (79, 1, 1, 3, 148), (16, 4, 2, 0, 159), (18, 3, 61, 0, 161), (182, 1, 2, 0, 167), (102, 1, 2, 1, 169), (109, 1, 2, 2, 171), (83, 1, 2, 3, 175), (359, 1, 2, 4, 177), (231, 1, 2, 5, 179), (362, 1, 2, 6, 181), (115, 1, 2, 7, 183), (23, 4, 3, 0, 202), (25, 3, 70, 0, 204), (165, 1, 3, 2, 213), (167, 1, 3, 3, 215), (170, 1, 3, 4, 217), (173, 1, 3, 5, 219), (176, 1, 3, 6, 221), (146, 1, 3, 7, 225), (156, 1, 3, 8, 227), (30, 4, 4, 0, 247), (32, 3, 81, 0, 249), (39, 4, 5, 0, 264), (41, 3, 87, 0, 266), (211, 1, 5, 5, 372), (214, 1, 5, 6, 374), (217, 1, 5, 7, 376), (205, 1, 5, 8, 378), (208, 1, 5, 9, 380), (48, 4, 9, 0, 405), (50, 3, 113, 0, 407), (251, 1, 9, 4, 416), (250, 1, 9, 6, 419), (57, 4, 10, 0, 438), (59, 3, 118, 0, 440), (289, 1, 10, 1, 446), (135, 1, 10, 2, 448), (312, 1, 10, 3, 450), (10, 0, 0, 0, 460), (19, 0, 0, 1, 461), (26, 0, 0, 2, 462), (35, 0, 0, 3, 463), (44, 0, 0, 4, 464), (53, 0, 0, 5, 465), (60, 0, 0, 6, 466), (64, 2, 2, 0, 486), (68, 3, 54, 0, 489), (72, 3, 55, 0, 497), (76, 3, 56, 0, 505), (89, 3, 62, 0, 528), (92, 3, 88, 0, 532), (95, 2, 7, 0, 540), (99, 2, 8, 0, 544), (106, 3, 63, 0, 547), (112, 2, 10, 0, 555), (118, 2, 11, 0, 558), (122, 3, 64, 0, 561), (126, 3, 119, 0, 569), (129, 3, 120, 0, 574), (132, 3, 121, 0, 578), (138, 3, 122, 0, 582), (142, 2, 9, 0, 586), (147, 3, 71, 0, 591), (356, 2, 15, 0, 599), (149, 3, 72, 0, 602), (153, 2, 16, 0, 606), (355, 3, 114, 0, 610), (159, 2, 19, 0, 622), (162, 3, 73, 0, 626), (179, 3, 74, 0, 630), (185, 3, 65, 0, 639), (188, 3, 66, 0, 643), (191, 3, 82, 0, 651), (195, 3, 86, 0, 683), (199, 3, 84, 0, 687), (202, 3, 89, 0, 696), (220, 2, 29, 0, 817), (223, 2, 217, 0, 821), (228, 2, 31, 0, 826), (366, 3, 85, 0, 830), (234, 2, 33, 0, 835), (237, 3, 94, 0, 843), (240, 3, 77, 0, 856), (243, 3, 76, 0, 864), (247, 3, 115, 0, 865), (254, 3, 68, 0, 890), (257, 3, 78, 0, 907), (260, 3, 79, 0, 912), (264, 3, 75, 0, 920), (268, 2, 42, 0, 921), (369, 9, 0, 0, 924), (272, 2, 44, 0, 929), (275, 3, 123, 0, 937), (278, 3, 124, 0, 941), (282, 3, 125, 0, 953), (285, 3, 126, 0, 958), (288, 5, 4, 0, 966), (292, 3, 127, 0, 971), (295, 3, 128, 0, 975), (298, 10, 0, 0, 986), (303, 3, 69, 0, 991), (309, 3, 80, 0, 995), (315, 6, 3, 0, 1003), (317, 6, 4, 0, 1004), (319, 2, 51, 0, 1005), (322, 2, 4, 0, 1006), (325, 2, 20, 0, 1007), (328, 2, 18, 0, 1008), (331, 2, 26, 0, 1009), (334, 2, 27, 0, 1010), (337, 2, 24, 0, 1011), (340, 2, 25, 0, 1012), (343, 2, 28, 0, 1013), (346, 2, 32, 0, 1014), (349, 2, 34, 0, 1015), (352, 2, 36, 0, 1016)],
  [(3, 7, 0, 0, 141), (11, 0, 1, 0, 142), (15, 0, 1, 1, 143), (19, 0, 1, 2, 145), (22, 0, 1, 3, 147), (25, 2, 57, 0, 509), (29, 2, 58, 0, 512), (33, 2, 59, 0, 516), (36, 2, 60, 0, 520)],
  [(3, 7, 0, 0, 164), (9, 0, 2, 0, 165), (15, 0, 2, 1, 168), (18, 0, 2, 2, 170), (21, 0, 2, 3, 172), (25, 0, 2, 4, 176), (28, 0, 2, 5, 178), (31, 0, 2, 6, 180), (35, 0, 2, 7, 182), (38, 2, 66, 0, 676), (42, 3, 11, 0, 677), (46, 2, 63, 0, 678), (49, 3, 14, 0, 894), (53, 2, 217, 0, 895), (58, 10, 0, 0, 896)],
  [(3, 7, 0, 0, 207), (9, 0, 3, 0, 208), (15, 0, 3, 1, 210), (18, 0, 3, 2, 212), (21, 0, 3, 3, 214), (24, 0, 3, 4, 216), (27, 0, 3, 5, 218), (30, 0, 3, 6, 220), (33, 0, 3, 7, 222), (37, 0, 3, 8, 226), (40, 5, 0, 0, 595), (41, 3, 14, 0, 596), (45, 3, 15, 0, 634), (55, 3, 11, 0, 671), (49, 2, 217, 0, 704), (59, 2, 74, 0, 911)],
  [(31, 1, 2, 0, 166), (37, 1, 3, 0, 209), (42, 1, 3, 1, 211), (3, 7, 0, 0, 252), (9, 0, 4, 0, 253), (15, 0, 4, 1, 256), (19, 2, 83, 0, 655), (27, 2, 84, 0, 659), (23, 2, 85, 0, 663), (45, 3, 75, 0, 667), (49, 3, 67, 0, 672)],
  [(103, 1, 2, 3, 174), (99, 1, 4, 0, 255), (66, 1, 4, 1, 258), (3, 7, 0, 0, 269), (39, 4, 6, 0, 270), (41, 3, 96, 0, 272), (145, 1, 6, 1, 278), (111, 1, 6, 2, 282), (130, 1, 6, 4, 286), (151, 1, 6, 5, 288), (48, 4, 7, 0, 317), (50, 3, 102, 0, 319), (148, 1, 7, 1, 325), (57, 4, 8, 0, 343), (59, 3, 106, 0, 345), (133, 1, 8, 3, 353), (35, 0, 5, 0, 366), (44, 0, 5, 1, 367), (53, 0, 5, 2, 368), (62, 0, 5, 3, 369), (9, 0, 5, 4, 370), (15, 0, 5, 5, 371), (18, 0, 5, 6, 373), (21, 0, 5, 7, 375), (24, 0, 5, 8, 377), (28, 0, 5, 9, 379), (31, 0, 5, 10, 381), (72, 3, 76, 0, 700), (78, 2, 90, 0, 710), (93, 3, 97, 0, 714), (96, 3, 107, 0, 731), (108, 3, 65, 0, 739), (81, 2, 91, 0, 740), (85, 3, 109, 0, 744), (89, 2, 92, 0, 787), (114, 2, 217, 0, 791), (119, 2, 93, 0, 792), (123, 3, 100, 0, 796), (127, 3, 101, 0, 797), (136, 3, 103, 0, 798), (139, 3, 104, 0, 799), (142, 3, 105, 0, 800), (154, 2, 95, 0, 847), (157, 3, 15, 0, 851)],
  [(62, 1, 2, 3, 173), (51, 1, 3, 7, 223), (58, 1, 4, 0, 254), (45, 1, 4, 1, 257), (3, 7, 0, 0, 275), (41, 0, 6, 0, 276), (9, 0, 6, 1, 277), (15, 0, 6, 2, 279), (19, 0, 6, 3, 283), (22, 0, 6, 4, 284), (25, 0, 6, 5, 287), (28, 0, 6, 6, 289), (31, 0, 6, 7, 291), (34, 0, 6, 8, 293), (38, 0, 6, 9, 295), (54, 3, 74, 0, 718), (65, 3, 85, 0, 719), (69, 2, 98, 0, 720), (73, 3, 83, 0, 724), (77, 3, 84, 0, 725), (80, 3, 86, 0, 726), (83, 2, 99, 0, 727)],
  [(36, 1, 6, 2, 280), (31, 1, 6, 4, 285), (40, 1, 6, 6, 290), (43, 1, 6, 7, 292), (46, 1, 6, 8, 294), (3, 7, 0, 0, 322), (27, 0, 7, 0, 323), (9, 0, 7, 1, 324), (15, 0, 7, 2, 326), (18, 0, 7, 3, 327), (21, 0, 7, 4, 328), (24, 0, 7, 5, 329), (50, 2, 218, 0, 777)],
  [(33, 1, 6, 2, 281), (3, 7, 0, 0, 348), (21, 0, 8, 0, 349), (25, 0, 8, 1, 350), (11, 0, 8, 2, 351), (15, 0, 8, 3, 352), (18, 0, 8, 4, 354), (29, 2, 108, 0, 735), (39, 3, 15, 0, 748), (43, 2, 110, 0, 749), (46, 2, 111, 0, 753), (50, 2, 112, 0, 757), (54, 3, 100, 0, 761), (57, 3, 101, 0, 765), (60, 3, 103, 0, 769), (66, 3, 104, 0, 773), (70, 3, 105, 0, 783)],
  [(46, 1, 3, 7, 224), (3, 7, 0, 0, 410), (35, 0, 9, 0, 411), (9, 0, 9, 1, 412), (15, 0, 9, 2, 413), (18, 0, 9, 3, 414), (21, 0, 9, 4, 415), (24, 0, 9, 5, 417), (28, 0, 9, 6, 418), (31, 0, 9, 7, 420), (39, 2, 116, 0, 869), (51, 3, 74, 0, 873), (55, 3, 77, 0, 874), (42, 2, 117, 0, 875), (58, 9, 0, 0, 879)],
  [(3, 7, 0, 0, 443), (11, 0, 10, 0, 444), (15, 0, 10, 1, 445), (18, 0, 10, 2, 447), (21, 0, 10, 3, 449), (25, 3, 2, 0, 573), (29, 2, 120, 0, 957), (33, 8, 0, 0, 979)],
  [(1, 7, 0, 0, 1022), (130, 0, 11, 0, 1023), (7, 0, 11, 1, 1024), (134, 0, 11, 2, 1025), (137, 0, 11, 3, 1026), (151, 0, 11, 4, 1027), (13, 0, 11, 5, 1028), (16, 0, 11, 6, 1029), (19, 0, 11, 7, 1030), (167, 0, 11, 8, 1031), (22, 0, 11, 9, 1032), (25, 0, 11, 10, 1033), (28, 0, 11, 11, 1034), (31, 0, 11, 12, 1035), (154, 0, 11, 13, 1036), (195, 0, 11, 14, 1037), (34, 0, 11, 15, 1038), (37, 0, 11, 16, 1039), (40, 0, 11, 17, 1040), (43, 0, 11, 18, 1041), (46, 0, 11, 19, 1042), (49, 0, 11, 20, 1043), (201, 0, 11, 21, 1044), (52, 0, 11, 22, 1045), (55, 0, 11, 23, 1046), (58, 0, 11, 24, 1047), (61, 0, 11, 25, 1048), (64, 0, 11, 26, 1049), (67, 0, 11, 27, 1050), (71, 0, 11, 28, 1051), (74, 0, 11, 29, 1052), (223, 0, 11, 30, 1053), (77, 0, 11, 31, 1054), (80, 0, 11, 32, 1055), (83, 0, 11, 33, 1056), (229, 0, 11, 34, 1057), (232, 0, 11, 35, 1058), (86, 0, 11, 36, 1059), (89, 0, 11, 37, 1060), (92, 0, 11, 38, 1061), (95, 0, 11, 39, 1062), (98, 0, 11, 40, 1063), (102, 0, 11, 41, 1064), (105, 0, 11, 42, 1065), (108, 0, 11, 43, 1066), (111, 0, 11, 44, 1067), (301, 0, 11, 45, 1068), (126, 2, 131, 0, 1167), (147, 2, 134, 0, 1178), (140, 2, 135, 0, 1182), (143, 2, 136, 0, 1186), (158, 2, 139, 0, 1197), (161, 2, 140, 0, 1201), (164, 2, 141, 0, 1204), (170, 2, 143, 0, 1212), (174, 2, 145, 0, 1220), (177, 2, 146, 0, 1223), (192, 2, 148, 0, 1231), (189, 2, 149, 0, 1235), (180, 2, 150, 0, 1239), (198, 2, 153, 0, 1251), (204, 2, 155, 0, 1259), (207, 2, 156, 0, 1263), (217, 2, 158, 0, 1271), (210, 2, 159, 0, 1275), (118, 2, 160, 0, 1278), (122, 2, 161, 0, 1281), (114, 2, 162, 0, 1284), (185, 2, 163, 0, 1287), (213, 2, 164, 0, 1290), (183, 6, 5, 0, 1294), (220, 2, 166, 0, 1299), (255, 2, 169, 0, 1311), (251, 2, 170, 0, 1315), (241, 2, 171, 0, 1319), (226, 2, 172, 0, 1323), (244, 2, 173, 0, 1326), (247, 2, 174, 0, 1330), (235, 2, 175, 0, 1334), (238, 2, 176, 0, 1338), (261, 2, 178, 0, 1346), (258, 2, 179, 0, 1350), (264, 2, 181, 0, 1358), (267, 2, 183, 0, 1366), (273, 2, 185, 0, 1374), (270, 2, 186, 0, 1378), (276, 2, 188, 0, 1386), (279, 2, 190, 0, 1394), (282, 2, 192, 0, 1402), (286, 2, 194, 0, 1410), (285, 5, 5, 0, 1414), (292, 2, 196, 0, 1419), (289, 2, 197, 0, 1423), (295, 2, 200, 0, 1435), (298, 2, 203, 0, 1447), (304, 2, 209, 0, 1471), (308, 2, 210, 0, 1475), (312, 5, 6, 0, 1483), (313, 2, 215, 0, 1496), (316, 6, 6, 0, 1504), (318, 6, 7, 0, 1505), (320, 2, 214, 0, 1506)],
  [(7, 4, 0, 0, 128), (9, 2, 0, 0, 130), (13, 2, 1, 0, 482), (18, 2, 3, 0, 493), (23, 2, 4, 0, 501), (27, 2, 5, 0, 524), (31, 2, 6, 0, 536), (36, 2, 9, 0, 551), (41, 2, 12, 0, 565), (45, 2, 13, 0, 587), (49, 2, 17, 0, 614), (53, 2, 18, 0, 618), (58, 2, 20, 0, 635), (62, 2, 21, 0, 647), (66, 2, 22, 0, 679), (70, 2, 23, 0, 688), (75, 2, 24, 0, 692), (79, 2, 25, 0, 801), (83, 2, 26, 0, 805), (87, 2, 27, 0, 809), (91, 2, 28, 0, 813), (95, 2, 30, 0, 822), (99, 2, 32, 0, 831), (103, 2, 34, 0, 839), (107, 2, 35, 0, 852), (111, 2, 36, 0, 860), (115, 2, 37, 0, 882), (119, 2, 38, 0, 886), (123, 2, 39, 0, 899), (127, 2, 40, 0, 903), (131, 2, 41, 0, 916), (135, 2, 43, 0, 925), (139, 2, 45, 0, 933), (143, 2, 46, 0, 945), (147, 2, 47, 0, 949), (151, 2, 48, 0, 962), (155, 2, 49, 0, 967), (159, 2, 50, 0, 982), (163, 2, 51, 0, 987), (167, 2, 52, 0, 999), (10, 4, 11, 0, 1017), (12, 2, 129, 0, 1019), (17, 2, 130, 0, 1163), (22, 2, 132, 0, 1170), (26, 2, 133, 0, 1174), (30, 2, 137, 0, 1189), (35, 2, 138, 0, 1193), (40, 2, 142, 0, 1208), (44, 2, 144, 0, 1216), (61, 2, 147, 0, 1227), (48, 2, 151, 0, 1243), (52, 2, 152, 0, 1247), (57, 2, 154, 0, 1255), (65, 2, 157, 0, 1267), (69, 2, 165, 0, 1295), (74, 2, 167, 0, 1303), (78, 2, 168, 0, 1307), (82, 2, 177, 0, 1342), (86, 2, 180, 0, 1354), (90, 2, 182, 0, 1362), (94, 2, 184, 0, 1370), (98, 2, 187, 0, 1382), (102, 2, 189, 0, 1390), (106, 2, 191, 0, 1398), (110, 2, 193, 0, 1406), (114, 2, 195, 0, 1415), (118, 2, 198, 0, 1427), (122, 2, 199, 0, 1431), (126, 2, 201, 0, 1439), (130, 2, 202, 0, 1443), (134, 2, 204, 0, 1451), (138, 2, 205, 0, 1455), (142, 2, 206, 0, 1459), (146, 2, 207, 0, 1463), (150, 2, 208, 0, 1467), (154, 2, 211, 0, 1479), (158, 2, 212, 0, 1484), (162, 2, 213, 0, 1488), (166, 2, 214, 0, 1492), (171, 2, 216, 0, 1500)],
  [(265, 5, 1, 0, 707), (266, 5, 2, 0, 708), (267, 5, 3, 0, 709)],
  [(314, 6, 0, 0, 780), (316, 6, 1, 0, 781), (318, 6, 2, 0, 782)]]
def ki32 : List Int32 := [65535, 1431655765, 858993459, 252645135, -2147483648, 65535, -2147483648]
def ki64 : List Int64 := [6148914691236517205, 3689348814741910323, 1085102592571150095, 17, 31, 1152921504606846975, 17, 31]
def rsW (c : Nat) (r : RE) : Cond := match r with
  | (i, 0, a, k, _) => .fieldLink (cn c) i (cn a) ((cT a) k).2.1 ((cT a) k).2.2.1
  | (i, 1, a, k, _) => .fieldLinkNest (cn c) i (cn a) ((cT a) k).2.1 ((cT a) k).2.2.1 "ClaySeals"
  | (i, 2, a, _, _) => .methodLink (cn c) i (mn a)
  | (i, 3, a, _, _) => .methodLinkNest (cn c) i (mn a) "ClaySeals"
  | (i, 4, a, _, _) => .classLink (cn c) i (cn a)
  | (i, 5, a, _, _) => .constant (cn c) i (ki32.getD a 0)
  | (i, 6, a, _, _) => .constantLong (cn c) i (ki64.getD a 0)
  | (i, 7, _, _, _) => .methodLink (cn c) i objectInit
  | (i, 8, _, _, _) => .methodLink (cn c) i arraycopyName
  | (i, 9, _, _, _) => .methodLink (cn c) i Lib.Math.max.name
  | (i, _, _, _, _) => .methodLink (cn c) i Lib.Math.min.name
def rsP (r : RE) : Nat := r.2.2.2.2
def rs (c i : Nat) : Option (Nat × Nat × Nat × Nat) := (rsv.getD c []).lookup i
abbrev m_C_init : Nat := 0
abbrev m_C_type : Nat := 1
abbrev m_C_isBelow : Nat := 2
abbrev m_C_wipe : Nat := 3
abbrev m_C_fault : Nat := 4
abbrev m_C_ring : Nat := 5
abbrev m_C_anew : Nat := 6
abbrev m_C_isRing : Nat := 7
abbrev m_C_isDay : Nat := 8
abbrev m_C_held : Nat := 9
abbrev m_C_areDays : Nat := 10
abbrev m_C_daysBetween : Nat := 11
abbrev m_C_read : Nat := 12
abbrev m_C_lump : Nat := 13
abbrev m_C_turnedRight : Nat := 14
abbrev m_C_hasBit : Nat := 15
abbrev m_C_forgetLumps : Nat := 16
abbrev m_C_aside : Nat := 17
abbrev m_C_lumpIs : Nat := 18
abbrev m_C_isLump : Nat := 19
abbrev m_C_ringIs : Nat := 20
abbrev m_C_can : Nat := 21
abbrev m_C_cells : Nat := 22
abbrev m_C_earlier : Nat := 23
abbrev m_C_ways : Nat := 24
abbrev m_C_stones : Nat := 25
abbrev m_C_best : Nat := 26
abbrev m_C_may : Nat := 27
abbrev m_C_sure : Nat := 28
abbrev m_C_stonesItMayBeOf : Nat := 29
abbrev m_C_pressed : Nat := 30
abbrev m_C_isPressedBy : Nat := 31
abbrev m_C_empty : Nat := 32
abbrev m_C_hasLump : Nat := 33
abbrev m_C_leftOut : Nat := 34
abbrev m_C_joined : Nat := 35
abbrev m_C_least : Nat := 36
abbrev m_C_ones : Nat := 37
abbrev m_C_near : Nat := 38
abbrev m_C_copyOf : Nat := 39
abbrev m_C_shut : Nat := 40
abbrev m_C_gap : Nat := 41
abbrev m_C_longestHole : Nat := 42
abbrev m_C_clean : Nat := 43
abbrev m_C_worthOfCleaning : Nat := 44
abbrev m_C_sheet : Nat := 45
abbrev m_C_lose : Nat := 46
abbrev m_C_put : Nat := 47
abbrev m_C_get : Nat := 48
abbrev m_C_copy : Nat := 49
abbrev m_C_write : Nat := 50
abbrev m_C_count : Nat := 51
abbrev m_C_digest : Nat := 52
abbrev m_Line_init : Nat := 53
abbrev m_Line_append : Nat := 54
abbrev m_Line_clear : Nat := 55
abbrev m_Line_findFault : Nat := 56
abbrev m_Line_isSign : Nat := 57
abbrev m_Line_numberAt : Nat := 58
abbrev m_Line_isFigureAt : Nat := 59
abbrev m_Line_show : Nat := 60
abbrev m_Rings_init : Nat := 61
abbrev m_Rings_add : Nat := 62
abbrev m_Rings_newerThan : Nat := 63
abbrev m_Rings_hold : Nat := 64
abbrev m_Rings_stoneOf : Nat := 65
abbrev m_Rings_timesHeld : Nat := 66
abbrev m_Rings_pressDays : Nat := 67
abbrev m_Rings_unlikeCells : Nat := 68
abbrev m_Rings_stonesOfAll : Nat := 69
abbrev m_Lumps_init : Nat := 70
abbrev m_Lumps_add : Nat := 71
abbrev m_Lumps_place : Nat := 72
abbrev m_Lumps_marksOf : Nat := 73
abbrev m_Lumps_isAside : Nat := 74
abbrev m_Lumps_daysOf : Nat := 75
abbrev m_Lumps_areTooMany : Nat := 76
abbrev m_Lumps_canBeJoined : Nat := 77
abbrev m_Lumps_isPegAt : Nat := 78
abbrev m_Lumps_isOnDay : Nat := 79
abbrev m_Lumps_unseenOfAll : Nat := 80
abbrev m_Matches_init : Nat := 81
abbrev m_Matches_canBe : Nat := 82
abbrev m_Matches_showsNoOther : Nat := 83
abbrev m_Matches_whole : Nat := 84
abbrev m_Matches_sharedDays : Nat := 85
abbrev m_Matches_chipped : Nat := 86
abbrev m_Ways_init : Nat := 87
abbrev m_Ways_forget : Nat := 88
abbrev m_Ways_refusal : Nat := 89
abbrev m_Ways_begin : Nat := 90
abbrev m_Ways_placesFrom : Nat := 91
abbrev m_Ways_lead : Nat := 92
abbrev m_Ways_tell : Nat := 93
abbrev m_Ways_fewestLeftOut : Nat := 94
abbrev m_Ways_lumpsAt : Nat := 95
abbrev m_Choices_init : Nat := 96
abbrev m_Choices_gather : Nat := 97
abbrev m_Choices_gatherTurns : Nat := 98
abbrev m_Choices_isLikeOneFrom : Nat := 99
abbrev m_Choices_endOf : Nat := 100
abbrev m_Choices_startOf : Nat := 101
abbrev m_Groups_init : Nat := 102
abbrev m_Groups_enter : Nat := 103
abbrev m_Groups_agree : Nat := 104
abbrev m_Groups_leave : Nat := 105
abbrev m_Followers_init : Nat := 106
abbrev m_Followers_change : Nat := 107
abbrev m_Followers_tableOf : Nat := 108
abbrev m_Followers_canAllFollow : Nat := 109
abbrev m_Followers_canFollow : Nat := 110
abbrev m_Followers_nextOf : Nat := 111
abbrev m_Followers_canBeTurned : Nat := 112
abbrev m_Strangers_init : Nat := 113
abbrev m_Strangers_forget : Nat := 114
abbrev m_Strangers_refresh : Nat := 115
abbrev m_Strangers_gather : Nat := 116
abbrev m_Strangers_share : Nat := 117
abbrev m_Sheets_init : Nat := 118
abbrev m_Sheets_isSheet : Nat := 119
abbrev m_Sheets_isLost : Nat := 120
abbrev m_Sheets_find : Nat := 121
abbrev m_Sheets_item : Nat := 122
abbrev m_Sheets_isForm : Nat := 123
abbrev m_Sheets_begin : Nat := 124
abbrev m_Sheets_findingAt : Nat := 125
abbrev m_Sheets_store : Nat := 126
abbrev m_Sheets_hasItems : Nat := 127
abbrev m_Sheets_move : Nat := 128
abbrev m_M_init : Nat := 129
abbrev m_M_type : Nat := 130
abbrev m_M_in : Nat := 131
abbrev m_M_wipe : Nat := 132
abbrev m_M_fault : Nat := 133
abbrev m_M_faultNow : Nat := 134
abbrev m_M_byteAt : Nat := 135
abbrev m_M_isFigure : Nat := 136
abbrev m_M_ring : Nat := 137
abbrev m_M_anew : Nat := 138
abbrev m_M_isRing : Nat := 139
abbrev m_M_isDay : Nat := 140
abbrev m_M_newer : Nat := 141
abbrev m_M_held : Nat := 142
abbrev m_M_holds : Nat := 143
abbrev m_M_read : Nat := 144
abbrev m_M_isSheet : Nat := 145
abbrev m_M_meets : Nat := 146
abbrev m_M_ringIs : Nat := 147
abbrev m_M_ringNow : Nat := 148
abbrev m_M_stoneOf : Nat := 149
abbrev m_M_heldMany : Nat := 150
abbrev m_M_lump : Nat := 151
abbrev m_M_aside : Nat := 152
abbrev m_M_allLumps : Nat := 153
abbrev m_M_lumpIs : Nat := 154
abbrev m_M_isLump : Nat := 155
abbrev m_M_lumpNow : Nat := 156
abbrev m_M_can : Nat := 157
abbrev m_M_canBe : Nat := 158
abbrev m_M_turnedBits : Nat := 159
abbrev m_M_has : Nat := 160
abbrev m_M_cellAt : Nat := 161
abbrev m_M_quarter : Nat := 162
abbrev m_M_span : Nat := 163
abbrev m_M_daysOf : Nat := 164
abbrev m_M_cells : Nat := 165
abbrev m_M_cellsOf : Nat := 166
abbrev m_M_earlier : Nat := 167
abbrev m_M_ways : Nat := 168
abbrev m_M_waysNow : Nat := 169
abbrev m_M_works : Nat := 170
abbrev m_M_present : Nat := 171
abbrev m_M_onesOf : Nat := 172
abbrev m_M_options : Nat := 173
abbrev m_M_goes : Nat := 174
abbrev m_M_tallies : Nat := 175
abbrev m_M_agree : Nat := 176
abbrev m_M_stones : Nat := 177
abbrev m_M_stonesNow : Nat := 178
abbrev m_M_refuses : Nat := 179
abbrev m_M_best : Nat := 180
abbrev m_M_bestNow : Nat := 181
abbrev m_M_may : Nat := 182
abbrev m_M_mayNow : Nat := 183
abbrev m_M_sure : Nat := 184
abbrev m_M_sureNow : Nat := 185
abbrev m_M_stonesOf : Nat := 186
abbrev m_M_pressed : Nat := 187
abbrev m_M_isBy : Nat := 188
abbrev m_M_empty : Nat := 189
abbrev m_M_emptyNow : Nat := 190
abbrev m_M_leftOut : Nat := 191
abbrev m_M_leftNow : Nat := 192
abbrev m_M_joined : Nat := 193
abbrev m_M_joins : Nat := 194
abbrev m_M_least : Nat := 195
abbrev m_M_leastNow : Nat := 196
abbrev m_M_gives : Nat := 197
abbrev m_M_ones : Nat := 198
abbrev m_M_near : Nat := 199
abbrev m_M_nearOf : Nat := 200
abbrev m_M_copyOf : Nat := 201
abbrev m_M_shut : Nat := 202
abbrev m_M_isPeg : Nat := 203
abbrev m_M_gap : Nat := 204
abbrev m_M_clean : Nat := 205
abbrev m_M_sheet : Nat := 206
abbrev m_M_lose : Nat := 207
abbrev m_M_put : Nat := 208
abbrev m_M_lacks : Nat := 209
abbrev m_M_keep : Nat := 210
abbrev m_M_get : Nat := 211
abbrev m_M_copy : Nat := 212
abbrev m_M_write : Nat := 213
abbrev m_M_count : Nat := 214
abbrev m_M_countNow : Nat := 215
abbrev m_M_digest : Nat := 216
abbrev m_JI_bitCount : Nat := 217
abbrev m_JL_bitCount : Nat := 218
abbrev m_L_law : Nat := 219
