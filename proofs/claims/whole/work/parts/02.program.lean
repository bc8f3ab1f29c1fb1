/-! the program as tables: classes, methods, pools, the layout of its cells (written by wip/whole/lay.py) -/
def RX0 : String := "CannonPost$Flight"
def TX0 : u_T := fun k => match k with
  | 0 => ("CannonPost$Flight", "league", "LCannonPost$League;", true)
  | 1 => ("CannonPost$Flight", "laws", "LCannonPost$Lawbook;", true)
  | 2 => ("CannonPost$Flight", "aims", "[I", true)
  | _ => ("CannonPost$Flight", "reckoned", "[I", true)
def tyX0 : Nat → FieldType := fun k => match k with
  | 0 => .object "CannonPost$League"
  | 1 => .object "CannonPost$Lawbook"
  | 2 => .array .int
  | _ => .array .int
def RX1 : String := "CannonPost$Guesses"
def TX1 : u_T := fun k => match k with
  | 0 => ("CannonPost$Guesses", "fitting", "[I", true)
  | 1 => ("CannonPost$Guesses", "fitCount", "I", false)
  | 2 => ("CannonPost$Guesses", "sightCount", "I", false)
  | 3 => ("CannonPost$Guesses", "faceCount", "I", false)
  | 4 => ("CannonPost$Guesses", "sights", "[I", true)
  | 5 => ("CannonPost$Guesses", "tally", "[I", true)
  | 6 => ("CannonPost$Guesses", "faceForts", "[I", true)
  | 7 => ("CannonPost$Guesses", "faceLit", "[Z", true)
  | 8 => ("CannonPost$Guesses", "league", "LCannonPost$League;", true)
  | _ => ("CannonPost$Guesses", "flight", "LCannonPost$Flight;", true)
def tyX1 : Nat → FieldType := fun k => match k with
  | 0 => .array .int
  | 1 => .int
  | 2 => .int
  | 3 => .int
  | 4 => .array .int
  | 5 => .array .int
  | 6 => .array .int
  | 7 => .array .boolean
  | 8 => .object "CannonPost$League"
  | _ => .object "CannonPost$Flight"
def RX2 : String := "CannonPost$History"
def TX2 : u_T := fun k => match k with
  | 0 => ("CannonPost$History", "count", "I", false)
  | 1 => ("CannonPost$History", "rows", "[[I", true)
  | _ => ("CannonPost$History", "top", "I", false)
def tyX2 : Nat → FieldType := fun k => match k with
  | 0 => .int
  | 1 => .array (.array .int)
  | _ => .int
def RX3 : String := "CannonPost$LawReader"
def TX3 : u_T := fun k => match k with
  | 0 => ("CannonPost$LawReader", "code", "[I", true)
  | 1 => ("CannonPost$LawReader", "size", "I", false)
  | _ => ("CannonPost$LawReader", "tape", "LCannonPost$Tape;", true)
def tyX3 : Nat → FieldType := fun k => match k with
  | 0 => .array .int
  | 1 => .int
  | _ => .object "CannonPost$Tape"
def RX4 : String := "CannonPost$Lawbook"
def TX4 : u_T := fun k => match k with
  | 0 => ("CannonPost$Lawbook", "letters", "[I", true)
  | 1 => ("CannonPost$Lawbook", "count", "I", false)
  | 2 => ("CannonPost$Lawbook", "holding", "I", false)
  | 3 => ("CannonPost$Lawbook", "codes", "[[I", true)
  | 4 => ("CannonPost$Lawbook", "sizes", "[I", true)
  | _ => ("CannonPost$Lawbook", "stack", "[I", true)
def tyX4 : Nat → FieldType := fun k => match k with
  | 0 => .array .int
  | 1 => .int
  | 2 => .int
  | 3 => .array (.array .int)
  | 4 => .array .int
  | _ => .array .int
def RX5 : String := "CannonPost$League"
def TX5 : u_T := fun k => match k with
  | 0 => ("CannonPost$League", "rules", "[I", true)
  | 1 => ("CannonPost$League", "forts", "[I", true)
  | 2 => ("CannonPost$League", "carriers", "[I", true)
  | 3 => ("CannonPost$League", "fortCount", "I", false)
  | _ => ("CannonPost$League", "carrierCount", "I", false)
def tyX5 : Nat → FieldType := fun k => match k with
  | 0 => .array .int
  | 1 => .array .int
  | 2 => .array .int
  | 3 => .int
  | _ => .int
def RX6 : String := "CannonPost$LeagueReader"
def TX6 : u_T := fun k => match k with
  | 0 => ("CannonPost$LeagueReader", "draft", "LCannonPost$League;", true)
  | 1 => ("CannonPost$LeagueReader", "tape", "LCannonPost$Tape;", true)
  | _ => ("CannonPost$LeagueReader", "ruled", "Z", false)
def tyX6 : Nat → FieldType := fun k => match k with
  | 0 => .object "CannonPost$League"
  | 1 => .object "CannonPost$Tape"
  | _ => .boolean
def RX7 : String := "CannonPost$Paths"
def TX7 : u_T := fun k => match k with
  | 0 => ("CannonPost$Paths", "hops", "[I", true)
  | 1 => ("CannonPost$Paths", "costs", "[I", true)
  | 2 => ("CannonPost$Paths", "rows", "[I", true)
  | 3 => ("CannonPost$Paths", "links", "[I", true)
  | 4 => ("CannonPost$Paths", "spots", "[I", true)
  | 5 => ("CannonPost$Paths", "league", "LCannonPost$League;", true)
  | _ => ("CannonPost$Paths", "flight", "LCannonPost$Flight;", true)
def tyX7 : Nat → FieldType := fun k => match k with
  | 0 => .array .int
  | 1 => .array .int
  | 2 => .array .int
  | 3 => .array .int
  | 4 => .array .int
  | 5 => .object "CannonPost$League"
  | _ => .object "CannonPost$Flight"
def RX8 : String := "CannonPost$Planbook"
def TX8 : u_T := fun k => match k with
  | 0 => ("CannonPost$Planbook", "sizes", "[I", true)
  | 1 => ("CannonPost$Planbook", "count", "I", false)
  | 2 => ("CannonPost$Planbook", "rows", "[[I", true)
  | 3 => ("CannonPost$Planbook", "draft", "[I", true)
  | 4 => ("CannonPost$Planbook", "draftSize", "I", false)
  | _ => ("CannonPost$Planbook", "tape", "LCannonPost$Tape;", true)
def tyX8 : Nat → FieldType := fun k => match k with
  | 0 => .array .int
  | 1 => .int
  | 2 => .array (.array .int)
  | 3 => .array .int
  | 4 => .int
  | _ => .object "CannonPost$Tape"
def RX9 : String := "CannonPost$State"
def TX9 : u_T := fun k => match k with
  | 0 => ("CannonPost$State", "cells", "[I", true)
  | _ => ("CannonPost$State", "shots", "[I", true)
def tyX9 : Nat → FieldType := fun k => match k with
  | 0 => .array .int
  | _ => .array .int
def RX10 : String := "CannonPost$Tape"
def TX10 : u_T := fun k => match k with
  | 0 => ("CannonPost$Tape", "bytes", "[B", true)
  | 1 => ("CannonPost$Tape", "length", "I", false)
  | _ => ("CannonPost$Tape", "at", "I", false)
def tyX10 : Nat → FieldType := fun k => match k with
  | 0 => .array .byte
  | 1 => .int
  | _ => .int
def RX11 : String := "CannonPost"
def TX11 : u_T := fun k => match k with
  | 0 => ("CannonPost", "tape", "LCannonPost$Tape;", true)
  | 1 => ("CannonPost", "league", "LCannonPost$League;", true)
  | 2 => ("CannonPost", "leagueReader", "LCannonPost$LeagueReader;", true)
  | 3 => ("CannonPost", "lawReader", "LCannonPost$LawReader;", true)
  | 4 => ("CannonPost", "laws", "LCannonPost$Lawbook;", true)
  | 5 => ("CannonPost", "plans", "LCannonPost$Planbook;", true)
  | 6 => ("CannonPost", "flight", "LCannonPost$Flight;", true)
  | 7 => ("CannonPost", "paths", "LCannonPost$Paths;", true)
  | 8 => ("CannonPost", "guesses", "LCannonPost$Guesses;", true)
  | 9 => ("CannonPost", "history", "LCannonPost$History;", true)
  | 10 => ("CannonPost", "now", "LCannonPost$State;", true)
  | 11 => ("CannonPost", "trial", "LCannonPost$State;", true)
  | 12 => ("CannonPost", "kept", "LCannonPost$State;", true)
  | 13 => ("CannonPost", "keeps", "Z", false)
  | _ => ("CannonPost", "dampChance", "I", false)
def tyX11 : Nat → FieldType := fun k => match k with
  | 0 => .object "CannonPost$Tape"
  | 1 => .object "CannonPost$League"
  | 2 => .object "CannonPost$LeagueReader"
  | 3 => .object "CannonPost$LawReader"
  | 4 => .object "CannonPost$Lawbook"
  | 5 => .object "CannonPost$Planbook"
  | 6 => .object "CannonPost$Flight"
  | 7 => .object "CannonPost$Paths"
  | 8 => .object "CannonPost$Guesses"
  | 9 => .object "CannonPost$History"
  | 10 => .object "CannonPost$State"
  | 11 => .object "CannonPost$State"
  | 12 => .object "CannonPost$State"
  | 13 => .boolean
  | _ => .int
def RX12 : String := "CannonPostModel"
def TX12 : u_T := fun k => match k with
  | 0 => ("CannonPostModel", "thrown", "I", false)
  | 1 => ("CannonPostModel", "tape", "[B", true)
  | 2 => ("CannonPostModel", "texts", "[B", true)
  | 3 => ("CannonPostModel", "textLong", "[I", true)
  | 4 => ("CannonPostModel", "letters", "[I", true)
  | 5 => ("CannonPostModel", "text", "[B", false)
  | 6 => ("CannonPostModel", "length", "I", false)
  | 7 => ("CannonPostModel", "lawMany", "I", false)
  | 8 => ("CannonPostModel", "begins", "I", false)
  | 9 => ("CannonPostModel", "ends", "I", false)
  | 10 => ("CannonPostModel", "at", "I", false)
  | 11 => ("CannonPostModel", "fault", "I", false)
  | 12 => ("CannonPostModel", "deep", "I", false)
  | 13 => ("CannonPostModel", "label", "I", false)
  | 14 => ("CannonPostModel", "found", "I", false)
  | 15 => ("CannonPostModel", "labels", "Ljava/lang/String;", true)
  | 16 => ("CannonPostModel", "allowed", "Ljava/lang/String;", true)
  | 17 => ("CannonPostModel", "hasFound", "Z", false)
  | 18 => ("CannonPostModel", "rule", "[I", true)
  | 19 => ("CannonPostModel", "ruleRead", "[I", true)
  | 20 => ("CannonPostModel", "fort", "[I", true)
  | 21 => ("CannonPostModel", "fortRead", "[I", true)
  | 22 => ("CannonPostModel", "carrier", "[I", true)
  | 23 => ("CannonPostModel", "carrierRead", "[I", true)
  | 24 => ("CannonPostModel", "plan", "[I", true)
  | 25 => ("CannonPostModel", "planLong", "[I", true)
  | 26 => ("CannonPostModel", "forts", "I", false)
  | 27 => ("CannonPostModel", "carriers", "I", false)
  | 28 => ("CannonPostModel", "fortsRead", "I", false)
  | 29 => ("CannonPostModel", "carriersRead", "I", false)
  | 30 => ("CannonPostModel", "plans", "I", false)
  | 31 => ("CannonPostModel", "hasRules", "Z", false)
  | 32 => ("CannonPostModel", "now", "[I", true)
  | 33 => ("CannonPostModel", "trial", "[I", true)
  | 34 => ("CannonPostModel", "law", "I", false)
  | 35 => ("CannonPostModel", "dampness", "I", false)
  | 36 => ("CannonPostModel", "undoRow", "[I", true)
  | 37 => ("CannonPostModel", "acts", "I", false)
  | 38 => ("CannonPostModel", "x", "J", false)
  | 39 => ("CannonPostModel", "aims", "[I", true)
  | 40 => ("CannonPostModel", "routeHops", "I", false)
  | 41 => ("CannonPostModel", "routePowder", "I", false)
  | 42 => ("CannonPostModel", "routeDigits", "I", false)
  | 43 => ("CannonPostModel", "folkAt", "[I", true)
  | 44 => ("CannonPostModel", "sight", "[I", true)
  | 45 => ("CannonPostModel", "places", "[I", true)
  | 46 => ("CannonPostModel", "sights", "I", false)
  | 47 => ("CannonPostModel", "faceFort", "[I", true)
  | 48 => ("CannonPostModel", "faceLit", "[Z", true)
  | 49 => ("CannonPostModel", "faces", "I", false)
  | 50 => ("CannonPostModel", "imageRow", "[I", true)
  | _ => ("CannonPostModel", "hasImage", "Z", false)
def tyX12 : Nat → FieldType := fun k => match k with
  | 0 => .int
  | 1 => .array .byte
  | 2 => .array .byte
  | 3 => .array .int
  | 4 => .array .int
  | 5 => .array .byte
  | 6 => .int
  | 7 => .int
  | 8 => .int
  | 9 => .int
  | 10 => .int
  | 11 => .int
  | 12 => .int
  | 13 => .int
  | 14 => .int
  | 15 => .object "java/lang/String"
  | 16 => .object "java/lang/String"
  | 17 => .boolean
  | 18 => .array .int
  | 19 => .array .int
  | 20 => .array .int
  | 21 => .array .int
  | 22 => .array .int
  | 23 => .array .int
  | 24 => .array .int
  | 25 => .array .int
  | 26 => .int
  | 27 => .int
  | 28 => .int
  | 29 => .int
  | 30 => .int
  | 31 => .boolean
  | 32 => .array .int
  | 33 => .array .int
  | 34 => .int
  | 35 => .int
  | 36 => .array .int
  | 37 => .int
  | 38 => .long
  | 39 => .array .int
  | 40 => .int
  | 41 => .int
  | 42 => .int
  | 43 => .array .int
  | 44 => .array .int
  | 45 => .array .int
  | 46 => .int
  | 47 => .array .int
  | 48 => .array .boolean
  | 49 => .int
  | 50 => .array .int
  | _ => .boolean
abbrev mcl : List vw_C := [(RX0, TX0, 4), (RX1, TX1, 10), (RX2, TX2, 3), (RX3, TX3, 3), (RX4, TX4, 6), (RX5, TX5, 5), (RX6, TX6, 3), (RX7, TX7, 7), (RX8, TX8, 6), (RX9, TX9, 2), (RX10, TX10, 3), (RX11, TX11, 15), (RX12, TX12, 52)]
def mty : List (Nat → FieldType) := [tyX0, tyX1, tyX2, tyX3, tyX4, tyX5, tyX6, tyX7, tyX8, tyX9, tyX10, tyX11, tyX12]
/-- the classes by their numbers -/
def mcn : List String := ["CannonPost$Flight", "CannonPost$Guesses", "CannonPost$History", "CannonPost$LawReader", "CannonPost$Lawbook", "CannonPost$League", "CannonPost$LeagueReader", "CannonPost$Paths", "CannonPost$Planbook", "CannonPost$State", "CannonPost$Tape", "CannonPost", "CannonPostModel", "java/lang/String", "java/lang/StringLatin1", "jdk/internal/util/Preconditions", "java/lang/Math", "java/util/Arrays", "java/lang/Integer", "CannonPostLaw"]
/-- methods: name, code, locals, return type, class -/
def mtb_0 : List (MethodName × ByteArray × Nat × Option FieldType × Nat) := [
  (⟨"CannonPost", "feed", "(IIIII)I"⟩, prog_1_method_2_code, 7, some .int, 11),
  (⟨"CannonPost$Tape", "bytesIn", "(I)I"⟩, prog_12_method_2_code, 3, some .int, 10),
  (⟨"CannonPost$Tape", "put", "(I)V"⟩, prog_12_method_3_code, 4, none, 10),
  (⟨"CannonPost", "end", "(I)Z"⟩, prog_1_method_3_code, 2, some .boolean, 11),
  (⟨"CannonPost", "fault", "(I)I"⟩, prog_1_method_4_code, 2, some .int, 11),
  (⟨"CannonPost$LeagueReader", "readTape", "()I"⟩, prog_8_method_2_code, 1, some .int, 6),
  (⟨"CannonPost$LeagueReader", "readClauses", "()Z"⟩, prog_8_method_3_code, 2, some .boolean, 6),
  (⟨"CannonPost$LeagueReader", "readClause", "()Z"⟩, prog_8_method_4_code, 3, some .boolean, 6),
  (⟨"CannonPost$Tape", "next", "()I"⟩, prog_12_method_4_code, 1, some .int, 10),
  (⟨"CannonPost$LeagueReader", "readItems", "([IIII)Z"⟩, prog_8_method_5_code, 9, some .boolean, 6),
  (⟨"CannonPost$LeagueReader", "itemOf", "(III)I"⟩, prog_8_method_6_code, 4, some .int, 6),
  (⟨"java/lang/String", "charAt", "(I)C"⟩, prog_23_method_56_code, 2, some .char, 13),
  (⟨"java/lang/String", "isLatin1", "()Z"⟩, prog_23_method_154_code, 1, some .boolean, 13),
  (⟨"java/lang/StringLatin1", "charAt", "([BI)C"⟩, prog_24_method_2_code, 2, some .char, 14),
  (⟨"java/lang/String", "checkIndex", "(II)V"⟩, prog_23_method_155_code, 2, none, 13),
  (⟨"jdk/internal/util/Preconditions", "checkIndex", "(IILjava/util/function/BiFunction;)I"⟩, prog_32_method_11_code, 3, some .int, 15),
  (⟨"CannonPost$Tape", "number", "(I)I"⟩, prog_12_method_6_code, 4, some .int, 10),
  (⟨"CannonPost$League", "isWhole", "()Z"⟩, prog_7_method_16_code, 3, some .boolean, 5),
  (⟨"CannonPost$League", "place", "(I)I"⟩, prog_7_method_10_code, 2, some .int, 5),
  (⟨"CannonPost$League", "firstFort", "(I)I"⟩, prog_7_method_15_code, 2, some .int, 5),
  (⟨"CannonPost$League", "hasFort", "(I)Z"⟩, prog_7_method_4_code, 2, some .boolean, 5),
  (⟨"CannonPost$Tape", "take", "(C)Z"⟩, prog_12_method_5_code, 2, some .boolean, 10),
  (⟨"CannonPost$LawReader", "readTape", "()I"⟩, prog_5_method_2_code, 2, some .int, 3),
  (⟨"CannonPost$LawReader", "readClause", "()Z"⟩, prog_5_method_3_code, 4, some .boolean, 3),
  (⟨"CannonPost$LawReader", "readSum", "(I)Z"⟩, prog_5_method_6_code, 6, some .boolean, 3),
  (⟨"CannonPost$LawReader", "readAtom", "(I)Z"⟩, prog_5_method_7_code, 5, some .boolean, 3),
  (⟨"java/lang/String", "indexOf", "(I)I"⟩, prog_23_method_79_code, 2, some .int, 13),
  (⟨"java/lang/String", "indexOf", "(II)I"⟩, prog_23_method_80_code, 3, some .int, 13),
  (⟨"java/lang/String", "length", "()I"⟩, prog_23_method_54_code, 1, some .int, 13),
  (⟨"java/lang/String", "coder", "()B"⟩, prog_23_method_152_code, 1, some .byte, 13),
  (⟨"java/lang/StringLatin1", "indexOf", "([BIII)I"⟩, prog_24_method_22_code, 4, some .int, 14),
  (⟨"java/lang/StringLatin1", "canEncode", "(I)Z"⟩, prog_24_method_4_code, 1, some .boolean, 14),
  (⟨"java/lang/StringLatin1", "indexOfChar", "([BIII)I"⟩, prog_24_method_23_code, 6, some .int, 14),
  (⟨"CannonPost$LawReader", "write", "(II)V"⟩, prog_5_method_10_code, 3, none, 3),
  (⟨"CannonPost$LawReader", "joining", "(I)I"⟩, prog_5_method_9_code, 1, some .int, 3),
  (⟨"CannonPost$LawReader", "comparing", "(I)I"⟩, prog_5_method_8_code, 1, some .int, 3),
  (⟨"CannonPost$LawReader", "readCondition", "(IZ)Z"⟩, prog_5_method_4_code, 6, some .boolean, 3),
  (⟨"CannonPost$LawReader", "readUnit", "(IZ)Z"⟩, prog_5_method_5_code, 5, some .boolean, 3),
  (⟨"CannonPost$Planbook", "readTape", "()I"⟩, prog_10_method_6_code, 2, some .int, 8),
  (⟨"CannonPost$Planbook", "readStep", "(I)Z"⟩, prog_10_method_7_code, 2, some .boolean, 8)]
def mtb_1 : List (MethodName × ByteArray × Nat × Option FieldType × Nat) := [
  (⟨"CannonPost$Planbook", "readDigits", "(III)Z"⟩, prog_10_method_9_code, 4, some .boolean, 8),
  (⟨"CannonPost$Planbook", "readFirst", "(II)Z"⟩, prog_10_method_8_code, 3, some .boolean, 8),
  (⟨"CannonPost$Tape", "digit", "(I)I"⟩, prog_12_method_7_code, 3, some .int, 10),
  (⟨"CannonPost$Planbook", "readPowder", "(I)Z"⟩, prog_10_method_10_code, 4, some .boolean, 8),
  (⟨"CannonPost", "text", "(I)I"⟩, prog_1_method_5_code, 2, some .int, 11),
  (⟨"CannonPost", "beginLeague", "()V"⟩, prog_1_method_6_code, 1, none, 11),
  (⟨"CannonPost$League", "copyFrom", "(LCannonPost$League;)V"⟩, prog_7_method_2_code, 2, none, 5),
  (⟨"CannonPost$State", "begin", "(LCannonPost$League;)V"⟩, prog_11_method_2_code, 3, none, 9),
  (⟨"java/util/Arrays", "fill", "([II)V"⟩, prog_30_method_103_code, 4, none, 17),
  (⟨"CannonPost$League", "firstPowder", "()I"⟩, prog_7_method_8_code, 1, some .int, 5),
  (⟨"CannonPost$League", "firstWind", "()I"⟩, prog_7_method_6_code, 1, some .int, 5),
  (⟨"CannonPost$League", "firstWindWay", "()I"⟩, prog_7_method_7_code, 1, some .int, 5),
  (⟨"CannonPost$League", "firstHay", "(I)I"⟩, prog_7_method_12_code, 2, some .int, 5),
  (⟨"CannonPost$History", "forget", "()V"⟩, prog_4_method_4_code, 1, none, 2),
  (⟨"CannonPost$Guesses", "forget", "()V"⟩, prog_3_method_2_code, 1, none, 1),
  (⟨"CannonPost$Flight", "forget", "()V"⟩, prog_2_method_2_code, 1, none, 0),
  (⟨"CannonPost$Lawbook", "hasRoom", "()Z"⟩, prog_6_method_2_code, 1, some .boolean, 4),
  (⟨"CannonPost$Lawbook", "add", "([II)I"⟩, prog_6_method_3_code, 3, some .int, 4),
  (⟨"CannonPost$Planbook", "hasRoom", "()Z"⟩, prog_10_method_2_code, 1, some .boolean, 8),
  (⟨"CannonPost$Planbook", "add", "()I"⟩, prog_10_method_5_code, 1, some .int, 8),
  (⟨"CannonPost", "rule", "(I)I"⟩, prog_1_method_7_code, 2, some .int, 11),
  (⟨"CannonPost$League", "isTold", "()Z"⟩, prog_7_method_3_code, 1, some .boolean, 5),
  (⟨"CannonPost$League", "breath", "()I"⟩, prog_7_method_9_code, 1, some .int, 5),
  (⟨"CannonPost", "fort", "(II)I"⟩, prog_1_method_8_code, 3, some .int, 11),
  (⟨"CannonPost$League", "height", "(I)I"⟩, prog_7_method_11_code, 2, some .int, 5),
  (⟨"CannonPost", "law", "(I)Z"⟩, prog_1_method_10_code, 2, some .boolean, 11),
  (⟨"CannonPost", "damps", "(I)Z"⟩, prog_1_method_11_code, 2, some .boolean, 11),
  (⟨"CannonPost", "count", "(I)I"⟩, prog_1_method_12_code, 2, some .int, 11),
  (⟨"CannonPost$State", "sumOf", "(II)I"⟩, prog_11_method_5_code, 5, some .int, 9),
  (⟨"CannonPost$State", "logLength", "()I"⟩, prog_11_method_10_code, 1, some .int, 9),
  (⟨"CannonPost", "shoot", "(IIII)I"⟩, prog_1_method_13_code, 6, some .int, 11),
  (⟨"CannonPost", "canFire", "(LCannonPost$State;II)Z"⟩, prog_1_method_25_code, 4, some .boolean, 11),
  (⟨"CannonPost$League", "hasCarrier", "(I)Z"⟩, prog_7_method_5_code, 2, some .boolean, 5),
  (⟨"CannonPost", "isPowder", "(I)Z"⟩, prog_1_method_70_code, 1, some .boolean, 11),
  (⟨"CannonPost", "isWay", "(I)Z"⟩, prog_1_method_72_code, 1, some .boolean, 11),
  (⟨"CannonPost", "canSay", "(II)Z"⟩, prog_1_method_26_code, 4, some .boolean, 11),
  (⟨"java/lang/Integer", "bitCount", "(I)I"⟩, prog_20_method_49_code, 1, some .int, 18),
  (⟨"CannonPost$History", "keep", "(LCannonPost$State;)V"⟩, prog_4_method_2_code, 2, none, 2),
  (⟨"CannonPost", "fire", "(LCannonPost$State;IIII)I"⟩, prog_1_method_29_code, 8, some .int, 11),
  (⟨"CannonPost$Flight", "comesTo", "(LCannonPost$State;IIII)I"⟩, prog_2_method_6_code, 8, some .int, 0)]
def mtb_2 : List (MethodName × ByteArray × Nat × Option FieldType × Nat) := [
  (⟨"CannonPost$Flight", "along", "(III)I"⟩, prog_2_method_3_code, 3, some .int, 0),
  (⟨"CannonPost$Flight", "reach", "(IIIII)I"⟩, prog_2_method_5_code, 9, some .int, 0),
  (⟨"CannonPost$League", "weight", "(I)I"⟩, prog_7_method_13_code, 2, some .int, 5),
  (⟨"CannonPost$League", "nerve", "(I)I"⟩, prog_7_method_14_code, 2, some .int, 5),
  (⟨"CannonPost$Lawbook", "worth", "()I"⟩, prog_6_method_4_code, 6, some .int, 4),
  (⟨"CannonPost$Lawbook", "joined", "(III)I"⟩, prog_6_method_5_code, 5, some .int, 4),
  (⟨"CannonPost$Flight", "comeTo", "(III)I"⟩, prog_2_method_4_code, 3, some .int, 0),
  (⟨"CannonPost$League", "fortNear", "(I)I"⟩, prog_7_method_19_code, 5, some .int, 5),
  (⟨"CannonPost$State", "land", "(III)V"⟩, prog_11_method_8_code, 4, none, 9),
  (⟨"CannonPost$State", "noteShot", "(IIII)V"⟩, prog_11_method_9_code, 6, none, 9),
  (⟨"CannonPost", "hear", "(II)Z"⟩, prog_1_method_14_code, 3, some .boolean, 11),
  (⟨"CannonPost", "canHear", "(LCannonPost$State;II)Z"⟩, prog_1_method_27_code, 4, some .boolean, 11),
  (⟨"CannonPost", "isNews", "(I)Z"⟩, prog_1_method_73_code, 1, some .boolean, 11),
  (⟨"CannonPost", "stack", "(II)I"⟩, prog_1_method_15_code, 3, some .int, 11),
  (⟨"CannonPost", "grind", "(I)I"⟩, prog_1_method_16_code, 2, some .int, 11),
  (⟨"CannonPost", "wind", "(II)Z"⟩, prog_1_method_17_code, 3, some .boolean, 11),
  (⟨"CannonPost$State", "blows", "(II)Z"⟩, prog_11_method_4_code, 3, some .boolean, 9),
  (⟨"CannonPost", "damp", "(I)Z"⟩, prog_1_method_18_code, 2, some .boolean, 11),
  (⟨"CannonPost", "hours", "(I)I"⟩, prog_1_method_19_code, 3, some .int, 11),
  (⟨"CannonPost", "hoursFit", "(I)Z"⟩, prog_1_method_28_code, 2, some .boolean, 11),
  (⟨"CannonPost$State", "passHour", "(I)V"⟩, prog_11_method_7_code, 3, none, 9),
  (⟨"CannonPost", "decades", "(IJ)I"⟩, prog_1_method_20_code, 7, some .int, 11),
  (⟨"CannonPost", "drawAheadOfHour", "(J)J"⟩, prog_1_method_31_code, 8, some .long, 11),
  (⟨"CannonPost", "turned", "(J)J"⟩, prog_1_method_32_code, 2, some .long, 11),
  (⟨"CannonPost", "drawn", "(JI)I"⟩, prog_1_method_33_code, 3, some .int, 11),
  (⟨"CannonPost", "allSayable", "(LCannonPost$State;I)I"⟩, prog_1_method_30_code, 6, some .int, 11),
  (⟨"CannonPost", "undo", "()I"⟩, prog_1_method_21_code, 1, some .int, 11),
  (⟨"CannonPost$History", "takeBack", "(LCannonPost$State;)Z"⟩, prog_4_method_3_code, 2, some .boolean, 2),
  (⟨"CannonPost", "log", "(II)I"⟩, prog_1_method_22_code, 3, some .int, 11),
  (⟨"CannonPost$State", "logged", "(II)I"⟩, prog_11_method_11_code, 3, some .int, 9),
  (⟨"CannonPost", "image", "()I"⟩, prog_1_method_23_code, 1, some .int, 11),
  (⟨"CannonPost$State", "copyFrom", "(LCannonPost$State;)V"⟩, prog_11_method_3_code, 2, none, 9),
  (⟨"CannonPost", "back", "()I"⟩, prog_1_method_24_code, 1, some .int, 11),
  (⟨"CannonPost", "step", "(III)I"⟩, prog_1_method_34_code, 4, some .int, 11),
  (⟨"CannonPost$Planbook", "has", "(I)Z"⟩, prog_10_method_3_code, 2, some .boolean, 8),
  (⟨"CannonPost$Planbook", "part", "(III)I"⟩, prog_10_method_4_code, 4, some .int, 8),
  (⟨"CannonPost", "run", "(II)I"⟩, prog_1_method_35_code, 4, some .int, 11),
  (⟨"CannonPost", "follow", "(LCannonPost$State;IZ)I"⟩, prog_1_method_37_code, 7, some .int, 11),
  (⟨"CannonPost", "canStep", "(LCannonPost$State;II)Z"⟩, prog_1_method_38_code, 6, some .boolean, 11),
  (⟨"CannonPost", "stepOnce", "(LCannonPost$State;II)V"⟩, prog_1_method_39_code, 6, none, 11)]
def mtb_3 : List (MethodName × ByteArray × Nat × Option FieldType × Nat) := [
  (⟨"CannonPost", "perform", "(I)I"⟩, prog_1_method_36_code, 2, some .int, 11),
  (⟨"CannonPost", "lands", "(IIIII)I"⟩, prog_1_method_40_code, 7, some .int, 11),
  (⟨"CannonPost", "isShot", "(IIII)Z"⟩, prog_1_method_67_code, 5, some .boolean, 11),
  (⟨"CannonPost", "aim", "(III)I"⟩, prog_1_method_41_code, 4, some .int, 11),
  (⟨"CannonPost", "isPassage", "(III)Z"⟩, prog_1_method_68_code, 4, some .boolean, 11),
  (⟨"CannonPost$Flight", "leastPowder", "(LCannonPost$State;III)I"⟩, prog_2_method_7_code, 7, some .int, 0),
  (⟨"CannonPost$Flight", "reckon", "(LCannonPost$State;II)V"⟩, prog_2_method_8_code, 10, none, 0),
  (⟨"CannonPost", "route", "(IIII)I"⟩, prog_1_method_42_code, 5, some .int, 11),
  (⟨"CannonPost$Paths", "trace", "(LCannonPost$State;II)V"⟩, prog_9_method_2_code, 8, none, 7),
  (⟨"CannonPost$Paths", "offer", "(IIII)V"⟩, prog_9_method_3_code, 6, none, 7),
  (⟨"CannonPost", "relay", "(III)I"⟩, prog_1_method_43_code, 5, some .int, 11),
  (⟨"CannonPost$State", "fortsKnowing", "(II)I"⟩, prog_11_method_6_code, 5, some .int, 9),
  (⟨"CannonPost$Paths", "bestRelay", "(LCannonPost$State;II)I"⟩, prog_9_method_4_code, 6, some .int, 7),
  (⟨"CannonPost$Paths", "firstShot", "(LCannonPost$State;III)I"⟩, prog_9_method_5_code, 9, some .int, 7),
  (⟨"CannonPost$Paths", "leads", "(LCannonPost$State;IIII)Z"⟩, prog_9_method_6_code, 11, some .boolean, 7),
  (⟨"CannonPost", "sure", "(III)I"⟩, prog_1_method_44_code, 4, some .int, 11),
  (⟨"CannonPost", "partsRight", "(III)I"⟩, prog_1_method_46_code, 7, some .int, 11),
  (⟨"CannonPost", "surest", "(II)I"⟩, prog_1_method_45_code, 7, some .int, 11),
  (⟨"CannonPost", "cuts", "()I"⟩, prog_1_method_47_code, 4, some .int, 11),
  (⟨"CannonPost$Paths", "link", "(LCannonPost$State;)V"⟩, prog_9_method_7_code, 5, none, 7),
  (⟨"CannonPost$Paths", "netFrom", "(II)I"⟩, prog_9_method_8_code, 7, some .int, 7),
  (⟨"CannonPost", "net", "(I)I"⟩, prog_1_method_48_code, 2, some .int, 11),
  (⟨"CannonPost", "gusts", "(IIIII)I"⟩, prog_1_method_49_code, 8, some .int, 11),
  (⟨"CannonPost", "landsWithMore", "(IIIII)Z"⟩, prog_1_method_50_code, 8, some .boolean, 11),
  (⟨"CannonPost", "passing", "(II)I"⟩, prog_1_method_51_code, 9, some .int, 11),
  (⟨"CannonPost", "isPair", "(II)Z"⟩, prog_1_method_69_code, 3, some .boolean, 11),
  (⟨"CannonPost", "seen", "(IIIII)I"⟩, prog_1_method_52_code, 6, some .int, 11),
  (⟨"CannonPost$Guesses", "hasRoomForSight", "()Z"⟩, prog_3_method_3_code, 1, some .boolean, 1),
  (⟨"CannonPost$Guesses", "addSight", "(IIIII)V"⟩, prog_3_method_5_code, 7, none, 1),
  (⟨"CannonPost", "winds", "(I)I"⟩, prog_1_method_53_code, 2, some .int, 11),
  (⟨"CannonPost$Guesses", "weighWinds", "()V"⟩, prog_3_method_6_code, 2, none, 1),
  (⟨"CannonPost$Guesses", "explains", "(I)Z"⟩, prog_3_method_7_code, 7, some .boolean, 1),
  (⟨"CannonPost$Guesses", "reachBy", "(IIIII)I"⟩, prog_3_method_8_code, 6, some .int, 1),
  (⟨"CannonPost", "ask", "(II)I"⟩, prog_1_method_54_code, 3, some .int, 11),
  (⟨"CannonPost$Guesses", "tellingShot", "(II)I"⟩, prog_3_method_9_code, 8, some .int, 1),
  (⟨"CannonPost$Guesses", "mostTogether", "(IIII)I"⟩, prog_3_method_10_code, 8, some .int, 1),
  (⟨"CannonPost", "face", "(IZ)I"⟩, prog_1_method_55_code, 3, some .int, 11),
  (⟨"CannonPost$Guesses", "hasRoomForFace", "()Z"⟩, prog_3_method_4_code, 1, some .boolean, 1),
  (⟨"CannonPost$Guesses", "addFace", "(IZ)V"⟩, prog_3_method_11_code, 3, none, 1),
  (⟨"CannonPost", "meant", "(I)I"⟩, prog_1_method_56_code, 2, some .int, 11)]
def mtb_4 : List (MethodName × ByteArray × Nat × Option FieldType × Nat) := [
  (⟨"CannonPost$Guesses", "partsFor", "(I)I"⟩, prog_3_method_13_code, 5, some .int, 1),
  (⟨"CannonPost$Guesses", "product", "(I)J"⟩, prog_3_method_14_code, 6, some .long, 1),
  (⟨"CannonPost", "following", "()I"⟩, prog_1_method_57_code, 5, some .int, 11),
  (⟨"CannonPost$Guesses", "hasFaceOf", "(I)Z"⟩, prog_3_method_12_code, 3, some .boolean, 1),
  (⟨"CannonPost", "game", "(IIIIII)I"⟩, prog_1_method_58_code, 7, some .int, 11),
  (⟨"CannonPost", "isGamePowder", "(I)Z"⟩, prog_1_method_71_code, 1, some .boolean, 11),
  (⟨"CannonPost", "gained", "(IIII)I"⟩, prog_1_method_60_code, 6, some .int, 11),
  (⟨"CannonPost", "rests", "(IIII)I"⟩, prog_1_method_59_code, 9, some .int, 11),
  (⟨"CannonPost", "stock", "(I)I"⟩, prog_1_method_61_code, 2, some .int, 11),
  (⟨"CannonPost", "hays", "(I)I"⟩, prog_1_method_62_code, 5, some .int, 11),
  (⟨"CannonPost", "best", "(II)I"⟩, prog_1_method_63_code, 3, some .int, 11),
  (⟨"CannonPost$League", "highestFort", "()I"⟩, prog_7_method_17_code, 3, some .int, 5),
  (⟨"CannonPost$League", "nearestFort", "(I)I"⟩, prog_7_method_18_code, 4, some .int, 5),
  (⟨"CannonPost", "free", "()I"⟩, prog_1_method_64_code, 3, some .int, 11),
  (⟨"CannonPost", "home", "(I)I"⟩, prog_1_method_65_code, 5, some .int, 11),
  (⟨"CannonPost", "known", "(I)I"⟩, prog_1_method_66_code, 2, some .int, 11),
  (⟨"CannonPost", "carrier", "(II)I"⟩, prog_1_method_9_code, 3, some .int, 11),
  (⟨"CannonPostModel", "thrown", "()I"⟩, prog_14_method_2_code, 1, some .int, 12),
  (⟨"CannonPostModel", "feed", "(IIIII)I"⟩, prog_14_method_8_code, 6, some .int, 12),
  (⟨"CannonPostModel", "bytesIn", "(I)I"⟩, prog_14_method_6_code, 3, some .int, 12),
  (⟨"CannonPostModel", "put", "(I)V"⟩, prog_14_method_7_code, 3, none, 12),
  (⟨"CannonPostModel", "end", "(I)Z"⟩, prog_14_method_9_code, 2, some .boolean, 12),
  (⟨"CannonPostModel", "fault", "(I)I"⟩, prog_14_method_40_code, 2, some .int, 12),
  (⟨"CannonPostModel", "isIn", "(JJJ)Z"⟩, prog_14_method_3_code, 6, some .boolean, 12),
  (⟨"CannonPostModel", "readLeague", "()V"⟩, prog_14_method_36_code, 2, none, 12),
  (⟨"CannonPostModel", "starts", "([BII)V"⟩, prog_14_method_25_code, 4, none, 12),
  (⟨"CannonPostModel", "usual", "(II)I"⟩, prog_14_method_32_code, 2, some .int, 12),
  (⟨"CannonPostModel", "readClause", "()V"⟩, prog_14_method_34_code, 3, none, 12),
  (⟨"CannonPostModel", "look", "()I"⟩, prog_14_method_10_code, 1, some .int, 12),
  (⟨"CannonPostModel", "fails", "()Z"⟩, prog_14_method_11_code, 1, some .boolean, 12),
  (⟨"CannonPostModel", "readItems", "(I[IILjava/lang/String;)V"⟩, prog_14_method_33_code, 7, none, 12),
  (⟨"CannonPostModel", "spotOf", "(Ljava/lang/String;I)I"⟩, prog_14_method_28_code, 3, some .int, 12),
  (⟨"CannonPostModel", "has", "(II)Z"⟩, prog_14_method_4_code, 2, some .boolean, 12),
  (⟨"CannonPostModel", "leastOf", "(II)I"⟩, prog_14_method_31_code, 2, some .int, 12),
  (⟨"CannonPostModel", "mostOf", "(II)I"⟩, prog_14_method_30_code, 2, some .int, 12),
  (⟨"CannonPostModel", "number", "(II)I"⟩, prog_14_method_29_code, 5, some .int, 12),
  (⟨"CannonPostModel", "isDigit", "()Z"⟩, prog_14_method_14_code, 1, some .boolean, 12),
  (⟨"CannonPostModel", "here", "()I"⟩, prog_14_method_27_code, 1, some .int, 12),
  (⟨"CannonPostModel", "isWhole", "()Z"⟩, prog_14_method_35_code, 3, some .boolean, 12),
  (⟨"CannonPostModel", "goThrough", "([BII)V"⟩, prog_14_method_26_code, 4, none, 12)]
def mtb_5 : List (MethodName × ByteArray × Nat × Option FieldType × Nat) := [
  (⟨"CannonPostModel", "clause", "()V"⟩, prog_14_method_24_code, 5, none, 12),
  (⟨"CannonPostModel", "isAmong", "(Ljava/lang/String;I)Z"⟩, prog_14_method_5_code, 3, some .boolean, 12),
  (⟨"CannonPostModel", "takes", "(I)Z"⟩, prog_14_method_13_code, 2, some .boolean, 12),
  (⟨"CannonPostModel", "condition", "(ZI)Z"⟩, prog_14_method_23_code, 5, some .boolean, 12),
  (⟨"CannonPostModel", "part", "(ZI)Z"⟩, prog_14_method_22_code, 5, some .boolean, 12),
  (⟨"CannonPostModel", "compares", "(ZI)Z"⟩, prog_14_method_20_code, 6, some .boolean, 12),
  (⟨"CannonPostModel", "sum", "()I"⟩, prog_14_method_18_code, 5, some .int, 12),
  (⟨"CannonPostModel", "term", "()I"⟩, prog_14_method_17_code, 5, some .int, 12),
  (⟨"CannonPostModel", "atom", "()I"⟩, prog_14_method_16_code, 4, some .int, 12),
  (⟨"CannonPostModel", "goesIn", "()Z"⟩, prog_14_method_12_code, 1, some .boolean, 12),
  (⟨"CannonPostModel", "within", "(J)I"⟩, prog_14_method_15_code, 2, some .int, 12),
  (⟨"CannonPostModel", "isSign", "(I)Z"⟩, prog_14_method_19_code, 1, some .boolean, 12),
  (⟨"CannonPostModel", "unit", "()Z"⟩, prog_14_method_21_code, 3, some .boolean, 12),
  (⟨"CannonPostModel", "readPlan", "()V"⟩, prog_14_method_39_code, 3, none, 12),
  (⟨"CannonPostModel", "readStep", "(I)V"⟩, prog_14_method_38_code, 4, none, 12),
  (⟨"CannonPostModel", "digit", "(I)I"⟩, prog_14_method_37_code, 3, some .int, 12),
  (⟨"CannonPostModel", "text", "(I)I"⟩, prog_14_method_41_code, 4, some .int, 12),
  (⟨"CannonPostModel", "folk", "(I)I"⟩, prog_14_method_42_code, 1, some .int, 12),
  (⟨"CannonPostModel", "rule", "(I)I"⟩, prog_14_method_58_code, 2, some .int, 12),
  (⟨"CannonPostModel", "fort", "(II)I"⟩, prog_14_method_59_code, 3, some .int, 12),
  (⟨"CannonPostModel", "isFort", "(I)Z"⟩, prog_14_method_44_code, 2, some .boolean, 12),
  (⟨"CannonPostModel", "carrier", "(II)I"⟩, prog_14_method_60_code, 3, some .int, 12),
  (⟨"CannonPostModel", "isCarrier", "(I)Z"⟩, prog_14_method_45_code, 2, some .boolean, 12),
  (⟨"CannonPostModel", "told", "(II)I"⟩, prog_14_method_47_code, 3, some .int, 12),
  (⟨"CannonPostModel", "law", "(I)Z"⟩, prog_14_method_61_code, 2, some .boolean, 12),
  (⟨"CannonPostModel", "damps", "(I)Z"⟩, prog_14_method_62_code, 2, some .boolean, 12),
  (⟨"CannonPostModel", "shoot", "(IIII)I"⟩, prog_14_method_64_code, 6, some .int, 12),
  (⟨"CannonPostModel", "canShoot", "([IIII)Z"⟩, prog_14_method_54_code, 5, some .boolean, 12),
  (⟨"CannonPostModel", "isFree", "([II)Z"⟩, prog_14_method_53_code, 3, some .boolean, 12),
  (⟨"CannonPostModel", "remember", "()V"⟩, prog_14_method_63_code, 2, none, 12),
  (⟨"CannonPostModel", "shoots", "([IIIII)I"⟩, prog_14_method_55_code, 9, some .int, 12),
  (⟨"CannonPostModel", "comesTo", "([IIIII)I"⟩, prog_14_method_50_code, 6, some .int, 12),
  (⟨"CannonPostModel", "placeBy", "(IIIIIII)I"⟩, prog_14_method_49_code, 9, some .int, 12),
  (⟨"CannonPostModel", "reach", "(IIIII)I"⟩, prog_14_method_48_code, 7, some .int, 12),
  (⟨"CannonPostModel", "place", "(I)I"⟩, prog_14_method_46_code, 2, some .int, 12),
  (⟨"CannonPostModel", "landsAt", "(I)I"⟩, prog_14_method_52_code, 3, some .int, 12),
  (⟨"CannonPostModel", "nearestTo", "(I)I"⟩, prog_14_method_51_code, 4, some .int, 12),
  (⟨"CannonPostModel", "hear", "(II)Z"⟩, prog_14_method_66_code, 3, some .boolean, 12),
  (⟨"CannonPostModel", "canHear", "([III)Z"⟩, prog_14_method_65_code, 4, some .boolean, 12),
  (⟨"CannonPostModel", "stack", "(II)I"⟩, prog_14_method_67_code, 3, some .int, 12)]
def mtb_6 : List (MethodName × ByteArray × Nat × Option FieldType × Nat) := [
  (⟨"CannonPostModel", "grind", "(I)I"⟩, prog_14_method_68_code, 2, some .int, 12),
  (⟨"CannonPostModel", "wind", "(II)Z"⟩, prog_14_method_71_code, 3, some .boolean, 12),
  (⟨"CannonPostModel", "canBlow", "([III)Z"⟩, prog_14_method_69_code, 4, some .boolean, 12),
  (⟨"CannonPostModel", "blows", "([III)V"⟩, prog_14_method_70_code, 3, none, 12),
  (⟨"CannonPostModel", "damp", "(I)Z"⟩, prog_14_method_72_code, 2, some .boolean, 12),
  (⟨"CannonPostModel", "hours", "(I)I"⟩, prog_14_method_74_code, 3, some .int, 12),
  (⟨"CannonPostModel", "mayPass", "([III)Z"⟩, prog_14_method_73_code, 4, some .boolean, 12),
  (⟨"CannonPostModel", "goHour", "([I)V"⟩, prog_14_method_57_code, 3, none, 12),
  (⟨"CannonPostModel", "decades", "(IJ)I"⟩, prog_14_method_76_code, 9, some .int, 12),
  (⟨"CannonPostModel", "draw", "(I)I"⟩, prog_14_method_75_code, 2, some .int, 12),
  (⟨"CannonPostModel", "says", "([II)I"⟩, prog_14_method_56_code, 5, some .int, 12),
  (⟨"CannonPostModel", "undo", "()I"⟩, prog_14_method_77_code, 2, some .int, 12),
  (⟨"CannonPostModel", "log", "(II)I"⟩, prog_14_method_78_code, 3, some .int, 12),
  (⟨"CannonPostModel", "step", "(III)I"⟩, prog_14_method_80_code, 4, some .int, 12),
  (⟨"CannonPostModel", "isPlan", "(I)Z"⟩, prog_14_method_79_code, 2, some .boolean, 12),
  (⟨"CannonPostModel", "run", "(II)I"⟩, prog_14_method_84_code, 6, some .int, 12),
  (⟨"CannonPostModel", "copy", "([I[I)V"⟩, prog_14_method_43_code, 4, none, 12),
  (⟨"CannonPostModel", "canStep", "([II)Z"⟩, prog_14_method_81_code, 5, some .boolean, 12),
  (⟨"CannonPostModel", "timesOf", "(I)I"⟩, prog_14_method_83_code, 2, some .int, 12),
  (⟨"CannonPostModel", "steps", "([II)V"⟩, prog_14_method_82_code, 6, none, 12),
  (⟨"CannonPostModel", "perform", "(I)I"⟩, prog_14_method_85_code, 5, some .int, 12),
  (⟨"CannonPostModel", "lands", "(IIIII)I"⟩, prog_14_method_87_code, 7, some .int, 12),
  (⟨"CannonPostModel", "isShot", "(IIII)Z"⟩, prog_14_method_86_code, 5, some .boolean, 12),
  (⟨"CannonPostModel", "aim", "(III)I"⟩, prog_14_method_91_code, 4, some .int, 12),
  (⟨"CannonPostModel", "layAims", "(I)V"⟩, prog_14_method_89_code, 6, none, 12),
  (⟨"CannonPostModel", "aimOf", "(III)I"⟩, prog_14_method_88_code, 4, some .int, 12),
  (⟨"CannonPostModel", "route", "(IIII)I"⟩, prog_14_method_94_code, 5, some .int, 12),
  (⟨"CannonPostModel", "layRoute", "(III)Z"⟩, prog_14_method_93_code, 4, some .boolean, 12),
  (⟨"CannonPostModel", "goRoute", "(IIIIIII)V"⟩, prog_14_method_92_code, 9, none, 12),
  (⟨"CannonPostModel", "sure", "(III)I"⟩, prog_14_method_96_code, 4, some .int, 12),
  (⟨"CannonPostModel", "sureOf", "(III)I"⟩, prog_14_method_95_code, 7, some .int, 12),
  (⟨"CannonPostModel", "surest", "(II)I"⟩, prog_14_method_97_code, 7, some .int, 12),
  (⟨"CannonPostModel", "relay", "(III)I"⟩, prog_14_method_100_code, 8, some .int, 12),
  (⟨"CannonPostModel", "layAllAims", "()V"⟩, prog_14_method_90_code, 2, none, 12),
  (⟨"CannonPostModel", "knowers", "(I)I"⟩, prog_14_method_101_code, 4, some .int, 12),
  (⟨"CannonPostModel", "goesOn", "(IIIII)Z"⟩, prog_14_method_99_code, 8, some .boolean, 12),
  (⟨"CannonPostModel", "canKnow", "(III)Z"⟩, prog_14_method_98_code, 6, some .boolean, 12),
  (⟨"CannonPostModel", "seen", "(IIIII)I"⟩, prog_14_method_102_code, 7, some .int, 12),
  (⟨"CannonPostModel", "winds", "(I)I"⟩, prog_14_method_104_code, 4, some .int, 12),
  (⟨"CannonPostModel", "fits", "(I)Z"⟩, prog_14_method_103_code, 3, some .boolean, 12)]
def mtb_7 : List (MethodName × ByteArray × Nat × Option FieldType × Nat) := [
  (⟨"CannonPostModel", "ask", "(II)I"⟩, prog_14_method_105_code, 11, some .int, 12),
  (⟨"CannonPostModel", "net", "(I)I"⟩, prog_14_method_108_code, 2, some .int, 12),
  (⟨"CannonPostModel", "netOf", "(II)I"⟩, prog_14_method_106_code, 7, some .int, 12),
  (⟨"CannonPostModel", "hasAim", "(II)Z"⟩, prog_14_method_107_code, 4, some .boolean, 12),
  (⟨"CannonPostModel", "cuts", "()I"⟩, prog_14_method_109_code, 4, some .int, 12),
  (⟨"CannonPostModel", "game", "(IIIIII)I"⟩, prog_14_method_112_code, 7, some .int, 12),
  (⟨"CannonPostModel", "isGame", "(III)Z"⟩, prog_14_method_110_code, 4, some .boolean, 12),
  (⟨"CannonPostModel", "gameOf", "(IIII)I"⟩, prog_14_method_111_code, 6, some .int, 12),
  (⟨"CannonPostModel", "rests", "(IIII)I"⟩, prog_14_method_113_code, 9, some .int, 12),
  (⟨"CannonPostModel", "face", "(IZ)I"⟩, prog_14_method_114_code, 3, some .int, 12),
  (⟨"CannonPostModel", "meant", "(I)I"⟩, prog_14_method_117_code, 2, some .int, 12),
  (⟨"CannonPostModel", "meantFor", "(I)I"⟩, prog_14_method_116_code, 5, some .int, 12),
  (⟨"CannonPostModel", "weightFor", "(I)J"⟩, prog_14_method_115_code, 6, some .long, 12),
  (⟨"CannonPostModel", "following", "()I"⟩, prog_14_method_118_code, 4, some .int, 12),
  (⟨"CannonPostModel", "stock", "(I)I"⟩, prog_14_method_119_code, 2, some .int, 12),
  (⟨"CannonPostModel", "hays", "(I)I"⟩, prog_14_method_121_code, 3, some .int, 12),
  (⟨"CannonPostModel", "leastHay", "([I)I"⟩, prog_14_method_120_code, 4, some .int, 12),
  (⟨"CannonPostModel", "best", "(II)I"⟩, prog_14_method_122_code, 5, some .int, 12),
  (⟨"CannonPostModel", "nearest", "(I)I"⟩, prog_14_method_123_code, 4, some .int, 12),
  (⟨"CannonPostModel", "free", "()I"⟩, prog_14_method_124_code, 3, some .int, 12),
  (⟨"CannonPostModel", "home", "(I)I"⟩, prog_14_method_125_code, 4, some .int, 12),
  (⟨"CannonPostModel", "known", "(I)I"⟩, prog_14_method_126_code, 2, some .int, 12),
  (⟨"CannonPostModel", "gusts", "(IIIII)I"⟩, prog_14_method_127_code, 8, some .int, 12),
  (⟨"CannonPostModel", "passing", "(II)I"⟩, prog_14_method_128_code, 6, some .int, 12),
  (⟨"CannonPostModel", "image", "()I"⟩, prog_14_method_129_code, 1, some .int, 12),
  (⟨"CannonPostModel", "back", "()I"⟩, prog_14_method_130_code, 1, some .int, 12),
  (⟨"CannonPostModel", "count", "(I)I"⟩, prog_14_method_131_code, 4, some .int, 12),
  (x, code, 7, some .boolean, 19)]
def mtb : List (MethodName × ByteArray × Nat × Option FieldType × Nat) := mtb_0 ++ (mtb_1 ++ (mtb_2 ++ (mtb_3 ++ (mtb_4 ++ (mtb_5 ++ (mtb_6 ++ (mtb_7)))))))
def fL : List (Nat × Nat × Nat × Nat) := [(10, 11, 10, 0), (11, 102, 10, 1), (10, 15, 10, 1), (6, 22, 10, 2), (3, 21, 10, 2), (10, 19, 10, 2), (8, 44, 10, 2), (5, 11, 5, 0), (6, 46, 5, 0), (5, 15, 5, 1), (6, 73, 5, 1), (5, 18, 5, 2)]
  ++ [(6, 76, 5, 2), (7, 43, 5, 3), (9, 38, 5, 3), (5, 27, 5, 3), (6, 36, 5, 3), (11, 119, 5, 3), (1, 88, 5, 3), (5, 31, 5, 4), (9, 46, 5, 4), (6, 39, 5, 4), (7, 71, 5, 4), (11, 205, 5, 4)]
  ++ [(6, 12, 6, 0), (11, 140, 6, 0), (6, 18, 6, 1), (6, 32, 6, 2), (3, 11, 3, 0), (11, 126, 3, 0), (3, 25, 3, 1), (11, 130, 3, 1), (3, 17, 3, 2), (4, 9, 4, 0), (0, 47, 4, 0), (4, 32, 4, 1)]
  ++ [(11, 196, 4, 1), (4, 15, 4, 2), (0, 41, 4, 2), (11, 199, 4, 2), (4, 23, 4, 3), (4, 26, 4, 4), (4, 29, 4, 5), (8, 11, 8, 0), (11, 311, 8, 0), (8, 27, 8, 1), (11, 208, 8, 1), (8, 17, 8, 2)]
  ++ [(8, 20, 8, 3), (8, 41, 8, 4), (8, 23, 8, 5), (0, 20, 0, 0), (0, 24, 0, 1), (0, 13, 0, 2), (0, 17, 0, 3), (7, 11, 7, 0), (11, 344, 7, 0), (7, 17, 7, 1), (11, 347, 7, 1), (7, 20, 7, 2)]
  ++ [(11, 350, 7, 2), (7, 23, 7, 3), (7, 26, 7, 4), (7, 29, 7, 5), (7, 33, 7, 6), (1, 11, 1, 0), (11, 403, 1, 0), (1, 45, 1, 1), (11, 400, 1, 1), (1, 38, 1, 2), (11, 213, 1, 2), (1, 42, 1, 3)]
  ++ [(11, 216, 1, 3), (1, 15, 1, 4), (1, 20, 1, 5), (1, 23, 1, 6), (1, 26, 1, 7), (1, 30, 1, 8), (1, 34, 1, 9), (2, 30, 2, 0), (11, 222, 2, 0), (2, 13, 2, 1), (2, 20, 2, 2), (9, 15, 9, 0)]
  ++ [(2, 16, 9, 0), (7, 57, 9, 0), (0, 66, 9, 0), (11, 162, 9, 0), (9, 19, 9, 1), (11, 10, 11, 0), (11, 19, 11, 1), (11, 28, 11, 2), (11, 35, 11, 3), (11, 42, 11, 4), (11, 49, 11, 5), (11, 58, 11, 6)]
  ++ [(11, 67, 11, 7), (11, 74, 11, 8), (11, 81, 11, 9), (11, 88, 11, 10), (11, 92, 11, 11), (11, 95, 11, 12), (11, 155, 11, 13), (11, 202, 11, 14), (12, 96, 12, 0), (12, 9, 12, 1), (12, 13, 12, 2), (12, 16, 12, 3)]
  ++ [(12, 20, 12, 4), (12, 23, 12, 5), (12, 109, 12, 6), (12, 286, 12, 7), (12, 125, 12, 8), (12, 122, 12, 9), (12, 119, 12, 10), (12, 128, 12, 11), (12, 131, 12, 12), (12, 201, 12, 13), (12, 204, 12, 14), (12, 28, 12, 15)]
  ++ [(12, 34, 12, 16), (12, 197, 12, 17), (12, 37, 12, 18), (12, 40, 12, 19), (12, 43, 12, 20), (12, 46, 12, 21), (12, 49, 12, 22), (12, 52, 12, 23), (12, 55, 12, 24), (12, 58, 12, 25), (12, 294, 12, 26), (12, 297, 12, 27)]
  ++ [(12, 245, 12, 28), (12, 248, 12, 29), (12, 289, 12, 30), (12, 242, 12, 31), (12, 61, 12, 32), (12, 64, 12, 33), (12, 67, 12, 34), (12, 369, 12, 35), (12, 71, 12, 36), (12, 309, 12, 37), (12, 406, 12, 38), (12, 74, 12, 39)]
  ++ [(12, 450, 12, 40), (12, 453, 12, 41), (12, 456, 12, 42), (12, 77, 12, 43), (12, 80, 12, 44), (12, 83, 12, 45), (12, 303, 12, 46), (12, 86, 12, 47), (12, 89, 12, 48), (12, 306, 12, 49), (12, 93, 12, 50), (12, 312, 12, 51)]
  ++ [(13, 15, 13, 1), (13, 9, 13, 0)]

def vL_ : List (Nat × Nat × Nat × Nat) := [(19, 19, 0, 5), (11, 106, 2, 1), (19, 24, 3, 1), (19, 29, 4, 1), (11, 110, 5, 0), (6, 28, 6, 0), (6, 55, 7, 0), (6, 58, 8, 0), (6, 69, 9, 4), (6, 95, 11, 1), (13, 492, 12, 0), (6, 83, 16, 1)]
  ++ [(6, 62, 17, 0), (5, 34, 18, 1), (5, 38, 19, 1), (5, 41, 20, 1), (6, 65, 21, 1), (10, 22, 8, 0), (11, 114, 22, 0), (3, 28, 23, 0), (3, 36, 21, 1), (3, 32, 8, 0), (3, 40, 24, 1), (3, 61, 25, 1)]
  ++ [(3, 69, 26, 1), (13, 633, 27, 2), (13, 505, 28, 0), (13, 335, 29, 0), (3, 50, 33, 2), (3, 74, 16, 1), (3, 54, 36, 2), (3, 58, 37, 2), (11, 115, 38, 0), (8, 49, 39, 1), (8, 57, 21, 1), (8, 61, 40, 3)]
  ++ [(8, 68, 41, 2), (8, 72, 42, 1), (8, 65, 43, 1), (8, 53, 8, 0), (19, 34, 44, 1), (11, 116, 45, 0), (11, 143, 46, 1), (11, 147, 47, 1), (9, 28, 49, 0), (9, 32, 50, 0), (9, 35, 51, 0), (9, 42, 52, 1)]
  ++ [(9, 49, 19, 1), (11, 150, 53, 0), (11, 153, 54, 0), (11, 154, 55, 0), (11, 122, 56, 0), (11, 133, 57, 2), (4, 35, 56, 0), (11, 137, 58, 0), (11, 138, 59, 0), (8, 31, 58, 0), (19, 38, 60, 1), (11, 159, 61, 0)]
  ++ [(11, 165, 62, 0), (19, 42, 63, 2), (11, 168, 20, 1), (11, 172, 18, 1), (11, 175, 64, 1), (19, 56, 65, 1), (19, 60, 66, 1), (19, 228, 67, 1), (11, 209, 68, 2), (11, 219, 69, 0), (19, 64, 70, 4), (11, 224, 71, 3)]
  ++ [(11, 178, 72, 1), (11, 231, 75, 2), (11, 235, 77, 1), (11, 239, 78, 5), (11, 279, 79, 5), (0, 75, 81, 5), (0, 34, 82, 1), (0, 38, 64, 1), (0, 50, 83, 1), (0, 53, 84, 0), (0, 79, 18, 1), (11, 282, 87, 1)]
  ++ [(11, 285, 88, 3), (11, 289, 89, 4), (19, 69, 90, 2), (11, 243, 91, 3), (19, 74, 93, 2), (19, 78, 94, 1), (19, 82, 95, 2), (11, 246, 96, 2), (19, 86, 97, 1), (19, 90, 98, 1), (11, 249, 99, 1), (11, 252, 100, 1)]
  ++ [(19, 96, 101, 2), (11, 255, 102, 1), (11, 300, 105, 2), (19, 101, 106, 0), (11, 259, 107, 1), (19, 105, 108, 2), (11, 263, 109, 2), (19, 220, 110, 0), (11, 266, 111, 1), (19, 224, 112, 0), (19, 109, 113, 3), (11, 308, 114, 1)]
  ++ [(11, 314, 115, 3), (19, 114, 116, 2), (11, 318, 117, 3), (11, 322, 118, 3), (11, 325, 119, 3), (19, 118, 120, 1), (19, 122, 121, 5), (11, 329, 122, 4), (19, 126, 123, 3), (11, 333, 124, 3), (11, 337, 125, 4), (0, 85, 126, 3)]
  ++ [(0, 89, 87, 1), (19, 130, 127, 4), (11, 341, 128, 3), (7, 47, 125, 4), (7, 53, 129, 4), (19, 134, 130, 3), (11, 353, 131, 2), (11, 356, 132, 3), (7, 68, 133, 4), (7, 74, 134, 5), (19, 138, 135, 3), (11, 360, 136, 3)]
  ++ [(11, 191, 83, 1), (19, 142, 137, 2), (19, 158, 138, 0), (11, 367, 139, 1), (11, 370, 140, 2), (19, 162, 141, 1), (19, 212, 142, 5), (11, 373, 143, 5), (11, 380, 81, 5), (19, 216, 144, 2), (11, 387, 145, 2), (11, 188, 82, 1)]
  ++ [(19, 146, 146, 5), (11, 390, 147, 0), (11, 393, 148, 5), (19, 150, 149, 1), (11, 397, 150, 0), (1, 48, 151, 1), (1, 52, 152, 5), (1, 69, 81, 5), (1, 56, 18, 1), (19, 154, 153, 2), (11, 406, 154, 2), (1, 72, 155, 4)]
  ++ [(19, 175, 156, 2), (11, 409, 157, 0), (11, 412, 158, 2), (19, 180, 159, 1), (11, 416, 160, 1), (1, 91, 161, 1), (19, 184, 162, 0), (11, 419, 163, 1), (19, 166, 164, 6), (11, 425, 166, 4), (19, 171, 167, 4), (19, 188, 168, 1)]
  ++ [(19, 192, 169, 1), (19, 196, 170, 2), (11, 434, 171, 0), (5, 45, 64, 1), (11, 437, 172, 1), (19, 200, 173, 0), (19, 204, 174, 1), (19, 208, 175, 1), (19, 7, 176, 2), (19, 52, 177, 0), (19, 23, 178, 5), (12, 115, 180, 1)]
  ++ [(19, 28, 181, 1), (19, 33, 182, 1), (12, 277, 184, 0), (12, 207, 185, 3), (12, 261, 187, 0), (12, 138, 188, 0), (12, 134, 189, 0), (12, 253, 190, 4), (12, 99, 28, 0), (12, 105, 11, 1), (12, 239, 195, 2), (12, 168, 196, 0)]
  ++ [(12, 214, 197, 0), (12, 264, 198, 0), (12, 280, 199, 3), (12, 211, 200, 0), (12, 164, 202, 1), (12, 187, 203, 2), (12, 194, 204, 2), (12, 191, 205, 2), (12, 161, 206, 0), (12, 178, 207, 0), (12, 171, 208, 0), (12, 158, 209, 0)]
  ++ [(12, 184, 212, 0), (12, 283, 213, 0), (12, 272, 214, 1), (12, 269, 215, 1), (19, 37, 216, 1), (12, 292, 182, 1), (19, 41, 218, 1), (19, 45, 219, 2), (12, 362, 220, 1), (19, 51, 221, 2), (12, 339, 222, 1), (12, 315, 223, 2)]
  ++ [(19, 59, 224, 1), (19, 63, 225, 1), (19, 68, 226, 4), (12, 372, 227, 4), (12, 342, 228, 2), (12, 378, 229, 0), (12, 381, 230, 5), (12, 348, 231, 5), (12, 329, 232, 7), (12, 322, 233, 5), (12, 326, 234, 1), (12, 352, 235, 1)]
  ++ [(12, 336, 236, 1), (19, 73, 237, 2), (12, 386, 238, 3), (19, 77, 239, 2), (19, 81, 240, 1), (19, 85, 241, 2), (12, 392, 242, 3), (19, 89, 244, 1), (19, 93, 245, 1), (12, 399, 246, 3), (12, 402, 247, 1), (19, 100, 248, 2)]
  ++ [(12, 414, 249, 1), (12, 417, 250, 2), (19, 104, 251, 0), (19, 108, 252, 2), (19, 113, 253, 3), (12, 422, 254, 1), (19, 117, 255, 2), (12, 429, 257, 2), (12, 432, 258, 1), (12, 435, 259, 2), (19, 121, 260, 1), (19, 125, 261, 5)]
  ++ [(12, 439, 262, 4), (19, 129, 263, 3), (12, 443, 264, 1), (12, 446, 265, 3), (19, 133, 266, 4), (12, 463, 267, 3), (12, 459, 268, 7), (19, 141, 269, 3), (12, 471, 270, 3), (19, 145, 271, 2), (19, 137, 272, 3), (12, 481, 273, 0)]
  ++ [(12, 484, 274, 1), (12, 474, 275, 5), (12, 478, 276, 3), (19, 149, 277, 5), (19, 153, 278, 1), (12, 491, 279, 1), (19, 157, 280, 2), (19, 165, 281, 1), (12, 497, 282, 2), (12, 494, 283, 2), (19, 161, 284, 0), (19, 170, 285, 6)]
  ++ [(12, 500, 286, 3), (12, 503, 287, 4), (19, 174, 288, 4), (19, 179, 289, 2), (19, 183, 290, 1), (12, 511, 291, 1), (12, 507, 292, 1), (19, 187, 293, 0), (19, 191, 294, 1), (19, 195, 295, 1), (12, 514, 296, 1), (19, 199, 297, 2)]
  ++ [(12, 518, 298, 1), (19, 203, 299, 0), (19, 207, 300, 1), (19, 211, 301, 1), (19, 215, 302, 5), (19, 219, 303, 2), (19, 223, 304, 0), (19, 227, 305, 0), (19, 231, 306, 1)]

def sL : List (Nat × Nat × Nat × Nat) := [(11, 98, 1, 1), (6, 79, 10, 3), (13, 495, 13, 2), (14, 9, 14, 2), (13, 1059, 15, 3), (13, 637, 30, 4), (14, 88, 31, 1), (14, 95, 32, 4), (3, 64, 34, 1), (3, 44, 35, 1), (9, 22, 48, 2), (0, 28, 48, 2)]
  ++ [(11, 268, 73, 1), (11, 228, 74, 1), (11, 271, 76, 1), (0, 71, 80, 3), (4, 51, 85, 3), (0, 82, 86, 3), (11, 276, 92, 1), (11, 293, 103, 1), (11, 296, 104, 2), (7, 37, 48, 2), (11, 377, 80, 3), (11, 384, 86, 3)]
  ++ [(1, 66, 80, 3), (1, 62, 86, 3), (1, 76, 48, 2), (11, 422, 165, 1), (12, 111, 179, 1), (12, 217, 183, 3), (12, 221, 186, 2), (12, 225, 191, 2), (12, 229, 192, 2), (12, 233, 193, 2), (12, 236, 194, 2), (12, 154, 201, 2)]
  ++ [(12, 174, 210, 1), (12, 181, 211, 1), (12, 300, 217, 1), (12, 355, 76, 1), (12, 395, 243, 3), (12, 425, 256, 2)]

def cL : List (Nat × Nat × Int) := [(11, 223, (-1000000)), (18, 265, 1431655765), (18, 266, 858993459), (18, 267, 252645135), (4, 57, 1000000), (4, 60, (-1000000)), (12, 421, (-1000000))]

def lL : List (Nat × Nat × Int) := [(4, 55, 1000000), (4, 58, (-1000000)), (11, 304, 6364136223846793005), (11, 306, 1442695040888963407), (11, 363, 1000000000), (11, 365, 10), (1, 97, 8), (1, 99, 3), (1, 101, 2), (1, 103, 7), (1, 95, 1000000), (12, 275, 2)]
  ++ [(12, 141, (-1000000)), (12, 143, 1000000), (12, 360, 4), (12, 365, 3), (12, 367, 9), (12, 346, 20), (12, 376, 63), (12, 384, 5), (12, 390, 50), (12, 410, 6364136223846793005), (12, 412, 1442695040888963407), (12, 467, 1000000000)]
  ++ [(12, 469, 10), (12, 487, (-60)), (12, 489, 100), (19, 94, 4294967295)]

/-- statics: class, entry, 0 a number or 1 a cell, which -/
def gL : List (Nat × Nat × Nat × Nat) := [(6, 42, 1, 121), (13, 38, 0, 1), (13, 1053, 1, 999), (6, 87, 1, 122), (6, 90, 1, 123)]

/-- texts: class, entry, cell -/
def rL : List (Nat × Nat × Nat) := [(6, 93, 124), (3, 67, 125), (12, 26, 126), (12, 32, 125), (12, 251, 127), (12, 257, 128), (12, 259, 129), (12, 267, 130)]

/-- Math: class, entry, 0 max 1 min 2 abs, 3 .. 5 of longs -/
def hL : List (Nat × Nat × Nat) := [(14, 92, 0), (14, 38, 1), (9, 64, 1), (2, 33, 1), (4, 45, 0), (0, 57, 1), (0, 63, 0), (9, 58, 0), (1, 82, 0), (11, 429, 1), (5, 48, 5), (12, 145, 4)]
  ++ [(12, 151, 3), (12, 318, 1), (12, 320, 0), (12, 333, 2), (12, 521, 5)]

def aL : List (Nat × Nat) := [(6, 49), (5, 21), (4, 39), (8, 35), (2, 24), (9, 52), (7, 62)]

/-- cells: kind (a class; 100 int[], 101 byte[], 102 boolean[], 103 long[], 104 int[][], 110 int[] and 111 byte[] that stay, 112 the script), length -/
def kT : List (Nat × Nat) := [(11, 0), (10, 0), (5, 0), (6, 0), (5, 0), (3, 0), (4, 0), (8, 0), (0, 0), (7, 0), (1, 0), (2, 0), (9, 0), (9, 0), (9, 0), (101, 240)]
  ++ [(100, 4), (100, 24), (100, 15), (100, 4), (100, 24), (100, 15), (100, 240), (100, 6), (104, 4), (100, 240), (100, 240), (100, 240), (100, 240), (100, 4), (100, 64), (100, 4)]
  ++ [(104, 4), (100, 64), (100, 64), (100, 64), (100, 64), (100, 64), (100, 320), (100, 40), (100, 8), (100, 8), (100, 8), (100, 8), (100, 5), (100, 20), (100, 50), (100, 61)]
  ++ [(100, 12), (102, 12), (104, 40), (100, 37), (100, 37), (100, 37), (100, 37), (100, 37), (100, 37), (100, 37), (100, 37), (100, 37), (100, 37), (100, 37), (100, 37), (100, 37)]
  ++ [(100, 37), (100, 37), (100, 37), (100, 37), (100, 37), (100, 37), (100, 37), (100, 37), (100, 37), (100, 37), (100, 37), (100, 37), (100, 37), (100, 37), (100, 37), (100, 37)]
  ++ [(100, 37), (100, 37), (100, 37), (100, 37), (100, 37), (100, 37), (100, 37), (100, 37), (100, 37), (100, 37), (100, 37), (100, 37), (100, 400), (100, 37), (100, 400), (100, 37)]
  ++ [(100, 400), (12, 0), (101, 240), (101, 960), (100, 4), (100, 128), (100, 4), (100, 4), (100, 24), (100, 24), (100, 15), (100, 15), (100, 320), (100, 5), (100, 277), (100, 277)]
  ++ [(100, 11080), (100, 320), (100, 5), (100, 50), (100, 128), (100, 12), (102, 12), (100, 277), (103, 1), (110, 10), (110, 10), (110, 10), (13, 0), (13, 0), (13, 0), (13, 0)]
  ++ [(13, 0), (13, 0), (13, 0), (111, 10), (111, 6), (111, 1), (111, 4), (111, 3), (111, 3), (111, 4), (112, 0)]

/-- what constant references they hold -/
def rT : List (List Nat) := [[1, 2, 3, 5, 6, 7, 8, 9, 10, 11, 12, 13, 14, 0, 0], [15, 0, 0], [16, 17, 18, 0, 0], [4, 1, 0], [19, 20, 21, 0, 0], [22, 0, 1], [23, 0, 0, 24, 29, 30], [31, 0, 32, 37, 0, 1], [2, 6, 38, 39], [40, 41, 42, 43, 44, 2, 8], [45, 0, 0, 0, 46, 47, 48, 49, 2, 8], [0, 50, 0], [91, 92], [93, 94], [95, 96], []]
  ++ [[], [], [], [], [], [], [], [], [25], [], [], [], [], [], [], []]
  ++ [[33], [], [], [], [], [], [], [], [], [], [], [], [], [], [], []]
  ++ [[], [], [51], [], [], [], [], [], [], [], [], [], [], [], [], []]
  ++ [[], [], [], [], [], [], [], [], [], [], [], [], [], [], [], []]
  ++ [[], [], [], [], [], [], [], [], [], [], [], [], [], [], [], []]
  ++ [[], [0, 98, 99, 100, 101, 0, 0, 0, 0, 0, 0, 0, 0, 0, 0, 126, 125, 0, 102, 103, 104, 105, 106, 107, 108, 109, 0, 0, 0, 0, 0, 0, 110, 111, 0, 0, 112, 0, 0, 113, 0, 0, 0, 114, 115, 116, 0, 117, 118, 0, 119, 0], [], [], [], [], [], [], [], [], [], [], [], [], [], []]
  ++ [[], [], [], [], [], [], [], [], [], [], [], [], [131, 0], [132, 0], [133, 0], [134, 0]]
  ++ [[135, 0], [136, 0], [137, 0], [], [], [], [], [], [], [], []]

/-- what stays: the contents of cells from nM on -/
def oT : List (List Int) := [[1, 0, 50, 3, 0, 0, 2, 3, 5, 0], [0, 0, 0, 1, 0, 0, 0, 1, 0, 0], [9, 1, 99, 6, 40, 9, 9, 9, 9, 7], [], [], [], [], []]
  ++ [[], [], [119, 100, 112, 98, 120, 104, 121, 109, 110, 102], [112, 109, 119, 104, 110, 100], [121], [119, 100, 112, 98], [120, 104, 121], [109, 110, 102]]
  ++ [[115, 104, 119, 110], []]

/-- fields: 0 int, 5 boolean, 1 long, 2 a constant reference, 3 one that changes, 4 the number 0 -/
def ftT : List (List Nat) := [[2, 2, 2, 2], [2, 0, 0, 0, 2, 2, 2, 2, 2, 2], [0, 2, 0], [2, 0, 2], [2, 0, 0, 2, 2, 2], [2, 2, 2, 0, 0], [2, 2, 5], [2, 2, 2, 2, 2, 2, 2], [2, 0, 2, 2, 0, 2], [2, 2], [2, 0, 0], [2, 2, 2, 2, 2, 2, 2, 2, 2, 2, 2, 2, 2, 5, 0], [0, 2, 2, 2, 2, 3, 0, 0, 0, 0, 0, 0, 0, 0, 0, 2, 2, 5, 2, 2, 2, 2, 2, 2, 2, 2, 0, 0, 0, 0, 0, 5, 2, 2, 0, 0, 2, 0, 1, 2, 0, 0, 0, 2, 2, 2, 0, 2, 2, 0, 2, 5], [2, 4]]
/-- methods by the order of their words in the tables: instanceMethod, selects, static; classes: initialized -/
def iLst : List (Nat) := [0, 2, 3, 4, 5, 6, 7, 8, 9, 11, 12, 16, 17, 18, 19, 20, 21, 22, 23, 24, 25, 26, 27, 28, 29, 33, 36, 37, 38, 39]
  ++ [40, 41, 42, 43, 44, 45, 46, 47, 49, 50, 51, 52, 53, 54, 55, 56, 57, 58, 59, 60, 61, 62, 63, 64, 65, 66, 67, 68, 69, 70]
  ++ [71, 72, 75, 77, 78, 79, 81, 82, 83, 84, 87, 88, 89, 90, 91, 93, 94, 95, 96, 97, 98, 99, 100, 101, 102, 105, 106, 107, 108, 109]
  ++ [110, 111, 112, 113, 114, 115, 116, 117, 118, 119, 120, 121, 122, 123, 124, 125, 126, 127, 128, 129, 130, 131, 132, 133, 134, 135, 136, 137, 138, 139]
  ++ [140, 141, 142, 143, 144, 145, 146, 147, 148, 149, 150, 151, 152, 153, 154, 155, 156, 157, 158, 159, 160, 161, 162, 163, 164, 166, 167, 168, 169, 170]
  ++ [171, 172, 173, 174, 175, 176, 177, 178, 180, 181, 182, 184, 185, 187, 188, 189, 190, 195, 196, 197, 198, 199, 200, 202, 203, 204, 205, 206, 207, 208]
  ++ [209, 212, 213, 214, 215, 216, 218, 219, 220, 221, 222, 223, 224, 225, 226, 227, 228, 229, 230, 231, 232, 233, 234, 235, 236, 237, 238, 239, 240, 241]
  ++ [242, 244, 245, 246, 247, 248, 249, 250, 251, 252, 253, 254, 255, 257, 258, 259, 260, 261, 262, 263, 264, 265, 266, 267, 268, 269, 270, 271, 272, 273]
  ++ [274, 275, 276, 277, 278, 279, 280, 281, 282, 283, 284, 285, 286, 287, 288, 289, 290, 291, 292, 293, 294, 295, 296, 297, 298, 299, 300, 301, 302, 303]
  ++ [304, 305, 306]

def eLst : List (Nat) := [6, 7, 9, 23, 24, 25, 33, 36, 37, 39, 40, 41, 43, 45, 71, 75, 78, 91, 99, 102, 105, 117, 118, 119, 122, 124, 126, 129, 133, 134]
  ++ [136, 143, 145, 151, 152, 155, 161, 166, 180, 184, 185, 187, 188, 189, 190, 195, 196, 197, 198, 199, 200, 202, 203, 204, 205, 206, 207, 208, 209, 212]
  ++ [213, 214, 215, 220, 222, 223, 227, 228, 229, 230, 231, 232, 233, 234, 235, 236, 238, 242, 246, 247, 249, 250, 254, 257, 258, 259, 262, 264, 265, 267]
  ++ [268, 270, 273, 274, 275, 276, 279, 282, 283, 286, 287, 291, 292, 296, 298, 0, 2, 3, 4, 5, 8, 11, 12, 16, 17, 18, 19, 20, 21, 22]
  ++ [26, 27, 28, 29, 38, 42, 44, 46, 47, 49, 50, 51, 52, 53, 54, 55, 56, 57, 58, 59, 60, 61, 62, 63, 64, 65, 66, 67, 68, 69]
  ++ [70, 72, 77, 79, 81, 82, 83, 84, 87, 88, 89, 90, 93, 94, 95, 96, 97, 98, 100, 101, 106, 107, 108, 109, 110, 111, 112, 113, 114, 115]
  ++ [116, 120, 121, 123, 125, 127, 128, 130, 131, 132, 135, 137, 138, 139, 140, 141, 142, 144, 146, 147, 148, 149, 150, 153, 154, 156, 157, 158, 159, 160]
  ++ [162, 163, 164, 167, 168, 169, 170, 171, 172, 173, 174, 175, 176, 177, 178, 181, 182, 216, 218, 219, 221, 224, 225, 226, 237, 239, 240, 241, 244, 245]
  ++ [248, 251, 252, 253, 255, 260, 261, 263, 266, 269, 271, 272, 277, 278, 280, 281, 284, 285, 288, 289, 290, 293, 294, 295, 297, 299, 300, 301, 302, 303]
  ++ [304, 305, 306]

def tLst : List (Nat) := [1, 10, 13, 14, 15, 30, 31, 32, 34, 35, 48, 73, 74, 76, 80, 85, 86, 92, 103, 104, 165, 179, 183, 186, 191, 192, 193, 194, 201, 210]
  ++ [211, 217, 243, 256]

def nLst : List (Nat) := [19, 11, 10, 5, 6, 3, 4, 8, 0, 7, 1, 2, 9, 12, 13, 14, 15, 16, 17, 18]

def gN : List (String × String × String) := [("CannonPost$LeagueReader", "USUAL", "[I"), ("java/lang/String", "COMPACT_STRINGS", "Z"), ("jdk/internal/util/Preconditions", "SIOOBE_FORMATTER", "Ljava/util/function/BiFunction;"), ("CannonPost$LeagueReader", "LEAST", "[I"), ("CannonPost$LeagueReader", "MOST", "[I")]
def kGap : List (Nat) := [469, 2, 3, 3, 3, 3, 3, 8, 3, 3, 2, 4, 3, 4, 2, 4, 22, 7, 3, 3, 3, 3, 4, 3, 5, 3, 4, 3, 3, 3, 2, 2, 8, 38, 3, 2, 3, 3, 3, 3]
  ++ [4, 3, 3, 3, 4, 3, 3, 4, 2, 3, 3, 3, 3, 4, 3, 3, 4, 3, 5, 3, 5, 3, 3, 3, 5, 3, 3, 3, 3, 3, 5, 3, 3, 2, 2, 3, 2, 6, 5, 3]
  ++ [2, 3, 3, 4, 3, 3, 9, 3, 3, 3, 3, 3, 2, 3, 3, 3, 3, 3, 3, 3, 3, 4, 3, 2, 4, 3, 3, 3, 3, 3, 3, 3, 4, 3, 3, 3, 3, 3, 3, 3]
  ++ [3, 3, 3, 3, 3, 3, 3, 4, 3, 5, 3, 3, 3, 4, 3, 3, 3, 6, 3, 3, 3, 3, 3, 3, 6, 3, 4, 3, 3, 3, 3, 3, 3, 7, 3, 3, 5, 3, 3, 3]
  ++ [3, 3, 8, 3, 3, 2, 3, 3, 3, 3, 4, 3, 4, 6, 3, 3, 7, 234, 3, 2, 3, 3, 3, 3, 3, 3, 2, 3, 3, 3, 4, 3, 3, 2, 2, 3, 3, 3, 5, 3]
  ++ [3, 2, 3, 3, 3, 3, 3, 3, 3, 3, 2, 10, 3, 3, 3, 4, 3, 3, 3, 4, 3, 4, 3, 3, 3, 3, 4, 3, 3, 6, 3, 3, 3, 3, 5, 3, 3, 6, 3, 4]
  ++ [3, 4, 3, 2, 3, 3, 3, 3, 3, 3, 5, 3, 3, 4, 3, 3, 2, 3, 3, 3, 3, 3, 3, 3, 3, 3, 3, 3, 3, 3, 3, 5, 3, 3, 3, 3, 3, 3, 5, 3]
  ++ [3, 3, 3, 3, 3, 3, 3, 3, 3, 3, 3, 3, 3, 3, 3, 3, 3, 3, 3, 4, 3, 3, 3, 3, 3, 3, 3]

def nMe : Nat := 307
def scC : Nat := 138
def nM : Nat := 121
def nC : Nat := 139
-- cells by name: x 0, tape 1, league 2, leagueReader 3, draft 4, lawReader 5, laws 6, plans 7, flight 8, paths 9, guesses 10, history 11, now 12, trial 13, kept 14, bytes 15, league.rules 16, league.forts 17, league.carriers 18, draft.rules 19, draft.forts 20, draft.carriers 21, lcode 22, lletters 23, codes 24, codes[0] 25, lsizes 29, lstack 30, psizes 31, plrows 32, plrows[0] 33, pdraft 37, faims 38, reckoned 39, phops 40, pcosts 41, prows 42, plinks 43, pspots 44, gfitting 45, gsights 46, gtally 47, gfaceForts 48, gfaceLit 49, hrows 50, hrows[0] 51, now.cells 91, now.shots 92, trial.cells 93, trial.shots 94, kept.cells 95, kept.shots 96, m 97, m.tape 98, m.texts 99, m.textLong 100, m.letters 101, m.rule 102, m.ruleRead 103, m.fort 104, m.fortRead 105, m.carrier 106, m.carrierRead 107, m.plan 108, m.planLong 109, m.now 110, m.trial 111, m.undoRow 112, m.aims 113, m.folkAt 114, m.sight 115, m.places 116, m.faceFort 117, m.faceLit 118, m.imageRow 119, out 120, USUAL 121, LEAST 122, MOST 123, "wdpbxhymnf" 124, "pmwhnd" 125, "y" 126, "wdpb" 127, "xhy" 128, "mnf" 129, "shwn" 130, "wdpbxhymnf".value 131, "pmwhnd".value 132, "y".value 133, "wdpb".value 134, "xhy".value 135, "mnf".value 136, "shwn".value 137, script 138
