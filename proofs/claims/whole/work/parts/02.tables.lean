def cN0 : String := "MirrorRoots$Ideal"
def cT0 : u_T := fun k => match k with
  | 0 => ("MirrorRoots$Ideal", "mirrors", "LMirrorRoots$Mirrors;", true)
  | 1 => ("MirrorRoots$Ideal", "kept", "LMirrorRoots$Kept;", true)
  | 2 => ("MirrorRoots$Ideal", "shelf", "LMirrorRoots$Shelf;", true)
  | 3 => ("MirrorRoots$Ideal", "row", "[J", true)
  | 4 => ("MirrorRoots$Ideal", "byMirror", "[I", true)
  | 5 => ("MirrorRoots$Ideal", "packed", "[J", true)
  | 6 => ("MirrorRoots$Ideal", "filled", "[Z", true)
  | 7 => ("MirrorRoots$Ideal", "of", "I", false)
  | _ => ("MirrorRoots$Ideal", "top", "I", false)
def cN1 : String := "MirrorRoots$Kept"
def cT1 : u_T := fun k => match k with
  | 0 => ("MirrorRoots$Kept", "mirrors", "LMirrorRoots$Mirrors;", true)
  | 1 => ("MirrorRoots$Kept", "many", "I", false)
  | 2 => ("MirrorRoots$Kept", "letters", "[I", true)
  | 3 => ("MirrorRoots$Kept", "lengths", "[I", true)
  | 4 => ("MirrorRoots$Kept", "left", "[J", true)
  | 5 => ("MirrorRoots$Kept", "right", "[J", true)
  | _ => ("MirrorRoots$Kept", "weights", "[J", true)
def cN2 : String := "MirrorRoots$Layers"
def cT2 : u_T := fun k => match k with
  | 0 => ("MirrorRoots$Layers", "mirrors", "LMirrorRoots$Mirrors;", true)
  | 1 => ("MirrorRoots$Layers", "kept", "LMirrorRoots$Kept;", true)
  | 2 => ("MirrorRoots$Layers", "shelf", "LMirrorRoots$Shelf;", true)
  | 3 => ("MirrorRoots$Layers", "row", "[J", true)
  | 4 => ("MirrorRoots$Layers", "ways", "[J", true)
  | 5 => ("MirrorRoots$Layers", "counts", "[I", true)
  | 6 => ("MirrorRoots$Layers", "tooMany", "I", false)
  | 7 => ("MirrorRoots$Layers", "all", "I", false)
  | _ => ("MirrorRoots$Layers", "countedTo", "I", false)
def cN3 : String := "MirrorRoots$Mirrors"
def cT3 : u_T := fun k => match k with
  | 0 => ("MirrorRoots$Mirrors", "many", "I", false)
  | 1 => ("MirrorRoots$Mirrors", "turning", "[I", true)
  | _ => ("MirrorRoots$Mirrors", "numbers", "[I", true)
def cN4 : String := "MirrorRoots$Paths"
def cT4 : u_T := fun k => match k with
  | 0 => ("MirrorRoots$Paths", "mirrors", "LMirrorRoots$Mirrors;", true)
  | 1 => ("MirrorRoots$Paths", "kept", "LMirrorRoots$Kept;", true)
  | 2 => ("MirrorRoots$Paths", "rows", "[J", true)
  | _ => ("MirrorRoots$Paths", "found", "[I", true)
def cN5 : String := "MirrorRoots$Roots"
def cT5 : u_T := fun k => match k with
  | 0 => ("MirrorRoots$Roots", "mirrors", "LMirrorRoots$Mirrors;", true)
  | 1 => ("MirrorRoots$Roots", "kept", "LMirrorRoots$Kept;", true)
  | 2 => ("MirrorRoots$Roots", "row", "[J", true)
  | _ => ("MirrorRoots$Roots", "images", "[J", true)
def cN6 : String := "MirrorRoots$Shelf"
def cT6 : u_T := fun k => match k with
  | 0 => ("MirrorRoots$Shelf", "mirrors", "LMirrorRoots$Mirrors;", true)
  | 1 => ("MirrorRoots$Shelf", "most", "I", true)
  | 2 => ("MirrorRoots$Shelf", "many", "I", false)
  | 3 => ("MirrorRoots$Shelf", "rows", "[J", true)
  | 4 => ("MirrorRoots$Shelf", "lengths", "[I", true)
  | 5 => ("MirrorRoots$Shelf", "slots", "[I", true)
  | _ => ("MirrorRoots$Shelf", "slotOf", "[I", true)
def cN7 : String := "MirrorRoots$Shifts"
def cT7 : u_T := fun k => match k with
  | 0 => ("MirrorRoots$Shifts", "mirrors", "LMirrorRoots$Mirrors;", true)
  | 1 => ("MirrorRoots$Shifts", "kept", "LMirrorRoots$Kept;", true)
  | 2 => ("MirrorRoots$Shifts", "shelf", "LMirrorRoots$Shelf;", true)
  | 3 => ("MirrorRoots$Shifts", "images", "[J", true)
  | 4 => ("MirrorRoots$Shifts", "row", "[J", true)
  | 5 => ("MirrorRoots$Shifts", "of", "I", false)
  | 6 => ("MirrorRoots$Shifts", "large", "Z", false)
  | 7 => ("MirrorRoots$Shifts", "shortest", "I", false)
  | 8 => ("MirrorRoots$Shifts", "manyShortest", "I", false)
  | _ => ("MirrorRoots$Shifts", "all", "I", false)
def cN8 : String := "MirrorRoots$Telling"
def cT8 : u_T := fun k => match k with
  | 0 => ("MirrorRoots$Telling", "bytes", "[I", true)
  | 1 => ("MirrorRoots$Telling", "size", "I", false)
  | 2 => ("MirrorRoots$Telling", "spot", "I", false)
  | 3 => ("MirrorRoots$Telling", "wrong", "I", false)
  | 4 => ("MirrorRoots$Telling", "wrongAt", "I", false)
  | 5 => ("MirrorRoots$Telling", "many", "I", false)
  | 6 => ("MirrorRoots$Telling", "turning", "[I", true)
  | _ => ("MirrorRoots$Telling", "told", "[Z", true)
def cN9 : String := "MirrorRoots$Words"
def cT9 : u_T := fun k => match k with
  | 0 => ("MirrorRoots$Words", "mirrors", "LMirrorRoots$Mirrors;", true)
  | 1 => ("MirrorRoots$Words", "kept", "LMirrorRoots$Kept;", true)
  | 2 => ("MirrorRoots$Words", "row", "[J", true)
  | 3 => ("MirrorRoots$Words", "start", "[J", true)
  | 4 => ("MirrorRoots$Words", "taken", "[I", true)
  | _ => ("MirrorRoots$Words", "turned", "[I", true)
def cN10 : String := "MirrorRoots"
def cT10 : u_T := fun k => match k with
  | 0 => ("MirrorRoots", "mirrors", "LMirrorRoots$Mirrors;", true)
  | 1 => ("MirrorRoots", "text", "LMirrorRoots$Telling;", true)
  | 2 => ("MirrorRoots", "kept", "LMirrorRoots$Kept;", true)
  | 3 => ("MirrorRoots", "sides", "LMirrorRoots$Words;", true)
  | 4 => ("MirrorRoots", "roots", "LMirrorRoots$Roots;", true)
  | 5 => ("MirrorRoots", "paths", "LMirrorRoots$Paths;", true)
  | 6 => ("MirrorRoots", "draft", "[I", true)
  | 7 => ("MirrorRoots", "drafted", "I", false)
  | 8 => ("MirrorRoots", "layers", "LMirrorRoots$Layers;", false)
  | 9 => ("MirrorRoots", "shifting", "LMirrorRoots$Shifts;", false)
  | _ => ("MirrorRoots", "ideal", "LMirrorRoots$Ideal;", false)
def cN11 : String := "MirrorRootsModel"
def cT11 : u_T := fun k => match k with
  | 0 => ("MirrorRootsModel", "n", "I", false)
  | 1 => ("MirrorRootsModel", "turn", "[I", true)
  | 2 => ("MirrorRootsModel", "numbers", "[I", true)
  | 3 => ("MirrorRootsModel", "fresh", "[I", true)
  | 4 => ("MirrorRootsModel", "text", "[I", true)
  | 5 => ("MirrorRootsModel", "texted", "I", false)
  | 6 => ("MirrorRootsModel", "faultPlace", "I", false)
  | 7 => ("MirrorRootsModel", "at0", "I", false)
  | 8 => ("MirrorRootsModel", "word", "J", false)
  | 9 => ("MirrorRootsModel", "wordEnd", "I", false)
  | 10 => ("MirrorRootsModel", "figure", "I", false)
  | 11 => ("MirrorRootsModel", "isPair", "[Z", true)
  | 12 => ("MirrorRootsModel", "mirrorsRead", "I", false)
  | 13 => ("MirrorRootsModel", "cur", "[J", true)
  | 14 => ("MirrorRootsModel", "row", "[I", true)
  | 15 => ("MirrorRootsModel", "rowMany", "I", false)
  | 16 => ("MirrorRootsModel", "elements", "I", false)
  | 17 => ("MirrorRootsModel", "lengths", "[I", true)
  | 18 => ("MirrorRootsModel", "letters", "[I", true)
  | 19 => ("MirrorRootsModel", "drafted", "I", false)
  | 20 => ("MirrorRootsModel", "draft", "[I", true)
  | 21 => ("MirrorRootsModel", "held", "[J", true)
  | 22 => ("MirrorRootsModel", "next", "[J", true)
  | 23 => ("MirrorRootsModel", "ways", "[J", true)
  | 24 => ("MirrorRootsModel", "nextWays", "[J", true)
  | 25 => ("MirrorRootsModel", "line", "[J", true)
  | 26 => ("MirrorRootsModel", "taken", "[I", true)
  | 27 => ("MirrorRootsModel", "all", "I", false)
  | 28 => ("MirrorRootsModel", "shiftLength", "[I", true)
  | 29 => ("MirrorRootsModel", "shiftRow", "[I", true)
  | 30 => ("MirrorRootsModel", "explained", "I", false)
  | 31 => ("MirrorRootsModel", "belowMany", "I", false)
  | 32 => ("MirrorRootsModel", "belows", "[J", true)
  | 33 => ("MirrorRootsModel", "sizes", "[I", true)
  | 34 => ("MirrorRootsModel", "steps", "[I", true)
  | 35 => ("MirrorRootsModel", "downs", "[Z", true)
  | 36 => ("MirrorRootsModel", "rs", "[I", true)
  | 37 => ("MirrorRootsModel", "rsNext", "[I", true)
  | 38 => ("MirrorRootsModel", "chain", "[I", true)
  | 39 => ("MirrorRootsModel", "ps", "[I", true)
  | _ => ("MirrorRootsModel", "sums", "[I", true)
abbrev mcl : List vw_C := [(cN0, cT0, 9), (cN1, cT1, 7), (cN2, cT2, 9), (cN3, cT3, 3), (cN4, cT4, 4), (cN5, cT5, 4), (cN6, cT6, 7), (cN7, cT7, 10), (cN8, cT8, 8), (cN9, cT9, 6), (cN10, cT10, 11), (cN11, cT11, 41)]
abbrev mM : Type := MethodName × ByteArray × Nat × Option FieldType × Nat × Nat × Nat × Nat
def mY0 : MethodName := ⟨"MirrorRoots$Ideal", "<init>", "(LMirrorRoots$Mirrors;LMirrorRoots$Kept;)V"⟩
def mY1 : MethodName := ⟨"MirrorRoots$Ideal", "forget", "()V"⟩
def mY2 : MethodName := ⟨"MirrorRoots$Ideal", "numberAt", "(II)I"⟩
def mY3 : MethodName := ⟨"MirrorRoots$Ideal", "countRough", "()I"⟩
def mY4 : MethodName := ⟨"MirrorRoots$Ideal", "coefficient", "(JI)I"⟩
def mY5 : MethodName := ⟨"MirrorRoots$Ideal", "under", "(I)LMirrorRoots$Ideal;"⟩
def mY6 : MethodName := ⟨"MirrorRoots$Ideal", "gather", "(I)V"⟩
def mY7 : MethodName := ⟨"MirrorRoots$Ideal", "join", "(II)V"⟩
def mY8 : MethodName := ⟨"MirrorRoots$Ideal", "welcome", "(I)V"⟩
def mY9 : MethodName := ⟨"MirrorRoots$Ideal", "neighbour", "(II)I"⟩
def mY10 : MethodName := ⟨"MirrorRoots$Ideal", "fill", "(LMirrorRoots$Ideal;II)V"⟩
def mY11 : MethodName := ⟨"MirrorRoots$Ideal", "spread", "(III)V"⟩
def mY12 : MethodName := ⟨"MirrorRoots$Ideal", "leaningOf", "(II)I"⟩
def mY13 : MethodName := ⟨"MirrorRoots$Ideal", "lessen", "(III)V"⟩
def mY14 : MethodName := ⟨"MirrorRoots$Kept", "<init>", "(LMirrorRoots$Mirrors;)V"⟩
def mY15 : MethodName := ⟨"MirrorRoots$Kept", "begin", "()V"⟩
def mY16 : MethodName := ⟨"MirrorRoots$Kept", "has", "(I)Z"⟩
def mY17 : MethodName := ⟨"MirrorRoots$Kept", "letterOf", "(II)I"⟩
def mY18 : MethodName := ⟨"MirrorRoots$Kept", "keepWord", "([II)I"⟩
def mY19 : MethodName := ⟨"MirrorRoots$Kept", "writeLast", "()V"⟩
def mY20 : MethodName := ⟨"MirrorRoots$Kept", "spell", "([J[II)I"⟩
def mY21 : MethodName := ⟨"MirrorRoots$Layers", "<init>", "(LMirrorRoots$Mirrors;LMirrorRoots$Kept;)V"⟩
def mY22 : MethodName := ⟨"MirrorRoots$Layers", "forget", "()V"⟩
def mY23 : MethodName := ⟨"MirrorRoots$Layers", "countOfLength", "(I)I"⟩
def mY24 : MethodName := ⟨"MirrorRoots$Layers", "countAll", "()I"⟩
def mY25 : MethodName := ⟨"MirrorRoots$Layers", "greatestLength", "()I"⟩
def mY26 : MethodName := ⟨"MirrorRoots$Layers", "isWhole", "()Z"⟩
def mY27 : MethodName := ⟨"MirrorRoots$Layers", "countElements", "(I)V"⟩
def mY28 : MethodName := ⟨"MirrorRoots$Layers", "putLonger", "(I)V"⟩
def mY29 : MethodName := ⟨"MirrorRoots$Layers", "countLeastWords", "(I)J"⟩
def mY30 : MethodName := ⟨"MirrorRoots$Layers", "addWays", "(II)V"⟩
def mY31 : MethodName := ⟨"MirrorRoots$Mirrors", "<init>", "()V"⟩
def mY32 : MethodName := ⟨"MirrorRoots$Mirrors", "startTurns", "(II)I"⟩
def mY33 : MethodName := ⟨"MirrorRoots$Mirrors", "become", "(I[I)V"⟩
def mY34 : MethodName := ⟨"MirrorRoots$Mirrors", "setPair", "(III)V"⟩
def mY35 : MethodName := ⟨"MirrorRoots$Mirrors", "numberFor", "(IZ)I"⟩
def mY36 : MethodName := ⟨"MirrorRoots$Mirrors", "has", "(I)Z"⟩
def mY37 : MethodName := ⟨"MirrorRoots$Mirrors", "hasSet", "(I)Z"⟩
def mY38 : MethodName := ⟨"MirrorRoots$Mirrors", "startRoot", "([JII)V"⟩
def mY39 : MethodName := ⟨"MirrorRoots$Mirrors", "turnRoot", "([JII)V"⟩
def mY40 : MethodName := ⟨"MirrorRoots$Mirrors", "startWeights", "([JI)V"⟩
def mY41 : MethodName := ⟨"MirrorRoots$Mirrors", "turnWeights", "([JII)V"⟩
def mY42 : MethodName := ⟨"MirrorRoots$Mirrors", "copyRow", "([JI[JI)V"⟩
def mY43 : MethodName := ⟨"MirrorRoots$Mirrors", "sameRow", "([JI[JI)Z"⟩
def mY44 : MethodName := ⟨"MirrorRoots$Mirrors", "setBelow", "([JI)I"⟩
def mY45 : MethodName := ⟨"MirrorRoots$Mirrors", "leastBelow", "([JII)I"⟩
def mY46 : MethodName := ⟨"MirrorRoots$Mirrors", "allMirrors", "()I"⟩
def mY47 : MethodName := ⟨"MirrorRoots$Paths", "<init>", "(LMirrorRoots$Mirrors;LMirrorRoots$Kept;)V"⟩
def mY48 : MethodName := ⟨"MirrorRoots$Paths", "numberAt", "(III)I"⟩
def mY49 : MethodName := ⟨"MirrorRoots$Paths", "walk", "(LMirrorRoots$Paths;IIII)V"⟩
def mY50 : MethodName := ⟨"MirrorRoots$Paths", "powerAt", "(II)I"⟩
def mY51 : MethodName := ⟨"MirrorRoots$Roots", "<init>", "(LMirrorRoots$Mirrors;LMirrorRoots$Kept;)V"⟩
def mY52 : MethodName := ⟨"MirrorRoots$Roots", "turnBy", "(I[JI)V"⟩
def mY53 : MethodName := ⟨"MirrorRoots$Roots", "imageAt", "(III)J"⟩
def mY54 : MethodName := ⟨"MirrorRoots$Roots", "inversionAt", "(III)J"⟩
def mY55 : MethodName := ⟨"MirrorRoots$Roots", "exchanged", "(II)I"⟩
def mY56 : MethodName := ⟨"MirrorRoots$Roots", "orderOf", "(I)I"⟩
def mY57 : MethodName := ⟨"MirrorRoots$Roots", "imagesAreStart", "()Z"⟩
def mY58 : MethodName := ⟨"MirrorRoots$Roots", "imagesAreFar", "()Z"⟩
def mY59 : MethodName := ⟨"MirrorRoots$Shelf", "<init>", "(LMirrorRoots$Mirrors;I)V"⟩
def mY60 : MethodName := ⟨"MirrorRoots$Shelf", "clear", "()V"⟩
def mY61 : MethodName := ⟨"MirrorRoots$Shelf", "isBelow", "(II)Z"⟩
def mY62 : MethodName := ⟨"MirrorRoots$Shelf", "numberOf", "([JI)I"⟩
def mY63 : MethodName := ⟨"MirrorRoots$Shelf", "find", "([J)I"⟩
def mY64 : MethodName := ⟨"MirrorRoots$Shelf", "putLast", "([JI)Z"⟩
def mY65 : MethodName := ⟨"MirrorRoots$Shelf", "isUsed", "(I)Z"⟩
def mY66 : MethodName := ⟨"MirrorRoots$Shelf", "slotFor", "([J)I"⟩
def mY67 : MethodName := ⟨"MirrorRoots$Shelf", "hashOf", "([J)I"⟩
def mY68 : MethodName := ⟨"MirrorRoots$Shifts", "<init>", "(LMirrorRoots$Mirrors;LMirrorRoots$Kept;)V"⟩
def mY69 : MethodName := ⟨"MirrorRoots$Shifts", "forget", "()V"⟩
def mY70 : MethodName := ⟨"MirrorRoots$Shifts", "tell", "(II)I"⟩
def mY71 : MethodName := ⟨"MirrorRoots$Shifts", "sum", "()V"⟩
def mY72 : MethodName := ⟨"MirrorRoots$Shifts", "walk", "(I)Z"⟩
def mY73 : MethodName := ⟨"MirrorRoots$Shifts", "step", "(II)Z"⟩
def mY74 : MethodName := ⟨"MirrorRoots$Shifts", "weighRight", "(II)I"⟩
def mY75 : MethodName := ⟨"MirrorRoots$Shifts", "drawImages", "(III)V"⟩
def mY76 : MethodName := ⟨"MirrorRoots$Telling", "<init>", "()V"⟩
def mY77 : MethodName := ⟨"MirrorRoots$Telling", "append", "(IJ)I"⟩
def mY78 : MethodName := ⟨"MirrorRoots$Telling", "parse", "()I"⟩
def mY79 : MethodName := ⟨"MirrorRoots$Telling", "begin", "()V"⟩
def mY80 : MethodName := ⟨"MirrorRoots$Telling", "tellMirrors", "(Z)V"⟩
def mY81 : MethodName := ⟨"MirrorRoots$Telling", "tellPair", "()V"⟩
def mY82 : MethodName := ⟨"MirrorRoots$Telling", "setPair", "(III)V"⟩
def mY83 : MethodName := ⟨"MirrorRoots$Telling", "takeTurns", "()I"⟩
def mY84 : MethodName := ⟨"MirrorRoots$Telling", "takeFigure", "()I"⟩
def mY85 : MethodName := ⟨"MirrorRoots$Telling", "takeEnd", "()V"⟩
def mY86 : MethodName := ⟨"MirrorRoots$Telling", "takeWord", "(Ljava/lang/String;)Z"⟩
def mY87 : MethodName := ⟨"MirrorRoots$Telling", "findNext", "()Z"⟩
def mY88 : MethodName := ⟨"MirrorRoots$Telling", "isLetter", "(I)Z"⟩
def mY89 : MethodName := ⟨"MirrorRoots$Telling", "blame", "(II)V"⟩
def mY90 : MethodName := ⟨"MirrorRoots$Words", "<init>", "(LMirrorRoots$Mirrors;LMirrorRoots$Kept;)V"⟩
def mY91 : MethodName := ⟨"MirrorRoots$Words", "keepProduct", "(II)I"⟩
def mY92 : MethodName := ⟨"MirrorRoots$Words", "keepBack", "(I)I"⟩
def mY93 : MethodName := ⟨"MirrorRoots$Words", "keepLeast", "(II)I"⟩
def mY94 : MethodName := ⟨"MirrorRoots$Words", "keepRest", "(II)I"⟩
def mY95 : MethodName := ⟨"MirrorRoots$Words", "shortestBetween", "(III)I"⟩
def mY96 : MethodName := ⟨"MirrorRoots$Words", "standsBelow", "(II)Z"⟩
def mY97 : MethodName := ⟨"MirrorRoots$Words", "countCovers", "(I)I"⟩
def mY98 : MethodName := ⟨"MirrorRoots$Words", "staysShortest", "(II)Z"⟩
def mY99 : MethodName := ⟨"MirrorRoots$Words", "takeDown", "(I)I"⟩
def mY100 : MethodName := ⟨"MirrorRoots$Words", "turnOver", "()I"⟩
def mY101 : MethodName := ⟨"MirrorRoots$Words", "keepOfRight", "()I"⟩
def mY102 : MethodName := ⟨"MirrorRoots$Words", "keepTaken", "(I)I"⟩
def mY103 : MethodName := ⟨"MirrorRoots", "<init>", "()V"⟩
def mY104 : MethodName := ⟨"MirrorRoots", "feed", "(IJ)I"⟩
def mY105 : MethodName := ⟨"MirrorRoots", "read", "()I"⟩
def mY106 : MethodName := ⟨"MirrorRoots", "forgetCounted", "()V"⟩
def mY107 : MethodName := ⟨"MirrorRoots", "fault", "()I"⟩
def mY108 : MethodName := ⟨"MirrorRoots", "turns", "(II)I"⟩
def mY109 : MethodName := ⟨"MirrorRoots", "number", "(II)I"⟩
def mY110 : MethodName := ⟨"MirrorRoots", "count", "(I)I"⟩
def mY111 : MethodName := ⟨"MirrorRoots", "letter", "(I)I"⟩
def mY112 : MethodName := ⟨"MirrorRoots", "keep", "()I"⟩
def mY113 : MethodName := ⟨"MirrorRoots", "length", "(I)I"⟩
def mY114 : MethodName := ⟨"MirrorRoots", "at", "(II)I"⟩
def mY115 : MethodName := ⟨"MirrorRoots", "down", "(II)I"⟩
def mY116 : MethodName := ⟨"MirrorRoots", "root", "(III)J"⟩
def mY117 : MethodName := ⟨"MirrorRoots", "times", "(II)I"⟩
def mY118 : MethodName := ⟨"MirrorRoots", "back", "(I)I"⟩
def mY119 : MethodName := ⟨"MirrorRoots", "below", "(II)I"⟩
def mY120 : MethodName := ⟨"MirrorRoots", "covers", "(I)I"⟩
def mY121 : MethodName := ⟨"MirrorRoots", "words", "(I)J"⟩
def mY122 : MethodName := ⟨"MirrorRoots", "exchange", "(II)I"⟩
def mY123 : MethodName := ⟨"MirrorRoots", "inversion", "(III)J"⟩
def mY124 : MethodName := ⟨"MirrorRoots", "coset", "(III)I"⟩
def mY125 : MethodName := ⟨"MirrorRoots", "both", "(III)I"⟩
def mY126 : MethodName := ⟨"MirrorRoots", "growth", "(I)I"⟩
def mY127 : MethodName := ⟨"MirrorRoots", "whole", "(I)I"⟩
def mY128 : MethodName := ⟨"MirrorRoots", "needLayers", "()LMirrorRoots$Layers;"⟩
def mY129 : MethodName := ⟨"MirrorRoots", "order", "(I)I"⟩
def mY130 : MethodName := ⟨"MirrorRoots", "shifts", "(II)I"⟩
def mY131 : MethodName := ⟨"MirrorRoots", "\x72", "(III)I"⟩
def mY132 : MethodName := ⟨"MirrorRoots", "p", "(III)I"⟩
def mY133 : MethodName := ⟨"MirrorRoots", "leans", "(II)I"⟩
def mY134 : MethodName := ⟨"MirrorRoots", "rough", "(I)I"⟩
def mY135 : MethodName := ⟨"MirrorRoots", "needIdeal", "()LMirrorRoots$Ideal;"⟩
def mY136 : MethodName := ⟨"MirrorRootsModel", "<init>", "()V"⟩
def mY137 : MethodName := ⟨"MirrorRootsModel", "in", "(JJJ)Z"⟩
def mY138 : MethodName := ⟨"MirrorRootsModel", "take", "(I)V"⟩
def mY139 : MethodName := ⟨"MirrorRootsModel", "feed", "(IJ)I"⟩
def mY140 : MethodName := ⟨"MirrorRootsModel", "here", "()I"⟩
def mY141 : MethodName := ⟨"MirrorRootsModel", "fails", "(II)I"⟩
def mY142 : MethodName := ⟨"MirrorRootsModel", "readWord", "()V"⟩
def mY143 : MethodName := ⟨"MirrorRootsModel", "code", "(JIIII)J"⟩
def mY144 : MethodName := ⟨"MirrorRootsModel", "readFigure", "(II)I"⟩
def mY145 : MethodName := ⟨"MirrorRootsModel", "readTurns", "(I)I"⟩
def mY146 : MethodName := ⟨"MirrorRootsModel", "readPair", "(I)I"⟩
def mY147 : MethodName := ⟨"MirrorRootsModel", "readClause", "(Z)I"⟩
def mY148 : MethodName := ⟨"MirrorRootsModel", "read", "()I"⟩
def mY149 : MethodName := ⟨"MirrorRootsModel", "fault", "()I"⟩
def mY150 : MethodName := ⟨"MirrorRootsModel", "isMirror", "(I)Z"⟩
def mY151 : MethodName := ⟨"MirrorRootsModel", "turns", "(II)I"⟩
def mY152 : MethodName := ⟨"MirrorRootsModel", "number", "(II)I"⟩
def mY153 : MethodName := ⟨"MirrorRootsModel", "count", "(I)I"⟩
def mY154 : MethodName := ⟨"MirrorRootsModel", "begin", "()V"⟩
def mY155 : MethodName := ⟨"MirrorRootsModel", "follow", "([JIII[I)V"⟩
def mY156 : MethodName := ⟨"MirrorRootsModel", "then", "(I)V"⟩
def mY157 : MethodName := ⟨"MirrorRootsModel", "isDown", "([JII)Z"⟩
def mY158 : MethodName := ⟨"MirrorRootsModel", "leastDown", "()I"⟩
def mY159 : MethodName := ⟨"MirrorRootsModel", "shorten", "()V"⟩
def mY160 : MethodName := ⟨"MirrorRootsModel", "isElement", "(I)Z"⟩
def mY161 : MethodName := ⟨"MirrorRootsModel", "letter", "(I)I"⟩
def mY162 : MethodName := ⟨"MirrorRootsModel", "isRow", "(I)Z"⟩
def mY163 : MethodName := ⟨"MirrorRootsModel", "keepRow", "()I"⟩
def mY164 : MethodName := ⟨"MirrorRootsModel", "put", "(I)V"⟩
def mY165 : MethodName := ⟨"MirrorRootsModel", "putAll", "(I)V"⟩
def mY166 : MethodName := ⟨"MirrorRootsModel", "keep", "()I"⟩
def mY167 : MethodName := ⟨"MirrorRootsModel", "length", "(I)I"⟩
def mY168 : MethodName := ⟨"MirrorRootsModel", "at", "(II)I"⟩
def mY169 : MethodName := ⟨"MirrorRootsModel", "square", "(IZ)V"⟩
def mY170 : MethodName := ⟨"MirrorRootsModel", "down", "(II)I"⟩
def mY171 : MethodName := ⟨"MirrorRootsModel", "root", "(III)J"⟩
def mY172 : MethodName := ⟨"MirrorRootsModel", "times", "(II)I"⟩
def mY173 : MethodName := ⟨"MirrorRootsModel", "back", "(I)I"⟩
def mY174 : MethodName := ⟨"MirrorRootsModel", "isOne", "()Z"⟩
def mY175 : MethodName := ⟨"MirrorRootsModel", "below", "(II)I"⟩
def mY176 : MethodName := ⟨"MirrorRootsModel", "isSame", "([JI[JI)Z"⟩
def mY177 : MethodName := ⟨"MirrorRootsModel", "copy", "([JI[JI)V"⟩
def mY178 : MethodName := ⟨"MirrorRootsModel", "putSquare", "([JI)I"⟩
def mY179 : MethodName := ⟨"MirrorRootsModel", "covers", "(I)I"⟩
def mY180 : MethodName := ⟨"MirrorRootsModel", "words", "(I)J"⟩
def mY181 : MethodName := ⟨"MirrorRootsModel", "exchange", "(II)I"⟩
def mY182 : MethodName := ⟨"MirrorRootsModel", "turnLine", "(I)V"⟩
def mY183 : MethodName := ⟨"MirrorRootsModel", "inversion", "(III)J"⟩
def mY184 : MethodName := ⟨"MirrorRootsModel", "isSet", "(I)Z"⟩
def mY185 : MethodName := ⟨"MirrorRootsModel", "downOf", "(I)I"⟩
def mY186 : MethodName := ⟨"MirrorRootsModel", "coset", "(III)I"⟩
def mY187 : MethodName := ⟨"MirrorRootsModel", "reduce", "(I)V"⟩
def mY188 : MethodName := ⟨"MirrorRootsModel", "reverse", "()V"⟩
def mY189 : MethodName := ⟨"MirrorRootsModel", "both", "(III)I"⟩
def mY190 : MethodName := ⟨"MirrorRootsModel", "grow", "(I)I"⟩
def mY191 : MethodName := ⟨"MirrorRootsModel", "startLevels", "()V"⟩
def mY192 : MethodName := ⟨"MirrorRootsModel", "growth", "(I)I"⟩
def mY193 : MethodName := ⟨"MirrorRootsModel", "whole", "(I)I"⟩
def mY194 : MethodName := ⟨"MirrorRootsModel", "order", "(I)I"⟩
def mY195 : MethodName := ⟨"MirrorRootsModel", "isShift", "(I)Z"⟩
def mY196 : MethodName := ⟨"MirrorRootsModel", "putShift", "(I)V"⟩
def mY197 : MethodName := ⟨"MirrorRootsModel", "shifts", "(II)I"⟩
def mY198 : MethodName := ⟨"MirrorRootsModel", "findBelow", "(I)V"⟩
def mY199 : MethodName := ⟨"MirrorRootsModel", "find", "()I"⟩
def mY200 : MethodName := ⟨"MirrorRootsModel", "old", "(II)I"⟩
def mY201 : MethodName := ⟨"MirrorRootsModel", "findR", "(I)V"⟩
def mY202 : MethodName := ⟨"MirrorRootsModel", "bring", "(II)V"⟩
def mY203 : MethodName := ⟨"MirrorRootsModel", "findP", "(I)V"⟩
def mY204 : MethodName := ⟨"MirrorRootsModel", "placeOf", "(I)I"⟩
def mY205 : MethodName := ⟨"MirrorRootsModel", "\x72", "(III)I"⟩
def mY206 : MethodName := ⟨"MirrorRootsModel", "p", "(III)I"⟩
def mY207 : MethodName := ⟨"MirrorRootsModel", "leans", "(II)I"⟩
def mY208 : MethodName := ⟨"MirrorRootsModel", "rough", "(I)I"⟩
def mtb : List mM := [
  (mY0, prog_2_method_1_code, 3, none, 0, 1001, 144, 2),
  (mY1, prog_2_method_2_code, 1, none, 0, 508, 144, 0),
  (mY2, prog_2_method_3_code, 4, some .int, 0, 1085, 144, 2),
  (mY3, prog_2_method_4_code, 3, some .int, 0, 1097, 144, 0),
  (mY4, prog_2_method_5_code, 3, some .int, 0, 1077, 144, 2),
  (mY5, prog_2_method_6_code, 2, some (.object "MirrorRoots$Ideal"), 0, 1037, 144, 1),
  (mY6, prog_2_method_7_code, 6, none, 0, 1041, 144, 1),
  (mY7, prog_2_method_8_code, 5, none, 0, 1053, 144, 2),
  (mY8, prog_2_method_9_code, 3, none, 0, 1048, 144, 1),
  (mY9, prog_2_method_10_code, 5, some .int, 0, 1066, 144, 2),
  (mY10, prog_2_method_11_code, 7, none, 0, 1060, 144, 3),
  (mY11, prog_2_method_12_code, 10, none, 0, 1070, 144, 3),
  (mY12, prog_2_method_13_code, 4, some .int, 0, 1074, 144, 2),
  (mY13, prog_2_method_14_code, 6, none, 0, 1081, 144, 3),
  (mY14, prog_3_method_1_code, 2, none, 1, 228, 131, 1),
  (mY15, prog_3_method_2_code, 1, none, 1, 233, 131, 0),
  (mY16, prog_3_method_3_code, 2, some .boolean, 1, 581, 131, 1),
  (mY17, prog_3_method_4_code, 3, some .int, 1, 573, 131, 2),
  (mY18, prog_3_method_5_code, 4, some .int, 1, 541, 131, 2),
  (mY19, prog_3_method_6_code, 3, none, 1, 553, 131, 0),
  (mY20, prog_3_method_7_code, 6, some .int, 1, 561, 131, 3),
  (mY21, prog_4_method_1_code, 3, none, 2, 682, 140, 2),
  (mY22, prog_4_method_2_code, 1, none, 2, 498, 140, 0),
  (mY23, prog_4_method_3_code, 2, some .int, 2, 845, 140, 1),
  (mY24, prog_4_method_4_code, 1, some .int, 2, 865, 140, 0),
  (mY25, prog_4_method_5_code, 2, some .int, 2, 873, 140, 0),
  (mY26, prog_4_method_6_code, 1, some .boolean, 2, 869, 140, 0),
  (mY27, prog_4_method_7_code, 3, none, 2, 849, 140, 1),
  (mY28, prog_4_method_8_code, 4, none, 2, 855, 140, 1),
  (mY29, prog_4_method_9_code, 4, some .long, 2, 752, 140, 1),
  (mY30, prog_4_method_10_code, 5, none, 2, 788, 140, 2),
  (mY31, prog_5_method_1_code, 3, none, 3, 157, 129, 0),
  (mY32, prog_5_method_2_code, 2, some .int, 3, 161, 129, 2),
  (mY33, prog_5_method_3_code, 5, none, 3, 488, 129, 2),
  (mY34, prog_5_method_4_code, 4, none, 3, 165, 129, 3),
  (mY35, prog_5_method_5_code, 2, some .int, 3, 168, 129, 2),
  (mY36, prog_5_method_6_code, 2, some .boolean, 3, 521, 129, 1),
  (mY37, prog_5_method_7_code, 2, some .boolean, 3, 813, 129, 1),
  (mY38, prog_5_method_8_code, 5, none, 3, 608, 129, 3),
  (mY39, prog_5_method_9_code, 7, none, 3, 617, 129, 3),
  (mY40, prog_5_method_10_code, 4, none, 3, 237, 129, 2),
  (mY41, prog_5_method_11_code, 7, none, 3, 545, 129, 3),
  (mY42, prog_5_method_12_code, 6, none, 3, 557, 129, 4),
  (mY43, prog_5_method_13_code, 6, some .boolean, 3, 549, 129, 4),
  (mY44, prog_5_method_14_code, 5, some .int, 3, 594, 129, 2),
  (mY45, prog_5_method_15_code, 5, some .int, 3, 569, 129, 3),
  (mY46, prog_5_method_16_code, 1, some .int, 3, 565, 129, 0),
  (mY47, prog_6_method_1_code, 3, none, 4, 325, 134, 2),
  (mY48, prog_6_method_2_code, 7, some .int, 4, 980, 134, 3),
  (mY49, prog_6_method_3_code, 8, none, 4, 984, 134, 5),
  (mY50, prog_6_method_4_code, 4, some .int, 4, 989, 134, 2),
  (mY51, prog_7_method_1_code, 3, none, 5, 306, 133, 2),
  (mY52, prog_7_method_2_code, 5, none, 5, 612, 133, 3),
  (mY53, prog_7_method_3_code, 4, some .long, 5, 604, 133, 3),
  (mY54, prog_7_method_4_code, 6, some .long, 5, 805, 133, 3),
  (mY55, prog_7_method_5_code, 5, some .int, 5, 797, 133, 2),
  (mY56, prog_7_method_6_code, 4, some .int, 5, 881, 133, 1),
  (mY57, prog_7_method_7_code, 2, some .boolean, 5, 885, 133, 0),
  (mY58, prog_7_method_8_code, 5, some .boolean, 5, 890, 133, 0),
  (mY59, prog_8_method_1_code, 3, none, 6, 688, 141, 2),
  (mY60, prog_8_method_2_code, 1, none, 6, 756, 141, 0),
  (mY61, prog_8_method_3_code, 3, some .boolean, 6, 784, 141, 2),
  (mY62, prog_8_method_4_code, 4, some .int, 6, 761, 141, 2),
  (mY63, prog_8_method_5_code, 3, some .int, 6, 965, 141, 1),
  (mY64, prog_8_method_6_code, 3, some .boolean, 6, 779, 141, 2),
  (mY65, prog_8_method_7_code, 3, some .boolean, 6, 774, 141, 1),
  (mY66, prog_8_method_8_code, 4, some .int, 6, 765, 141, 1),
  (mY67, prog_8_method_9_code, 5, some .int, 6, 769, 141, 1),
  (mY68, prog_9_method_1_code, 3, none, 7, 900, 142, 2),
  (mY69, prog_9_method_2_code, 1, none, 7, 503, 142, 0),
  (mY70, prog_9_method_3_code, 3, some .int, 7, 938, 142, 2),
  (mY71, prog_9_method_4_code, 2, none, 7, 969, 142, 0),
  (mY72, prog_9_method_5_code, 4, some .boolean, 7, 942, 142, 1),
  (mY73, prog_9_method_6_code, 5, some .boolean, 7, 952, 142, 2),
  (mY74, prog_9_method_7_code, 9, some .int, 7, 956, 142, 2),
  (mY75, prog_9_method_8_code, 11, none, 7, 961, 142, 3),
  (mY76, prog_10_method_1_code, 1, none, 8, 192, 130, 0),
  (mY77, prog_10_method_2_code, 5, some .int, 8, 381, 130, 2),
  (mY78, prog_10_method_3_code, 2, some .int, 8, 390, 130, 0),
  (mY79, prog_10_method_4_code, 2, none, 8, 394, 130, 0),
  (mY80, prog_10_method_5_code, 5, none, 8, 406, 130, 1),
  (mY81, prog_10_method_6_code, 5, none, 8, 475, 130, 0),
  (mY82, prog_10_method_7_code, 4, none, 8, 484, 130, 3),
  (mY83, prog_10_method_8_code, 2, some .int, 8, 479, 130, 0),
  (mY84, prog_10_method_9_code, 1, some .int, 8, 467, 130, 0),
  (mY85, prog_10_method_10_code, 1, none, 8, 471, 130, 0),
  (mY86, prog_10_method_11_code, 5, some .boolean, 8, 411, 130, 1),
  (mY87, prog_10_method_12_code, 1, some .boolean, 8, 398, 130, 0),
  (mY88, prog_10_method_13_code, 2, some .boolean, 8, 402, 130, 1),
  (mY89, prog_10_method_14_code, 3, none, 8, 463, 130, 2),
  (mY90, prog_11_method_1_code, 3, none, 9, 281, 132, 2),
  (mY91, prog_11_method_2_code, 6, some .int, 9, 625, 132, 2),
  (mY92, prog_11_method_3_code, 3, some .int, 9, 646, 132, 1),
  (mY93, prog_11_method_4_code, 3, some .int, 9, 817, 132, 2),
  (mY94, prog_11_method_5_code, 3, some .int, 9, 825, 132, 2),
  (mY95, prog_11_method_6_code, 5, some .int, 9, 833, 132, 3),
  (mY96, prog_11_method_7_code, 5, some .boolean, 9, 654, 132, 2),
  (mY97, prog_11_method_8_code, 4, some .int, 9, 664, 132, 1),
  (mY98, prog_11_method_9_code, 5, some .boolean, 9, 669, 132, 2),
  (mY99, prog_11_method_10_code, 4, some .int, 9, 821, 132, 1),
  (mY100, prog_11_method_11_code, 3, some .int, 9, 837, 132, 0),
  (mY101, prog_11_method_12_code, 1, some .int, 9, 632, 132, 0),
  (mY102, prog_11_method_13_code, 3, some .int, 9, 637, 132, 1),
  (mY103, prog_1_method_1_code, 1, none, 10, 149, 128, 0),
  (mY104, prog_1_method_2_code, 4, some .int, 10, 377, 128, 2),
  (mY105, prog_1_method_3_code, 2, some .int, 10, 386, 128, 0),
  (mY106, prog_1_method_4_code, 1, none, 10, 493, 128, 0),
  (mY107, prog_1_method_5_code, 1, some .int, 10, 513, 128, 0),
  (mY108, prog_1_method_6_code, 3, some .int, 10, 517, 128, 2),
  (mY109, prog_1_method_7_code, 3, some .int, 10, 525, 128, 2),
  (mY110, prog_1_method_8_code, 2, some .int, 10, 529, 128, 1),
  (mY111, prog_1_method_9_code, 2, some .int, 10, 533, 128, 1),
  (mY112, prog_1_method_10_code, 2, some .int, 10, 537, 128, 0),
  (mY113, prog_1_method_11_code, 2, some .int, 10, 577, 128, 1),
  (mY114, prog_1_method_12_code, 3, some .int, 10, 585, 128, 2),
  (mY115, prog_1_method_13_code, 3, some .int, 10, 590, 128, 2),
  (mY116, prog_1_method_14_code, 4, some .long, 10, 598, 128, 3),
  (mY117, prog_1_method_15_code, 3, some .int, 10, 621, 128, 2),
  (mY118, prog_1_method_16_code, 2, some .int, 10, 642, 128, 1),
  (mY119, prog_1_method_17_code, 3, some .int, 10, 650, 128, 2),
  (mY120, prog_1_method_18_code, 2, some .int, 10, 660, 128, 1),
  (mY121, prog_1_method_19_code, 2, some .long, 10, 673, 128, 1),
  (mY122, prog_1_method_20_code, 3, some .int, 10, 793, 128, 2),
  (mY123, prog_1_method_21_code, 4, some .long, 10, 801, 128, 3),
  (mY124, prog_1_method_22_code, 4, some .int, 10, 809, 128, 3),
  (mY125, prog_1_method_23_code, 4, some .int, 10, 829, 128, 3),
  (mY126, prog_1_method_24_code, 2, some .int, 10, 841, 128, 1),
  (mY127, prog_1_method_25_code, 2, some .int, 10, 861, 128, 1),
  (mY128, prog_1_method_26_code, 1, some (.object "MirrorRoots$Layers"), 10, 678, 128, 0),
  (mY129, prog_1_method_27_code, 2, some .int, 10, 877, 128, 1),
  (mY130, prog_1_method_28_code, 3, some .int, 10, 896, 128, 2),
  (mY131, prog_1_method_29_code, 4, some .int, 10, 976, 128, 3),
  (mY132, prog_1_method_30_code, 4, some .int, 10, 993, 128, 3),
  (mY133, prog_1_method_31_code, 4, some .int, 10, 1089, 128, 2),
  (mY134, prog_1_method_32_code, 2, some .int, 10, 1093, 128, 1),
  (mY135, prog_1_method_33_code, 1, some (.object "MirrorRoots$Ideal"), 10, 997, 128, 0),
  (mY136, prog_13_method_1_code, 2, none, 11, 1102, 135, 0),
  (mY137, prog_13_method_3_code, 6, some .boolean, 11, 1240, 135, 3),
  (mY138, prog_13_method_4_code, 7, none, 11, 1108, 135, 1),
  (mY139, prog_13_method_5_code, 5, some .int, 11, 1236, 135, 2),
  (mY140, prog_13_method_6_code, 1, some .int, 11, 1249, 135, 0),
  (mY141, prog_13_method_7_code, 3, some .int, 11, 1270, 135, 2),
  (mY142, prog_13_method_8_code, 2, none, 11, 1259, 135, 0),
  (mY143, prog_13_method_9_code, 8, some .long, 11, 1266, 135, 5),
  (mY144, prog_13_method_10_code, 4, some .int, 11, 1274, 135, 2),
  (mY145, prog_13_method_11_code, 3, some .int, 11, 1284, 135, 1),
  (mY146, prog_13_method_12_code, 7, some .int, 11, 1280, 135, 1),
  (mY147, prog_13_method_13_code, 4, some .int, 11, 1253, 135, 1),
  (mY148, prog_13_method_14_code, 3, some .int, 11, 1245, 135, 0),
  (mY149, prog_13_method_15_code, 1, some .int, 11, 1288, 135, 0),
  (mY150, prog_13_method_16_code, 2, some .boolean, 11, 1296, 135, 1),
  (mY151, prog_13_method_17_code, 3, some .int, 11, 1292, 135, 2),
  (mY152, prog_13_method_18_code, 3, some .int, 11, 1300, 135, 2),
  (mY153, prog_13_method_19_code, 2, some .int, 11, 1304, 135, 1),
  (mY154, prog_13_method_20_code, 2, none, 11, 1328, 135, 0),
  (mY155, prog_13_method_21_code, 7, none, 11, 1335, 135, 5),
  (mY156, prog_13_method_22_code, 2, none, 11, 1332, 135, 1),
  (mY157, prog_13_method_23_code, 5, some .boolean, 11, 1342, 135, 3),
  (mY158, prog_13_method_24_code, 2, some .int, 11, 1339, 135, 0),
  (mY159, prog_13_method_25_code, 2, none, 11, 1324, 135, 0),
  (mY160, prog_13_method_26_code, 2, some .boolean, 11, 1354, 135, 1),
  (mY161, prog_13_method_27_code, 2, some .int, 11, 1308, 135, 1),
  (mY162, prog_13_method_28_code, 4, some .boolean, 11, 1346, 135, 1),
  (mY163, prog_13_method_29_code, 2, some .int, 11, 1320, 135, 0),
  (mY164, prog_13_method_30_code, 2, none, 11, 1316, 135, 1),
  (mY165, prog_13_method_31_code, 3, none, 11, 1380, 135, 1),
  (mY166, prog_13_method_32_code, 2, some .int, 11, 1312, 135, 0),
  (mY167, prog_13_method_33_code, 2, some .int, 11, 1350, 135, 1),
  (mY168, prog_13_method_34_code, 3, some .int, 11, 1358, 135, 2),
  (mY169, prog_13_method_35_code, 4, none, 11, 1366, 135, 2),
  (mY170, prog_13_method_36_code, 5, some .int, 11, 1362, 135, 2),
  (mY171, prog_13_method_37_code, 4, some .long, 11, 1370, 135, 3),
  (mY172, prog_13_method_38_code, 6, some .int, 11, 1376, 135, 2),
  (mY173, prog_13_method_39_code, 3, some .int, 11, 1384, 135, 1),
  (mY174, prog_13_method_40_code, 3, some .boolean, 11, 1392, 135, 0),
  (mY175, prog_13_method_41_code, 5, some .int, 11, 1388, 135, 2),
  (mY176, prog_13_method_42_code, 6, some .boolean, 11, 1403, 135, 4),
  (mY177, prog_13_method_43_code, 5, none, 11, 1406, 135, 4),
  (mY178, prog_13_method_44_code, 4, some .int, 11, 1400, 135, 2),
  (mY179, prog_13_method_45_code, 7, some .int, 11, 1396, 135, 1),
  (mY180, prog_13_method_46_code, 8, some .long, 11, 1410, 135, 1),
  (mY181, prog_13_method_47_code, 6, some .int, 11, 1415, 135, 2),
  (mY182, prog_13_method_48_code, 5, none, 11, 1423, 135, 1),
  (mY183, prog_13_method_49_code, 6, some .long, 11, 1419, 135, 3),
  (mY184, prog_13_method_50_code, 2, some .boolean, 11, 1431, 135, 1),
  (mY185, prog_13_method_51_code, 3, some .int, 11, 1435, 135, 1),
  (mY186, prog_13_method_52_code, 7, some .int, 11, 1427, 135, 3),
  (mY187, prog_13_method_53_code, 3, none, 11, 1443, 135, 1),
  (mY188, prog_13_method_54_code, 3, none, 11, 1447, 135, 0),
  (mY189, prog_13_method_55_code, 5, some .int, 11, 1439, 135, 3),
  (mY190, prog_13_method_56_code, 5, some .int, 11, 1460, 135, 1),
  (mY191, prog_13_method_57_code, 1, none, 11, 1456, 135, 0),
  (mY192, prog_13_method_58_code, 4, some .int, 11, 1451, 135, 1),
  (mY193, prog_13_method_59_code, 4, some .int, 11, 1464, 135, 1),
  (mY194, prog_13_method_60_code, 4, some .int, 11, 1468, 135, 1),
  (mY195, prog_13_method_61_code, 5, some .boolean, 11, 1483, 135, 1),
  (mY196, prog_13_method_62_code, 3, none, 11, 1479, 135, 1),
  (mY197, prog_13_method_63_code, 7, some .int, 11, 1474, 135, 2),
  (mY198, prog_13_method_64_code, 8, none, 11, 1491, 135, 1),
  (mY199, prog_13_method_65_code, 2, some .int, 11, 1495, 135, 0),
  (mY200, prog_13_method_66_code, 3, some .int, 11, 1507, 135, 2),
  (mY201, prog_13_method_67_code, 9, none, 11, 1503, 135, 1),
  (mY202, prog_13_method_68_code, 5, none, 11, 1519, 135, 2),
  (mY203, prog_13_method_69_code, 6, none, 11, 1515, 135, 1),
  (mY204, prog_13_method_70_code, 2, some .int, 11, 1499, 135, 1),
  (mY205, prog_13_method_71_code, 6, some .int, 11, 1487, 135, 3),
  (mY206, prog_13_method_72_code, 5, some .int, 11, 1511, 135, 3),
  (mY207, prog_13_method_73_code, 5, some .int, 11, 1523, 135, 2),
  (mY208, prog_13_method_74_code, 6, some .int, 11, 1527, 135, 1)]
def cd0 : List (Nat × (Instr × Nat)) := [(0, (.aload_n 0, 1)), (1, (.invokespecial 5, 3)), (4, (.aload_n 0, 1)), (5, (.iconst 5, 1)), (6, (.newarray .long, 2)), (8, (.putfield 11, 3)), (11, (.aload_n 0, 1)), (12, (.sipush 1280, 3)), (15, (.newarray .int, 2)), (17, (.putfield 15, 3)), (20, (.aload_n 0, 1)), (21, (.ldc 19, 2)), (23, (.newarray .long, 2)), (25, (.putfield 20, 3)), (28, (.aload_n 0, 1)), (29, (.sipush 256, 3)), (32, (.newarray .boolean, 2)), (34, (.putfield 23, 3)), (37, (.aload_n 0, 1)), (38, (.iconst (-1), 1)), (39, (.putfield 27, 3)), (42, (.aload_n 0, 1)), (43, (.aload_n 1, 1)), (44, (.putfield 31, 3)), (47, (.aload_n 0, 1)), (48, (.aload_n 2, 1)), (49, (.putfield 35, 3)), (52, (.aload_n 0, 1)), (53, (.new 39, 3)), (56, (.dup, 1)), (57, (.aload_n 1, 1)), (58, (.sipush 256, 3)), (61, (.invokespecial 41, 3)), (64, (.putfield 44, 3)), (67, (.return_, 1))]
def cd1 : List (Nat × (Instr × Nat)) := [(0, (.aload_n 0, 1)), (1, (.iconst (-1), 1)), (2, (.putfield 27, 3)), (5, (.return_, 1))]
def cd2 : List (Nat × (Instr × Nat)) := [(0, (.aload_n 0, 1)), (1, (.getfield 31, 3)), (4, (.aload_n 0, 1)), (5, (.getfield 35, 3)), (8, (.getfield 48, 3)), (11, (.iload_n 1, 1)), (12, (.iconst 5, 1)), (13, (.imul, 1)), (14, (.aload_n 0, 1)), (15, (.getfield 11, 3)), (18, (.iconst 0, 1)), (19, (.invokevirtual 53, 3)), (22, (.aload_n 0, 1)), (23, (.getfield 44, 3)), (26, (.aload_n 0, 1)), (27, (.getfield 11, 3)), (30, (.invokevirtual 59, 3)), (33, (.istore_n 3, 1)), (34, (.iload_n 3, 1)), (35, (.iconst (-1), 1)), (36, (.if_icmp .eq 11, 3)), (39, (.aload_n 0, 1)), (40, (.getfield 63, 3)), (43, (.iconst (-1), 1)), (44, (.if_icmp .ne 7, 3)), (47, (.iconst 0, 1)), (48, (.goto 22, 3)), (51, (.aload_n 0, 1)), (52, (.getfield 20, 3)), (55, (.aload_n 0, 1)), (56, (.getfield 63, 3)), (59, (.sipush 256, 3)), (62, (.imul, 1)), (63, (.iload_n 3, 1)), (64, (.iadd, 1)), (65, (.laload, 1)), (66, (.iload_n 2, 1)), (67, (.invokestatic 66, 3)), (70, (.ireturn, 1))]
def cd3 : List (Nat × (Instr × Nat)) := [(0, (.aload_n 0, 1)), (1, (.getfield 63, 3)), (4, (.iconst (-1), 1)), (5, (.if_icmp .ne 5, 3)), (8, (.iconst 0, 1)), (9, (.ireturn, 1)), (10, (.iconst 0, 1)), (11, (.istore_n 1, 1)), (12, (.iconst 0, 1)), (13, (.istore_n 2, 1)), (14, (.iload_n 2, 1)), (15, (.aload_n 0, 1)), (16, (.getfield 44, 3)), (19, (.getfield 70, 3)), (22, (.if_icmp .ge 32, 3)), (25, (.aload_n 0, 1)), (26, (.getfield 20, 3)), (29, (.aload_n 0, 1)), (30, (.getfield 63, 3)), (33, (.sipush 256, 3)), (36, (.imul, 1)), (37, (.iload_n 2, 1)), (38, (.iadd, 1)), (39, (.laload, 1)), (40, (.lconst 1, 1)), (41, (.lcmp, 1)), (42, (.ifCond .eq 6, 3)), (45, (.iinc 1 1, 3)), (48, (.iinc 2 1, 3)), (51, (.goto (-37), 3)), (54, (.iload_n 1, 1)), (55, (.ireturn, 1))]
def cd4 : List (Nat × (Instr × Nat)) := [(0, (.iload_n 2, 1)), (1, (.ifCond .lt 8, 3)), (4, (.iload_n 2, 1)), (5, (.iconst 4, 1)), (6, (.if_icmp .le 7, 3)), (9, (.iconst 0, 1)), (10, (.goto 14, 3)), (13, (.lload_n 0, 1)), (14, (.bipush 12, 2)), (16, (.iload_n 2, 1)), (17, (.imul, 1)), (18, (.lshr, 1)), (19, (.l2i, 1)), (20, (.sipush 4095, 3)), (23, (.iand, 1)), (24, (.ireturn, 1))]
def cd5 : List (Nat × (Instr × Nat)) := [(0, (.aload_n 0, 1)), (1, (.getfield 27, 3)), (4, (.iload_n 1, 1)), (5, (.if_icmp .ne 5, 3)), (8, (.aload_n 0, 1)), (9, (.areturn, 1)), (10, (.aload_n 0, 1)), (11, (.iload_n 1, 1)), (12, (.invokevirtual 73, 3)), (15, (.aload_n 0, 1)), (16, (.getfield 31, 3)), (19, (.aload_n 0, 1)), (20, (.getfield 35, 3)), (23, (.getfield 48, 3)), (26, (.iload_n 1, 1)), (27, (.iconst 5, 1)), (28, (.imul, 1)), (29, (.aload_n 0, 1)), (30, (.getfield 11, 3)), (33, (.iconst 0, 1)), (34, (.invokevirtual 53, 3)), (37, (.aload_n 0, 1)), (38, (.aload_n 0, 1)), (39, (.getfield 44, 3)), (42, (.aload_n 0, 1)), (43, (.getfield 11, 3)), (46, (.invokevirtual 59, 3)), (49, (.putfield 63, 3)), (52, (.aload_n 0, 1)), (53, (.getfield 63, 3)), (56, (.iconst (-1), 1)), (57, (.if_icmp .eq 13, 3)), (60, (.aload_n 0, 1)), (61, (.aload_n 0, 1)), (62, (.getfield 63, 3)), (65, (.bipush 8, 2)), (67, (.invokestatic 77, 3)), (70, (.aload_n 0, 1)), (71, (.iload_n 1, 1)), (72, (.putfield 27, 3)), (75, (.aload_n 0, 1)), (76, (.areturn, 1))]
def cd6 : List (Nat × (Instr × Nat)) := [(0, (.aload_n 0, 1)), (1, (.getfield 44, 3)), (4, (.invokevirtual 81, 3)), (7, (.aload_n 0, 1)), (8, (.getfield 31, 3)), (11, (.aload_n 0, 1)), (12, (.getfield 11, 3)), (15, (.iconst 0, 1)), (16, (.invokevirtual 84, 3)), (19, (.aload_n 0, 1)), (20, (.getfield 44, 3)), (23, (.aload_n 0, 1)), (24, (.getfield 11, 3)), (27, (.iconst 0, 1)), (28, (.invokevirtual 88, 3)), (31, (.pop, 1)), (32, (.aload_n 0, 1)), (33, (.iconst 0, 1)), (34, (.invokevirtual 92, 3)), (37, (.iconst 0, 1)), (38, (.istore_n 2, 1)), (39, (.iload_n 2, 1)), (40, (.aload_n 0, 1)), (41, (.getfield 35, 3)), (44, (.getfield 95, 3)), (47, (.iload_n 1, 1)), (48, (.iaload, 1)), (49, (.if_icmp .ge 51, 3)), (52, (.aload_n 0, 1)), (53, (.getfield 35, 3)), (56, (.iload_n 1, 1)), (57, (.iload_n 2, 1)), (58, (.invokevirtual 98, 3)), (61, (.istore_n 3, 1)), (62, (.aload_n 0, 1)), (63, (.getfield 44, 3)), (66, (.getfield 70, 3)), (69, (.istore 4, 2)), (71, (.iconst 0, 1)), (72, (.istore 5, 2)), (74, (.iload 5, 2)), (76, (.iload 4, 2)), (78, (.if_icmp .ge 16, 3)), (81, (.aload_n 0, 1)), (82, (.iload 5, 2)), (84, (.iload_n 3, 1)), (85, (.invokevirtual 102, 3)), (88, (.iinc 5 1, 3)), (91, (.goto (-17), 3)), (94, (.iinc 2 1, 3)), (97, (.goto (-58), 3)), (100, (.return_, 1))]
def cd7 : List (Nat × (Instr × Nat)) := [(0, (.aload_n 0, 1)), (1, (.getfield 44, 3)), (4, (.getfield 70, 3)), (7, (.istore_n 3, 1)), (8, (.aload_n 0, 1)), (9, (.getfield 31, 3)), (12, (.aload_n 0, 1)), (13, (.getfield 44, 3)), (16, (.getfield 106, 3)), (19, (.iload_n 1, 1)), (20, (.iconst 5, 1)), (21, (.imul, 1)), (22, (.aload_n 0, 1)), (23, (.getfield 11, 3)), (26, (.iconst 0, 1)), (27, (.invokevirtual 53, 3)), (30, (.aload_n 0, 1)), (31, (.getfield 31, 3)), (34, (.aload_n 0, 1)), (35, (.getfield 11, 3)), (38, (.iconst 0, 1)), (39, (.iload_n 2, 1)), (40, (.invokevirtual 109, 3)), (43, (.aload_n 0, 1)), (44, (.getfield 44, 3)), (47, (.aload_n 0, 1)), (48, (.getfield 11, 3)), (51, (.aload_n 0, 1)), (52, (.getfield 44, 3)), (55, (.getfield 113, 3)), (58, (.iload_n 1, 1)), (59, (.iaload, 1)), (60, (.aload_n 0, 1)), (61, (.getfield 44, 3)), (64, (.iload_n 1, 1)), (65, (.iload_n 2, 1)), (66, (.invokevirtual 114, 3)), (69, (.ifCond .eq 7, 3)), (72, (.iconst (-1), 1)), (73, (.goto 4, 3)), (76, (.iconst 1, 1)), (77, (.iadd, 1)), (78, (.invokevirtual 88, 3)), (81, (.istore 4, 2)), (83, (.iload 4, 2)), (85, (.iconst (-1), 1)), (86, (.if_icmp .ne 4, 3)), (89, (.return_, 1)), (90, (.iload 4, 2)), (92, (.iload_n 3, 1)), (93, (.if_icmp .ne 9, 3)), (96, (.aload_n 0, 1)), (97, (.iload 4, 2)), (99, (.invokevirtual 92, 3)), (102, (.aload_n 0, 1)), (103, (.getfield 15, 3)), (106, (.iload_n 1, 1)), (107, (.iconst 5, 1)), (108, (.imul, 1)), (109, (.iload_n 2, 1)), (110, (.iadd, 1)), (111, (.iload 4, 2)), (113, (.iastore, 1)), (114, (.aload_n 0, 1)), (115, (.getfield 15, 3)), (118, (.iload 4, 2)), (120, (.iconst 5, 1)), (121, (.imul, 1)), (122, (.iload_n 2, 1)), (123, (.iadd, 1)), (124, (.iload_n 1, 1)), (125, (.iastore, 1)), (126, (.return_, 1))]
def cd8 : List (Nat × (Instr × Nat)) := [(0, (.aload_n 0, 1)), (1, (.getfield 23, 3)), (4, (.iload_n 1, 1)), (5, (.iconst 0, 1)), (6, (.bastore, 1)), (7, (.iconst 0, 1)), (8, (.istore_n 2, 1)), (9, (.iload_n 2, 1)), (10, (.iconst 5, 1)), (11, (.if_icmp .ge 21, 3)), (14, (.aload_n 0, 1)), (15, (.getfield 15, 3)), (18, (.iload_n 1, 1)), (19, (.iconst 5, 1)), (20, (.imul, 1)), (21, (.iload_n 2, 1)), (22, (.iadd, 1)), (23, (.bipush (-2), 2)), (25, (.iastore, 1)), (26, (.iinc 2 1, 3)), (29, (.goto (-20), 3)), (32, (.return_, 1))]
def cd9 : List (Nat × (Instr × Nat)) := [(0, (.aload_n 0, 1)), (1, (.getfield 15, 3)), (4, (.iload_n 1, 1)), (5, (.iconst 5, 1)), (6, (.imul, 1)), (7, (.iload_n 2, 1)), (8, (.iadd, 1)), (9, (.iaload, 1)), (10, (.istore_n 3, 1)), (11, (.iload_n 3, 1)), (12, (.bipush (-2), 2)), (14, (.if_icmp .eq 5, 3)), (17, (.iload_n 3, 1)), (18, (.ireturn, 1)), (19, (.aload_n 0, 1)), (20, (.getfield 31, 3)), (23, (.aload_n 0, 1)), (24, (.getfield 44, 3)), (27, (.getfield 106, 3)), (30, (.iload_n 1, 1)), (31, (.iconst 5, 1)), (32, (.imul, 1)), (33, (.aload_n 0, 1)), (34, (.getfield 11, 3)), (37, (.iconst 0, 1)), (38, (.invokevirtual 53, 3)), (41, (.aload_n 0, 1)), (42, (.getfield 31, 3)), (45, (.aload_n 0, 1)), (46, (.getfield 11, 3)), (49, (.iconst 0, 1)), (50, (.iload_n 2, 1)), (51, (.invokevirtual 109, 3)), (54, (.aload_n 0, 1)), (55, (.getfield 44, 3)), (58, (.aload_n 0, 1)), (59, (.getfield 11, 3)), (62, (.invokevirtual 59, 3)), (65, (.istore 4, 2)), (67, (.aload_n 0, 1)), (68, (.getfield 15, 3)), (71, (.iload_n 1, 1)), (72, (.iconst 5, 1)), (73, (.imul, 1)), (74, (.iload_n 2, 1)), (75, (.iadd, 1)), (76, (.iload 4, 2)), (78, (.iastore, 1)), (79, (.iload 4, 2)), (81, (.iconst (-1), 1)), (82, (.if_icmp .eq 15, 3)), (85, (.aload_n 0, 1)), (86, (.getfield 15, 3)), (89, (.iload 4, 2)), (91, (.iconst 5, 1)), (92, (.imul, 1)), (93, (.iload_n 2, 1)), (94, (.iadd, 1)), (95, (.iload_n 1, 1)), (96, (.iastore, 1)), (97, (.iload 4, 2)), (99, (.ireturn, 1))]
def cd10 : List (Nat × (Instr × Nat)) := [(0, (.aload_n 0, 1)), (1, (.getfield 23, 3)), (4, (.iload_n 1, 1)), (5, (.baload, 1)), (6, (.ifCond .ne 7, 3)), (9, (.iload_n 2, 1)), (10, (.ifCond .ge 4, 3)), (13, (.return_, 1)), (14, (.aload_n 0, 1)), (15, (.getfield 23, 3)), (18, (.iload_n 1, 1)), (19, (.iconst 1, 1)), (20, (.bastore, 1)), (21, (.aload_n 0, 1)), (22, (.getfield 31, 3)), (25, (.aload_n 0, 1)), (26, (.getfield 44, 3)), (29, (.getfield 106, 3)), (32, (.iload_n 1, 1)), (33, (.iconst 5, 1)), (34, (.imul, 1)), (35, (.aload_n 0, 1)), (36, (.getfield 31, 3)), (39, (.invokevirtual 118, 3)), (42, (.invokevirtual 122, 3)), (45, (.istore_n 3, 1)), (46, (.iload_n 3, 1)), (47, (.iconst (-1), 1)), (48, (.if_icmp .ne 7, 3)), (51, (.iconst (-1), 1)), (52, (.goto 9, 3)), (55, (.aload_n 0, 1)), (56, (.iload_n 1, 1)), (57, (.iload_n 3, 1)), (58, (.invokevirtual 126, 3)), (61, (.istore 4, 2)), (63, (.iload 4, 2)), (65, (.iconst (-1), 1)), (66, (.if_icmp .ne 49, 3)), (69, (.iconst 0, 1)), (70, (.istore 5, 2)), (72, (.iload 5, 2)), (74, (.aload_n 0, 1)), (75, (.getfield 44, 3)), (78, (.getfield 70, 3)), (81, (.if_icmp .ge 33, 3)), (84, (.aload_n 0, 1)), (85, (.getfield 20, 3)), (88, (.iload_n 1, 1)), (89, (.sipush 256, 3)), (92, (.imul, 1)), (93, (.iload 5, 2)), (95, (.iadd, 1)), (96, (.iload 5, 2)), (98, (.iload_n 1, 1)), (99, (.if_icmp .ne 7, 3)), (102, (.lconst 1, 1)), (103, (.goto 4, 3)), (106, (.lconst 0, 1)), (107, (.lastore, 1)), (108, (.iinc 5 1, 3)), (111, (.goto (-39), 3)), (114, (.return_, 1)), (115, (.aload_n 0, 1)), (116, (.iload 4, 2)), (118, (.iload_n 2, 1)), (119, (.iconst 1, 1)), (120, (.isub, 1)), (121, (.invokestatic 77, 3)), (124, (.aload_n 0, 1)), (125, (.iload_n 1, 1)), (126, (.iload 4, 2)), (128, (.iload_n 3, 1)), (129, (.invokevirtual 129, 3)), (132, (.iconst 0, 1)), (133, (.istore 5, 2)), (135, (.iload 5, 2)), (137, (.aload_n 0, 1)), (138, (.getfield 44, 3)), (141, (.getfield 70, 3)), (144, (.if_icmp .ge 59, 3)), (147, (.aload_n 0, 1)), (148, (.getfield 44, 3)), (151, (.iload 5, 2)), (153, (.iload_n 3, 1)), (154, (.invokevirtual 114, 3)), (157, (.ifCond .eq 14, 3)), (160, (.aload_n 0, 1)), (161, (.iload 5, 2)), (163, (.iload 4, 2)), (165, (.invokevirtual 133, 3)), (168, (.goto 4, 3)), (171, (.iconst 0, 1)), (172, (.istore 6, 2)), (174, (.iload 6, 2)), (176, (.ifCond .eq 21, 3)), (179, (.aload_n 0, 1)), (180, (.iload 5, 2)), (182, (.iload_n 2, 1)), (183, (.iconst 1, 1)), (184, (.isub, 1)), (185, (.invokestatic 77, 3)), (188, (.aload_n 0, 1)), (189, (.iload_n 1, 1)), (190, (.iload 5, 2)), (192, (.iload 6, 2)), (194, (.invokevirtual 136, 3)), (197, (.iinc 5 1, 3)), (200, (.goto (-65), 3)), (203, (.return_, 1))]
def cd11 : List (Nat × (Instr × Nat)) := [(0, (.iconst 0, 1)), (1, (.istore 4, 2)), (3, (.iload 4, 2)), (5, (.aload_n 0, 1)), (6, (.getfield 44, 3)), (9, (.getfield 70, 3)), (12, (.if_icmp .ge 103, 3)), (15, (.aload_n 0, 1)), (16, (.iload 4, 2)), (18, (.iload_n 3, 1)), (19, (.invokevirtual 126, 3)), (22, (.istore 5, 2)), (24, (.aload_n 0, 1)), (25, (.getfield 20, 3)), (28, (.iload_n 2, 1)), (29, (.sipush 256, 3)), (32, (.imul, 1)), (33, (.iload 4, 2)), (35, (.iadd, 1)), (36, (.laload, 1)), (37, (.lstore 6, 2)), (39, (.iload 5, 2)), (41, (.iconst (-1), 1)), (42, (.if_icmp .ne 7, 3)), (45, (.lconst 0, 1)), (46, (.goto 16, 3)), (49, (.aload_n 0, 1)), (50, (.getfield 20, 3)), (53, (.iload_n 2, 1)), (54, (.sipush 256, 3)), (57, (.imul, 1)), (58, (.iload 5, 2)), (60, (.iadd, 1)), (61, (.laload, 1)), (62, (.lstore 8, 2)), (64, (.aload_n 0, 1)), (65, (.getfield 20, 3)), (68, (.iload_n 1, 1)), (69, (.sipush 256, 3)), (72, (.imul, 1)), (73, (.iload 4, 2)), (75, (.iadd, 1)), (76, (.aload_n 0, 1)), (77, (.getfield 44, 3)), (80, (.iload 4, 2)), (82, (.iload_n 3, 1)), (83, (.invokevirtual 114, 3)), (86, (.ifCond .eq 14, 3)), (89, (.lload 8, 2)), (91, (.lload 6, 2)), (93, (.bipush 12, 2)), (95, (.lshl, 1)), (96, (.ladd, 1)), (97, (.goto 11, 3)), (100, (.lload 6, 2)), (102, (.lload 8, 2)), (104, (.bipush 12, 2)), (106, (.lshl, 1)), (107, (.ladd, 1)), (108, (.lastore, 1)), (109, (.iinc 4 1, 3)), (112, (.goto (-109), 3)), (115, (.return_, 1))]
def cd12 : List (Nat × (Instr × Nat)) := [(0, (.aload_n 0, 1)), (1, (.getfield 44, 3)), (4, (.getfield 113, 3)), (7, (.iload_n 2, 1)), (8, (.iaload, 1)), (9, (.aload_n 0, 1)), (10, (.getfield 44, 3)), (13, (.getfield 113, 3)), (16, (.iload_n 1, 1)), (17, (.iaload, 1)), (18, (.isub, 1)), (19, (.istore_n 3, 1)), (20, (.iload_n 3, 1)), (21, (.ifCond .lt 9, 3)), (24, (.iload_n 3, 1)), (25, (.iconst 2, 1)), (26, (.irem, 1)), (27, (.ifCond .ne 7, 3)), (30, (.iconst 0, 1)), (31, (.goto 23, 3)), (34, (.aload_n 0, 1)), (35, (.getfield 20, 3)), (38, (.iload_n 2, 1)), (39, (.sipush 256, 3)), (42, (.imul, 1)), (43, (.iload_n 1, 1)), (44, (.iadd, 1)), (45, (.laload, 1)), (46, (.iload_n 3, 1)), (47, (.iconst 1, 1)), (48, (.isub, 1)), (49, (.iconst 2, 1)), (50, (.idiv, 1)), (51, (.invokestatic 66, 3)), (54, (.ireturn, 1))]
def cd13 : List (Nat × (Instr × Nat)) := [(0, (.bipush 12, 2)), (2, (.aload_n 0, 1)), (3, (.getfield 44, 3)), (6, (.getfield 113, 3)), (9, (.iload_n 1, 1)), (10, (.iaload, 1)), (11, (.aload_n 0, 1)), (12, (.getfield 44, 3)), (15, (.getfield 113, 3)), (18, (.iload_n 2, 1)), (19, (.iaload, 1)), (20, (.isub, 1)), (21, (.iconst 2, 1)), (22, (.idiv, 1)), (23, (.imul, 1)), (24, (.istore 4, 2)), (26, (.iconst 0, 1)), (27, (.istore 5, 2)), (29, (.iload 5, 2)), (31, (.aload_n 0, 1)), (32, (.getfield 44, 3)), (35, (.getfield 70, 3)), (38, (.if_icmp .ge 44, 3)), (41, (.aload_n 0, 1)), (42, (.getfield 20, 3)), (45, (.iload_n 1, 1)), (46, (.sipush 256, 3)), (49, (.imul, 1)), (50, (.iload 5, 2)), (52, (.iadd, 1)), (53, (.dup2, 1)), (54, (.laload, 1)), (55, (.aload_n 0, 1)), (56, (.getfield 20, 3)), (59, (.iload_n 2, 1)), (60, (.sipush 256, 3)), (63, (.imul, 1)), (64, (.iload 5, 2)), (66, (.iadd, 1)), (67, (.laload, 1)), (68, (.iload_n 3, 1)), (69, (.i2l, 1)), (70, (.lmul, 1)), (71, (.iload 4, 2)), (73, (.lshl, 1)), (74, (.lsub, 1)), (75, (.lastore, 1)), (76, (.iinc 5 1, 3)), (79, (.goto (-50), 3)), (82, (.return_, 1))]
def cd14 : List (Nat × (Instr × Nat)) := [(0, (.aload_n 0, 1)), (1, (.invokespecial 3, 3)), (4, (.aload_n 0, 1)), (5, (.sipush 800, 3)), (8, (.newarray .int, 2)), (10, (.putfield 9, 3)), (13, (.aload_n 0, 1)), (14, (.bipush 40, 2)), (16, (.newarray .int, 2)), (18, (.putfield 15, 3)), (21, (.aload_n 0, 1)), (22, (.sipush 200, 3)), (25, (.newarray .long, 2)), (27, (.putfield 18, 3)), (30, (.aload_n 0, 1)), (31, (.sipush 200, 3)), (34, (.newarray .long, 2)), (36, (.putfield 22, 3)), (39, (.aload_n 0, 1)), (40, (.iconst 5, 1)), (41, (.newarray .long, 2)), (43, (.putfield 25, 3)), (46, (.aload_n 0, 1)), (47, (.aload_n 1, 1)), (48, (.putfield 28, 3)), (51, (.aload_n 0, 1)), (52, (.invokevirtual 32, 3)), (55, (.return_, 1))]
def cd15 : List (Nat × (Instr × Nat)) := [(0, (.aload_n 0, 1)), (1, (.iconst 1, 1)), (2, (.putfield 35, 3)), (5, (.aload_n 0, 1)), (6, (.getfield 15, 3)), (9, (.iconst 0, 1)), (10, (.iconst 0, 1)), (11, (.iastore, 1)), (12, (.aload_n 0, 1)), (13, (.getfield 28, 3)), (16, (.aload_n 0, 1)), (17, (.getfield 18, 3)), (20, (.iconst 0, 1)), (21, (.invokevirtual 39, 3)), (24, (.aload_n 0, 1)), (25, (.getfield 28, 3)), (28, (.aload_n 0, 1)), (29, (.getfield 22, 3)), (32, (.iconst 0, 1)), (33, (.invokevirtual 39, 3)), (36, (.return_, 1))]
def cd16 : List (Nat × (Instr × Nat)) := [(0, (.iload_n 1, 1)), (1, (.ifCond .lt 15, 3)), (4, (.iload_n 1, 1)), (5, (.aload_n 0, 1)), (6, (.getfield 35, 3)), (9, (.if_icmp .ge 7, 3)), (12, (.iconst 1, 1)), (13, (.goto 4, 3)), (16, (.iconst 0, 1)), (17, (.ireturn, 1))]
def cd17 : List (Nat × (Instr × Nat)) := [(0, (.aload_n 0, 1)), (1, (.getfield 9, 3)), (4, (.iload_n 1, 1)), (5, (.bipush 20, 2)), (7, (.imul, 1)), (8, (.iload_n 2, 1)), (9, (.iadd, 1)), (10, (.iaload, 1)), (11, (.ireturn, 1))]
def cd18 : List (Nat × (Instr × Nat)) := [(0, (.aload_n 0, 1)), (1, (.getfield 28, 3)), (4, (.aload_n 0, 1)), (5, (.getfield 25, 3)), (8, (.iconst 0, 1)), (9, (.invokevirtual 39, 3)), (12, (.iload_n 2, 1)), (13, (.iconst 1, 1)), (14, (.isub, 1)), (15, (.istore_n 3, 1)), (16, (.iload_n 3, 1)), (17, (.ifCond .lt 24, 3)), (20, (.aload_n 0, 1)), (21, (.getfield 28, 3)), (24, (.aload_n 0, 1)), (25, (.getfield 25, 3)), (28, (.iconst 0, 1)), (29, (.aload_n 1, 1)), (30, (.iload_n 3, 1)), (31, (.iaload, 1)), (32, (.invokevirtual 45, 3)), (35, (.iinc 3 (-1), 3)), (38, (.goto (-22), 3)), (41, (.iconst 0, 1)), (42, (.istore_n 3, 1)), (43, (.iload_n 3, 1)), (44, (.aload_n 0, 1)), (45, (.getfield 35, 3)), (48, (.if_icmp .ge 33, 3)), (51, (.aload_n 0, 1)), (52, (.getfield 28, 3)), (55, (.aload_n 0, 1)), (56, (.getfield 25, 3)), (59, (.iconst 0, 1)), (60, (.aload_n 0, 1)), (61, (.getfield 18, 3)), (64, (.iload_n 3, 1)), (65, (.iconst 5, 1)), (66, (.imul, 1)), (67, (.invokevirtual 49, 3)), (70, (.ifCond .eq 5, 3)), (73, (.iload_n 3, 1)), (74, (.ireturn, 1)), (75, (.iinc 3 1, 3)), (78, (.goto (-35), 3)), (81, (.aload_n 0, 1)), (82, (.getfield 35, 3)), (85, (.bipush 40, 2)), (87, (.if_icmp .lt 7, 3)), (90, (.sipush (-1004), 3)), (93, (.ireturn, 1)), (94, (.aload_n 0, 1)), (95, (.dup, 1)), (96, (.getfield 35, 3)), (99, (.iconst 1, 1)), (100, (.iadd, 1)), (101, (.putfield 35, 3)), (104, (.aload_n 0, 1)), (105, (.invokevirtual 53, 3)), (108, (.aload_n 0, 1)), (109, (.getfield 35, 3)), (112, (.iconst 1, 1)), (113, (.isub, 1)), (114, (.ireturn, 1))]
def cd19 : List (Nat × (Instr × Nat)) := [(0, (.aload_n 0, 1)), (1, (.getfield 35, 3)), (4, (.iconst 1, 1)), (5, (.isub, 1)), (6, (.istore_n 1, 1)), (7, (.aload_n 0, 1)), (8, (.getfield 28, 3)), (11, (.aload_n 0, 1)), (12, (.getfield 25, 3)), (15, (.iconst 0, 1)), (16, (.aload_n 0, 1)), (17, (.getfield 18, 3)), (20, (.iload_n 1, 1)), (21, (.iconst 5, 1)), (22, (.imul, 1)), (23, (.invokevirtual 56, 3)), (26, (.aload_n 0, 1)), (27, (.getfield 15, 3)), (30, (.iload_n 1, 1)), (31, (.aload_n 0, 1)), (32, (.aload_n 0, 1)), (33, (.getfield 25, 3)), (36, (.aload_n 0, 1)), (37, (.getfield 9, 3)), (40, (.iload_n 1, 1)), (41, (.bipush 20, 2)), (43, (.imul, 1)), (44, (.invokevirtual 60, 3)), (47, (.iastore, 1)), (48, (.aload_n 0, 1)), (49, (.getfield 28, 3)), (52, (.aload_n 0, 1)), (53, (.getfield 22, 3)), (56, (.iload_n 1, 1)), (57, (.iconst 5, 1)), (58, (.imul, 1)), (59, (.invokevirtual 39, 3)), (62, (.iconst 0, 1)), (63, (.istore_n 2, 1)), (64, (.iload_n 2, 1)), (65, (.aload_n 0, 1)), (66, (.getfield 15, 3)), (69, (.iload_n 1, 1)), (70, (.iaload, 1)), (71, (.if_icmp .ge 29, 3)), (74, (.aload_n 0, 1)), (75, (.getfield 28, 3)), (78, (.aload_n 0, 1)), (79, (.getfield 22, 3)), (82, (.iload_n 1, 1)), (83, (.iconst 5, 1)), (84, (.imul, 1)), (85, (.aload_n 0, 1)), (86, (.iload_n 1, 1)), (87, (.iload_n 2, 1)), (88, (.invokevirtual 64, 3)), (91, (.invokevirtual 45, 3)), (94, (.iinc 2 1, 3)), (97, (.goto (-33), 3)), (100, (.return_, 1))]
def cd20 : List (Nat × (Instr × Nat)) := [(0, (.iconst 0, 1)), (1, (.istore 4, 2)), (3, (.iload 4, 2)), (5, (.bipush 20, 2)), (7, (.if_icmp .ge 55, 3)), (10, (.aload_n 0, 1)), (11, (.getfield 28, 3)), (14, (.aload_n 1, 1)), (15, (.iconst 0, 1)), (16, (.aload_n 0, 1)), (17, (.getfield 28, 3)), (20, (.invokevirtual 68, 3)), (23, (.invokevirtual 72, 3)), (26, (.istore 5, 2)), (28, (.iload 5, 2)), (30, (.iconst (-1), 1)), (31, (.if_icmp .ne 6, 3)), (34, (.iload 4, 2)), (36, (.ireturn, 1)), (37, (.aload_n 2, 1)), (38, (.iload_n 3, 1)), (39, (.iload 4, 2)), (41, (.iadd, 1)), (42, (.iload 5, 2)), (44, (.iastore, 1)), (45, (.aload_n 0, 1)), (46, (.getfield 28, 3)), (49, (.aload_n 1, 1)), (50, (.iconst 0, 1)), (51, (.iload 5, 2)), (53, (.invokevirtual 45, 3)), (56, (.iinc 4 1, 3)), (59, (.goto (-56), 3)), (62, (.bipush 20, 2)), (64, (.ireturn, 1))]
def cd21 : List (Nat × (Instr × Nat)) := [(0, (.aload_n 0, 1)), (1, (.invokespecial 3, 3)), (4, (.aload_n 0, 1)), (5, (.iconst 5, 1)), (6, (.newarray .long, 2)), (8, (.putfield 9, 3)), (11, (.aload_n 0, 1)), (12, (.sipush 4096, 3)), (15, (.newarray .long, 2)), (17, (.putfield 15, 3)), (20, (.aload_n 0, 1)), (21, (.bipush 32, 2)), (23, (.newarray .int, 2)), (25, (.putfield 18, 3)), (28, (.aload_n 0, 1)), (29, (.iconst (-1), 1)), (30, (.putfield 22, 3)), (33, (.aload_n 0, 1)), (34, (.aload_n 1, 1)), (35, (.putfield 26, 3)), (38, (.aload_n 0, 1)), (39, (.aload_n 2, 1)), (40, (.putfield 30, 3)), (43, (.aload_n 0, 1)), (44, (.new 34, 3)), (47, (.dup, 1)), (48, (.aload_n 1, 1)), (49, (.sipush 4096, 3)), (52, (.invokespecial 36, 3)), (55, (.putfield 39, 3)), (58, (.return_, 1))]
def cd22 : List (Nat × (Instr × Nat)) := [(0, (.aload_n 0, 1)), (1, (.iconst (-1), 1)), (2, (.putfield 22, 3)), (5, (.return_, 1))]
def cd23 : List (Nat × (Instr × Nat)) := [(0, (.aload_n 0, 1)), (1, (.iload_n 1, 1)), (2, (.invokevirtual 43, 3)), (5, (.iload_n 1, 1)), (6, (.aload_n 0, 1)), (7, (.getfield 47, 3)), (10, (.if_icmp .lt 9, 3)), (13, (.sipush (-1005), 3)), (16, (.goto 9, 3)), (19, (.aload_n 0, 1)), (20, (.getfield 18, 3)), (23, (.iload_n 1, 1)), (24, (.iaload, 1)), (25, (.ireturn, 1))]
def cd24 : List (Nat × (Instr × Nat)) := [(0, (.aload_n 0, 1)), (1, (.bipush 31, 2)), (3, (.invokevirtual 43, 3)), (6, (.aload_n 0, 1)), (7, (.invokevirtual 50, 3)), (10, (.ifCond .eq 10, 3)), (13, (.aload_n 0, 1)), (14, (.getfield 54, 3)), (17, (.goto 6, 3)), (20, (.sipush (-1005), 3)), (23, (.ireturn, 1))]
def cd25 : List (Nat × (Instr × Nat)) := [(0, (.aload_n 0, 1)), (1, (.bipush 31, 2)), (3, (.invokevirtual 43, 3)), (6, (.aload_n 0, 1)), (7, (.invokevirtual 50, 3)), (10, (.ifCond .ne 7, 3)), (13, (.sipush (-1005), 3)), (16, (.ireturn, 1)), (17, (.bipush 30, 2)), (19, (.istore_n 1, 1)), (20, (.iload_n 1, 1)), (21, (.ifCond .le 18, 3)), (24, (.aload_n 0, 1)), (25, (.getfield 18, 3)), (28, (.iload_n 1, 1)), (29, (.iaload, 1)), (30, (.ifCond .ne 9, 3)), (33, (.iinc 1 (-1), 3)), (36, (.goto (-16), 3)), (39, (.iload_n 1, 1)), (40, (.ireturn, 1))]
def cd26 : List (Nat × (Instr × Nat)) := [(0, (.aload_n 0, 1)), (1, (.getfield 47, 3)), (4, (.bipush 31, 2)), (6, (.if_icmp .le 17, 3)), (9, (.aload_n 0, 1)), (10, (.getfield 18, 3)), (13, (.bipush 31, 2)), (15, (.iaload, 1)), (16, (.ifCond .ne 7, 3)), (19, (.iconst 1, 1)), (20, (.goto 4, 3)), (23, (.iconst 0, 1)), (24, (.ireturn, 1))]
def cd27 : List (Nat × (Instr × Nat)) := [(0, (.iload_n 1, 1)), (1, (.aload_n 0, 1)), (2, (.getfield 22, 3)), (5, (.if_icmp .gt 4, 3)), (8, (.return_, 1)), (9, (.iconst 0, 1)), (10, (.istore_n 2, 1)), (11, (.iload_n 2, 1)), (12, (.aload_n 0, 1)), (13, (.getfield 18, 3)), (16, (.arraylength, 1)), (17, (.if_icmp .ge 16, 3)), (20, (.aload_n 0, 1)), (21, (.getfield 18, 3)), (24, (.iload_n 2, 1)), (25, (.iconst 0, 1)), (26, (.iastore, 1)), (27, (.iinc 2 1, 3)), (30, (.goto (-19), 3)), (33, (.aload_n 0, 1)), (34, (.getfield 39, 3)), (37, (.invokevirtual 57, 3)), (40, (.aload_n 0, 1)), (41, (.getfield 26, 3)), (44, (.aload_n 0, 1)), (45, (.getfield 9, 3)), (48, (.iconst 0, 1)), (49, (.invokevirtual 60, 3)), (52, (.aload_n 0, 1)), (53, (.getfield 39, 3)), (56, (.aload_n 0, 1)), (57, (.getfield 9, 3)), (60, (.iconst 0, 1)), (61, (.invokevirtual 66, 3)), (64, (.pop, 1)), (65, (.aload_n 0, 1)), (66, (.getfield 18, 3)), (69, (.iconst 0, 1)), (70, (.iconst 1, 1)), (71, (.iastore, 1)), (72, (.iconst 0, 1)), (73, (.istore_n 2, 1)), (74, (.iload_n 2, 1)), (75, (.aload_n 0, 1)), (76, (.getfield 39, 3)), (79, (.getfield 70, 3)), (82, (.if_icmp .ge 40, 3)), (85, (.aload_n 0, 1)), (86, (.getfield 39, 3)), (89, (.getfield 70, 3)), (92, (.sipush 2000, 3)), (95, (.if_icmp .gt 27, 3)), (98, (.aload_n 0, 1)), (99, (.getfield 39, 3)), (102, (.getfield 73, 3)), (105, (.iload_n 2, 1)), (106, (.iaload, 1)), (107, (.iload_n 1, 1)), (108, (.if_icmp .ge 8, 3)), (111, (.aload_n 0, 1)), (112, (.iload_n 2, 1)), (113, (.invokevirtual 76, 3)), (116, (.iinc 2 1, 3)), (119, (.goto (-45), 3)), (122, (.aload_n 0, 1)), (123, (.aload_n 0, 1)), (124, (.getfield 39, 3)), (127, (.getfield 70, 3)), (130, (.putfield 54, 3)), (133, (.aload_n 0, 1)), (134, (.getfield 54, 3)), (137, (.sipush 2000, 3)), (140, (.if_icmp .le 7, 3)), (143, (.iconst 1, 1)), (144, (.goto 4, 3)), (147, (.iconst 0, 1)), (148, (.istore_n 2, 1)), (149, (.aload_n 0, 1)), (150, (.iload_n 2, 1)), (151, (.ifCond .eq 20, 3)), (154, (.aload_n 0, 1)), (155, (.getfield 39, 3)), (158, (.getfield 73, 3)), (161, (.aload_n 0, 1)), (162, (.getfield 54, 3)), (165, (.iconst 1, 1)), (166, (.isub, 1)), (167, (.iaload, 1)), (168, (.goto 8, 3)), (171, (.aload_n 0, 1)), (172, (.getfield 18, 3)), (175, (.arraylength, 1)), (176, (.putfield 47, 3)), (179, (.aload_n 0, 1)), (180, (.iload_n 2, 1)), (181, (.ifCond .eq 11, 3)), (184, (.aload_n 0, 1)), (185, (.getfield 18, 3)), (188, (.arraylength, 1)), (189, (.goto 4, 3)), (192, (.iload_n 1, 1)), (193, (.putfield 22, 3)), (196, (.return_, 1))]
def cd28 : List (Nat × (Instr × Nat)) := [(0, (.aload_n 0, 1)), (1, (.getfield 39, 3)), (4, (.getfield 73, 3)), (7, (.iload_n 1, 1)), (8, (.iaload, 1)), (9, (.iconst 1, 1)), (10, (.iadd, 1)), (11, (.istore_n 2, 1)), (12, (.iconst 0, 1)), (13, (.istore_n 3, 1)), (14, (.iload_n 3, 1)), (15, (.aload_n 0, 1)), (16, (.getfield 26, 3)), (19, (.getfield 79, 3)), (22, (.if_icmp .ge 107, 3)), (25, (.aload_n 0, 1)), (26, (.getfield 39, 3)), (29, (.iload_n 1, 1)), (30, (.iload_n 3, 1)), (31, (.invokevirtual 80, 3)), (34, (.ifCond .eq 6, 3)), (37, (.goto 86, 3)), (40, (.aload_n 0, 1)), (41, (.getfield 26, 3)), (44, (.aload_n 0, 1)), (45, (.getfield 39, 3)), (48, (.getfield 84, 3)), (51, (.iload_n 1, 1)), (52, (.iconst 5, 1)), (53, (.imul, 1)), (54, (.aload_n 0, 1)), (55, (.getfield 9, 3)), (58, (.iconst 0, 1)), (59, (.invokevirtual 87, 3)), (62, (.aload_n 0, 1)), (63, (.getfield 26, 3)), (66, (.aload_n 0, 1)), (67, (.getfield 9, 3)), (70, (.iconst 0, 1)), (71, (.iload_n 3, 1)), (72, (.invokevirtual 91, 3)), (75, (.aload_n 0, 1)), (76, (.getfield 26, 3)), (79, (.aload_n 0, 1)), (80, (.getfield 9, 3)), (83, (.iconst 0, 1)), (84, (.aload_n 0, 1)), (85, (.getfield 26, 3)), (88, (.invokevirtual 95, 3)), (91, (.invokevirtual 99, 3)), (94, (.iload_n 3, 1)), (95, (.if_icmp .ne 28, 3)), (98, (.aload_n 0, 1)), (99, (.getfield 39, 3)), (102, (.aload_n 0, 1)), (103, (.getfield 9, 3)), (106, (.iload_n 2, 1)), (107, (.invokevirtual 66, 3)), (110, (.ifCond .eq 13, 3)), (113, (.aload_n 0, 1)), (114, (.getfield 18, 3)), (117, (.iload_n 2, 1)), (118, (.dup2, 1)), (119, (.iaload, 1)), (120, (.iconst 1, 1)), (121, (.iadd, 1)), (122, (.iastore, 1)), (123, (.iinc 3 1, 3)), (126, (.goto (-112), 3)), (129, (.return_, 1))]
def cd29 : List (Nat × (Instr × Nat)) := [(0, (.aload_n 0, 1)), (1, (.getfield 39, 3)), (4, (.invokevirtual 57, 3)), (7, (.aload_n 0, 1)), (8, (.getfield 26, 3)), (11, (.aload_n 0, 1)), (12, (.getfield 30, 3)), (15, (.getfield 103, 3)), (18, (.iload_n 1, 1)), (19, (.iconst 5, 1)), (20, (.imul, 1)), (21, (.aload_n 0, 1)), (22, (.getfield 9, 3)), (25, (.iconst 0, 1)), (26, (.invokevirtual 87, 3)), (29, (.aload_n 0, 1)), (30, (.getfield 39, 3)), (33, (.aload_n 0, 1)), (34, (.getfield 9, 3)), (37, (.aload_n 0, 1)), (38, (.getfield 30, 3)), (41, (.getfield 108, 3)), (44, (.iload_n 1, 1)), (45, (.iaload, 1)), (46, (.invokevirtual 109, 3)), (49, (.pop, 1)), (50, (.aload_n 0, 1)), (51, (.getfield 15, 3)), (54, (.iconst 0, 1)), (55, (.lconst 1, 1)), (56, (.lastore, 1)), (57, (.iconst 0, 1)), (58, (.istore_n 2, 1)), (59, (.iload_n 2, 1)), (60, (.aload_n 0, 1)), (61, (.getfield 39, 3)), (64, (.getfield 70, 3)), (67, (.if_icmp .ge 53, 3)), (70, (.iload_n 2, 1)), (71, (.sipush 4096, 3)), (74, (.if_icmp .ge 46, 3)), (77, (.iconst 0, 1)), (78, (.istore_n 3, 1)), (79, (.iload_n 3, 1)), (80, (.aload_n 0, 1)), (81, (.getfield 26, 3)), (84, (.getfield 79, 3)), (87, (.if_icmp .ge 27, 3)), (90, (.aload_n 0, 1)), (91, (.getfield 39, 3)), (94, (.iload_n 2, 1)), (95, (.iload_n 3, 1)), (96, (.invokevirtual 80, 3)), (99, (.ifCond .eq 9, 3)), (102, (.aload_n 0, 1)), (103, (.iload_n 2, 1)), (104, (.iload_n 3, 1)), (105, (.invokevirtual 113, 3)), (108, (.iinc 3 1, 3)), (111, (.goto (-32), 3)), (114, (.iinc 2 1, 3)), (117, (.goto (-58), 3)), (120, (.aload_n 0, 1)), (121, (.getfield 39, 3)), (124, (.getfield 70, 3)), (127, (.ifCond .ne 7, 3)), (130, (.lconst 0, 1)), (131, (.goto 17, 3)), (134, (.aload_n 0, 1)), (135, (.getfield 15, 3)), (138, (.aload_n 0, 1)), (139, (.getfield 39, 3)), (142, (.getfield 70, 3)), (145, (.iconst 1, 1)), (146, (.isub, 1)), (147, (.laload, 1)), (148, (.lreturn, 1))]
def cd30 : List (Nat × (Instr × Nat)) := [(0, (.aload_n 0, 1)), (1, (.getfield 26, 3)), (4, (.aload_n 0, 1)), (5, (.getfield 39, 3)), (8, (.getfield 84, 3)), (11, (.iload_n 1, 1)), (12, (.iconst 5, 1)), (13, (.imul, 1)), (14, (.aload_n 0, 1)), (15, (.getfield 9, 3)), (18, (.iconst 0, 1)), (19, (.invokevirtual 87, 3)), (22, (.aload_n 0, 1)), (23, (.getfield 26, 3)), (26, (.aload_n 0, 1)), (27, (.getfield 9, 3)), (30, (.iconst 0, 1)), (31, (.iload_n 2, 1)), (32, (.invokevirtual 91, 3)), (35, (.aload_n 0, 1)), (36, (.getfield 39, 3)), (39, (.getfield 70, 3)), (42, (.istore_n 3, 1)), (43, (.aload_n 0, 1)), (44, (.getfield 39, 3)), (47, (.aload_n 0, 1)), (48, (.getfield 9, 3)), (51, (.aload_n 0, 1)), (52, (.getfield 39, 3)), (55, (.getfield 73, 3)), (58, (.iload_n 1, 1)), (59, (.iaload, 1)), (60, (.iconst 1, 1)), (61, (.isub, 1)), (62, (.invokevirtual 109, 3)), (65, (.istore 4, 2)), (67, (.iload 4, 2)), (69, (.iconst (-1), 1)), (70, (.if_icmp .ne 4, 3)), (73, (.return_, 1)), (74, (.iload 4, 2)), (76, (.iload_n 3, 1)), (77, (.if_icmp .ne 11, 3)), (80, (.aload_n 0, 1)), (81, (.getfield 15, 3)), (84, (.iload 4, 2)), (86, (.lconst 0, 1)), (87, (.lastore, 1)), (88, (.aload_n 0, 1)), (89, (.getfield 15, 3)), (92, (.iload 4, 2)), (94, (.dup2, 1)), (95, (.laload, 1)), (96, (.aload_n 0, 1)), (97, (.getfield 15, 3)), (100, (.iload_n 1, 1)), (101, (.laload, 1)), (102, (.ladd, 1)), (103, (.lastore, 1)), (104, (.return_, 1))]
def cd31 : List (Nat × (Instr × Nat)) := [(0, (.aload_n 0, 1)), (1, (.invokespecial 3, 3)), (4, (.aload_n 0, 1)), (5, (.bipush 25, 2)), (7, (.newarray .int, 2)), (9, (.putfield 9, 3)), (12, (.aload_n 0, 1)), (13, (.bipush 25, 2)), (15, (.newarray .int, 2)), (17, (.putfield 15, 3)), (20, (.aload_n 0, 1)), (21, (.iconst 3, 1)), (22, (.putfield 18, 3)), (25, (.iconst 0, 1)), (26, (.istore_n 1, 1)), (27, (.iload_n 1, 1)), (28, (.aload_n 0, 1)), (29, (.getfield 18, 3)), (32, (.if_icmp .ge 36, 3)), (35, (.iconst 0, 1)), (36, (.istore_n 2, 1)), (37, (.iload_n 2, 1)), (38, (.aload_n 0, 1)), (39, (.getfield 18, 3)), (42, (.if_icmp .ge 20, 3)), (45, (.aload_n 0, 1)), (46, (.iload_n 1, 1)), (47, (.iload_n 2, 1)), (48, (.iload_n 1, 1)), (49, (.iload_n 2, 1)), (50, (.invokestatic 22, 3)), (53, (.invokevirtual 26, 3)), (56, (.iinc 2 1, 3)), (59, (.goto (-22), 3)), (62, (.iinc 1 1, 3)), (65, (.goto (-38), 3)), (68, (.return_, 1))]
def cd32 : List (Nat × (Instr × Nat)) := [(0, (.iload_n 0, 1)), (1, (.iload_n 1, 1)), (2, (.if_icmp .ne 5, 3)), (5, (.iconst 1, 1)), (6, (.ireturn, 1)), (7, (.iload_n 0, 1)), (8, (.iload_n 1, 1)), (9, (.iadd, 1)), (10, (.iconst 2, 1)), (11, (.if_icmp .ne 7, 3)), (14, (.iconst 2, 1)), (15, (.goto 4, 3)), (18, (.iconst 3, 1)), (19, (.ireturn, 1))]
def cd33 : List (Nat × (Instr × Nat)) := [(0, (.aload_n 0, 1)), (1, (.iload_n 1, 1)), (2, (.putfield 18, 3)), (5, (.iconst 0, 1)), (6, (.istore_n 3, 1)), (7, (.iload_n 3, 1)), (8, (.iload_n 1, 1)), (9, (.if_icmp .ge 49, 3)), (12, (.iconst 0, 1)), (13, (.istore 4, 2)), (15, (.iload 4, 2)), (17, (.iload_n 1, 1)), (18, (.if_icmp .ge 34, 3)), (21, (.aload_n 0, 1)), (22, (.iload_n 3, 1)), (23, (.iload 4, 2)), (25, (.iload_n 3, 1)), (26, (.iload 4, 2)), (28, (.if_icmp .ne 7, 3)), (31, (.iconst 1, 1)), (32, (.goto 11, 3)), (35, (.aload_n 2, 1)), (36, (.iload_n 3, 1)), (37, (.iconst 5, 1)), (38, (.imul, 1)), (39, (.iload 4, 2)), (41, (.iadd, 1)), (42, (.iaload, 1)), (43, (.invokevirtual 26, 3)), (46, (.iinc 4 1, 3)), (49, (.goto (-34), 3)), (52, (.iinc 3 1, 3)), (55, (.goto (-48), 3)), (58, (.return_, 1))]
def cd34 : List (Nat × (Instr × Nat)) := [(0, (.aload_n 0, 1)), (1, (.getfield 9, 3)), (4, (.iload_n 1, 1)), (5, (.iconst 5, 1)), (6, (.imul, 1)), (7, (.iload_n 2, 1)), (8, (.iadd, 1)), (9, (.iload_n 3, 1)), (10, (.iastore, 1)), (11, (.aload_n 0, 1)), (12, (.getfield 15, 3)), (15, (.iload_n 1, 1)), (16, (.iconst 5, 1)), (17, (.imul, 1)), (18, (.iload_n 2, 1)), (19, (.iadd, 1)), (20, (.iload_n 1, 1)), (21, (.iload_n 2, 1)), (22, (.if_icmp .ne 7, 3)), (25, (.iconst 2, 1)), (26, (.goto 17, 3)), (29, (.iload_n 3, 1)), (30, (.iload_n 1, 1)), (31, (.iload_n 2, 1)), (32, (.if_icmp .ge 7, 3)), (35, (.iconst 1, 1)), (36, (.goto 4, 3)), (39, (.iconst 0, 1)), (40, (.invokestatic 30, 3)), (43, (.iastore, 1)), (44, (.return_, 1))]
def cd35 : List (Nat × (Instr × Nat)) := [(0, (.iload_n 0, 1)), (1, (.tableswitch 70 0 6 #[67, 70, 70, 43, 45, 70, 56], 43)), (44, (.iconst (-1), 1)), (45, (.ireturn, 1)), (46, (.iload_n 1, 1)), (47, (.ifCond .eq 8, 3)), (50, (.bipush (-2), 2)), (52, (.goto 4, 3)), (55, (.iconst (-1), 1)), (56, (.ireturn, 1)), (57, (.iload_n 1, 1)), (58, (.ifCond .eq 8, 3)), (61, (.bipush (-3), 2)), (63, (.goto 4, 3)), (66, (.iconst (-1), 1)), (67, (.ireturn, 1)), (68, (.bipush (-2), 2)), (70, (.ireturn, 1)), (71, (.iconst 0, 1)), (72, (.ireturn, 1))]
def cd36 : List (Nat × (Instr × Nat)) := [(0, (.iload_n 1, 1)), (1, (.ifCond .lt 15, 3)), (4, (.iload_n 1, 1)), (5, (.aload_n 0, 1)), (6, (.getfield 18, 3)), (9, (.if_icmp .ge 7, 3)), (12, (.iconst 1, 1)), (13, (.goto 4, 3)), (16, (.iconst 0, 1)), (17, (.ireturn, 1))]
def cd37 : List (Nat × (Instr × Nat)) := [(0, (.iload_n 1, 1)), (1, (.ifCond .lt 17, 3)), (4, (.iload_n 1, 1)), (5, (.iconst 1, 1)), (6, (.aload_n 0, 1)), (7, (.getfield 18, 3)), (10, (.ishl, 1)), (11, (.if_icmp .ge 7, 3)), (14, (.iconst 1, 1)), (15, (.goto 4, 3)), (18, (.iconst 0, 1)), (19, (.ireturn, 1))]
def cd38 : List (Nat × (Instr × Nat)) := [(0, (.iconst 0, 1)), (1, (.istore 4, 2)), (3, (.iload 4, 2)), (5, (.aload_n 0, 1)), (6, (.getfield 18, 3)), (9, (.if_icmp .ge 26, 3)), (12, (.aload_n 1, 1)), (13, (.iload_n 2, 1)), (14, (.iload 4, 2)), (16, (.iadd, 1)), (17, (.iload 4, 2)), (19, (.iload_n 3, 1)), (20, (.if_icmp .ne 7, 3)), (23, (.lconst 1, 1)), (24, (.goto 4, 3)), (27, (.lconst 0, 1)), (28, (.lastore, 1)), (29, (.iinc 4 1, 3)), (32, (.goto (-29), 3)), (35, (.return_, 1))]
def cd39 : List (Nat × (Instr × Nat)) := [(0, (.lconst 0, 1)), (1, (.lstore 4, 2)), (3, (.iconst 0, 1)), (4, (.istore 6, 2)), (6, (.iload 6, 2)), (8, (.aload_n 0, 1)), (9, (.getfield 18, 3)), (12, (.if_icmp .ge 33, 3)), (15, (.lload 4, 2)), (17, (.aload_n 0, 1)), (18, (.getfield 15, 3)), (21, (.iload_n 3, 1)), (22, (.iconst 5, 1)), (23, (.imul, 1)), (24, (.iload 6, 2)), (26, (.iadd, 1)), (27, (.iaload, 1)), (28, (.i2l, 1)), (29, (.aload_n 1, 1)), (30, (.iload_n 2, 1)), (31, (.iload 6, 2)), (33, (.iadd, 1)), (34, (.laload, 1)), (35, (.lmul, 1)), (36, (.ladd, 1)), (37, (.lstore 4, 2)), (39, (.iinc 6 1, 3)), (42, (.goto (-36), 3)), (45, (.aload_n 1, 1)), (46, (.iload_n 2, 1)), (47, (.iload_n 3, 1)), (48, (.iadd, 1)), (49, (.dup2, 1)), (50, (.laload, 1)), (51, (.lload 4, 2)), (53, (.lsub, 1)), (54, (.lastore, 1)), (55, (.return_, 1))]
def cd40 : List (Nat × (Instr × Nat)) := [(0, (.iconst 0, 1)), (1, (.istore_n 3, 1)), (2, (.iload_n 3, 1)), (3, (.aload_n 0, 1)), (4, (.getfield 18, 3)), (7, (.if_icmp .ge 15, 3)), (10, (.aload_n 1, 1)), (11, (.iload_n 2, 1)), (12, (.iload_n 3, 1)), (13, (.iadd, 1)), (14, (.lconst 1, 1)), (15, (.lastore, 1)), (16, (.iinc 3 1, 3)), (19, (.goto (-17), 3)), (22, (.return_, 1))]
def cd41 : List (Nat × (Instr × Nat)) := [(0, (.aload_n 1, 1)), (1, (.iload_n 2, 1)), (2, (.iload_n 3, 1)), (3, (.iadd, 1)), (4, (.laload, 1)), (5, (.lstore 4, 2)), (7, (.iconst 0, 1)), (8, (.istore 6, 2)), (10, (.iload 6, 2)), (12, (.aload_n 0, 1)), (13, (.getfield 18, 3)), (16, (.if_icmp .ge 33, 3)), (19, (.aload_n 1, 1)), (20, (.iload_n 2, 1)), (21, (.iload 6, 2)), (23, (.iadd, 1)), (24, (.dup2, 1)), (25, (.laload, 1)), (26, (.lload 4, 2)), (28, (.aload_n 0, 1)), (29, (.getfield 15, 3)), (32, (.iload 6, 2)), (34, (.iconst 5, 1)), (35, (.imul, 1)), (36, (.iload_n 3, 1)), (37, (.iadd, 1)), (38, (.iaload, 1)), (39, (.i2l, 1)), (40, (.lmul, 1)), (41, (.lsub, 1)), (42, (.lastore, 1)), (43, (.iinc 6 1, 3)), (46, (.goto (-36), 3)), (49, (.return_, 1))]
def cd42 : List (Nat × (Instr × Nat)) := [(0, (.iconst 0, 1)), (1, (.istore 5, 2)), (3, (.iload 5, 2)), (5, (.aload_n 0, 1)), (6, (.getfield 18, 3)), (9, (.if_icmp .ge 22, 3)), (12, (.aload_n 3, 1)), (13, (.iload 4, 2)), (15, (.iload 5, 2)), (17, (.iadd, 1)), (18, (.aload_n 1, 1)), (19, (.iload_n 2, 1)), (20, (.iload 5, 2)), (22, (.iadd, 1)), (23, (.laload, 1)), (24, (.lastore, 1)), (25, (.iinc 5 1, 3)), (28, (.goto (-25), 3)), (31, (.return_, 1))]
def cd43 : List (Nat × (Instr × Nat)) := [(0, (.iconst 0, 1)), (1, (.istore 5, 2)), (3, (.iload 5, 2)), (5, (.aload_n 0, 1)), (6, (.getfield 18, 3)), (9, (.if_icmp .ge 28, 3)), (12, (.aload_n 1, 1)), (13, (.iload_n 2, 1)), (14, (.iload 5, 2)), (16, (.iadd, 1)), (17, (.laload, 1)), (18, (.aload_n 3, 1)), (19, (.iload 4, 2)), (21, (.iload 5, 2)), (23, (.iadd, 1)), (24, (.laload, 1)), (25, (.lcmp, 1)), (26, (.ifCond .eq 5, 3)), (29, (.iconst 0, 1)), (30, (.ireturn, 1)), (31, (.iinc 5 1, 3)), (34, (.goto (-31), 3)), (37, (.iconst 1, 1)), (38, (.ireturn, 1))]
def cd44 : List (Nat × (Instr × Nat)) := [(0, (.iconst 0, 1)), (1, (.istore_n 3, 1)), (2, (.iconst 0, 1)), (3, (.istore 4, 2)), (5, (.iload 4, 2)), (7, (.aload_n 0, 1)), (8, (.getfield 18, 3)), (11, (.if_icmp .ge 27, 3)), (14, (.aload_n 1, 1)), (15, (.iload_n 2, 1)), (16, (.iload 4, 2)), (18, (.iadd, 1)), (19, (.laload, 1)), (20, (.lconst 0, 1)), (21, (.lcmp, 1)), (22, (.ifCond .ge 10, 3)), (25, (.iload_n 3, 1)), (26, (.iconst 1, 1)), (27, (.iload 4, 2)), (29, (.ishl, 1)), (30, (.ior, 1)), (31, (.istore_n 3, 1)), (32, (.iinc 4 1, 3)), (35, (.goto (-30), 3)), (38, (.iload_n 3, 1)), (39, (.ireturn, 1))]
def cd45 : List (Nat × (Instr × Nat)) := [(0, (.iconst 0, 1)), (1, (.istore 4, 2)), (3, (.iload 4, 2)), (5, (.aload_n 0, 1)), (6, (.getfield 18, 3)), (9, (.if_icmp .ge 33, 3)), (12, (.aload_n 1, 1)), (13, (.iload_n 2, 1)), (14, (.iload 4, 2)), (16, (.iadd, 1)), (17, (.laload, 1)), (18, (.lconst 0, 1)), (19, (.lcmp, 1)), (20, (.ifCond .ge 16, 3)), (23, (.iload_n 3, 1)), (24, (.iload 4, 2)), (26, (.ishr, 1)), (27, (.iconst 1, 1)), (28, (.iand, 1)), (29, (.iconst 1, 1)), (30, (.if_icmp .ne 6, 3)), (33, (.iload 4, 2)), (35, (.ireturn, 1)), (36, (.iinc 4 1, 3)), (39, (.goto (-36), 3)), (42, (.iconst (-1), 1)), (43, (.ireturn, 1))]
def cd46 : List (Nat × (Instr × Nat)) := [(0, (.iconst 1, 1)), (1, (.aload_n 0, 1)), (2, (.getfield 18, 3)), (5, (.ishl, 1)), (6, (.iconst 1, 1)), (7, (.isub, 1)), (8, (.ireturn, 1))]
def cd47 : List (Nat × (Instr × Nat)) := [(0, (.aload_n 0, 1)), (1, (.invokespecial 3, 3)), (4, (.aload_n 0, 1)), (5, (.bipush 45, 2)), (7, (.newarray .long, 2)), (9, (.putfield 9, 3)), (12, (.aload_n 0, 1)), (13, (.bipush 9, 2)), (15, (.newarray .int, 2)), (17, (.putfield 15, 3)), (20, (.aload_n 0, 1)), (21, (.aload_n 1, 1)), (22, (.putfield 19, 3)), (25, (.aload_n 0, 1)), (26, (.aload_n 2, 1)), (27, (.putfield 23, 3)), (30, (.return_, 1))]
def cd48 : List (Nat × (Instr × Nat)) := [(0, (.aload_n 0, 1)), (1, (.getfield 23, 3)), (4, (.getfield 27, 3)), (7, (.iload_n 2, 1)), (8, (.iaload, 1)), (9, (.aload_n 0, 1)), (10, (.getfield 23, 3)), (13, (.getfield 27, 3)), (16, (.iload_n 1, 1)), (17, (.iaload, 1)), (18, (.isub, 1)), (19, (.istore 4, 2)), (21, (.iload 4, 2)), (23, (.ifCond .lt 9, 3)), (26, (.iload_n 3, 1)), (27, (.iload 4, 2)), (29, (.if_icmp .le 5, 3)), (32, (.iconst 0, 1)), (33, (.ireturn, 1)), (34, (.iconst 0, 1)), (35, (.istore 5, 2)), (37, (.iload 5, 2)), (39, (.bipush 8, 2)), (41, (.if_icmp .gt 17, 3)), (44, (.aload_n 0, 1)), (45, (.getfield 15, 3)), (48, (.iload 5, 2)), (50, (.iconst 0, 1)), (51, (.iastore, 1)), (52, (.iinc 5 1, 3)), (55, (.goto (-18), 3)), (58, (.aload_n 0, 1)), (59, (.getfield 19, 3)), (62, (.aload_n 0, 1)), (63, (.getfield 23, 3)), (66, (.getfield 32, 3)), (69, (.iload_n 1, 1)), (70, (.iconst 5, 1)), (71, (.imul, 1)), (72, (.aload_n 0, 1)), (73, (.getfield 9, 3)), (76, (.aload_n 0, 1)), (77, (.getfield 23, 3)), (80, (.getfield 27, 3)), (83, (.iload_n 2, 1)), (84, (.iaload, 1)), (85, (.iconst 5, 1)), (86, (.imul, 1)), (87, (.invokevirtual 35, 3)), (90, (.aload_n 0, 1)), (91, (.iload_n 2, 1)), (92, (.aload_n 0, 1)), (93, (.getfield 23, 3)), (96, (.getfield 27, 3)), (99, (.iload_n 2, 1)), (100, (.iaload, 1)), (101, (.aload_n 0, 1)), (102, (.getfield 23, 3)), (105, (.getfield 27, 3)), (108, (.iload_n 1, 1)), (109, (.iaload, 1)), (110, (.iconst 0, 1)), (111, (.invokestatic 41, 3)), (114, (.iconst 0, 1)), (115, (.istore 5, 2)), (117, (.iconst 0, 1)), (118, (.istore 6, 2)), (120, (.iconst 2, 1)), (121, (.iload 6, 2)), (123, (.imul, 1)), (124, (.iload 4, 2)), (126, (.if_icmp .gt 36, 3)), (129, (.iload 5, 2)), (131, (.aload_n 0, 1)), (132, (.getfield 15, 3)), (135, (.iload 6, 2)), (137, (.iaload, 1)), (138, (.iload 4, 2)), (140, (.iconst 2, 1)), (141, (.iload 6, 2)), (143, (.imul, 1)), (144, (.isub, 1)), (145, (.iload_n 3, 1)), (146, (.iload 6, 2)), (148, (.isub, 1)), (149, (.invokestatic 45, 3)), (152, (.imul, 1)), (153, (.iadd, 1)), (154, (.istore 5, 2)), (156, (.iinc 6 1, 3)), (159, (.goto (-39), 3)), (162, (.iload 5, 2)), (164, (.ireturn, 1))]
def cd49 : List (Nat × (Instr × Nat)) := [(0, (.iload_n 3, 1)), (1, (.iload_n 2, 1)), (2, (.if_icmp .gt 9, 3)), (5, (.iload_n 2, 1)), (6, (.bipush 8, 2)), (8, (.if_icmp .le 4, 3)), (11, (.return_, 1)), (12, (.iload_n 2, 1)), (13, (.ifCond .ne 15, 3)), (16, (.aload_n 0, 1)), (17, (.getfield 15, 3)), (20, (.iload 4, 2)), (22, (.dup2, 1)), (23, (.iaload, 1)), (24, (.iconst 1, 1)), (25, (.iadd, 1)), (26, (.iastore, 1)), (27, (.return_, 1)), (28, (.aload_n 0, 1)), (29, (.getfield 23, 3)), (32, (.iload_n 1, 1)), (33, (.iload_n 2, 1)), (34, (.iconst 1, 1)), (35, (.isub, 1)), (36, (.invokevirtual 49, 3)), (39, (.istore 5, 2)), (41, (.iload_n 2, 1)), (42, (.iconst 1, 1)), (43, (.isub, 1)), (44, (.iconst 5, 1)), (45, (.imul, 1)), (46, (.istore 6, 2)), (48, (.aload_n 0, 1)), (49, (.getfield 9, 3)), (52, (.iload_n 2, 1)), (53, (.iconst 5, 1)), (54, (.imul, 1)), (55, (.iload 5, 2)), (57, (.iadd, 1)), (58, (.laload, 1)), (59, (.lconst 0, 1)), (60, (.lcmp, 1)), (61, (.ifCond .ge 7, 3)), (64, (.iconst 1, 1)), (65, (.goto 4, 3)), (68, (.iconst 0, 1)), (69, (.istore 7, 2)), (71, (.aload_n 0, 1)), (72, (.getfield 19, 3)), (75, (.aload_n 0, 1)), (76, (.getfield 9, 3)), (79, (.iload_n 2, 1)), (80, (.iconst 5, 1)), (81, (.imul, 1)), (82, (.aload_n 0, 1)), (83, (.getfield 9, 3)), (86, (.iload 6, 2)), (88, (.invokevirtual 35, 3)), (91, (.iload 7, 2)), (93, (.ifCond .ne 14, 3)), (96, (.aload_n 0, 1)), (97, (.iload_n 1, 1)), (98, (.iload_n 2, 1)), (99, (.iconst 1, 1)), (100, (.isub, 1)), (101, (.iload_n 3, 1)), (102, (.iload 4, 2)), (104, (.invokestatic 41, 3)), (107, (.aload_n 0, 1)), (108, (.getfield 19, 3)), (111, (.aload_n 0, 1)), (112, (.getfield 9, 3)), (115, (.iload 6, 2)), (117, (.iload 5, 2)), (119, (.invokevirtual 52, 3)), (122, (.aload_n 0, 1)), (123, (.iload_n 1, 1)), (124, (.iload_n 2, 1)), (125, (.iconst 1, 1)), (126, (.isub, 1)), (127, (.iload 7, 2)), (129, (.ifCond .eq 9, 3)), (132, (.iload_n 3, 1)), (133, (.iconst 1, 1)), (134, (.isub, 1)), (135, (.goto 6, 3)), (138, (.iload_n 3, 1)), (139, (.iconst 1, 1)), (140, (.iadd, 1)), (141, (.iload 7, 2)), (143, (.ifCond .eq 8, 3)), (146, (.iload 4, 2)), (148, (.goto 7, 3)), (151, (.iload 4, 2)), (153, (.iconst 1, 1)), (154, (.iadd, 1)), (155, (.invokestatic 41, 3)), (158, (.return_, 1))]
def cd50 : List (Nat × (Instr × Nat)) := [(0, (.iload_n 1, 1)), (1, (.ifCond .lt 8, 3)), (4, (.iload_n 1, 1)), (5, (.iload_n 0, 1)), (6, (.if_icmp .le 5, 3)), (9, (.iconst 0, 1)), (10, (.ireturn, 1)), (11, (.iload_n 0, 1)), (12, (.iload_n 1, 1)), (13, (.isub, 1)), (14, (.iconst 2, 1)), (15, (.irem, 1)), (16, (.ifCond .ne 7, 3)), (19, (.iconst 1, 1)), (20, (.goto 4, 3)), (23, (.iconst (-1), 1)), (24, (.istore_n 2, 1)), (25, (.iconst 1, 1)), (26, (.istore_n 3, 1)), (27, (.iload_n 3, 1)), (28, (.iload_n 1, 1)), (29, (.if_icmp .gt 19, 3)), (32, (.iload_n 2, 1)), (33, (.iload_n 0, 1)), (34, (.iload_n 3, 1)), (35, (.isub, 1)), (36, (.iconst 1, 1)), (37, (.iadd, 1)), (38, (.imul, 1)), (39, (.iload_n 3, 1)), (40, (.idiv, 1)), (41, (.istore_n 2, 1)), (42, (.iinc 3 1, 3)), (45, (.goto (-18), 3)), (48, (.iload_n 2, 1)), (49, (.ireturn, 1))]
def cd51 : List (Nat × (Instr × Nat)) := [(0, (.aload_n 0, 1)), (1, (.invokespecial 3, 3)), (4, (.aload_n 0, 1)), (5, (.iconst 5, 1)), (6, (.newarray .long, 2)), (8, (.putfield 9, 3)), (11, (.aload_n 0, 1)), (12, (.bipush 25, 2)), (14, (.newarray .long, 2)), (16, (.putfield 15, 3)), (19, (.aload_n 0, 1)), (20, (.aload_n 1, 1)), (21, (.putfield 18, 3)), (24, (.aload_n 0, 1)), (25, (.aload_n 2, 1)), (26, (.putfield 22, 3)), (29, (.return_, 1))]
def cd52 : List (Nat × (Instr × Nat)) := [(0, (.aload_n 0, 1)), (1, (.getfield 22, 3)), (4, (.getfield 26, 3)), (7, (.iload_n 1, 1)), (8, (.iaload, 1)), (9, (.iconst 1, 1)), (10, (.isub, 1)), (11, (.istore 4, 2)), (13, (.iload 4, 2)), (15, (.ifCond .lt 28, 3)), (18, (.aload_n 0, 1)), (19, (.getfield 18, 3)), (22, (.aload_n 2, 1)), (23, (.iload_n 3, 1)), (24, (.aload_n 0, 1)), (25, (.getfield 22, 3)), (28, (.iload_n 1, 1)), (29, (.iload 4, 2)), (31, (.invokevirtual 32, 3)), (34, (.invokevirtual 36, 3)), (37, (.iinc 4 (-1), 3)), (40, (.goto (-27), 3)), (43, (.return_, 1))]
def cd53 : List (Nat × (Instr × Nat)) := [(0, (.aload_n 0, 1)), (1, (.getfield 18, 3)), (4, (.aload_n 0, 1)), (5, (.getfield 9, 3)), (8, (.iconst 0, 1)), (9, (.iload_n 2, 1)), (10, (.invokevirtual 42, 3)), (13, (.aload_n 0, 1)), (14, (.iload_n 1, 1)), (15, (.aload_n 0, 1)), (16, (.getfield 9, 3)), (19, (.iconst 0, 1)), (20, (.invokevirtual 45, 3)), (23, (.aload_n 0, 1)), (24, (.getfield 9, 3)), (27, (.iload_n 3, 1)), (28, (.laload, 1)), (29, (.lreturn, 1))]
def cd54 : List (Nat × (Instr × Nat)) := [(0, (.aload_n 0, 1)), (1, (.getfield 22, 3)), (4, (.getfield 26, 3)), (7, (.iload_n 1, 1)), (8, (.iaload, 1)), (9, (.iconst 1, 1)), (10, (.isub, 1)), (11, (.iload_n 2, 1)), (12, (.isub, 1)), (13, (.istore 4, 2)), (15, (.aload_n 0, 1)), (16, (.getfield 18, 3)), (19, (.aload_n 0, 1)), (20, (.getfield 9, 3)), (23, (.iconst 0, 1)), (24, (.aload_n 0, 1)), (25, (.getfield 22, 3)), (28, (.iload_n 1, 1)), (29, (.iload 4, 2)), (31, (.invokevirtual 32, 3)), (34, (.invokevirtual 42, 3)), (37, (.iload 4, 2)), (39, (.iconst 1, 1)), (40, (.iadd, 1)), (41, (.istore 5, 2)), (43, (.iload 5, 2)), (45, (.aload_n 0, 1)), (46, (.getfield 22, 3)), (49, (.getfield 26, 3)), (52, (.iload_n 1, 1)), (53, (.iaload, 1)), (54, (.if_icmp .ge 31, 3)), (57, (.aload_n 0, 1)), (58, (.getfield 18, 3)), (61, (.aload_n 0, 1)), (62, (.getfield 9, 3)), (65, (.iconst 0, 1)), (66, (.aload_n 0, 1)), (67, (.getfield 22, 3)), (70, (.iload_n 1, 1)), (71, (.iload 5, 2)), (73, (.invokevirtual 32, 3)), (76, (.invokevirtual 36, 3)), (79, (.iinc 5 1, 3)), (82, (.goto (-39), 3)), (85, (.aload_n 0, 1)), (86, (.getfield 9, 3)), (89, (.iload_n 3, 1)), (90, (.laload, 1)), (91, (.lreturn, 1))]
def cd55 : List (Nat × (Instr × Nat)) := [(0, (.aload_n 0, 1)), (1, (.getfield 18, 3)), (4, (.aload_n 0, 1)), (5, (.getfield 9, 3)), (8, (.iconst 0, 1)), (9, (.iload_n 2, 1)), (10, (.invokevirtual 42, 3)), (13, (.aload_n 0, 1)), (14, (.getfield 22, 3)), (17, (.getfield 26, 3)), (20, (.iload_n 1, 1)), (21, (.iaload, 1)), (22, (.iconst 1, 1)), (23, (.isub, 1)), (24, (.istore_n 3, 1)), (25, (.iload_n 3, 1)), (26, (.ifCond .lt 48, 3)), (29, (.aload_n 0, 1)), (30, (.getfield 22, 3)), (33, (.iload_n 1, 1)), (34, (.iload_n 3, 1)), (35, (.invokevirtual 32, 3)), (38, (.istore 4, 2)), (40, (.aload_n 0, 1)), (41, (.getfield 18, 3)), (44, (.aload_n 0, 1)), (45, (.getfield 9, 3)), (48, (.iconst 0, 1)), (49, (.iload 4, 2)), (51, (.invokevirtual 36, 3)), (54, (.aload_n 0, 1)), (55, (.getfield 9, 3)), (58, (.iload 4, 2)), (60, (.laload, 1)), (61, (.lconst 0, 1)), (62, (.lcmp, 1)), (63, (.ifCond .ge 5, 3)), (66, (.iload_n 3, 1)), (67, (.ireturn, 1)), (68, (.iinc 3 (-1), 3)), (71, (.goto (-46), 3)), (74, (.iconst (-1), 1)), (75, (.ireturn, 1))]
def cd56 : List (Nat × (Instr × Nat)) := [(0, (.iconst 0, 1)), (1, (.istore_n 2, 1)), (2, (.iload_n 2, 1)), (3, (.aload_n 0, 1)), (4, (.getfield 18, 3)), (7, (.getfield 49, 3)), (10, (.if_icmp .ge 24, 3)), (13, (.aload_n 0, 1)), (14, (.getfield 18, 3)), (17, (.aload_n 0, 1)), (18, (.getfield 15, 3)), (21, (.iload_n 2, 1)), (22, (.iconst 5, 1)), (23, (.imul, 1)), (24, (.iload_n 2, 1)), (25, (.invokevirtual 42, 3)), (28, (.iinc 2 1, 3)), (31, (.goto (-29), 3)), (34, (.iconst 1, 1)), (35, (.istore_n 2, 1)), (36, (.iload_n 2, 1)), (37, (.bipush 30, 2)), (39, (.if_icmp .gt 58, 3)), (42, (.iconst 0, 1)), (43, (.istore_n 3, 1)), (44, (.iload_n 3, 1)), (45, (.aload_n 0, 1)), (46, (.getfield 18, 3)), (49, (.getfield 49, 3)), (52, (.if_icmp .ge 21, 3)), (55, (.aload_n 0, 1)), (56, (.iload_n 1, 1)), (57, (.aload_n 0, 1)), (58, (.getfield 15, 3)), (61, (.iload_n 3, 1)), (62, (.iconst 5, 1)), (63, (.imul, 1)), (64, (.invokevirtual 45, 3)), (67, (.iinc 3 1, 3)), (70, (.goto (-26), 3)), (73, (.aload_n 0, 1)), (74, (.invokevirtual 53, 3)), (77, (.ifCond .eq 5, 3)), (80, (.iload_n 2, 1)), (81, (.ireturn, 1)), (82, (.aload_n 0, 1)), (83, (.invokevirtual 57, 3)), (86, (.ifCond .eq 5, 3)), (89, (.iconst (-1), 1)), (90, (.ireturn, 1)), (91, (.iinc 2 1, 3)), (94, (.goto (-58), 3)), (97, (.iconst (-1), 1)), (98, (.ireturn, 1))]
def cd57 : List (Nat × (Instr × Nat)) := [(0, (.iconst 0, 1)), (1, (.istore_n 1, 1)), (2, (.iload_n 1, 1)), (3, (.aload_n 0, 1)), (4, (.getfield 18, 3)), (7, (.getfield 49, 3)), (10, (.if_icmp .ge 46, 3)), (13, (.aload_n 0, 1)), (14, (.getfield 18, 3)), (17, (.aload_n 0, 1)), (18, (.getfield 9, 3)), (21, (.iconst 0, 1)), (22, (.iload_n 1, 1)), (23, (.invokevirtual 42, 3)), (26, (.aload_n 0, 1)), (27, (.getfield 18, 3)), (30, (.aload_n 0, 1)), (31, (.getfield 9, 3)), (34, (.iconst 0, 1)), (35, (.aload_n 0, 1)), (36, (.getfield 15, 3)), (39, (.iload_n 1, 1)), (40, (.iconst 5, 1)), (41, (.imul, 1)), (42, (.invokevirtual 60, 3)), (45, (.ifCond .ne 5, 3)), (48, (.iconst 0, 1)), (49, (.ireturn, 1)), (50, (.iinc 1 1, 3)), (53, (.goto (-51), 3)), (56, (.iconst 1, 1)), (57, (.ireturn, 1))]
def cd58 : List (Nat × (Instr × Nat)) := [(0, (.iconst 0, 1)), (1, (.istore_n 1, 1)), (2, (.iload_n 1, 1)), (3, (.aload_n 0, 1)), (4, (.getfield 18, 3)), (7, (.getfield 49, 3)), (10, (.if_icmp .ge 57, 3)), (13, (.iconst 0, 1)), (14, (.istore_n 2, 1)), (15, (.iload_n 2, 1)), (16, (.aload_n 0, 1)), (17, (.getfield 18, 3)), (20, (.getfield 49, 3)), (23, (.if_icmp .ge 38, 3)), (26, (.aload_n 0, 1)), (27, (.getfield 15, 3)), (30, (.iload_n 1, 1)), (31, (.iconst 5, 1)), (32, (.imul, 1)), (33, (.iload_n 2, 1)), (34, (.iadd, 1)), (35, (.laload, 1)), (36, (.lstore_n 3, 1)), (37, (.lload_n 3, 1)), (38, (.ldc2_w 64, 3)), (41, (.lcmp, 1)), (42, (.ifCond .gt 11, 3)), (45, (.lload_n 3, 1)), (46, (.ldc2_w 66, 3)), (49, (.lcmp, 1)), (50, (.ifCond .ge 5, 3)), (53, (.iconst 1, 1)), (54, (.ireturn, 1)), (55, (.iinc 2 1, 3)), (58, (.goto (-43), 3)), (61, (.iinc 1 1, 3)), (64, (.goto (-62), 3)), (67, (.iconst 0, 1)), (68, (.ireturn, 1))]
def cd59 : List (Nat × (Instr × Nat)) := [(0, (.aload_n 0, 1)), (1, (.invokespecial 3, 3)), (4, (.aload_n 0, 1)), (5, (.iconst 0, 1)), (6, (.putfield 9, 3)), (9, (.aload_n 0, 1)), (10, (.aload_n 1, 1)), (11, (.putfield 15, 3)), (14, (.aload_n 0, 1)), (15, (.iload_n 2, 1)), (16, (.putfield 19, 3)), (19, (.aload_n 0, 1)), (20, (.iload_n 2, 1)), (21, (.iconst 5, 1)), (22, (.imul, 1)), (23, (.newarray .long, 2)), (25, (.putfield 22, 3)), (28, (.aload_n 0, 1)), (29, (.iload_n 2, 1)), (30, (.newarray .int, 2)), (32, (.putfield 26, 3)), (35, (.aload_n 0, 1)), (36, (.iload_n 2, 1)), (37, (.iconst 2, 1)), (38, (.imul, 1)), (39, (.newarray .int, 2)), (41, (.putfield 30, 3)), (44, (.aload_n 0, 1)), (45, (.iload_n 2, 1)), (46, (.newarray .int, 2)), (48, (.putfield 33, 3)), (51, (.return_, 1))]
def cd60 : List (Nat × (Instr × Nat)) := [(0, (.aload_n 0, 1)), (1, (.iconst 0, 1)), (2, (.putfield 9, 3)), (5, (.return_, 1))]
def cd61 : List (Nat × (Instr × Nat)) := [(0, (.aload_n 0, 1)), (1, (.getfield 22, 3)), (4, (.iload_n 1, 1)), (5, (.iconst 5, 1)), (6, (.imul, 1)), (7, (.iload_n 2, 1)), (8, (.iadd, 1)), (9, (.laload, 1)), (10, (.lconst 0, 1)), (11, (.lcmp, 1)), (12, (.ifCond .ge 7, 3)), (15, (.iconst 1, 1)), (16, (.goto 4, 3)), (19, (.iconst 0, 1)), (20, (.ireturn, 1))]
def cd62 : List (Nat × (Instr × Nat)) := [(0, (.aload_n 0, 1)), (1, (.aload_n 1, 1)), (2, (.invokevirtual 36, 3)), (5, (.istore_n 3, 1)), (6, (.iload_n 3, 1)), (7, (.iconst (-1), 1)), (8, (.if_icmp .ne 5, 3)), (11, (.iconst (-1), 1)), (12, (.ireturn, 1)), (13, (.aload_n 0, 1)), (14, (.iload_n 3, 1)), (15, (.invokevirtual 40, 3)), (18, (.ifCond .eq 10, 3)), (21, (.aload_n 0, 1)), (22, (.getfield 30, 3)), (25, (.iload_n 3, 1)), (26, (.iaload, 1)), (27, (.ireturn, 1)), (28, (.aload_n 0, 1)), (29, (.aload_n 1, 1)), (30, (.iload_n 2, 1)), (31, (.invokevirtual 44, 3)), (34, (.ifCond .ne 5, 3)), (37, (.iconst (-1), 1)), (38, (.ireturn, 1)), (39, (.aload_n 0, 1)), (40, (.getfield 30, 3)), (43, (.iload_n 3, 1)), (44, (.aload_n 0, 1)), (45, (.getfield 9, 3)), (48, (.iconst 1, 1)), (49, (.isub, 1)), (50, (.iastore, 1)), (51, (.aload_n 0, 1)), (52, (.getfield 33, 3)), (55, (.aload_n 0, 1)), (56, (.getfield 9, 3)), (59, (.iconst 1, 1)), (60, (.isub, 1)), (61, (.iload_n 3, 1)), (62, (.iastore, 1)), (63, (.aload_n 0, 1)), (64, (.getfield 9, 3)), (67, (.iconst 1, 1)), (68, (.isub, 1)), (69, (.ireturn, 1))]
def cd63 : List (Nat × (Instr × Nat)) := [(0, (.aload_n 0, 1)), (1, (.aload_n 1, 1)), (2, (.invokevirtual 36, 3)), (5, (.istore_n 2, 1)), (6, (.iload_n 2, 1)), (7, (.iconst (-1), 1)), (8, (.if_icmp .eq 20, 3)), (11, (.aload_n 0, 1)), (12, (.iload_n 2, 1)), (13, (.invokevirtual 40, 3)), (16, (.ifCond .eq 12, 3)), (19, (.aload_n 0, 1)), (20, (.getfield 30, 3)), (23, (.iload_n 2, 1)), (24, (.iaload, 1)), (25, (.goto 4, 3)), (28, (.iconst (-1), 1)), (29, (.ireturn, 1))]
def cd64 : List (Nat × (Instr × Nat)) := [(0, (.aload_n 0, 1)), (1, (.getfield 9, 3)), (4, (.aload_n 0, 1)), (5, (.getfield 19, 3)), (8, (.if_icmp .lt 5, 3)), (11, (.iconst 0, 1)), (12, (.ireturn, 1)), (13, (.aload_n 0, 1)), (14, (.getfield 15, 3)), (17, (.aload_n 1, 1)), (18, (.iconst 0, 1)), (19, (.aload_n 0, 1)), (20, (.getfield 22, 3)), (23, (.aload_n 0, 1)), (24, (.getfield 9, 3)), (27, (.iconst 5, 1)), (28, (.imul, 1)), (29, (.invokevirtual 48, 3)), (32, (.aload_n 0, 1)), (33, (.getfield 26, 3)), (36, (.aload_n 0, 1)), (37, (.getfield 9, 3)), (40, (.iload_n 2, 1)), (41, (.iastore, 1)), (42, (.aload_n 0, 1)), (43, (.dup, 1)), (44, (.getfield 9, 3)), (47, (.iconst 1, 1)), (48, (.iadd, 1)), (49, (.putfield 9, 3)), (52, (.iconst 1, 1)), (53, (.ireturn, 1))]
def cd65 : List (Nat × (Instr × Nat)) := [(0, (.aload_n 0, 1)), (1, (.getfield 30, 3)), (4, (.iload_n 1, 1)), (5, (.iaload, 1)), (6, (.istore_n 2, 1)), (7, (.iload_n 2, 1)), (8, (.aload_n 0, 1)), (9, (.getfield 9, 3)), (12, (.if_icmp .ge 17, 3)), (15, (.aload_n 0, 1)), (16, (.getfield 33, 3)), (19, (.iload_n 2, 1)), (20, (.iaload, 1)), (21, (.iload_n 1, 1)), (22, (.if_icmp .ne 7, 3)), (25, (.iconst 1, 1)), (26, (.goto 4, 3)), (29, (.iconst 0, 1)), (30, (.ireturn, 1))]
def cd66 : List (Nat × (Instr × Nat)) := [(0, (.aload_n 0, 1)), (1, (.aload_n 1, 1)), (2, (.invokevirtual 54, 3)), (5, (.istore_n 2, 1)), (6, (.iconst 0, 1)), (7, (.istore_n 3, 1)), (8, (.iload_n 3, 1)), (9, (.aload_n 0, 1)), (10, (.getfield 30, 3)), (13, (.arraylength, 1)), (14, (.if_icmp .ge 62, 3)), (17, (.aload_n 0, 1)), (18, (.iload_n 2, 1)), (19, (.invokevirtual 40, 3)), (22, (.ifCond .eq 27, 3)), (25, (.aload_n 0, 1)), (26, (.getfield 15, 3)), (29, (.aload_n 1, 1)), (30, (.iconst 0, 1)), (31, (.aload_n 0, 1)), (32, (.getfield 22, 3)), (35, (.aload_n 0, 1)), (36, (.getfield 30, 3)), (39, (.iload_n 2, 1)), (40, (.iaload, 1)), (41, (.iconst 5, 1)), (42, (.imul, 1)), (43, (.invokevirtual 57, 3)), (46, (.ifCond .eq 5, 3)), (49, (.iload_n 2, 1)), (50, (.ireturn, 1)), (51, (.iload_n 2, 1)), (52, (.iconst 1, 1)), (53, (.iadd, 1)), (54, (.aload_n 0, 1)), (55, (.getfield 30, 3)), (58, (.arraylength, 1)), (59, (.if_icmp .ge 9, 3)), (62, (.iload_n 2, 1)), (63, (.iconst 1, 1)), (64, (.iadd, 1)), (65, (.goto 4, 3)), (68, (.iconst 0, 1)), (69, (.istore_n 2, 1)), (70, (.iinc 3 1, 3)), (73, (.goto (-65), 3)), (76, (.iconst (-1), 1)), (77, (.ireturn, 1))]
def cd67 : List (Nat × (Instr × Nat)) := [(0, (.lconst 0, 1)), (1, (.lstore_n 2, 1)), (2, (.iconst 0, 1)), (3, (.istore 4, 2)), (5, (.iload 4, 2)), (7, (.aload_n 0, 1)), (8, (.getfield 15, 3)), (11, (.getfield 61, 3)), (14, (.if_icmp .ge 20, 3)), (17, (.lload_n 2, 1)), (18, (.ldc2_w 62, 3)), (21, (.lmul, 1)), (22, (.aload_n 1, 1)), (23, (.iload 4, 2)), (25, (.laload, 1)), (26, (.ladd, 1)), (27, (.lstore_n 2, 1)), (28, (.iinc 4 1, 3)), (31, (.goto (-26), 3)), (34, (.lload_n 2, 1)), (35, (.lload_n 2, 1)), (36, (.bipush 32, 2)), (38, (.lushr, 1)), (39, (.lxor, 1)), (40, (.lstore_n 2, 1)), (41, (.lload_n 2, 1)), (42, (.l2i, 1)), (43, (.aload_n 0, 1)), (44, (.getfield 30, 3)), (47, (.arraylength, 1)), (48, (.iconst 1, 1)), (49, (.isub, 1)), (50, (.iand, 1)), (51, (.ireturn, 1))]
def cd68 : List (Nat × (Instr × Nat)) := [(0, (.aload_n 0, 1)), (1, (.invokespecial 3, 3)), (4, (.aload_n 0, 1)), (5, (.sipush 7500, 3)), (8, (.newarray .long, 2)), (10, (.putfield 11, 3)), (13, (.aload_n 0, 1)), (14, (.iconst 5, 1)), (15, (.newarray .long, 2)), (17, (.putfield 15, 3)), (20, (.aload_n 0, 1)), (21, (.iconst (-1), 1)), (22, (.putfield 18, 3)), (25, (.aload_n 0, 1)), (26, (.aload_n 1, 1)), (27, (.putfield 22, 3)), (30, (.aload_n 0, 1)), (31, (.aload_n 2, 1)), (32, (.putfield 26, 3)), (35, (.aload_n 0, 1)), (36, (.new 30, 3)), (39, (.dup, 1)), (40, (.aload_n 1, 1)), (41, (.sipush 512, 3)), (44, (.invokespecial 32, 3)), (47, (.putfield 35, 3)), (50, (.return_, 1))]
def cd69 : List (Nat × (Instr × Nat)) := [(0, (.aload_n 0, 1)), (1, (.iconst (-1), 1)), (2, (.putfield 18, 3)), (5, (.return_, 1))]
def cd70 : List (Nat × (Instr × Nat)) := [(0, (.aload_n 0, 1)), (1, (.getfield 18, 3)), (4, (.iload_n 1, 1)), (5, (.if_icmp .eq 29, 3)), (8, (.aload_n 0, 1)), (9, (.aload_n 0, 1)), (10, (.iload_n 1, 1)), (11, (.invokevirtual 39, 3)), (14, (.ifCond .ne 7, 3)), (17, (.iconst 1, 1)), (18, (.goto 4, 3)), (21, (.iconst 0, 1)), (22, (.putfield 43, 3)), (25, (.aload_n 0, 1)), (26, (.invokevirtual 47, 3)), (29, (.aload_n 0, 1)), (30, (.iload_n 1, 1)), (31, (.putfield 18, 3)), (34, (.aload_n 0, 1)), (35, (.getfield 43, 3)), (38, (.ifCond .eq 7, 3)), (41, (.sipush (-1005), 3)), (44, (.ireturn, 1)), (45, (.iload_n 2, 1)), (46, (.ifCond .ne 8, 3)), (49, (.aload_n 0, 1)), (50, (.getfield 50, 3)), (53, (.ireturn, 1)), (54, (.iload_n 2, 1)), (55, (.iconst 1, 1)), (56, (.if_icmp .ne 10, 3)), (59, (.aload_n 0, 1)), (60, (.getfield 53, 3)), (63, (.goto 7, 3)), (66, (.aload_n 0, 1)), (67, (.getfield 56, 3)), (70, (.ireturn, 1))]
def cd71 : List (Nat × (Instr × Nat)) := [(0, (.aload_n 0, 1)), (1, (.aload_n 0, 1)), (2, (.getfield 35, 3)), (5, (.getfield 59, 3)), (8, (.putfield 56, 3)), (11, (.aload_n 0, 1)), (12, (.bipush 20, 2)), (14, (.putfield 50, 3)), (17, (.iconst 0, 1)), (18, (.istore_n 1, 1)), (19, (.iload_n 1, 1)), (20, (.aload_n 0, 1)), (21, (.getfield 56, 3)), (24, (.if_icmp .ge 29, 3)), (27, (.aload_n 0, 1)), (28, (.aload_n 0, 1)), (29, (.getfield 50, 3)), (32, (.aload_n 0, 1)), (33, (.getfield 35, 3)), (36, (.getfield 62, 3)), (39, (.iload_n 1, 1)), (40, (.iaload, 1)), (41, (.invokestatic 66, 3)), (44, (.putfield 50, 3)), (47, (.iinc 1 1, 3)), (50, (.goto (-31), 3)), (53, (.aload_n 0, 1)), (54, (.iconst 0, 1)), (55, (.putfield 53, 3)), (58, (.iconst 0, 1)), (59, (.istore_n 1, 1)), (60, (.iload_n 1, 1)), (61, (.aload_n 0, 1)), (62, (.getfield 56, 3)), (65, (.if_icmp .ge 35, 3)), (68, (.aload_n 0, 1)), (69, (.getfield 35, 3)), (72, (.getfield 62, 3)), (75, (.iload_n 1, 1)), (76, (.iaload, 1)), (77, (.aload_n 0, 1)), (78, (.getfield 50, 3)), (81, (.if_icmp .ne 13, 3)), (84, (.aload_n 0, 1)), (85, (.dup, 1)), (86, (.getfield 53, 3)), (89, (.iconst 1, 1)), (90, (.iadd, 1)), (91, (.putfield 53, 3)), (94, (.iinc 1 1, 3)), (97, (.goto (-37), 3)), (100, (.return_, 1))]
def cd72 : List (Nat × (Instr × Nat)) := [(0, (.aload_n 0, 1)), (1, (.getfield 35, 3)), (4, (.invokevirtual 72, 3)), (7, (.aload_n 0, 1)), (8, (.getfield 22, 3)), (11, (.aload_n 0, 1)), (12, (.getfield 26, 3)), (15, (.getfield 75, 3)), (18, (.iload_n 1, 1)), (19, (.iconst 5, 1)), (20, (.imul, 1)), (21, (.aload_n 0, 1)), (22, (.getfield 15, 3)), (25, (.iconst 0, 1)), (26, (.invokevirtual 80, 3)), (29, (.aload_n 0, 1)), (30, (.getfield 35, 3)), (33, (.aload_n 0, 1)), (34, (.getfield 15, 3)), (37, (.aload_n 0, 1)), (38, (.getfield 26, 3)), (41, (.getfield 86, 3)), (44, (.iload_n 1, 1)), (45, (.iaload, 1)), (46, (.invokevirtual 87, 3)), (49, (.pop, 1)), (50, (.iconst 0, 1)), (51, (.istore_n 2, 1)), (52, (.iload_n 2, 1)), (53, (.aload_n 0, 1)), (54, (.getfield 22, 3)), (57, (.getfield 91, 3)), (60, (.if_icmp .ge 69, 3)), (63, (.aload_n 0, 1)), (64, (.getfield 22, 3)), (67, (.aload_n 0, 1)), (68, (.getfield 11, 3)), (71, (.iload_n 2, 1)), (72, (.iconst 5, 1)), (73, (.imul, 1)), (74, (.iload_n 2, 1)), (75, (.invokevirtual 92, 3)), (78, (.aload_n 0, 1)), (79, (.getfield 26, 3)), (82, (.getfield 86, 3)), (85, (.iload_n 1, 1)), (86, (.iaload, 1)), (87, (.iconst 1, 1)), (88, (.isub, 1)), (89, (.istore_n 3, 1)), (90, (.iload_n 3, 1)), (91, (.ifCond .lt 32, 3)), (94, (.aload_n 0, 1)), (95, (.getfield 22, 3)), (98, (.aload_n 0, 1)), (99, (.getfield 11, 3)), (102, (.iload_n 2, 1)), (103, (.iconst 5, 1)), (104, (.imul, 1)), (105, (.aload_n 0, 1)), (106, (.getfield 26, 3)), (109, (.iload_n 1, 1)), (110, (.iload_n 3, 1)), (111, (.invokevirtual 96, 3)), (114, (.invokevirtual 99, 3)), (117, (.iinc 3 (-1), 3)), (120, (.goto (-30), 3)), (123, (.iinc 2 1, 3)), (126, (.goto (-74), 3)), (129, (.iconst 0, 1)), (130, (.istore_n 2, 1)), (131, (.iload_n 2, 1)), (132, (.aload_n 0, 1)), (133, (.getfield 35, 3)), (136, (.getfield 59, 3)), (139, (.if_icmp .ge 46, 3)), (142, (.iload_n 2, 1)), (143, (.sipush 300, 3)), (146, (.if_icmp .ge 39, 3)), (149, (.iconst 0, 1)), (150, (.istore_n 3, 1)), (151, (.iload_n 3, 1)), (152, (.aload_n 0, 1)), (153, (.getfield 22, 3)), (156, (.getfield 91, 3)), (159, (.if_icmp .ge 20, 3)), (162, (.aload_n 0, 1)), (163, (.iload_n 2, 1)), (164, (.iload_n 3, 1)), (165, (.invokevirtual 102, 3)), (168, (.ifCond .ne 5, 3)), (171, (.iconst 0, 1)), (172, (.ireturn, 1)), (173, (.iinc 3 1, 3)), (176, (.goto (-25), 3)), (179, (.iinc 2 1, 3)), (182, (.goto (-51), 3)), (185, (.iconst 1, 1)), (186, (.ireturn, 1))]
def cd73 : List (Nat × (Instr × Nat)) := [(0, (.aload_n 0, 1)), (1, (.getfield 35, 3)), (4, (.getfield 62, 3)), (7, (.iload_n 1, 1)), (8, (.iaload, 1)), (9, (.aload_n 0, 1)), (10, (.iload_n 1, 1)), (11, (.iload_n 2, 1)), (12, (.invokevirtual 106, 3)), (15, (.iadd, 1)), (16, (.istore_n 3, 1)), (17, (.iload_n 3, 1)), (18, (.aload_n 0, 1)), (19, (.getfield 15, 3)), (22, (.iload_n 2, 1)), (23, (.laload, 1)), (24, (.lconst 0, 1)), (25, (.lcmp, 1)), (26, (.ifCond .ge 7, 3)), (29, (.iconst (-1), 1)), (30, (.goto 4, 3)), (33, (.iconst 1, 1)), (34, (.iadd, 1)), (35, (.istore_n 3, 1)), (36, (.iload_n 3, 1)), (37, (.aload_n 0, 1)), (38, (.getfield 35, 3)), (41, (.getfield 62, 3)), (44, (.iload_n 1, 1)), (45, (.iaload, 1)), (46, (.if_icmp .le 5, 3)), (49, (.iconst 1, 1)), (50, (.ireturn, 1)), (51, (.aload_n 0, 1)), (52, (.getfield 22, 3)), (55, (.aload_n 0, 1)), (56, (.getfield 15, 3)), (59, (.iconst 0, 1)), (60, (.iload_n 2, 1)), (61, (.invokevirtual 109, 3)), (64, (.aload_n 0, 1)), (65, (.getfield 35, 3)), (68, (.getfield 59, 3)), (71, (.sipush 300, 3)), (74, (.if_icmp .ge 39, 3)), (77, (.aload_n 0, 1)), (78, (.getfield 35, 3)), (81, (.getfield 59, 3)), (84, (.istore 4, 2)), (86, (.aload_n 0, 1)), (87, (.getfield 35, 3)), (90, (.aload_n 0, 1)), (91, (.getfield 15, 3)), (94, (.iload_n 3, 1)), (95, (.invokevirtual 87, 3)), (98, (.iload 4, 2)), (100, (.if_icmp .ne 11, 3)), (103, (.aload_n 0, 1)), (104, (.iload_n 1, 1)), (105, (.iload_n 2, 1)), (106, (.iload 4, 2)), (108, (.invokevirtual 112, 3)), (111, (.iconst 1, 1)), (112, (.ireturn, 1)), (113, (.aload_n 0, 1)), (114, (.getfield 35, 3)), (117, (.aload_n 0, 1)), (118, (.getfield 15, 3)), (121, (.invokevirtual 116, 3)), (124, (.iconst (-1), 1)), (125, (.if_icmp .eq 7, 3)), (128, (.iconst 1, 1)), (129, (.goto 4, 3)), (132, (.iconst 0, 1)), (133, (.ireturn, 1))]
def cd74 : List (Nat × (Instr × Nat)) := [(0, (.iload_n 1, 1)), (1, (.bipush 25, 2)), (3, (.imul, 1)), (4, (.iload_n 2, 1)), (5, (.iconst 5, 1)), (6, (.imul, 1)), (7, (.iadd, 1)), (8, (.istore_n 3, 1)), (9, (.iconst 1, 1)), (10, (.istore 4, 2)), (12, (.iconst 0, 1)), (13, (.istore 5, 2)), (15, (.iload 5, 2)), (17, (.aload_n 0, 1)), (18, (.getfield 22, 3)), (21, (.getfield 91, 3)), (24, (.if_icmp .ge 105, 3)), (27, (.lconst 0, 1)), (28, (.lstore 6, 2)), (30, (.iconst 0, 1)), (31, (.istore 8, 2)), (33, (.iload 8, 2)), (35, (.aload_n 0, 1)), (36, (.getfield 22, 3)), (39, (.getfield 91, 3)), (42, (.if_icmp .ge 40, 3)), (45, (.lload 6, 2)), (47, (.aload_n 0, 1)), (48, (.getfield 22, 3)), (51, (.getfield 120, 3)), (54, (.iload 5, 2)), (56, (.iconst 5, 1)), (57, (.imul, 1)), (58, (.iload 8, 2)), (60, (.iadd, 1)), (61, (.iaload, 1)), (62, (.i2l, 1)), (63, (.aload_n 0, 1)), (64, (.getfield 11, 3)), (67, (.iload_n 3, 1)), (68, (.iload 8, 2)), (70, (.iadd, 1)), (71, (.laload, 1)), (72, (.lmul, 1)), (73, (.ladd, 1)), (74, (.lstore 6, 2)), (76, (.iinc 8 1, 3)), (79, (.goto (-46), 3)), (82, (.aload_n 0, 1)), (83, (.getfield 15, 3)), (86, (.iload 5, 2)), (88, (.aload_n 0, 1)), (89, (.getfield 35, 3)), (92, (.getfield 123, 3)), (95, (.iload_n 1, 1)), (96, (.iconst 5, 1)), (97, (.imul, 1)), (98, (.iload 5, 2)), (100, (.iadd, 1)), (101, (.laload, 1)), (102, (.lload 6, 2)), (104, (.lsub, 1)), (105, (.lastore, 1)), (106, (.aload_n 0, 1)), (107, (.getfield 11, 3)), (110, (.iload_n 3, 1)), (111, (.iload 5, 2)), (113, (.iadd, 1)), (114, (.laload, 1)), (115, (.lconst 0, 1)), (116, (.lcmp, 1)), (117, (.ifCond .ge 6, 3)), (120, (.iconst (-1), 1)), (121, (.istore 4, 2)), (123, (.iinc 5 1, 3)), (126, (.goto (-111), 3)), (129, (.iload 4, 2)), (131, (.ireturn, 1))]
def cd75 : List (Nat × (Instr × Nat)) := [(0, (.iload_n 1, 1)), (1, (.bipush 25, 2)), (3, (.imul, 1)), (4, (.iload_n 2, 1)), (5, (.iconst 5, 1)), (6, (.imul, 1)), (7, (.iadd, 1)), (8, (.istore 4, 2)), (10, (.iconst 0, 1)), (11, (.istore 5, 2)), (13, (.iload 5, 2)), (15, (.aload_n 0, 1)), (16, (.getfield 22, 3)), (19, (.getfield 91, 3)), (22, (.if_icmp .ge 117, 3)), (25, (.iload_n 1, 1)), (26, (.bipush 25, 2)), (28, (.imul, 1)), (29, (.iload 5, 2)), (31, (.iconst 5, 1)), (32, (.imul, 1)), (33, (.iadd, 1)), (34, (.istore 6, 2)), (36, (.iload_n 3, 1)), (37, (.bipush 25, 2)), (39, (.imul, 1)), (40, (.iload 5, 2)), (42, (.iconst 5, 1)), (43, (.imul, 1)), (44, (.iadd, 1)), (45, (.istore 7, 2)), (47, (.aload_n 0, 1)), (48, (.getfield 22, 3)), (51, (.getfield 120, 3)), (54, (.iload_n 2, 1)), (55, (.iconst 5, 1)), (56, (.imul, 1)), (57, (.iload 5, 2)), (59, (.iadd, 1)), (60, (.iaload, 1)), (61, (.i2l, 1)), (62, (.lstore 8, 2)), (64, (.iconst 0, 1)), (65, (.istore 10, 2)), (67, (.iload 10, 2)), (69, (.aload_n 0, 1)), (70, (.getfield 22, 3)), (73, (.getfield 91, 3)), (76, (.if_icmp .ge 43, 3)), (79, (.aload_n 0, 1)), (80, (.getfield 11, 3)), (83, (.iload 7, 2)), (85, (.iload 10, 2)), (87, (.iadd, 1)), (88, (.aload_n 0, 1)), (89, (.getfield 11, 3)), (92, (.iload 6, 2)), (94, (.iload 10, 2)), (96, (.iadd, 1)), (97, (.laload, 1)), (98, (.lload 8, 2)), (100, (.aload_n 0, 1)), (101, (.getfield 11, 3)), (104, (.iload 4, 2)), (106, (.iload 10, 2)), (108, (.iadd, 1)), (109, (.laload, 1)), (110, (.lmul, 1)), (111, (.lsub, 1)), (112, (.lastore, 1)), (113, (.iinc 10 1, 3)), (116, (.goto (-49), 3)), (119, (.aload_n 0, 1)), (120, (.getfield 22, 3)), (123, (.aload_n 0, 1)), (124, (.getfield 11, 3)), (127, (.iload 7, 2)), (129, (.iload_n 2, 1)), (130, (.invokevirtual 99, 3)), (133, (.iinc 5 1, 3)), (136, (.goto (-123), 3)), (139, (.return_, 1))]
def cd76 : List (Nat × (Instr × Nat)) := [(0, (.aload_n 0, 1)), (1, (.invokespecial 3, 3)), (4, (.aload_n 0, 1)), (5, (.bipush 120, 2)), (7, (.newarray .int, 2)), (9, (.putfield 9, 3)), (12, (.aload_n 0, 1)), (13, (.iconst 0, 1)), (14, (.putfield 15, 3)), (17, (.aload_n 0, 1)), (18, (.iconst (-1), 1)), (19, (.putfield 19, 3)), (22, (.aload_n 0, 1)), (23, (.bipush 25, 2)), (25, (.newarray .int, 2)), (27, (.putfield 22, 3)), (30, (.aload_n 0, 1)), (31, (.bipush 25, 2)), (33, (.newarray .boolean, 2)), (35, (.putfield 25, 3)), (38, (.return_, 1))]
def cd77 : List (Nat × (Instr × Nat)) := [(0, (.aload_n 0, 1)), (1, (.getfield 15, 3)), (4, (.iload_n 1, 1)), (5, (.iadd, 1)), (6, (.bipush 120, 2)), (8, (.if_icmp .le 7, 3)), (11, (.sipush (-1004), 3)), (14, (.ireturn, 1)), (15, (.iload_n 1, 1)), (16, (.iconst 1, 1)), (17, (.isub, 1)), (18, (.istore 4, 2)), (20, (.iload 4, 2)), (22, (.ifCond .lt 40, 3)), (25, (.aload_n 0, 1)), (26, (.getfield 9, 3)), (29, (.aload_n 0, 1)), (30, (.getfield 15, 3)), (33, (.lload_n 2, 1)), (34, (.bipush 8, 2)), (36, (.iload 4, 2)), (38, (.imul, 1)), (39, (.lshr, 1)), (40, (.ldc2_w 29, 3)), (43, (.land, 1)), (44, (.l2i, 1)), (45, (.iastore, 1)), (46, (.aload_n 0, 1)), (47, (.dup, 1)), (48, (.getfield 15, 3)), (51, (.iconst 1, 1)), (52, (.iadd, 1)), (53, (.putfield 15, 3)), (56, (.iinc 4 (-1), 3)), (59, (.goto (-39), 3)), (62, (.aload_n 0, 1)), (63, (.getfield 15, 3)), (66, (.ireturn, 1))]
def cd78 : List (Nat × (Instr × Nat)) := [(0, (.aload_n 0, 1)), (1, (.invokevirtual 31, 3)), (4, (.iconst 0, 1)), (5, (.istore_n 1, 1)), (6, (.iload_n 1, 1)), (7, (.bipush 120, 2)), (9, (.if_icmp .ge 54, 3)), (12, (.aload_n 0, 1)), (13, (.getfield 34, 3)), (16, (.ifCond .ne 47, 3)), (19, (.aload_n 0, 1)), (20, (.invokevirtual 37, 3)), (23, (.ifCond .eq 40, 3)), (26, (.aload_n 0, 1)), (27, (.aload_n 0, 1)), (28, (.getfield 41, 3)), (31, (.invokevirtual 44, 3)), (34, (.ifCond .eq 19, 3)), (37, (.aload_n 0, 1)), (38, (.iload_n 1, 1)), (39, (.ifCond .ne 7, 3)), (42, (.iconst 1, 1)), (43, (.goto 4, 3)), (46, (.iconst 0, 1)), (47, (.invokevirtual 48, 3)), (50, (.goto 7, 3)), (53, (.aload_n 0, 1)), (54, (.invokevirtual 52, 3)), (57, (.iinc 1 1, 3)), (60, (.goto (-54), 3)), (63, (.aload_n 0, 1)), (64, (.iconst 0, 1)), (65, (.putfield 15, 3)), (68, (.aload_n 0, 1)), (69, (.getfield 34, 3)), (72, (.ireturn, 1))]
def cd79 : List (Nat × (Instr × Nat)) := [(0, (.aload_n 0, 1)), (1, (.iconst 0, 1)), (2, (.putfield 41, 3)), (5, (.aload_n 0, 1)), (6, (.iconst 0, 1)), (7, (.putfield 34, 3)), (10, (.aload_n 0, 1)), (11, (.iconst (-1), 1)), (12, (.putfield 19, 3)), (15, (.aload_n 0, 1)), (16, (.iconst 3, 1)), (17, (.putfield 55, 3)), (20, (.iconst 0, 1)), (21, (.istore_n 1, 1)), (22, (.iload_n 1, 1)), (23, (.bipush 25, 2)), (25, (.if_icmp .ge 23, 3)), (28, (.aload_n 0, 1)), (29, (.getfield 22, 3)), (32, (.iload_n 1, 1)), (33, (.iconst 2, 1)), (34, (.iastore, 1)), (35, (.aload_n 0, 1)), (36, (.getfield 25, 3)), (39, (.iload_n 1, 1)), (40, (.iconst 0, 1)), (41, (.bastore, 1)), (42, (.iinc 1 1, 3)), (45, (.goto (-23), 3)), (48, (.return_, 1))]
def cd80 : List (Nat × (Instr × Nat)) := [(0, (.aload_n 0, 1)), (1, (.getfield 41, 3)), (4, (.istore_n 2, 1)), (5, (.aload_n 0, 1)), (6, (.ldc 58, 2)), (8, (.invokevirtual 60, 3)), (11, (.istore_n 3, 1)), (12, (.iload_n 3, 1)), (13, (.ifCond .eq 7, 3)), (16, (.iload_n 1, 1)), (17, (.ifCond .ne 10, 3)), (20, (.aload_n 0, 1)), (21, (.iconst 1, 1)), (22, (.iload_n 2, 1)), (23, (.invokevirtual 64, 3)), (26, (.return_, 1)), (27, (.aload_n 0, 1)), (28, (.invokevirtual 68, 3)), (31, (.istore 4, 2)), (33, (.aload_n 0, 1)), (34, (.getfield 34, 3)), (37, (.ifCond .eq 4, 3)), (40, (.return_, 1)), (41, (.iload 4, 2)), (43, (.iconst 1, 1)), (44, (.if_icmp .lt 9, 3)), (47, (.iload 4, 2)), (49, (.iconst 5, 1)), (50, (.if_icmp .le 15, 3)), (53, (.aload_n 0, 1)), (54, (.iconst 2, 1)), (55, (.aload_n 0, 1)), (56, (.getfield 41, 3)), (59, (.iconst 1, 1)), (60, (.isub, 1)), (61, (.invokevirtual 64, 3)), (64, (.return_, 1)), (65, (.aload_n 0, 1)), (66, (.iload 4, 2)), (68, (.putfield 55, 3)), (71, (.aload_n 0, 1)), (72, (.invokevirtual 72, 3)), (75, (.return_, 1))]
def cd81 : List (Nat × (Instr × Nat)) := [(0, (.aload_n 0, 1)), (1, (.getfield 41, 3)), (4, (.istore_n 1, 1)), (5, (.aload_n 0, 1)), (6, (.invokevirtual 68, 3)), (9, (.istore_n 2, 1)), (10, (.aload_n 0, 1)), (11, (.getfield 34, 3)), (14, (.ifCond .ne 22, 3)), (17, (.iload_n 2, 1)), (18, (.aload_n 0, 1)), (19, (.getfield 55, 3)), (22, (.if_icmp .lt 14, 3)), (25, (.aload_n 0, 1)), (26, (.iconst 2, 1)), (27, (.aload_n 0, 1)), (28, (.getfield 41, 3)), (31, (.iconst 1, 1)), (32, (.isub, 1)), (33, (.invokevirtual 64, 3)), (36, (.aload_n 0, 1)), (37, (.getfield 34, 3)), (40, (.ifCond .eq 4, 3)), (43, (.return_, 1)), (44, (.aload_n 0, 1)), (45, (.invokevirtual 68, 3)), (48, (.istore_n 3, 1)), (49, (.aload_n 0, 1)), (50, (.getfield 34, 3)), (53, (.ifCond .ne 27, 3)), (56, (.iload_n 3, 1)), (57, (.aload_n 0, 1)), (58, (.getfield 55, 3)), (61, (.if_icmp .ge 8, 3)), (64, (.iload_n 3, 1)), (65, (.iload_n 2, 1)), (66, (.if_icmp .ne 14, 3)), (69, (.aload_n 0, 1)), (70, (.iconst 2, 1)), (71, (.aload_n 0, 1)), (72, (.getfield 41, 3)), (75, (.iconst 1, 1)), (76, (.isub, 1)), (77, (.invokevirtual 64, 3)), (80, (.aload_n 0, 1)), (81, (.getfield 34, 3)), (84, (.ifCond .eq 4, 3)), (87, (.return_, 1)), (88, (.aload_n 0, 1)), (89, (.getfield 25, 3)), (92, (.iload_n 2, 1)), (93, (.iconst 5, 1)), (94, (.imul, 1)), (95, (.iload_n 3, 1)), (96, (.iadd, 1)), (97, (.baload, 1)), (98, (.ifCond .eq 10, 3)), (101, (.aload_n 0, 1)), (102, (.iconst 3, 1)), (103, (.iload_n 1, 1)), (104, (.invokevirtual 64, 3)), (107, (.return_, 1)), (108, (.aload_n 0, 1)), (109, (.invokevirtual 75, 3)), (112, (.istore 4, 2)), (114, (.aload_n 0, 1)), (115, (.getfield 34, 3)), (118, (.ifCond .eq 4, 3)), (121, (.return_, 1)), (122, (.aload_n 0, 1)), (123, (.iload_n 2, 1)), (124, (.iload_n 3, 1)), (125, (.iload 4, 2)), (127, (.invokevirtual 78, 3)), (130, (.aload_n 0, 1)), (131, (.iload_n 3, 1)), (132, (.iload_n 2, 1)), (133, (.iload 4, 2)), (135, (.invokevirtual 78, 3)), (138, (.aload_n 0, 1)), (139, (.invokevirtual 72, 3)), (142, (.return_, 1))]
def cd82 : List (Nat × (Instr × Nat)) := [(0, (.aload_n 0, 1)), (1, (.getfield 25, 3)), (4, (.iload_n 1, 1)), (5, (.iconst 5, 1)), (6, (.imul, 1)), (7, (.iload_n 2, 1)), (8, (.iadd, 1)), (9, (.iconst 1, 1)), (10, (.bastore, 1)), (11, (.aload_n 0, 1)), (12, (.getfield 22, 3)), (15, (.iload_n 1, 1)), (16, (.iconst 5, 1)), (17, (.imul, 1)), (18, (.iload_n 2, 1)), (19, (.iadd, 1)), (20, (.iload_n 3, 1)), (21, (.iastore, 1)), (22, (.return_, 1))]
def cd83 : List (Nat × (Instr × Nat)) := [(0, (.aload_n 0, 1)), (1, (.invokevirtual 37, 3)), (4, (.ifCond .eq 36, 3)), (7, (.aload_n 0, 1)), (8, (.aload_n 0, 1)), (9, (.getfield 41, 3)), (12, (.invokevirtual 44, 3)), (15, (.ifCond .eq 25, 3)), (18, (.aload_n 0, 1)), (19, (.getfield 41, 3)), (22, (.istore_n 1, 1)), (23, (.aload_n 0, 1)), (24, (.ldc 82, 2)), (26, (.invokevirtual 60, 3)), (29, (.ifCond .ne 9, 3)), (32, (.aload_n 0, 1)), (33, (.iconst 1, 1)), (34, (.iload_n 1, 1)), (35, (.invokevirtual 64, 3)), (38, (.iconst 0, 1)), (39, (.ireturn, 1)), (40, (.aload_n 0, 1)), (41, (.invokevirtual 68, 3)), (44, (.istore_n 1, 1)), (45, (.aload_n 0, 1)), (46, (.getfield 34, 3)), (49, (.ifCond .ne 35, 3)), (52, (.iload_n 1, 1)), (53, (.iconst 2, 1)), (54, (.if_icmp .eq 30, 3)), (57, (.iload_n 1, 1)), (58, (.iconst 3, 1)), (59, (.if_icmp .eq 25, 3)), (62, (.iload_n 1, 1)), (63, (.iconst 4, 1)), (64, (.if_icmp .eq 20, 3)), (67, (.iload_n 1, 1)), (68, (.bipush 6, 2)), (70, (.if_icmp .eq 14, 3)), (73, (.aload_n 0, 1)), (74, (.iconst 2, 1)), (75, (.aload_n 0, 1)), (76, (.getfield 41, 3)), (79, (.iconst 1, 1)), (80, (.isub, 1)), (81, (.invokevirtual 64, 3)), (84, (.iload_n 1, 1)), (85, (.ireturn, 1))]
def cd84 : List (Nat × (Instr × Nat)) := [(0, (.aload_n 0, 1)), (1, (.invokevirtual 37, 3)), (4, (.ifCond .eq 31, 3)), (7, (.aload_n 0, 1)), (8, (.getfield 9, 3)), (11, (.aload_n 0, 1)), (12, (.getfield 41, 3)), (15, (.iaload, 1)), (16, (.bipush 48, 2)), (18, (.if_icmp .lt 17, 3)), (21, (.aload_n 0, 1)), (22, (.getfield 9, 3)), (25, (.aload_n 0, 1)), (26, (.getfield 41, 3)), (29, (.iaload, 1)), (30, (.bipush 57, 2)), (32, (.if_icmp .le 14, 3)), (35, (.aload_n 0, 1)), (36, (.iconst 1, 1)), (37, (.aload_n 0, 1)), (38, (.getfield 41, 3)), (41, (.invokevirtual 64, 3)), (44, (.iconst (-1), 1)), (45, (.ireturn, 1)), (46, (.aload_n 0, 1)), (47, (.dup, 1)), (48, (.getfield 41, 3)), (51, (.iconst 1, 1)), (52, (.iadd, 1)), (53, (.putfield 41, 3)), (56, (.aload_n 0, 1)), (57, (.getfield 9, 3)), (60, (.aload_n 0, 1)), (61, (.getfield 41, 3)), (64, (.iconst 1, 1)), (65, (.isub, 1)), (66, (.iaload, 1)), (67, (.bipush 48, 2)), (69, (.isub, 1)), (70, (.ireturn, 1))]
def cd85 : List (Nat × (Instr × Nat)) := [(0, (.aload_n 0, 1)), (1, (.invokevirtual 37, 3)), (4, (.ifCond .eq 17, 3)), (7, (.aload_n 0, 1)), (8, (.getfield 9, 3)), (11, (.aload_n 0, 1)), (12, (.getfield 41, 3)), (15, (.iaload, 1)), (16, (.bipush 59, 2)), (18, (.if_icmp .eq 15, 3)), (21, (.aload_n 0, 1)), (22, (.iconst 1, 1)), (23, (.aload_n 0, 1)), (24, (.getfield 41, 3)), (27, (.invokevirtual 64, 3)), (30, (.goto 13, 3)), (33, (.aload_n 0, 1)), (34, (.dup, 1)), (35, (.getfield 41, 3)), (38, (.iconst 1, 1)), (39, (.iadd, 1)), (40, (.putfield 41, 3)), (43, (.return_, 1))]
def cd86 : List (Nat × (Instr × Nat)) := [(0, (.aload_n 0, 1)), (1, (.getfield 41, 3)), (4, (.istore_n 2, 1)), (5, (.iconst 1, 1)), (6, (.istore_n 3, 1)), (7, (.aload_n 0, 1)), (8, (.getfield 41, 3)), (11, (.aload_n 0, 1)), (12, (.getfield 15, 3)), (15, (.if_icmp .ge 64, 3)), (18, (.aload_n 0, 1)), (19, (.aload_n 0, 1)), (20, (.getfield 41, 3)), (23, (.invokevirtual 44, 3)), (26, (.ifCond .eq 53, 3)), (29, (.aload_n 0, 1)), (30, (.getfield 41, 3)), (33, (.iload_n 2, 1)), (34, (.isub, 1)), (35, (.istore 4, 2)), (37, (.iload 4, 2)), (39, (.aload_n 1, 1)), (40, (.invokevirtual 84, 3)), (43, (.if_icmp .ge 21, 3)), (46, (.aload_n 1, 1)), (47, (.iload 4, 2)), (49, (.invokevirtual 89, 3)), (52, (.aload_n 0, 1)), (53, (.getfield 9, 3)), (56, (.aload_n 0, 1)), (57, (.getfield 41, 3)), (60, (.iaload, 1)), (61, (.if_icmp .eq 5, 3)), (64, (.iconst 0, 1)), (65, (.istore_n 3, 1)), (66, (.aload_n 0, 1)), (67, (.dup, 1)), (68, (.getfield 41, 3)), (71, (.iconst 1, 1)), (72, (.iadd, 1)), (73, (.putfield 41, 3)), (76, (.goto (-69), 3)), (79, (.iload_n 3, 1)), (80, (.ifCond .eq 20, 3)), (83, (.aload_n 0, 1)), (84, (.getfield 41, 3)), (87, (.iload_n 2, 1)), (88, (.isub, 1)), (89, (.aload_n 1, 1)), (90, (.invokevirtual 84, 3)), (93, (.if_icmp .ne 7, 3)), (96, (.iconst 1, 1)), (97, (.goto 4, 3)), (100, (.iconst 0, 1)), (101, (.ireturn, 1))]
def cd87 : List (Nat × (Instr × Nat)) := [(0, (.aload_n 0, 1)), (1, (.getfield 41, 3)), (4, (.aload_n 0, 1)), (5, (.getfield 15, 3)), (8, (.if_icmp .ge 30, 3)), (11, (.aload_n 0, 1)), (12, (.getfield 9, 3)), (15, (.aload_n 0, 1)), (16, (.getfield 41, 3)), (19, (.iaload, 1)), (20, (.bipush 32, 2)), (22, (.if_icmp .ne 16, 3)), (25, (.aload_n 0, 1)), (26, (.dup, 1)), (27, (.getfield 41, 3)), (30, (.iconst 1, 1)), (31, (.iadd, 1)), (32, (.putfield 41, 3)), (35, (.goto (-35), 3)), (38, (.aload_n 0, 1)), (39, (.getfield 41, 3)), (42, (.aload_n 0, 1)), (43, (.getfield 15, 3)), (46, (.if_icmp .ge 7, 3)), (49, (.iconst 1, 1)), (50, (.goto 4, 3)), (53, (.iconst 0, 1)), (54, (.ireturn, 1))]
def cd88 : List (Nat × (Instr × Nat)) := [(0, (.aload_n 0, 1)), (1, (.getfield 9, 3)), (4, (.iload_n 1, 1)), (5, (.iaload, 1)), (6, (.bipush 97, 2)), (8, (.if_icmp .lt 18, 3)), (11, (.aload_n 0, 1)), (12, (.getfield 9, 3)), (15, (.iload_n 1, 1)), (16, (.iaload, 1)), (17, (.bipush 122, 2)), (19, (.if_icmp .gt 7, 3)), (22, (.iconst 1, 1)), (23, (.goto 4, 3)), (26, (.iconst 0, 1)), (27, (.ireturn, 1))]
def cd89 : List (Nat × (Instr × Nat)) := [(0, (.aload_n 0, 1)), (1, (.iload_n 1, 1)), (2, (.putfield 34, 3)), (5, (.aload_n 0, 1)), (6, (.iload_n 2, 1)), (7, (.putfield 19, 3)), (10, (.return_, 1))]
def cd90 : List (Nat × (Instr × Nat)) := [(0, (.aload_n 0, 1)), (1, (.invokespecial 3, 3)), (4, (.aload_n 0, 1)), (5, (.iconst 5, 1)), (6, (.newarray .long, 2)), (8, (.putfield 9, 3)), (11, (.aload_n 0, 1)), (12, (.iconst 5, 1)), (13, (.newarray .long, 2)), (15, (.putfield 15, 3)), (18, (.aload_n 0, 1)), (19, (.bipush 20, 2)), (21, (.newarray .int, 2)), (23, (.putfield 18, 3)), (26, (.aload_n 0, 1)), (27, (.bipush 20, 2)), (29, (.newarray .int, 2)), (31, (.putfield 22, 3)), (34, (.aload_n 0, 1)), (35, (.aload_n 1, 1)), (36, (.putfield 25, 3)), (39, (.aload_n 0, 1)), (40, (.aload_n 2, 1)), (41, (.putfield 29, 3)), (44, (.return_, 1))]
def cd91 : List (Nat × (Instr × Nat)) := [(0, (.aload_n 0, 1)), (1, (.getfield 25, 3)), (4, (.aload_n 0, 1)), (5, (.getfield 29, 3)), (8, (.getfield 33, 3)), (11, (.iload_n 1, 1)), (12, (.iconst 5, 1)), (13, (.imul, 1)), (14, (.aload_n 0, 1)), (15, (.getfield 9, 3)), (18, (.iconst 0, 1)), (19, (.invokevirtual 38, 3)), (22, (.aload_n 0, 1)), (23, (.getfield 29, 3)), (26, (.getfield 44, 3)), (29, (.iload_n 1, 1)), (30, (.iaload, 1)), (31, (.istore_n 3, 1)), (32, (.iconst 0, 1)), (33, (.istore 4, 2)), (35, (.iload 4, 2)), (37, (.aload_n 0, 1)), (38, (.getfield 29, 3)), (41, (.getfield 44, 3)), (44, (.iload_n 2, 1)), (45, (.iaload, 1)), (46, (.if_icmp .ge 65, 3)), (49, (.aload_n 0, 1)), (50, (.getfield 29, 3)), (53, (.iload_n 2, 1)), (54, (.iload 4, 2)), (56, (.invokevirtual 47, 3)), (59, (.istore 5, 2)), (61, (.iload_n 3, 1)), (62, (.aload_n 0, 1)), (63, (.getfield 9, 3)), (66, (.iload 5, 2)), (68, (.laload, 1)), (69, (.lconst 0, 1)), (70, (.lcmp, 1)), (71, (.ifCond .ge 7, 3)), (74, (.iconst (-1), 1)), (75, (.goto 4, 3)), (78, (.iconst 1, 1)), (79, (.iadd, 1)), (80, (.istore_n 3, 1)), (81, (.iload_n 3, 1)), (82, (.bipush 20, 2)), (84, (.if_icmp .le 7, 3)), (87, (.sipush (-1005), 3)), (90, (.ireturn, 1)), (91, (.aload_n 0, 1)), (92, (.getfield 25, 3)), (95, (.aload_n 0, 1)), (96, (.getfield 9, 3)), (99, (.iconst 0, 1)), (100, (.iload 5, 2)), (102, (.invokevirtual 51, 3)), (105, (.iinc 4 1, 3)), (108, (.goto (-73), 3)), (111, (.aload_n 0, 1)), (112, (.invokevirtual 55, 3)), (115, (.ireturn, 1))]
def cd92 : List (Nat × (Instr × Nat)) := [(0, (.iconst 0, 1)), (1, (.istore_n 2, 1)), (2, (.iload_n 2, 1)), (3, (.aload_n 0, 1)), (4, (.getfield 29, 3)), (7, (.getfield 44, 3)), (10, (.iload_n 1, 1)), (11, (.iaload, 1)), (12, (.if_icmp .ge 24, 3)), (15, (.aload_n 0, 1)), (16, (.getfield 18, 3)), (19, (.iload_n 2, 1)), (20, (.aload_n 0, 1)), (21, (.getfield 29, 3)), (24, (.iload_n 1, 1)), (25, (.iload_n 2, 1)), (26, (.invokevirtual 47, 3)), (29, (.iastore, 1)), (30, (.iinc 2 1, 3)), (33, (.goto (-31), 3)), (36, (.aload_n 0, 1)), (37, (.aload_n 0, 1)), (38, (.getfield 29, 3)), (41, (.getfield 44, 3)), (44, (.iload_n 1, 1)), (45, (.iaload, 1)), (46, (.invokevirtual 59, 3)), (49, (.ireturn, 1))]
def cd93 : List (Nat × (Instr × Nat)) := [(0, (.aload_n 0, 1)), (1, (.getfield 25, 3)), (4, (.aload_n 0, 1)), (5, (.getfield 29, 3)), (8, (.getfield 33, 3)), (11, (.iload_n 1, 1)), (12, (.iconst 5, 1)), (13, (.imul, 1)), (14, (.aload_n 0, 1)), (15, (.getfield 9, 3)), (18, (.iconst 0, 1)), (19, (.invokevirtual 38, 3)), (22, (.aload_n 0, 1)), (23, (.iload_n 2, 1)), (24, (.invokevirtual 63, 3)), (27, (.pop, 1)), (28, (.aload_n 0, 1)), (29, (.invokevirtual 55, 3)), (32, (.ireturn, 1))]
def cd94 : List (Nat × (Instr × Nat)) := [(0, (.aload_n 0, 1)), (1, (.getfield 25, 3)), (4, (.aload_n 0, 1)), (5, (.getfield 29, 3)), (8, (.getfield 33, 3)), (11, (.iload_n 1, 1)), (12, (.iconst 5, 1)), (13, (.imul, 1)), (14, (.aload_n 0, 1)), (15, (.getfield 9, 3)), (18, (.iconst 0, 1)), (19, (.invokevirtual 38, 3)), (22, (.aload_n 0, 1)), (23, (.aload_n 0, 1)), (24, (.iload_n 2, 1)), (25, (.invokevirtual 63, 3)), (28, (.invokevirtual 59, 3)), (31, (.ireturn, 1))]
def cd95 : List (Nat × (Instr × Nat)) := [(0, (.aload_n 0, 1)), (1, (.getfield 25, 3)), (4, (.aload_n 0, 1)), (5, (.getfield 29, 3)), (8, (.getfield 33, 3)), (11, (.iload_n 1, 1)), (12, (.iconst 5, 1)), (13, (.imul, 1)), (14, (.aload_n 0, 1)), (15, (.getfield 9, 3)), (18, (.iconst 0, 1)), (19, (.invokevirtual 38, 3)), (22, (.aload_n 0, 1)), (23, (.iload_n 3, 1)), (24, (.invokevirtual 63, 3)), (27, (.pop, 1)), (28, (.aload_n 0, 1)), (29, (.invokevirtual 66, 3)), (32, (.istore 4, 2)), (34, (.iload 4, 2)), (36, (.aload_n 0, 1)), (37, (.iload_n 2, 1)), (38, (.invokevirtual 63, 3)), (41, (.isub, 1)), (42, (.ireturn, 1))]
def cd96 : List (Nat × (Instr × Nat)) := [(0, (.aload_n 0, 1)), (1, (.getfield 25, 3)), (4, (.aload_n 0, 1)), (5, (.getfield 29, 3)), (8, (.getfield 69, 3)), (11, (.iload_n 1, 1)), (12, (.iconst 5, 1)), (13, (.imul, 1)), (14, (.aload_n 0, 1)), (15, (.getfield 9, 3)), (18, (.iconst 0, 1)), (19, (.invokevirtual 38, 3)), (22, (.iconst 0, 1)), (23, (.istore_n 3, 1)), (24, (.iload_n 3, 1)), (25, (.aload_n 0, 1)), (26, (.getfield 29, 3)), (29, (.getfield 44, 3)), (32, (.iload_n 2, 1)), (33, (.iaload, 1)), (34, (.if_icmp .ge 46, 3)), (37, (.aload_n 0, 1)), (38, (.getfield 29, 3)), (41, (.iload_n 2, 1)), (42, (.iload_n 3, 1)), (43, (.invokevirtual 47, 3)), (46, (.istore 4, 2)), (48, (.aload_n 0, 1)), (49, (.getfield 9, 3)), (52, (.iload 4, 2)), (54, (.laload, 1)), (55, (.lconst 0, 1)), (56, (.lcmp, 1)), (57, (.ifCond .ge 17, 3)), (60, (.aload_n 0, 1)), (61, (.getfield 25, 3)), (64, (.aload_n 0, 1)), (65, (.getfield 9, 3)), (68, (.iconst 0, 1)), (69, (.iload 4, 2)), (71, (.invokevirtual 51, 3)), (74, (.iinc 3 1, 3)), (77, (.goto (-53), 3)), (80, (.aload_n 0, 1)), (81, (.getfield 25, 3)), (84, (.aload_n 0, 1)), (85, (.getfield 9, 3)), (88, (.iconst 0, 1)), (89, (.aload_n 0, 1)), (90, (.getfield 25, 3)), (93, (.invokevirtual 72, 3)), (96, (.invokevirtual 75, 3)), (99, (.iconst (-1), 1)), (100, (.if_icmp .ne 7, 3)), (103, (.iconst 1, 1)), (104, (.goto 4, 3)), (107, (.iconst 0, 1)), (108, (.ireturn, 1))]
def cd97 : List (Nat × (Instr × Nat)) := [(0, (.iconst 0, 1)), (1, (.istore_n 2, 1)), (2, (.aload_n 0, 1)), (3, (.getfield 25, 3)), (6, (.aload_n 0, 1)), (7, (.getfield 15, 3)), (10, (.iconst 0, 1)), (11, (.invokevirtual 79, 3)), (14, (.iconst 0, 1)), (15, (.istore_n 3, 1)), (16, (.iload_n 3, 1)), (17, (.aload_n 0, 1)), (18, (.getfield 29, 3)), (21, (.getfield 44, 3)), (24, (.iload_n 1, 1)), (25, (.iaload, 1)), (26, (.if_icmp .ge 42, 3)), (29, (.aload_n 0, 1)), (30, (.iload_n 1, 1)), (31, (.iload_n 3, 1)), (32, (.invokevirtual 83, 3)), (35, (.ifCond .eq 6, 3)), (38, (.iinc 2 1, 3)), (41, (.aload_n 0, 1)), (42, (.getfield 25, 3)), (45, (.aload_n 0, 1)), (46, (.getfield 15, 3)), (49, (.iconst 0, 1)), (50, (.aload_n 0, 1)), (51, (.getfield 29, 3)), (54, (.iload_n 1, 1)), (55, (.iload_n 3, 1)), (56, (.invokevirtual 47, 3)), (59, (.invokevirtual 51, 3)), (62, (.iinc 3 1, 3)), (65, (.goto (-49), 3)), (68, (.iload_n 2, 1)), (69, (.ireturn, 1))]
def cd98 : List (Nat × (Instr × Nat)) := [(0, (.aload_n 0, 1)), (1, (.getfield 25, 3)), (4, (.aload_n 0, 1)), (5, (.getfield 15, 3)), (8, (.iconst 0, 1)), (9, (.aload_n 0, 1)), (10, (.getfield 9, 3)), (13, (.iconst 0, 1)), (14, (.invokevirtual 38, 3)), (17, (.iload_n 2, 1)), (18, (.iconst 1, 1)), (19, (.iadd, 1)), (20, (.istore_n 3, 1)), (21, (.iload_n 3, 1)), (22, (.aload_n 0, 1)), (23, (.getfield 29, 3)), (26, (.getfield 44, 3)), (29, (.iload_n 1, 1)), (30, (.iaload, 1)), (31, (.if_icmp .ge 48, 3)), (34, (.aload_n 0, 1)), (35, (.getfield 29, 3)), (38, (.iload_n 1, 1)), (39, (.iload_n 3, 1)), (40, (.invokevirtual 47, 3)), (43, (.istore 4, 2)), (45, (.aload_n 0, 1)), (46, (.getfield 9, 3)), (49, (.iload 4, 2)), (51, (.laload, 1)), (52, (.lconst 0, 1)), (53, (.lcmp, 1)), (54, (.ifCond .ge 5, 3)), (57, (.iconst 0, 1)), (58, (.ireturn, 1)), (59, (.aload_n 0, 1)), (60, (.getfield 25, 3)), (63, (.aload_n 0, 1)), (64, (.getfield 9, 3)), (67, (.iconst 0, 1)), (68, (.iload 4, 2)), (70, (.invokevirtual 51, 3)), (73, (.iinc 3 1, 3)), (76, (.goto (-55), 3)), (79, (.iconst 1, 1)), (80, (.ireturn, 1))]
def cd99 : List (Nat × (Instr × Nat)) := [(0, (.iconst 0, 1)), (1, (.istore_n 2, 1)), (2, (.iload_n 2, 1)), (3, (.bipush 20, 2)), (5, (.if_icmp .ge 50, 3)), (8, (.aload_n 0, 1)), (9, (.getfield 25, 3)), (12, (.aload_n 0, 1)), (13, (.getfield 9, 3)), (16, (.iconst 0, 1)), (17, (.iload_n 1, 1)), (18, (.invokevirtual 75, 3)), (21, (.istore_n 3, 1)), (22, (.iload_n 3, 1)), (23, (.iconst (-1), 1)), (24, (.if_icmp .ne 5, 3)), (27, (.iload_n 2, 1)), (28, (.ireturn, 1)), (29, (.aload_n 0, 1)), (30, (.getfield 18, 3)), (33, (.iload_n 2, 1)), (34, (.iload_n 3, 1)), (35, (.iastore, 1)), (36, (.aload_n 0, 1)), (37, (.getfield 25, 3)), (40, (.aload_n 0, 1)), (41, (.getfield 9, 3)), (44, (.iconst 0, 1)), (45, (.iload_n 3, 1)), (46, (.invokevirtual 51, 3)), (49, (.iinc 2 1, 3)), (52, (.goto (-50), 3)), (55, (.bipush 20, 2)), (57, (.ireturn, 1))]
def cd100 : List (Nat × (Instr × Nat)) := [(0, (.aload_n 0, 1)), (1, (.getfield 29, 3)), (4, (.aload_n 0, 1)), (5, (.getfield 9, 3)), (8, (.aload_n 0, 1)), (9, (.getfield 18, 3)), (12, (.iconst 0, 1)), (13, (.invokevirtual 87, 3)), (16, (.istore_n 1, 1)), (17, (.aload_n 0, 1)), (18, (.getfield 25, 3)), (21, (.aload_n 0, 1)), (22, (.getfield 9, 3)), (25, (.iconst 0, 1)), (26, (.invokevirtual 79, 3)), (29, (.iconst 0, 1)), (30, (.istore_n 2, 1)), (31, (.iload_n 2, 1)), (32, (.iload_n 1, 1)), (33, (.if_icmp .ge 27, 3)), (36, (.aload_n 0, 1)), (37, (.getfield 25, 3)), (40, (.aload_n 0, 1)), (41, (.getfield 9, 3)), (44, (.iconst 0, 1)), (45, (.aload_n 0, 1)), (46, (.getfield 18, 3)), (49, (.iload_n 2, 1)), (50, (.iaload, 1)), (51, (.invokevirtual 51, 3)), (54, (.iinc 2 1, 3)), (57, (.goto (-26), 3)), (60, (.iload_n 1, 1)), (61, (.ireturn, 1))]
def cd101 : List (Nat × (Instr × Nat)) := [(0, (.aload_n 0, 1)), (1, (.aload_n 0, 1)), (2, (.getfield 29, 3)), (5, (.aload_n 0, 1)), (6, (.getfield 9, 3)), (9, (.aload_n 0, 1)), (10, (.getfield 18, 3)), (13, (.iconst 0, 1)), (14, (.invokevirtual 87, 3)), (17, (.invokevirtual 59, 3)), (20, (.ireturn, 1))]
def cd102 : List (Nat × (Instr × Nat)) := [(0, (.iconst 0, 1)), (1, (.istore_n 2, 1)), (2, (.iload_n 2, 1)), (3, (.iload_n 1, 1)), (4, (.if_icmp .ge 25, 3)), (7, (.aload_n 0, 1)), (8, (.getfield 22, 3)), (11, (.iload_n 2, 1)), (12, (.aload_n 0, 1)), (13, (.getfield 18, 3)), (16, (.iload_n 1, 1)), (17, (.iconst 1, 1)), (18, (.isub, 1)), (19, (.iload_n 2, 1)), (20, (.isub, 1)), (21, (.iaload, 1)), (22, (.iastore, 1)), (23, (.iinc 2 1, 3)), (26, (.goto (-24), 3)), (29, (.aload_n 0, 1)), (30, (.getfield 29, 3)), (33, (.aload_n 0, 1)), (34, (.getfield 22, 3)), (37, (.iload_n 1, 1)), (38, (.invokevirtual 91, 3)), (41, (.ireturn, 1))]
def cd103 : List (Nat × (Instr × Nat)) := [(0, (.aload_n 0, 1)), (1, (.invokespecial 3, 3)), (4, (.aload_n 0, 1)), (5, (.new 9, 3)), (8, (.dup, 1)), (9, (.invokespecial 11, 3)), (12, (.putfield 12, 3)), (15, (.aload_n 0, 1)), (16, (.new 16, 3)), (19, (.dup, 1)), (20, (.invokespecial 18, 3)), (23, (.putfield 19, 3)), (26, (.aload_n 0, 1)), (27, (.new 23, 3)), (30, (.dup, 1)), (31, (.aload_n 0, 1)), (32, (.getfield 12, 3)), (35, (.invokespecial 25, 3)), (38, (.putfield 28, 3)), (41, (.aload_n 0, 1)), (42, (.new 32, 3)), (45, (.dup, 1)), (46, (.aload_n 0, 1)), (47, (.getfield 12, 3)), (50, (.aload_n 0, 1)), (51, (.getfield 28, 3)), (54, (.invokespecial 34, 3)), (57, (.putfield 37, 3)), (60, (.aload_n 0, 1)), (61, (.new 41, 3)), (64, (.dup, 1)), (65, (.aload_n 0, 1)), (66, (.getfield 12, 3)), (69, (.aload_n 0, 1)), (70, (.getfield 28, 3)), (73, (.invokespecial 43, 3)), (76, (.putfield 44, 3)), (79, (.aload_n 0, 1)), (80, (.new 48, 3)), (83, (.dup, 1)), (84, (.aload_n 0, 1)), (85, (.getfield 12, 3)), (88, (.aload_n 0, 1)), (89, (.getfield 28, 3)), (92, (.invokespecial 50, 3)), (95, (.putfield 51, 3)), (98, (.aload_n 0, 1)), (99, (.bipush 20, 2)), (101, (.newarray .int, 2)), (103, (.putfield 55, 3)), (106, (.aload_n 0, 1)), (107, (.iconst 0, 1)), (108, (.putfield 59, 3)), (111, (.aload_n 0, 1)), (112, (.aconst_null, 1)), (113, (.putfield 63, 3)), (116, (.aload_n 0, 1)), (117, (.aconst_null, 1)), (118, (.putfield 67, 3)), (121, (.aload_n 0, 1)), (122, (.aconst_null, 1)), (123, (.putfield 71, 3)), (126, (.return_, 1))]
def cd104 : List (Nat × (Instr × Nat)) := [(0, (.iload_n 1, 1)), (1, (.iconst 1, 1)), (2, (.if_icmp .lt 9, 3)), (5, (.iload_n 1, 1)), (6, (.bipush 8, 2)), (8, (.if_icmp .le 7, 3)), (11, (.sipush (-1002), 3)), (14, (.ireturn, 1)), (15, (.aload_n 0, 1)), (16, (.getfield 19, 3)), (19, (.iload_n 1, 1)), (20, (.lload_n 2, 1)), (21, (.invokevirtual 75, 3)), (24, (.ireturn, 1))]
def cd105 : List (Nat × (Instr × Nat)) := [(0, (.aload_n 0, 1)), (1, (.getfield 19, 3)), (4, (.invokevirtual 79, 3)), (7, (.istore_n 1, 1)), (8, (.iload_n 1, 1)), (9, (.ifCond .eq 8, 3)), (12, (.bipush (-10), 2)), (14, (.iload_n 1, 1)), (15, (.isub, 1)), (16, (.ireturn, 1)), (17, (.aload_n 0, 1)), (18, (.getfield 12, 3)), (21, (.aload_n 0, 1)), (22, (.getfield 19, 3)), (25, (.getfield 83, 3)), (28, (.aload_n 0, 1)), (29, (.getfield 19, 3)), (32, (.getfield 86, 3)), (35, (.invokevirtual 89, 3)), (38, (.aload_n 0, 1)), (39, (.getfield 28, 3)), (42, (.invokevirtual 93, 3)), (45, (.aload_n 0, 1)), (46, (.iconst 0, 1)), (47, (.putfield 59, 3)), (50, (.aload_n 0, 1)), (51, (.invokevirtual 96, 3)), (54, (.aload_n 0, 1)), (55, (.getfield 12, 3)), (58, (.getfield 99, 3)), (61, (.ireturn, 1))]
def cd106 : List (Nat × (Instr × Nat)) := [(0, (.aload_n 0, 1)), (1, (.getfield 63, 3)), (4, (.ifnull 10, 3)), (7, (.aload_n 0, 1)), (8, (.getfield 63, 3)), (11, (.invokevirtual 100, 3)), (14, (.aload_n 0, 1)), (15, (.getfield 67, 3)), (18, (.ifnull 10, 3)), (21, (.aload_n 0, 1)), (22, (.getfield 67, 3)), (25, (.invokevirtual 105, 3)), (28, (.aload_n 0, 1)), (29, (.getfield 71, 3)), (32, (.ifnull 10, 3)), (35, (.aload_n 0, 1)), (36, (.getfield 71, 3)), (39, (.invokevirtual 108, 3)), (42, (.return_, 1))]
def cd107 : List (Nat × (Instr × Nat)) := [(0, (.aload_n 0, 1)), (1, (.getfield 19, 3)), (4, (.getfield 111, 3)), (7, (.ireturn, 1))]
def cd108 : List (Nat × (Instr × Nat)) := [(0, (.aload_n 0, 1)), (1, (.getfield 12, 3)), (4, (.iload_n 1, 1)), (5, (.invokevirtual 114, 3)), (8, (.ifCond .eq 14, 3)), (11, (.aload_n 0, 1)), (12, (.getfield 12, 3)), (15, (.iload_n 2, 1)), (16, (.invokevirtual 114, 3)), (19, (.ifCond .ne 7, 3)), (22, (.sipush (-1002), 3)), (25, (.ireturn, 1)), (26, (.aload_n 0, 1)), (27, (.getfield 12, 3)), (30, (.getfield 118, 3)), (33, (.iload_n 1, 1)), (34, (.iconst 5, 1)), (35, (.imul, 1)), (36, (.iload_n 2, 1)), (37, (.iadd, 1)), (38, (.iaload, 1)), (39, (.ireturn, 1))]
def cd109 : List (Nat × (Instr × Nat)) := [(0, (.aload_n 0, 1)), (1, (.getfield 12, 3)), (4, (.iload_n 1, 1)), (5, (.invokevirtual 114, 3)), (8, (.ifCond .eq 14, 3)), (11, (.aload_n 0, 1)), (12, (.getfield 12, 3)), (15, (.iload_n 2, 1)), (16, (.invokevirtual 114, 3)), (19, (.ifCond .ne 7, 3)), (22, (.sipush (-1002), 3)), (25, (.ireturn, 1)), (26, (.aload_n 0, 1)), (27, (.getfield 12, 3)), (30, (.getfield 119, 3)), (33, (.iload_n 1, 1)), (34, (.iconst 5, 1)), (35, (.imul, 1)), (36, (.iload_n 2, 1)), (37, (.iadd, 1)), (38, (.iaload, 1)), (39, (.ireturn, 1))]
def cd110 : List (Nat × (Instr × Nat)) := [(0, (.iload_n 1, 1)), (1, (.tableswitch 60 0 3 #[31, 39, 47, 55], 31)), (32, (.aload_n 0, 1)), (33, (.getfield 12, 3)), (36, (.getfield 99, 3)), (39, (.ireturn, 1)), (40, (.aload_n 0, 1)), (41, (.getfield 28, 3)), (44, (.getfield 122, 3)), (47, (.ireturn, 1)), (48, (.aload_n 0, 1)), (49, (.getfield 19, 3)), (52, (.getfield 123, 3)), (55, (.ireturn, 1)), (56, (.aload_n 0, 1)), (57, (.getfield 59, 3)), (60, (.ireturn, 1)), (61, (.sipush (-1002), 3)), (64, (.ireturn, 1))]
def cd111 : List (Nat × (Instr × Nat)) := [(0, (.aload_n 0, 1)), (1, (.getfield 12, 3)), (4, (.iload_n 1, 1)), (5, (.invokevirtual 114, 3)), (8, (.ifCond .ne 7, 3)), (11, (.sipush (-1002), 3)), (14, (.ireturn, 1)), (15, (.aload_n 0, 1)), (16, (.getfield 59, 3)), (19, (.bipush 20, 2)), (21, (.if_icmp .lt 7, 3)), (24, (.sipush (-1004), 3)), (27, (.ireturn, 1)), (28, (.aload_n 0, 1)), (29, (.getfield 55, 3)), (32, (.aload_n 0, 1)), (33, (.getfield 59, 3)), (36, (.iload_n 1, 1)), (37, (.iastore, 1)), (38, (.aload_n 0, 1)), (39, (.dup, 1)), (40, (.getfield 59, 3)), (43, (.iconst 1, 1)), (44, (.iadd, 1)), (45, (.putfield 59, 3)), (48, (.aload_n 0, 1)), (49, (.getfield 59, 3)), (52, (.ireturn, 1))]
def cd112 : List (Nat × (Instr × Nat)) := [(0, (.aload_n 0, 1)), (1, (.getfield 28, 3)), (4, (.aload_n 0, 1)), (5, (.getfield 55, 3)), (8, (.aload_n 0, 1)), (9, (.getfield 59, 3)), (12, (.invokevirtual 126, 3)), (15, (.istore_n 1, 1)), (16, (.iload_n 1, 1)), (17, (.sipush (-1004), 3)), (20, (.if_icmp .eq 8, 3)), (23, (.aload_n 0, 1)), (24, (.iconst 0, 1)), (25, (.putfield 59, 3)), (28, (.iload_n 1, 1)), (29, (.ireturn, 1))]
def cd113 : List (Nat × (Instr × Nat)) := [(0, (.aload_n 0, 1)), (1, (.getfield 28, 3)), (4, (.iload_n 1, 1)), (5, (.invokevirtual 130, 3)), (8, (.ifCond .ne 7, 3)), (11, (.sipush (-1001), 3)), (14, (.ireturn, 1)), (15, (.aload_n 0, 1)), (16, (.getfield 28, 3)), (19, (.getfield 131, 3)), (22, (.iload_n 1, 1)), (23, (.iaload, 1)), (24, (.ireturn, 1))]
def cd114 : List (Nat × (Instr × Nat)) := [(0, (.aload_n 0, 1)), (1, (.getfield 28, 3)), (4, (.iload_n 1, 1)), (5, (.invokevirtual 130, 3)), (8, (.ifCond .ne 7, 3)), (11, (.sipush (-1001), 3)), (14, (.ireturn, 1)), (15, (.iload_n 2, 1)), (16, (.ifCond .lt 16, 3)), (19, (.iload_n 2, 1)), (20, (.aload_n 0, 1)), (21, (.getfield 28, 3)), (24, (.getfield 131, 3)), (27, (.iload_n 1, 1)), (28, (.iaload, 1)), (29, (.if_icmp .lt 5, 3)), (32, (.iconst (-1), 1)), (33, (.ireturn, 1)), (34, (.aload_n 0, 1)), (35, (.getfield 28, 3)), (38, (.iload_n 1, 1)), (39, (.iload_n 2, 1)), (40, (.invokevirtual 134, 3)), (43, (.ireturn, 1))]
def cd115 : List (Nat × (Instr × Nat)) := [(0, (.aload_n 0, 1)), (1, (.getfield 28, 3)), (4, (.iload_n 1, 1)), (5, (.invokevirtual 130, 3)), (8, (.ifCond .ne 7, 3)), (11, (.sipush (-1001), 3)), (14, (.ireturn, 1)), (15, (.iload_n 2, 1)), (16, (.ifCond .lt 8, 3)), (19, (.iload_n 2, 1)), (20, (.iconst 1, 1)), (21, (.if_icmp .le 7, 3)), (24, (.sipush (-1002), 3)), (27, (.ireturn, 1)), (28, (.aload_n 0, 1)), (29, (.getfield 12, 3)), (32, (.iload_n 2, 1)), (33, (.ifCond .ne 13, 3)), (36, (.aload_n 0, 1)), (37, (.getfield 28, 3)), (40, (.getfield 138, 3)), (43, (.goto 10, 3)), (46, (.aload_n 0, 1)), (47, (.getfield 28, 3)), (50, (.getfield 142, 3)), (53, (.iload_n 1, 1)), (54, (.iconst 5, 1)), (55, (.imul, 1)), (56, (.invokevirtual 145, 3)), (59, (.ireturn, 1))]
def cd116 : List (Nat × (Instr × Nat)) := [(0, (.aload_n 0, 1)), (1, (.getfield 28, 3)), (4, (.iload_n 1, 1)), (5, (.invokevirtual 130, 3)), (8, (.ifCond .ne 7, 3)), (11, (.ldc2_w 149, 3)), (14, (.lreturn, 1)), (15, (.aload_n 0, 1)), (16, (.getfield 12, 3)), (19, (.iload_n 2, 1)), (20, (.invokevirtual 114, 3)), (23, (.ifCond .eq 14, 3)), (26, (.aload_n 0, 1)), (27, (.getfield 12, 3)), (30, (.iload_n 3, 1)), (31, (.invokevirtual 114, 3)), (34, (.ifCond .ne 7, 3)), (37, (.ldc2_w 151, 3)), (40, (.lreturn, 1)), (41, (.aload_n 0, 1)), (42, (.getfield 44, 3)), (45, (.iload_n 1, 1)), (46, (.iload_n 2, 1)), (47, (.iload_n 3, 1)), (48, (.invokevirtual 153, 3)), (51, (.lreturn, 1))]
def cd117 : List (Nat × (Instr × Nat)) := [(0, (.aload_n 0, 1)), (1, (.getfield 28, 3)), (4, (.iload_n 1, 1)), (5, (.invokevirtual 130, 3)), (8, (.ifCond .eq 14, 3)), (11, (.aload_n 0, 1)), (12, (.getfield 28, 3)), (15, (.iload_n 2, 1)), (16, (.invokevirtual 130, 3)), (19, (.ifCond .ne 7, 3)), (22, (.sipush (-1001), 3)), (25, (.ireturn, 1)), (26, (.aload_n 0, 1)), (27, (.getfield 37, 3)), (30, (.iload_n 1, 1)), (31, (.iload_n 2, 1)), (32, (.invokevirtual 157, 3)), (35, (.ireturn, 1))]
def cd118 : List (Nat × (Instr × Nat)) := [(0, (.aload_n 0, 1)), (1, (.getfield 28, 3)), (4, (.iload_n 1, 1)), (5, (.invokevirtual 130, 3)), (8, (.ifCond .ne 7, 3)), (11, (.sipush (-1001), 3)), (14, (.ireturn, 1)), (15, (.aload_n 0, 1)), (16, (.getfield 37, 3)), (19, (.iload_n 1, 1)), (20, (.invokevirtual 160, 3)), (23, (.ireturn, 1))]
def cd119 : List (Nat × (Instr × Nat)) := [(0, (.aload_n 0, 1)), (1, (.getfield 28, 3)), (4, (.iload_n 1, 1)), (5, (.invokevirtual 130, 3)), (8, (.ifCond .eq 14, 3)), (11, (.aload_n 0, 1)), (12, (.getfield 28, 3)), (15, (.iload_n 2, 1)), (16, (.invokevirtual 130, 3)), (19, (.ifCond .ne 7, 3)), (22, (.sipush (-1001), 3)), (25, (.ireturn, 1)), (26, (.aload_n 0, 1)), (27, (.getfield 37, 3)), (30, (.iload_n 1, 1)), (31, (.iload_n 2, 1)), (32, (.invokevirtual 164, 3)), (35, (.ifCond .eq 7, 3)), (38, (.iconst 1, 1)), (39, (.goto 4, 3)), (42, (.iconst 0, 1)), (43, (.ireturn, 1))]
def cd120 : List (Nat × (Instr × Nat)) := [(0, (.aload_n 0, 1)), (1, (.getfield 28, 3)), (4, (.iload_n 1, 1)), (5, (.invokevirtual 130, 3)), (8, (.ifCond .ne 7, 3)), (11, (.sipush (-1001), 3)), (14, (.ireturn, 1)), (15, (.aload_n 0, 1)), (16, (.getfield 37, 3)), (19, (.iload_n 1, 1)), (20, (.invokevirtual 168, 3)), (23, (.ireturn, 1))]
def cd121 : List (Nat × (Instr × Nat)) := [(0, (.aload_n 0, 1)), (1, (.getfield 28, 3)), (4, (.iload_n 1, 1)), (5, (.invokevirtual 130, 3)), (8, (.ifCond .ne 7, 3)), (11, (.ldc2_w 149, 3)), (14, (.lreturn, 1)), (15, (.aload_n 0, 1)), (16, (.getfield 28, 3)), (19, (.getfield 131, 3)), (22, (.iload_n 1, 1)), (23, (.iaload, 1)), (24, (.bipush 12, 2)), (26, (.if_icmp .le 7, 3)), (29, (.ldc2_w 171, 3)), (32, (.lreturn, 1)), (33, (.aload_n 0, 1)), (34, (.invokevirtual 173, 3)), (37, (.iload_n 1, 1)), (38, (.invokevirtual 177, 3)), (41, (.lreturn, 1))]
def cd122 : List (Nat × (Instr × Nat)) := [(0, (.aload_n 0, 1)), (1, (.getfield 28, 3)), (4, (.iload_n 1, 1)), (5, (.invokevirtual 130, 3)), (8, (.ifCond .ne 7, 3)), (11, (.sipush (-1001), 3)), (14, (.ireturn, 1)), (15, (.aload_n 0, 1)), (16, (.getfield 12, 3)), (19, (.iload_n 2, 1)), (20, (.invokevirtual 114, 3)), (23, (.ifCond .ne 7, 3)), (26, (.sipush (-1002), 3)), (29, (.ireturn, 1)), (30, (.aload_n 0, 1)), (31, (.getfield 28, 3)), (34, (.getfield 142, 3)), (37, (.iload_n 1, 1)), (38, (.iconst 5, 1)), (39, (.imul, 1)), (40, (.iload_n 2, 1)), (41, (.iadd, 1)), (42, (.laload, 1)), (43, (.lconst 0, 1)), (44, (.lcmp, 1)), (45, (.ifCond .le 7, 3)), (48, (.sipush (-1003), 3)), (51, (.ireturn, 1)), (52, (.aload_n 0, 1)), (53, (.getfield 44, 3)), (56, (.iload_n 1, 1)), (57, (.iload_n 2, 1)), (58, (.invokevirtual 181, 3)), (61, (.ireturn, 1))]
def cd123 : List (Nat × (Instr × Nat)) := [(0, (.aload_n 0, 1)), (1, (.getfield 28, 3)), (4, (.iload_n 1, 1)), (5, (.invokevirtual 130, 3)), (8, (.ifCond .ne 7, 3)), (11, (.ldc2_w 149, 3)), (14, (.lreturn, 1)), (15, (.aload_n 0, 1)), (16, (.getfield 12, 3)), (19, (.iload_n 3, 1)), (20, (.invokevirtual 114, 3)), (23, (.ifCond .ne 7, 3)), (26, (.ldc2_w 151, 3)), (29, (.lreturn, 1)), (30, (.iload_n 2, 1)), (31, (.ifCond .lt 16, 3)), (34, (.iload_n 2, 1)), (35, (.aload_n 0, 1)), (36, (.getfield 28, 3)), (39, (.getfield 131, 3)), (42, (.iload_n 1, 1)), (43, (.iaload, 1)), (44, (.if_icmp .lt 5, 3)), (47, (.lconst 0, 1)), (48, (.lreturn, 1)), (49, (.aload_n 0, 1)), (50, (.getfield 44, 3)), (53, (.iload_n 1, 1)), (54, (.iload_n 2, 1)), (55, (.iload_n 3, 1)), (56, (.invokevirtual 184, 3)), (59, (.lreturn, 1))]
def cd124 : List (Nat × (Instr × Nat)) := [(0, (.aload_n 0, 1)), (1, (.getfield 28, 3)), (4, (.iload_n 1, 1)), (5, (.invokevirtual 130, 3)), (8, (.ifCond .ne 7, 3)), (11, (.sipush (-1001), 3)), (14, (.ireturn, 1)), (15, (.aload_n 0, 1)), (16, (.getfield 12, 3)), (19, (.iload_n 2, 1)), (20, (.invokevirtual 187, 3)), (23, (.ifCond .eq 12, 3)), (26, (.iload_n 3, 1)), (27, (.ifCond .lt 8, 3)), (30, (.iload_n 3, 1)), (31, (.iconst 1, 1)), (32, (.if_icmp .le 7, 3)), (35, (.sipush (-1002), 3)), (38, (.ireturn, 1)), (39, (.iload_n 3, 1)), (40, (.ifCond .ne 15, 3)), (43, (.aload_n 0, 1)), (44, (.getfield 37, 3)), (47, (.iload_n 1, 1)), (48, (.iload_n 2, 1)), (49, (.invokevirtual 190, 3)), (52, (.goto 12, 3)), (55, (.aload_n 0, 1)), (56, (.getfield 37, 3)), (59, (.iload_n 1, 1)), (60, (.iload_n 2, 1)), (61, (.invokevirtual 193, 3)), (64, (.ireturn, 1))]
def cd125 : List (Nat × (Instr × Nat)) := [(0, (.aload_n 0, 1)), (1, (.getfield 28, 3)), (4, (.iload_n 1, 1)), (5, (.invokevirtual 130, 3)), (8, (.ifCond .ne 7, 3)), (11, (.sipush (-1001), 3)), (14, (.ireturn, 1)), (15, (.aload_n 0, 1)), (16, (.getfield 12, 3)), (19, (.iload_n 2, 1)), (20, (.invokevirtual 187, 3)), (23, (.ifCond .eq 14, 3)), (26, (.aload_n 0, 1)), (27, (.getfield 12, 3)), (30, (.iload_n 3, 1)), (31, (.invokevirtual 187, 3)), (34, (.ifCond .ne 7, 3)), (37, (.sipush (-1002), 3)), (40, (.ireturn, 1)), (41, (.aload_n 0, 1)), (42, (.getfield 37, 3)), (45, (.iload_n 1, 1)), (46, (.iload_n 2, 1)), (47, (.iload_n 3, 1)), (48, (.invokevirtual 196, 3)), (51, (.ireturn, 1))]
def cd126 : List (Nat × (Instr × Nat)) := [(0, (.iload_n 1, 1)), (1, (.ifCond .lt 9, 3)), (4, (.iload_n 1, 1)), (5, (.bipush 20, 2)), (7, (.if_icmp .le 7, 3)), (10, (.sipush (-1002), 3)), (13, (.ireturn, 1)), (14, (.aload_n 0, 1)), (15, (.invokevirtual 173, 3)), (18, (.iload_n 1, 1)), (19, (.invokevirtual 200, 3)), (22, (.ireturn, 1))]
def cd127 : List (Nat × (Instr × Nat)) := [(0, (.iload_n 1, 1)), (1, (.ifCond .lt 8, 3)), (4, (.iload_n 1, 1)), (5, (.iconst 1, 1)), (6, (.if_icmp .le 7, 3)), (9, (.sipush (-1002), 3)), (12, (.ireturn, 1)), (13, (.iload_n 1, 1)), (14, (.ifCond .ne 13, 3)), (17, (.aload_n 0, 1)), (18, (.invokevirtual 173, 3)), (21, (.invokevirtual 203, 3)), (24, (.goto 10, 3)), (27, (.aload_n 0, 1)), (28, (.invokevirtual 173, 3)), (31, (.invokevirtual 206, 3)), (34, (.ireturn, 1))]
def cd128 : List (Nat × (Instr × Nat)) := [(0, (.aload_n 0, 1)), (1, (.getfield 63, 3)), (4, (.ifnonnull 22, 3)), (7, (.aload_n 0, 1)), (8, (.new 101, 3)), (11, (.dup, 1)), (12, (.aload_n 0, 1)), (13, (.getfield 12, 3)), (16, (.aload_n 0, 1)), (17, (.getfield 28, 3)), (20, (.invokespecial 209, 3)), (23, (.putfield 63, 3)), (26, (.aload_n 0, 1)), (27, (.getfield 63, 3)), (30, (.areturn, 1))]
def cd129 : List (Nat × (Instr × Nat)) := [(0, (.aload_n 0, 1)), (1, (.getfield 28, 3)), (4, (.iload_n 1, 1)), (5, (.invokevirtual 130, 3)), (8, (.ifCond .ne 7, 3)), (11, (.sipush (-1001), 3)), (14, (.ireturn, 1)), (15, (.aload_n 0, 1)), (16, (.getfield 28, 3)), (19, (.getfield 131, 3)), (22, (.iload_n 1, 1)), (23, (.iaload, 1)), (24, (.bipush 8, 2)), (26, (.if_icmp .le 7, 3)), (29, (.sipush (-1005), 3)), (32, (.ireturn, 1)), (33, (.aload_n 0, 1)), (34, (.getfield 44, 3)), (37, (.iload_n 1, 1)), (38, (.invokevirtual 210, 3)), (41, (.ireturn, 1))]
def cd130 : List (Nat × (Instr × Nat)) := [(0, (.aload_n 0, 1)), (1, (.getfield 28, 3)), (4, (.iload_n 1, 1)), (5, (.invokevirtual 130, 3)), (8, (.ifCond .ne 7, 3)), (11, (.sipush (-1001), 3)), (14, (.ireturn, 1)), (15, (.iload_n 2, 1)), (16, (.ifCond .lt 8, 3)), (19, (.iload_n 2, 1)), (20, (.iconst 2, 1)), (21, (.if_icmp .le 7, 3)), (24, (.sipush (-1002), 3)), (27, (.ireturn, 1)), (28, (.aload_n 0, 1)), (29, (.getfield 67, 3)), (32, (.ifnonnull 22, 3)), (35, (.aload_n 0, 1)), (36, (.new 106, 3)), (39, (.dup, 1)), (40, (.aload_n 0, 1)), (41, (.getfield 12, 3)), (44, (.aload_n 0, 1)), (45, (.getfield 28, 3)), (48, (.invokespecial 213, 3)), (51, (.putfield 67, 3)), (54, (.aload_n 0, 1)), (55, (.getfield 67, 3)), (58, (.iload_n 1, 1)), (59, (.iload_n 2, 1)), (60, (.invokevirtual 214, 3)), (63, (.ireturn, 1))]
def cd131 : List (Nat × (Instr × Nat)) := [(0, (.aload_n 0, 1)), (1, (.getfield 28, 3)), (4, (.iload_n 1, 1)), (5, (.invokevirtual 130, 3)), (8, (.ifCond .eq 14, 3)), (11, (.aload_n 0, 1)), (12, (.getfield 28, 3)), (15, (.iload_n 2, 1)), (16, (.invokevirtual 130, 3)), (19, (.ifCond .ne 7, 3)), (22, (.sipush (-1001), 3)), (25, (.ireturn, 1)), (26, (.iload_n 3, 1)), (27, (.ifCond .ge 7, 3)), (30, (.sipush (-1002), 3)), (33, (.ireturn, 1)), (34, (.aload_n 0, 1)), (35, (.getfield 28, 3)), (38, (.getfield 131, 3)), (41, (.iload_n 2, 1)), (42, (.iaload, 1)), (43, (.bipush 8, 2)), (45, (.if_icmp .le 7, 3)), (48, (.sipush (-1005), 3)), (51, (.ireturn, 1)), (52, (.aload_n 0, 1)), (53, (.getfield 51, 3)), (56, (.iload_n 1, 1)), (57, (.iload_n 2, 1)), (58, (.iload_n 3, 1)), (59, (.invokevirtual 217, 3)), (62, (.ireturn, 1))]
def cd132 : List (Nat × (Instr × Nat)) := [(0, (.aload_n 0, 1)), (1, (.getfield 28, 3)), (4, (.iload_n 1, 1)), (5, (.invokevirtual 130, 3)), (8, (.ifCond .eq 14, 3)), (11, (.aload_n 0, 1)), (12, (.getfield 28, 3)), (15, (.iload_n 2, 1)), (16, (.invokevirtual 130, 3)), (19, (.ifCond .ne 7, 3)), (22, (.sipush (-1001), 3)), (25, (.ireturn, 1)), (26, (.iload_n 3, 1)), (27, (.ifCond .ge 7, 3)), (30, (.sipush (-1002), 3)), (33, (.ireturn, 1)), (34, (.aload_n 0, 1)), (35, (.getfield 28, 3)), (38, (.getfield 131, 3)), (41, (.iload_n 2, 1)), (42, (.iaload, 1)), (43, (.bipush 8, 2)), (45, (.if_icmp .le 7, 3)), (48, (.sipush (-1005), 3)), (51, (.ireturn, 1)), (52, (.aload_n 0, 1)), (53, (.invokevirtual 220, 3)), (56, (.iload_n 2, 1)), (57, (.invokevirtual 224, 3)), (60, (.iload_n 1, 1)), (61, (.iload_n 3, 1)), (62, (.invokevirtual 228, 3)), (65, (.ireturn, 1))]
def cd133 : List (Nat × (Instr × Nat)) := [(0, (.aload_n 0, 1)), (1, (.getfield 28, 3)), (4, (.iload_n 1, 1)), (5, (.invokevirtual 130, 3)), (8, (.ifCond .eq 14, 3)), (11, (.aload_n 0, 1)), (12, (.getfield 28, 3)), (15, (.iload_n 2, 1)), (16, (.invokevirtual 130, 3)), (19, (.ifCond .ne 7, 3)), (22, (.sipush (-1001), 3)), (25, (.ireturn, 1)), (26, (.aload_n 0, 1)), (27, (.getfield 28, 3)), (30, (.getfield 131, 3)), (33, (.iload_n 2, 1)), (34, (.iaload, 1)), (35, (.bipush 8, 2)), (37, (.if_icmp .le 7, 3)), (40, (.sipush (-1005), 3)), (43, (.ireturn, 1)), (44, (.aload_n 0, 1)), (45, (.getfield 28, 3)), (48, (.getfield 131, 3)), (51, (.iload_n 2, 1)), (52, (.iaload, 1)), (53, (.aload_n 0, 1)), (54, (.getfield 28, 3)), (57, (.getfield 131, 3)), (60, (.iload_n 1, 1)), (61, (.iaload, 1)), (62, (.isub, 1)), (63, (.istore_n 3, 1)), (64, (.iload_n 3, 1)), (65, (.ifCond .lt 9, 3)), (68, (.iload_n 3, 1)), (69, (.iconst 2, 1)), (70, (.irem, 1)), (71, (.ifCond .ne 5, 3)), (74, (.iconst 0, 1)), (75, (.ireturn, 1)), (76, (.aload_n 0, 1)), (77, (.invokevirtual 220, 3)), (80, (.iload_n 2, 1)), (81, (.invokevirtual 224, 3)), (84, (.iload_n 1, 1)), (85, (.iload_n 3, 1)), (86, (.iconst 1, 1)), (87, (.isub, 1)), (88, (.iconst 2, 1)), (89, (.idiv, 1)), (90, (.invokevirtual 228, 3)), (93, (.ireturn, 1))]
def cd134 : List (Nat × (Instr × Nat)) := [(0, (.aload_n 0, 1)), (1, (.getfield 28, 3)), (4, (.iload_n 1, 1)), (5, (.invokevirtual 130, 3)), (8, (.ifCond .ne 7, 3)), (11, (.sipush (-1001), 3)), (14, (.ireturn, 1)), (15, (.aload_n 0, 1)), (16, (.getfield 28, 3)), (19, (.getfield 131, 3)), (22, (.iload_n 1, 1)), (23, (.iaload, 1)), (24, (.bipush 8, 2)), (26, (.if_icmp .le 7, 3)), (29, (.sipush (-1005), 3)), (32, (.ireturn, 1)), (33, (.aload_n 0, 1)), (34, (.invokevirtual 220, 3)), (37, (.iload_n 1, 1)), (38, (.invokevirtual 224, 3)), (41, (.invokevirtual 230, 3)), (44, (.ireturn, 1))]
def cd135 : List (Nat × (Instr × Nat)) := [(0, (.aload_n 0, 1)), (1, (.getfield 71, 3)), (4, (.ifnonnull 22, 3)), (7, (.aload_n 0, 1)), (8, (.new 109, 3)), (11, (.dup, 1)), (12, (.aload_n 0, 1)), (13, (.getfield 12, 3)), (16, (.aload_n 0, 1)), (17, (.getfield 28, 3)), (20, (.invokespecial 233, 3)), (23, (.putfield 71, 3)), (26, (.aload_n 0, 1)), (27, (.getfield 71, 3)), (30, (.areturn, 1))]
def cd136 : List (Nat × (Instr × Nat)) := [(0, (.aload_n 0, 1)), (1, (.invokespecial 1, 3)), (4, (.aload_n 0, 1)), (5, (.iconst 3, 1)), (6, (.putfield 7, 3)), (9, (.aload_n 0, 1)), (10, (.bipush 25, 2)), (12, (.newarray .int, 2)), (14, (.putfield 13, 3)), (17, (.aload_n 0, 1)), (18, (.bipush 25, 2)), (20, (.newarray .int, 2)), (22, (.putfield 17, 3)), (25, (.aload_n 0, 1)), (26, (.bipush 25, 2)), (28, (.newarray .int, 2)), (30, (.putfield 20, 3)), (33, (.aload_n 0, 1)), (34, (.bipush 120, 2)), (36, (.newarray .int, 2)), (38, (.putfield 23, 3)), (41, (.aload_n 0, 1)), (42, (.iconst (-1), 1)), (43, (.putfield 26, 3)), (46, (.aload_n 0, 1)), (47, (.bipush 25, 2)), (49, (.newarray .boolean, 2)), (51, (.putfield 29, 3)), (54, (.aload_n 0, 1)), (55, (.bipush 25, 2)), (57, (.newarray .long, 2)), (59, (.putfield 33, 3)), (62, (.aload_n 0, 1)), (63, (.bipush 64, 2)), (65, (.newarray .int, 2)), (67, (.putfield 37, 3)), (70, (.aload_n 0, 1)), (71, (.bipush 40, 2)), (73, (.newarray .int, 2)), (75, (.putfield 40, 3)), (78, (.aload_n 0, 1)), (79, (.sipush 800, 3)), (82, (.newarray .int, 2)), (84, (.putfield 43, 3)), (87, (.aload_n 0, 1)), (88, (.bipush 20, 2)), (90, (.newarray .int, 2)), (92, (.putfield 46, 3)), (95, (.aload_n 0, 1)), (96, (.ldc 49, 2)), (98, (.newarray .long, 2)), (100, (.putfield 50, 3)), (103, (.aload_n 0, 1)), (104, (.ldc 49, 2)), (106, (.newarray .long, 2)), (108, (.putfield 53, 3)), (111, (.aload_n 0, 1)), (112, (.sipush 2000, 3)), (115, (.newarray .long, 2)), (117, (.putfield 56, 3)), (120, (.aload_n 0, 1)), (121, (.sipush 2000, 3)), (124, (.newarray .long, 2)), (126, (.putfield 59, 3)), (129, (.aload_n 0, 1)), (130, (.iconst 5, 1)), (131, (.newarray .long, 2)), (133, (.putfield 62, 3)), (136, (.aload_n 0, 1)), (137, (.bipush 20, 2)), (139, (.newarray .int, 2)), (141, (.putfield 65, 3)), (144, (.aload_n 0, 1)), (145, (.sipush 301, 3)), (148, (.newarray .int, 2)), (150, (.putfield 68, 3)), (153, (.aload_n 0, 1)), (154, (.sipush 6020, 3)), (157, (.newarray .int, 2)), (159, (.putfield 71, 3)), (162, (.aload_n 0, 1)), (163, (.iconst (-1), 1)), (164, (.putfield 74, 3)), (167, (.aload_n 0, 1)), (168, (.sipush 6400, 3)), (171, (.newarray .long, 2)), (173, (.putfield 77, 3)), (176, (.aload_n 0, 1)), (177, (.sipush 256, 3)), (180, (.newarray .int, 2)), (182, (.putfield 80, 3)), (185, (.aload_n 0, 1)), (186, (.sipush 1280, 3)), (189, (.newarray .int, 2)), (191, (.putfield 83, 3)), (194, (.aload_n 0, 1)), (195, (.sipush 1280, 3)), (198, (.newarray .boolean, 2)), (200, (.putfield 86, 3)), (203, (.aload_n 0, 1)), (204, (.sipush 2304, 3)), (207, (.newarray .int, 2)), (209, (.putfield 89, 3)), (212, (.aload_n 0, 1)), (213, (.sipush 2304, 3)), (216, (.newarray .int, 2)), (218, (.putfield 92, 3)), (221, (.aload_n 0, 1)), (222, (.bipush 9, 2)), (224, (.newarray .int, 2)), (226, (.putfield 95, 3)), (229, (.aload_n 0, 1)), (230, (.sipush 2304, 3)), (233, (.newarray .int, 2)), (235, (.putfield 98, 3)), (238, (.aload_n 0, 1)), (239, (.sipush 2304, 3)), (242, (.newarray .int, 2)), (244, (.putfield 101, 3)), (247, (.iconst 0, 1)), (248, (.istore_n 1, 1)), (249, (.iload_n 1, 1)), (250, (.bipush 25, 2)), (252, (.if_icmp .ge 16, 3)), (255, (.aload_n 0, 1)), (256, (.getfield 20, 3)), (259, (.iload_n 1, 1)), (260, (.iconst 2, 1)), (261, (.iastore, 1)), (262, (.iinc 1 1, 3)), (265, (.goto (-16), 3)), (268, (.aload_n 0, 1)), (269, (.getfield 20, 3)), (272, (.iconst 1, 1)), (273, (.iconst 3, 1)), (274, (.iastore, 1)), (275, (.aload_n 0, 1)), (276, (.getfield 20, 3)), (279, (.bipush 7, 2)), (281, (.iconst 3, 1)), (282, (.iastore, 1)), (283, (.aload_n 0, 1)), (284, (.iconst 3, 1)), (285, (.invokevirtual 104, 3)), (288, (.return_, 1))]
def cd137 : List (Nat × (Instr × Nat)) := [(0, (.lload_n 0, 1)), (1, (.lload_n 2, 1)), (2, (.lcmp, 1)), (3, (.ifCond .lt 14, 3)), (6, (.lload_n 0, 1)), (7, (.lload 4, 2)), (9, (.lcmp, 1)), (10, (.ifCond .gt 7, 3)), (13, (.iconst 1, 1)), (14, (.goto 4, 3)), (17, (.iconst 0, 1)), (18, (.ireturn, 1))]
def cd138 : List (Nat × (Instr × Nat)) := [(0, (.aload_n 0, 1)), (1, (.iload_n 1, 1)), (2, (.putfield 7, 3)), (5, (.iconst 0, 1)), (6, (.istore_n 2, 1)), (7, (.iload_n 2, 1)), (8, (.iconst 5, 1)), (9, (.if_icmp .ge 173, 3)), (12, (.iconst 0, 1)), (13, (.istore_n 3, 1)), (14, (.iload_n 3, 1)), (15, (.iconst 5, 1)), (16, (.if_icmp .ge 160, 3)), (19, (.iload_n 2, 1)), (20, (.iload_n 3, 1)), (21, (.if_icmp .ge 16, 3)), (24, (.aload_n 0, 1)), (25, (.getfield 20, 3)), (28, (.iconst 5, 1)), (29, (.iload_n 2, 1)), (30, (.imul, 1)), (31, (.iload_n 3, 1)), (32, (.iadd, 1)), (33, (.iaload, 1)), (34, (.goto 13, 3)), (37, (.aload_n 0, 1)), (38, (.getfield 20, 3)), (41, (.iconst 5, 1)), (42, (.iload_n 3, 1)), (43, (.imul, 1)), (44, (.iload_n 2, 1)), (45, (.iadd, 1)), (46, (.iaload, 1)), (47, (.istore 4, 2)), (49, (.aload_n 0, 1)), (50, (.getfield 13, 3)), (53, (.iconst 5, 1)), (54, (.iload_n 2, 1)), (55, (.imul, 1)), (56, (.iload_n 3, 1)), (57, (.iadd, 1)), (58, (.iload_n 2, 1)), (59, (.iload_n 3, 1)), (60, (.if_icmp .ne 7, 3)), (63, (.iconst 1, 1)), (64, (.goto 5, 3)), (67, (.iload 4, 2)), (69, (.iastore, 1)), (70, (.iload 4, 2)), (72, (.iconst 3, 1)), (73, (.if_icmp .ne 7, 3)), (76, (.iconst (-1), 1)), (77, (.goto 37, 3)), (80, (.iload 4, 2)), (82, (.iconst 4, 1)), (83, (.if_icmp .ne 8, 3)), (86, (.bipush (-2), 2)), (88, (.goto 26, 3)), (91, (.iload 4, 2)), (93, (.bipush 6, 2)), (95, (.if_icmp .ne 8, 3)), (98, (.bipush (-3), 2)), (100, (.goto 14, 3)), (103, (.iload 4, 2)), (105, (.ifCond .ne 8, 3)), (108, (.bipush (-2), 2)), (110, (.goto 4, 3)), (113, (.iconst 0, 1)), (114, (.istore 5, 2)), (116, (.iload 4, 2)), (118, (.iconst 2, 1)), (119, (.if_icmp .ne 7, 3)), (122, (.iconst 0, 1)), (123, (.goto 14, 3)), (126, (.iload 4, 2)), (128, (.ifCond .ne 8, 3)), (131, (.bipush (-2), 2)), (133, (.goto 4, 3)), (136, (.iconst (-1), 1)), (137, (.istore 6, 2)), (139, (.aload_n 0, 1)), (140, (.getfield 17, 3)), (143, (.iconst 5, 1)), (144, (.iload_n 2, 1)), (145, (.imul, 1)), (146, (.iload_n 3, 1)), (147, (.iadd, 1)), (148, (.iload_n 2, 1)), (149, (.iload_n 3, 1)), (150, (.if_icmp .ne 7, 3)), (153, (.iconst 2, 1)), (154, (.goto 15, 3)), (157, (.iload_n 2, 1)), (158, (.iload_n 3, 1)), (159, (.if_icmp .ge 8, 3)), (162, (.iload 5, 2)), (164, (.goto 5, 3)), (167, (.iload 6, 2)), (169, (.iastore, 1)), (170, (.iinc 3 1, 3)), (173, (.goto (-159), 3)), (176, (.iinc 2 1, 3)), (179, (.goto (-172), 3)), (182, (.aload_n 0, 1)), (183, (.iconst 1, 1)), (184, (.putfield 108, 3)), (187, (.aload_n 0, 1)), (188, (.getfield 40, 3)), (191, (.iconst 0, 1)), (192, (.iconst 0, 1)), (193, (.iastore, 1)), (194, (.aload_n 0, 1)), (195, (.iconst 0, 1)), (196, (.putfield 111, 3)), (199, (.aload_n 0, 1)), (200, (.iconst (-1), 1)), (201, (.putfield 74, 3)), (204, (.return_, 1))]
def cd139 : List (Nat × (Instr × Nat)) := [(0, (.iload_n 1, 1)), (1, (.i2l, 1)), (2, (.lconst 1, 1)), (3, (.ldc2_w 114, 3)), (6, (.invokestatic 116, 3)), (9, (.ifCond .ne 7, 3)), (12, (.sipush (-1002), 3)), (15, (.ireturn, 1)), (16, (.aload_n 0, 1)), (17, (.getfield 120, 3)), (20, (.iload_n 1, 1)), (21, (.iadd, 1)), (22, (.bipush 120, 2)), (24, (.if_icmp .le 7, 3)), (27, (.sipush (-1004), 3)), (30, (.ireturn, 1)), (31, (.iload_n 1, 1)), (32, (.iconst 1, 1)), (33, (.isub, 1)), (34, (.istore 4, 2)), (36, (.iload 4, 2)), (38, (.ifCond .lt 40, 3)), (41, (.aload_n 0, 1)), (42, (.getfield 23, 3)), (45, (.aload_n 0, 1)), (46, (.getfield 120, 3)), (49, (.lload_n 2, 1)), (50, (.bipush 8, 2)), (52, (.iload 4, 2)), (54, (.imul, 1)), (55, (.lshr, 1)), (56, (.ldc2_w 123, 3)), (59, (.land, 1)), (60, (.l2i, 1)), (61, (.iastore, 1)), (62, (.aload_n 0, 1)), (63, (.dup, 1)), (64, (.getfield 120, 3)), (67, (.iconst 1, 1)), (68, (.iadd, 1)), (69, (.putfield 120, 3)), (72, (.iinc 4 (-1), 3)), (75, (.goto (-39), 3)), (78, (.aload_n 0, 1)), (79, (.getfield 120, 3)), (82, (.ireturn, 1))]
def cd140 : List (Nat × (Instr × Nat)) := [(0, (.aload_n 0, 1)), (1, (.getfield 125, 3)), (4, (.aload_n 0, 1)), (5, (.getfield 120, 3)), (8, (.if_icmp .ge 30, 3)), (11, (.aload_n 0, 1)), (12, (.getfield 23, 3)), (15, (.aload_n 0, 1)), (16, (.getfield 125, 3)), (19, (.iaload, 1)), (20, (.bipush 32, 2)), (22, (.if_icmp .ne 16, 3)), (25, (.aload_n 0, 1)), (26, (.dup, 1)), (27, (.getfield 125, 3)), (30, (.iconst 1, 1)), (31, (.iadd, 1)), (32, (.putfield 125, 3)), (35, (.goto (-35), 3)), (38, (.aload_n 0, 1)), (39, (.getfield 125, 3)), (42, (.aload_n 0, 1)), (43, (.getfield 120, 3)), (46, (.if_icmp .ge 15, 3)), (49, (.aload_n 0, 1)), (50, (.getfield 23, 3)), (53, (.aload_n 0, 1)), (54, (.getfield 125, 3)), (57, (.iaload, 1)), (58, (.goto 4, 3)), (61, (.iconst (-1), 1)), (62, (.ireturn, 1))]
def cd141 : List (Nat × (Instr × Nat)) := [(0, (.aload_n 0, 1)), (1, (.iload_n 2, 1)), (2, (.putfield 26, 3)), (5, (.iload_n 1, 1)), (6, (.ireturn, 1))]
def cd142 : List (Nat × (Instr × Nat)) := [(0, (.aload_n 0, 1)), (1, (.invokevirtual 128, 3)), (4, (.istore_n 1, 1)), (5, (.aload_n 0, 1)), (6, (.lconst 0, 1)), (7, (.putfield 132, 3)), (10, (.aload_n 0, 1)), (11, (.aload_n 0, 1)), (12, (.getfield 125, 3)), (15, (.putfield 136, 3)), (18, (.aload_n 0, 1)), (19, (.getfield 136, 3)), (22, (.aload_n 0, 1)), (23, (.getfield 120, 3)), (26, (.if_icmp .ge 82, 3)), (29, (.aload_n 0, 1)), (30, (.getfield 23, 3)), (33, (.aload_n 0, 1)), (34, (.getfield 136, 3)), (37, (.iaload, 1)), (38, (.i2l, 1)), (39, (.ldc2_w 139, 3)), (42, (.ldc2_w 141, 3)), (45, (.invokestatic 116, 3)), (48, (.ifCond .eq 60, 3)), (51, (.aload_n 0, 1)), (52, (.aload_n 0, 1)), (53, (.getfield 132, 3)), (56, (.ldc2_w 143, 3)), (59, (.lcmp, 1)), (60, (.ifCond .le 9, 3)), (63, (.ldc2_w 145, 3)), (66, (.goto 26, 3)), (69, (.ldc2_w 147, 3)), (72, (.aload_n 0, 1)), (73, (.getfield 132, 3)), (76, (.lmul, 1)), (77, (.aload_n 0, 1)), (78, (.getfield 23, 3)), (81, (.aload_n 0, 1)), (82, (.getfield 136, 3)), (85, (.iaload, 1)), (86, (.i2l, 1)), (87, (.ladd, 1)), (88, (.ldc2_w 149, 3)), (91, (.lsub, 1)), (92, (.putfield 132, 3)), (95, (.aload_n 0, 1)), (96, (.dup, 1)), (97, (.getfield 136, 3)), (100, (.iconst 1, 1)), (101, (.iadd, 1)), (102, (.putfield 136, 3)), (105, (.goto (-87), 3)), (108, (.return_, 1))]
def cd143 : List (Nat × (Instr × Nat)) := [(0, (.ldc2_w 147, 3)), (3, (.lload_n 0, 1)), (4, (.lmul, 1)), (5, (.iload_n 2, 1)), (6, (.i2l, 1)), (7, (.ladd, 1)), (8, (.ldc2_w 149, 3)), (11, (.lsub, 1)), (12, (.lstore 6, 2)), (14, (.iload_n 3, 1)), (15, (.ifCond .ne 8, 3)), (18, (.lload 6, 2)), (20, (.goto 16, 3)), (23, (.ldc2_w 147, 3)), (26, (.lload 6, 2)), (28, (.lmul, 1)), (29, (.iload_n 3, 1)), (30, (.i2l, 1)), (31, (.ladd, 1)), (32, (.ldc2_w 149, 3)), (35, (.lsub, 1)), (36, (.lstore 6, 2)), (38, (.iload 4, 2)), (40, (.ifCond .ne 8, 3)), (43, (.lload 6, 2)), (45, (.goto 17, 3)), (48, (.ldc2_w 147, 3)), (51, (.lload 6, 2)), (53, (.lmul, 1)), (54, (.iload 4, 2)), (56, (.i2l, 1)), (57, (.ladd, 1)), (58, (.ldc2_w 149, 3)), (61, (.lsub, 1)), (62, (.lstore 6, 2)), (64, (.iload 5, 2)), (66, (.ifCond .ne 8, 3)), (69, (.lload 6, 2)), (71, (.goto 17, 3)), (74, (.ldc2_w 147, 3)), (77, (.lload 6, 2)), (79, (.lmul, 1)), (80, (.iload 5, 2)), (82, (.i2l, 1)), (83, (.ladd, 1)), (84, (.ldc2_w 149, 3)), (87, (.lsub, 1)), (88, (.lreturn, 1))]
def cd144 : List (Nat × (Instr × Nat)) := [(0, (.aload_n 0, 1)), (1, (.invokevirtual 128, 3)), (4, (.istore_n 3, 1)), (5, (.iload_n 3, 1)), (6, (.i2l, 1)), (7, (.ldc2_w 151, 3)), (10, (.ldc2_w 153, 3)), (13, (.invokestatic 116, 3)), (16, (.ifCond .ne 13, 3)), (19, (.aload_n 0, 1)), (20, (.iconst 1, 1)), (21, (.aload_n 0, 1)), (22, (.getfield 125, 3)), (25, (.invokevirtual 155, 3)), (28, (.ireturn, 1)), (29, (.aload_n 0, 1)), (30, (.iload_n 3, 1)), (31, (.bipush 48, 2)), (33, (.isub, 1)), (34, (.putfield 159, 3)), (37, (.aload_n 0, 1)), (38, (.getfield 159, 3)), (41, (.i2l, 1)), (42, (.iload_n 1, 1)), (43, (.i2l, 1)), (44, (.iload_n 2, 1)), (45, (.i2l, 1)), (46, (.invokestatic 116, 3)), (49, (.ifCond .ne 13, 3)), (52, (.aload_n 0, 1)), (53, (.iconst 2, 1)), (54, (.aload_n 0, 1)), (55, (.getfield 125, 3)), (58, (.invokevirtual 155, 3)), (61, (.ireturn, 1)), (62, (.aload_n 0, 1)), (63, (.dup, 1)), (64, (.getfield 125, 3)), (67, (.iconst 1, 1)), (68, (.iadd, 1)), (69, (.putfield 125, 3)), (72, (.iconst 0, 1)), (73, (.ireturn, 1))]
def cd145 : List (Nat × (Instr × Nat)) := [(0, (.aload_n 0, 1)), (1, (.invokevirtual 128, 3)), (4, (.i2l, 1)), (5, (.ldc2_w 139, 3)), (8, (.ldc2_w 141, 3)), (11, (.invokestatic 116, 3)), (14, (.ifCond .eq 62, 3)), (17, (.aload_n 0, 1)), (18, (.invokevirtual 162, 3)), (21, (.aload_n 0, 1)), (22, (.getfield 132, 3)), (25, (.lconst 0, 1)), (26, (.bipush 110, 2)), (28, (.bipush 101, 2)), (30, (.bipush 118, 2)), (32, (.bipush 101, 2)), (34, (.invokestatic 165, 3)), (37, (.bipush 114, 2)), (39, (.iconst 0, 1)), (40, (.iconst 0, 1)), (41, (.iconst 0, 1)), (42, (.invokestatic 165, 3)), (45, (.lcmp, 1)), (46, (.ifCond .eq 13, 3)), (49, (.aload_n 0, 1)), (50, (.iconst 1, 1)), (51, (.aload_n 0, 1)), (52, (.getfield 125, 3)), (55, (.invokevirtual 155, 3)), (58, (.ireturn, 1)), (59, (.aload_n 0, 1)), (60, (.aload_n 0, 1)), (61, (.getfield 136, 3)), (64, (.putfield 125, 3)), (67, (.aload_n 0, 1)), (68, (.getfield 20, 3)), (71, (.iload_n 1, 1)), (72, (.iconst 0, 1)), (73, (.iastore, 1)), (74, (.iconst 0, 1)), (75, (.ireturn, 1)), (76, (.aload_n 0, 1)), (77, (.iconst 2, 1)), (78, (.bipush 6, 2)), (80, (.invokevirtual 169, 3)), (83, (.istore_n 2, 1)), (84, (.iload_n 2, 1)), (85, (.ifCond .ne 23, 3)), (88, (.aload_n 0, 1)), (89, (.getfield 159, 3)), (92, (.iconst 5, 1)), (93, (.if_icmp .ne 15, 3)), (96, (.aload_n 0, 1)), (97, (.iconst 2, 1)), (98, (.aload_n 0, 1)), (99, (.getfield 125, 3)), (102, (.iconst 1, 1)), (103, (.isub, 1)), (104, (.invokevirtual 155, 3)), (107, (.ireturn, 1)), (108, (.aload_n 0, 1)), (109, (.getfield 20, 3)), (112, (.iload_n 1, 1)), (113, (.aload_n 0, 1)), (114, (.getfield 159, 3)), (117, (.iastore, 1)), (118, (.iload_n 2, 1)), (119, (.ireturn, 1))]
def cd146 : List (Nat × (Instr × Nat)) := [(0, (.aload_n 0, 1)), (1, (.getfield 125, 3)), (4, (.istore_n 2, 1)), (5, (.aload_n 0, 1)), (6, (.iconst 0, 1)), (7, (.iload_n 1, 1)), (8, (.iconst 1, 1)), (9, (.isub, 1)), (10, (.invokevirtual 169, 3)), (13, (.istore_n 3, 1)), (14, (.aload_n 0, 1)), (15, (.getfield 159, 3)), (18, (.istore 4, 2)), (20, (.iload_n 3, 1)), (21, (.ifCond .le 5, 3)), (24, (.iload_n 3, 1)), (25, (.ireturn, 1)), (26, (.aload_n 0, 1)), (27, (.iconst 0, 1)), (28, (.iload_n 1, 1)), (29, (.iconst 1, 1)), (30, (.isub, 1)), (31, (.invokevirtual 169, 3)), (34, (.istore_n 3, 1)), (35, (.aload_n 0, 1)), (36, (.getfield 159, 3)), (39, (.istore 5, 2)), (41, (.iload_n 3, 1)), (42, (.ifCond .le 5, 3)), (45, (.iload_n 3, 1)), (46, (.ireturn, 1)), (47, (.iload 4, 2)), (49, (.iload 5, 2)), (51, (.if_icmp .ne 15, 3)), (54, (.aload_n 0, 1)), (55, (.iconst 2, 1)), (56, (.aload_n 0, 1)), (57, (.getfield 125, 3)), (60, (.iconst 1, 1)), (61, (.isub, 1)), (62, (.invokevirtual 155, 3)), (65, (.ireturn, 1)), (66, (.iload 4, 2)), (68, (.iload 5, 2)), (70, (.if_icmp .ge 13, 3)), (73, (.iconst 5, 1)), (74, (.iload 4, 2)), (76, (.imul, 1)), (77, (.iload 5, 2)), (79, (.iadd, 1)), (80, (.goto 10, 3)), (83, (.iconst 5, 1)), (84, (.iload 5, 2)), (86, (.imul, 1)), (87, (.iload 4, 2)), (89, (.iadd, 1)), (90, (.istore 6, 2)), (92, (.aload_n 0, 1)), (93, (.getfield 29, 3)), (96, (.iload 6, 2)), (98, (.baload, 1)), (99, (.ifCond .eq 10, 3)), (102, (.aload_n 0, 1)), (103, (.iconst 3, 1)), (104, (.iload_n 2, 1)), (105, (.invokevirtual 155, 3)), (108, (.ireturn, 1)), (109, (.aload_n 0, 1)), (110, (.getfield 29, 3)), (113, (.iload 6, 2)), (115, (.iconst 1, 1)), (116, (.bastore, 1)), (117, (.aload_n 0, 1)), (118, (.iload 6, 2)), (120, (.invokevirtual 172, 3)), (123, (.ireturn, 1))]
def cd147 : List (Nat × (Instr × Nat)) := [(0, (.aload_n 0, 1)), (1, (.invokevirtual 128, 3)), (4, (.istore_n 2, 1)), (5, (.iconst 0, 1)), (6, (.istore_n 3, 1)), (7, (.iload_n 2, 1)), (8, (.i2l, 1)), (9, (.ldc2_w 139, 3)), (12, (.ldc2_w 141, 3)), (15, (.invokestatic 116, 3)), (18, (.ifCond .eq 88, 3)), (21, (.aload_n 0, 1)), (22, (.invokevirtual 162, 3)), (25, (.iload_n 1, 1)), (26, (.ifCond .eq 33, 3)), (29, (.aload_n 0, 1)), (30, (.getfield 132, 3)), (33, (.lconst 0, 1)), (34, (.bipush 109, 2)), (36, (.bipush 105, 2)), (38, (.bipush 114, 2)), (40, (.bipush 114, 2)), (42, (.invokestatic 165, 3)), (45, (.bipush 111, 2)), (47, (.bipush 114, 2)), (49, (.bipush 115, 2)), (51, (.iconst 0, 1)), (52, (.invokestatic 165, 3)), (55, (.lcmp, 1)), (56, (.ifCond .eq 13, 3)), (59, (.aload_n 0, 1)), (60, (.iconst 1, 1)), (61, (.aload_n 0, 1)), (62, (.getfield 125, 3)), (65, (.invokevirtual 155, 3)), (68, (.ireturn, 1)), (69, (.aload_n 0, 1)), (70, (.aload_n 0, 1)), (71, (.getfield 136, 3)), (74, (.putfield 125, 3)), (77, (.aload_n 0, 1)), (78, (.iconst 1, 1)), (79, (.iconst 5, 1)), (80, (.invokevirtual 169, 3)), (83, (.istore_n 3, 1)), (84, (.aload_n 0, 1)), (85, (.iload_n 3, 1)), (86, (.ifCond .ne 10, 3)), (89, (.aload_n 0, 1)), (90, (.getfield 159, 3)), (93, (.goto 7, 3)), (96, (.aload_n 0, 1)), (97, (.getfield 176, 3)), (100, (.putfield 176, 3)), (103, (.goto 12, 3)), (106, (.aload_n 0, 1)), (107, (.aload_n 0, 1)), (108, (.getfield 176, 3)), (111, (.invokevirtual 179, 3)), (114, (.istore_n 3, 1)), (115, (.iload_n 3, 1)), (116, (.ifCond .le 5, 3)), (119, (.iload_n 3, 1)), (120, (.ireturn, 1)), (121, (.aload_n 0, 1)), (122, (.invokevirtual 128, 3)), (125, (.bipush 59, 2)), (127, (.if_icmp .eq 13, 3)), (130, (.aload_n 0, 1)), (131, (.iconst 1, 1)), (132, (.aload_n 0, 1)), (133, (.getfield 125, 3)), (136, (.invokevirtual 155, 3)), (139, (.ireturn, 1)), (140, (.aload_n 0, 1)), (141, (.dup, 1)), (142, (.getfield 125, 3)), (145, (.iconst 1, 1)), (146, (.iadd, 1)), (147, (.putfield 125, 3)), (150, (.iconst 0, 1)), (151, (.ireturn, 1))]
def cd148 : List (Nat × (Instr × Nat)) := [(0, (.aload_n 0, 1)), (1, (.iconst (-1), 1)), (2, (.putfield 26, 3)), (5, (.aload_n 0, 1)), (6, (.iconst 0, 1)), (7, (.putfield 125, 3)), (10, (.aload_n 0, 1)), (11, (.iconst 3, 1)), (12, (.putfield 176, 3)), (15, (.iconst 0, 1)), (16, (.istore_n 1, 1)), (17, (.iload_n 1, 1)), (18, (.bipush 25, 2)), (20, (.if_icmp .ge 23, 3)), (23, (.aload_n 0, 1)), (24, (.getfield 20, 3)), (27, (.iload_n 1, 1)), (28, (.iconst 2, 1)), (29, (.iastore, 1)), (30, (.aload_n 0, 1)), (31, (.getfield 29, 3)), (34, (.iload_n 1, 1)), (35, (.iconst 0, 1)), (36, (.bastore, 1)), (37, (.iinc 1 1, 3)), (40, (.goto (-23), 3)), (43, (.iconst 1, 1)), (44, (.istore_n 1, 1)), (45, (.iconst 0, 1)), (46, (.istore_n 2, 1)), (47, (.iload_n 2, 1)), (48, (.ifCond .ne 21, 3)), (51, (.aload_n 0, 1)), (52, (.invokevirtual 128, 3)), (55, (.ifCond .lt 14, 3)), (58, (.aload_n 0, 1)), (59, (.iload_n 1, 1)), (60, (.invokevirtual 182, 3)), (63, (.istore_n 2, 1)), (64, (.iconst 0, 1)), (65, (.istore_n 1, 1)), (66, (.goto (-19), 3)), (69, (.aload_n 0, 1)), (70, (.iconst 0, 1)), (71, (.putfield 120, 3)), (74, (.iload_n 2, 1)), (75, (.ifCond .le 8, 3)), (78, (.bipush (-10), 2)), (80, (.iload_n 2, 1)), (81, (.isub, 1)), (82, (.ireturn, 1)), (83, (.aload_n 0, 1)), (84, (.aload_n 0, 1)), (85, (.getfield 176, 3)), (88, (.invokevirtual 104, 3)), (91, (.aload_n 0, 1)), (92, (.getfield 7, 3)), (95, (.ireturn, 1))]
def cd149 : List (Nat × (Instr × Nat)) := [(0, (.aload_n 0, 1)), (1, (.getfield 26, 3)), (4, (.ireturn, 1))]
def cd150 : List (Nat × (Instr × Nat)) := [(0, (.iload_n 1, 1)), (1, (.i2l, 1)), (2, (.lconst 0, 1)), (3, (.aload_n 0, 1)), (4, (.getfield 7, 3)), (7, (.iconst 1, 1)), (8, (.isub, 1)), (9, (.i2l, 1)), (10, (.invokestatic 116, 3)), (13, (.ireturn, 1))]
def cd151 : List (Nat × (Instr × Nat)) := [(0, (.aload_n 0, 1)), (1, (.iload_n 1, 1)), (2, (.invokevirtual 186, 3)), (5, (.ifCond .eq 24, 3)), (8, (.aload_n 0, 1)), (9, (.iload_n 2, 1)), (10, (.invokevirtual 186, 3)), (13, (.ifCond .eq 16, 3)), (16, (.aload_n 0, 1)), (17, (.getfield 13, 3)), (20, (.iconst 5, 1)), (21, (.iload_n 1, 1)), (22, (.imul, 1)), (23, (.iload_n 2, 1)), (24, (.iadd, 1)), (25, (.iaload, 1)), (26, (.goto 6, 3)), (29, (.sipush (-1002), 3)), (32, (.ireturn, 1))]
def cd152 : List (Nat × (Instr × Nat)) := [(0, (.aload_n 0, 1)), (1, (.iload_n 1, 1)), (2, (.invokevirtual 186, 3)), (5, (.ifCond .eq 24, 3)), (8, (.aload_n 0, 1)), (9, (.iload_n 2, 1)), (10, (.invokevirtual 186, 3)), (13, (.ifCond .eq 16, 3)), (16, (.aload_n 0, 1)), (17, (.getfield 17, 3)), (20, (.iconst 5, 1)), (21, (.iload_n 1, 1)), (22, (.imul, 1)), (23, (.iload_n 2, 1)), (24, (.iadd, 1)), (25, (.iaload, 1)), (26, (.goto 6, 3)), (29, (.sipush (-1002), 3)), (32, (.ireturn, 1))]
def cd153 : List (Nat × (Instr × Nat)) := [(0, (.iload_n 1, 1)), (1, (.tableswitch 51 0 3 #[31, 36, 41, 46], 31)), (32, (.aload_n 0, 1)), (33, (.getfield 7, 3)), (36, (.ireturn, 1)), (37, (.aload_n 0, 1)), (38, (.getfield 108, 3)), (41, (.ireturn, 1)), (42, (.aload_n 0, 1)), (43, (.getfield 120, 3)), (46, (.ireturn, 1)), (47, (.aload_n 0, 1)), (48, (.getfield 111, 3)), (51, (.ireturn, 1)), (52, (.sipush (-1002), 3)), (55, (.ireturn, 1))]
def cd154 : List (Nat × (Instr × Nat)) := [(0, (.iconst 0, 1)), (1, (.istore_n 1, 1)), (2, (.iload_n 1, 1)), (3, (.bipush 25, 2)), (5, (.if_icmp .ge 29, 3)), (8, (.aload_n 0, 1)), (9, (.getfield 33, 3)), (12, (.iload_n 1, 1)), (13, (.iload_n 1, 1)), (14, (.iconst 5, 1)), (15, (.idiv, 1)), (16, (.iload_n 1, 1)), (17, (.iconst 5, 1)), (18, (.irem, 1)), (19, (.if_icmp .ne 7, 3)), (22, (.lconst 1, 1)), (23, (.goto 4, 3)), (26, (.lconst 0, 1)), (27, (.lastore, 1)), (28, (.iinc 1 1, 3)), (31, (.goto (-29), 3)), (34, (.return_, 1))]
def cd155 : List (Nat × (Instr × Nat)) := [(0, (.iconst 0, 1)), (1, (.istore 5, 2)), (3, (.iload 5, 2)), (5, (.iload_n 3, 1)), (6, (.if_icmp .ge 65, 3)), (9, (.iconst 0, 1)), (10, (.istore 6, 2)), (12, (.iload 6, 2)), (14, (.iload_n 3, 1)), (15, (.if_icmp .ge 50, 3)), (18, (.iload 5, 2)), (20, (.iload_n 2, 1)), (21, (.if_icmp .eq 44, 3)), (24, (.aload_n 0, 1)), (25, (.iload_n 1, 1)), (26, (.iconst 5, 1)), (27, (.iload 5, 2)), (29, (.imul, 1)), (30, (.iadd, 1)), (31, (.iload 6, 2)), (33, (.iadd, 1)), (34, (.dup2, 1)), (35, (.laload, 1)), (36, (.aload 4, 2)), (38, (.iconst 5, 1)), (39, (.iload_n 2, 1)), (40, (.imul, 1)), (41, (.iload 5, 2)), (43, (.iadd, 1)), (44, (.iaload, 1)), (45, (.i2l, 1)), (46, (.aload_n 0, 1)), (47, (.iload_n 1, 1)), (48, (.iconst 5, 1)), (49, (.iload_n 2, 1)), (50, (.imul, 1)), (51, (.iadd, 1)), (52, (.iload 6, 2)), (54, (.iadd, 1)), (55, (.laload, 1)), (56, (.lmul, 1)), (57, (.lsub, 1)), (58, (.lastore, 1)), (59, (.iinc 6 1, 3)), (62, (.goto (-50), 3)), (65, (.iinc 5 1, 3)), (68, (.goto (-65), 3)), (71, (.iconst 0, 1)), (72, (.istore 5, 2)), (74, (.iload 5, 2)), (76, (.iload_n 3, 1)), (77, (.if_icmp .ge 30, 3)), (80, (.aload_n 0, 1)), (81, (.iload_n 1, 1)), (82, (.iconst 5, 1)), (83, (.iload_n 2, 1)), (84, (.imul, 1)), (85, (.iadd, 1)), (86, (.iload 5, 2)), (88, (.iadd, 1)), (89, (.aload_n 0, 1)), (90, (.iload_n 1, 1)), (91, (.iconst 5, 1)), (92, (.iload_n 2, 1)), (93, (.imul, 1)), (94, (.iadd, 1)), (95, (.iload 5, 2)), (97, (.iadd, 1)), (98, (.laload, 1)), (99, (.lneg, 1)), (100, (.lastore, 1)), (101, (.iinc 5 1, 3)), (104, (.goto (-30), 3)), (107, (.return_, 1))]
def cd156 : List (Nat × (Instr × Nat)) := [(0, (.aload_n 0, 1)), (1, (.getfield 33, 3)), (4, (.iconst 0, 1)), (5, (.iload_n 1, 1)), (6, (.aload_n 0, 1)), (7, (.getfield 7, 3)), (10, (.aload_n 0, 1)), (11, (.getfield 17, 3)), (14, (.invokestatic 190, 3)), (17, (.return_, 1))]
def cd157 : List (Nat × (Instr × Nat)) := [(0, (.iconst 0, 1)), (1, (.istore_n 3, 1)), (2, (.iconst 0, 1)), (3, (.istore 4, 2)), (5, (.iload 4, 2)), (7, (.iconst 5, 1)), (8, (.if_icmp .ge 34, 3)), (11, (.iload_n 3, 1)), (12, (.ifCond .ne 18, 3)), (15, (.aload_n 0, 1)), (16, (.iload_n 1, 1)), (17, (.iconst 5, 1)), (18, (.iload_n 2, 1)), (19, (.imul, 1)), (20, (.iadd, 1)), (21, (.iload 4, 2)), (23, (.iadd, 1)), (24, (.laload, 1)), (25, (.lconst 0, 1)), (26, (.lcmp, 1)), (27, (.ifCond .ge 7, 3)), (30, (.iconst 1, 1)), (31, (.goto 4, 3)), (34, (.iconst 0, 1)), (35, (.istore_n 3, 1)), (36, (.iinc 4 1, 3)), (39, (.goto (-34), 3)), (42, (.iload_n 3, 1)), (43, (.ireturn, 1))]
def cd158 : List (Nat × (Instr × Nat)) := [(0, (.iconst 0, 1)), (1, (.istore_n 1, 1)), (2, (.iload_n 1, 1)), (3, (.aload_n 0, 1)), (4, (.getfield 7, 3)), (7, (.if_icmp .ge 23, 3)), (10, (.aload_n 0, 1)), (11, (.getfield 33, 3)), (14, (.iconst 0, 1)), (15, (.iload_n 1, 1)), (16, (.invokestatic 194, 3)), (19, (.ifCond .eq 5, 3)), (22, (.iload_n 1, 1)), (23, (.ireturn, 1)), (24, (.iinc 1 1, 3)), (27, (.goto (-25), 3)), (30, (.iconst (-1), 1)), (31, (.ireturn, 1))]
def cd159 : List (Nat × (Instr × Nat)) := [(0, (.aload_n 0, 1)), (1, (.invokevirtual 198, 3)), (4, (.aload_n 0, 1)), (5, (.getfield 201, 3)), (8, (.iconst 1, 1)), (9, (.isub, 1)), (10, (.istore_n 1, 1)), (11, (.iload_n 1, 1)), (12, (.ifCond .lt 19, 3)), (15, (.aload_n 0, 1)), (16, (.aload_n 0, 1)), (17, (.getfield 37, 3)), (20, (.iload_n 1, 1)), (21, (.iaload, 1)), (22, (.invokevirtual 204, 3)), (25, (.iinc 1 (-1), 3)), (28, (.goto (-17), 3)), (31, (.aload_n 0, 1)), (32, (.iconst 0, 1)), (33, (.putfield 201, 3)), (36, (.aload_n 0, 1)), (37, (.invokevirtual 207, 3)), (40, (.istore_n 1, 1)), (41, (.iload_n 1, 1)), (42, (.ifCond .lt 36, 3)), (45, (.aload_n 0, 1)), (46, (.getfield 37, 3)), (49, (.aload_n 0, 1)), (50, (.getfield 201, 3)), (53, (.iload_n 1, 1)), (54, (.iastore, 1)), (55, (.aload_n 0, 1)), (56, (.dup, 1)), (57, (.getfield 201, 3)), (60, (.iconst 1, 1)), (61, (.iadd, 1)), (62, (.putfield 201, 3)), (65, (.aload_n 0, 1)), (66, (.iload_n 1, 1)), (67, (.invokevirtual 204, 3)), (70, (.aload_n 0, 1)), (71, (.invokevirtual 207, 3)), (74, (.istore_n 1, 1)), (75, (.goto (-34), 3)), (78, (.return_, 1))]
def cd160 : List (Nat × (Instr × Nat)) := [(0, (.iload_n 1, 1)), (1, (.i2l, 1)), (2, (.lconst 0, 1)), (3, (.aload_n 0, 1)), (4, (.getfield 108, 3)), (7, (.iconst 1, 1)), (8, (.isub, 1)), (9, (.i2l, 1)), (10, (.invokestatic 116, 3)), (13, (.ireturn, 1))]
def cd161 : List (Nat × (Instr × Nat)) := [(0, (.aload_n 0, 1)), (1, (.iload_n 1, 1)), (2, (.invokevirtual 186, 3)), (5, (.ifCond .ne 7, 3)), (8, (.sipush (-1002), 3)), (11, (.ireturn, 1)), (12, (.aload_n 0, 1)), (13, (.getfield 111, 3)), (16, (.bipush 20, 2)), (18, (.if_icmp .ne 7, 3)), (21, (.sipush (-1004), 3)), (24, (.ireturn, 1)), (25, (.aload_n 0, 1)), (26, (.getfield 46, 3)), (29, (.aload_n 0, 1)), (30, (.getfield 111, 3)), (33, (.iload_n 1, 1)), (34, (.iastore, 1)), (35, (.aload_n 0, 1)), (36, (.dup, 1)), (37, (.getfield 111, 3)), (40, (.iconst 1, 1)), (41, (.iadd, 1)), (42, (.putfield 111, 3)), (45, (.aload_n 0, 1)), (46, (.getfield 111, 3)), (49, (.ireturn, 1))]
def cd162 : List (Nat × (Instr × Nat)) := [(0, (.aload_n 0, 1)), (1, (.getfield 40, 3)), (4, (.iload_n 1, 1)), (5, (.iaload, 1)), (6, (.aload_n 0, 1)), (7, (.getfield 201, 3)), (10, (.if_icmp .ne 7, 3)), (13, (.iconst 1, 1)), (14, (.goto 4, 3)), (17, (.iconst 0, 1)), (18, (.istore_n 2, 1)), (19, (.iconst 0, 1)), (20, (.istore_n 3, 1)), (21, (.iload_n 3, 1)), (22, (.aload_n 0, 1)), (23, (.getfield 201, 3)), (26, (.if_icmp .ge 39, 3)), (29, (.iload_n 2, 1)), (30, (.ifCond .eq 35, 3)), (33, (.aload_n 0, 1)), (34, (.getfield 43, 3)), (37, (.bipush 20, 2)), (39, (.iload_n 1, 1)), (40, (.imul, 1)), (41, (.iload_n 3, 1)), (42, (.iadd, 1)), (43, (.iaload, 1)), (44, (.aload_n 0, 1)), (45, (.getfield 37, 3)), (48, (.iload_n 3, 1)), (49, (.iaload, 1)), (50, (.if_icmp .ne 7, 3)), (53, (.iconst 1, 1)), (54, (.goto 4, 3)), (57, (.iconst 0, 1)), (58, (.istore_n 2, 1)), (59, (.iinc 3 1, 3)), (62, (.goto (-41), 3)), (65, (.iload_n 2, 1)), (66, (.ireturn, 1))]
def cd163 : List (Nat × (Instr × Nat)) := [(0, (.aload_n 0, 1)), (1, (.invokevirtual 210, 3)), (4, (.iconst 0, 1)), (5, (.istore_n 1, 1)), (6, (.iload_n 1, 1)), (7, (.aload_n 0, 1)), (8, (.getfield 108, 3)), (11, (.if_icmp .ge 19, 3)), (14, (.aload_n 0, 1)), (15, (.iload_n 1, 1)), (16, (.invokevirtual 213, 3)), (19, (.ifCond .eq 5, 3)), (22, (.iload_n 1, 1)), (23, (.ireturn, 1)), (24, (.iinc 1 1, 3)), (27, (.goto (-21), 3)), (30, (.aload_n 0, 1)), (31, (.getfield 108, 3)), (34, (.bipush 40, 2)), (36, (.if_icmp .ne 7, 3)), (39, (.sipush (-1004), 3)), (42, (.ireturn, 1)), (43, (.aload_n 0, 1)), (44, (.getfield 40, 3)), (47, (.aload_n 0, 1)), (48, (.getfield 108, 3)), (51, (.aload_n 0, 1)), (52, (.getfield 201, 3)), (55, (.iastore, 1)), (56, (.iconst 0, 1)), (57, (.istore_n 1, 1)), (58, (.iload_n 1, 1)), (59, (.aload_n 0, 1)), (60, (.getfield 201, 3)), (63, (.if_icmp .ge 29, 3)), (66, (.aload_n 0, 1)), (67, (.getfield 43, 3)), (70, (.bipush 20, 2)), (72, (.aload_n 0, 1)), (73, (.getfield 108, 3)), (76, (.imul, 1)), (77, (.iload_n 1, 1)), (78, (.iadd, 1)), (79, (.aload_n 0, 1)), (80, (.getfield 37, 3)), (83, (.iload_n 1, 1)), (84, (.iaload, 1)), (85, (.iastore, 1)), (86, (.iinc 1 1, 3)), (89, (.goto (-31), 3)), (92, (.aload_n 0, 1)), (93, (.dup, 1)), (94, (.getfield 108, 3)), (97, (.iconst 1, 1)), (98, (.iadd, 1)), (99, (.putfield 108, 3)), (102, (.aload_n 0, 1)), (103, (.getfield 108, 3)), (106, (.iconst 1, 1)), (107, (.isub, 1)), (108, (.ireturn, 1))]
def cd164 : List (Nat × (Instr × Nat)) := [(0, (.aload_n 0, 1)), (1, (.getfield 37, 3)), (4, (.aload_n 0, 1)), (5, (.getfield 201, 3)), (8, (.iload_n 1, 1)), (9, (.iastore, 1)), (10, (.aload_n 0, 1)), (11, (.dup, 1)), (12, (.getfield 201, 3)), (15, (.iconst 1, 1)), (16, (.iadd, 1)), (17, (.putfield 201, 3)), (20, (.return_, 1))]
def cd165 : List (Nat × (Instr × Nat)) := [(0, (.iconst 0, 1)), (1, (.istore_n 2, 1)), (2, (.iload_n 2, 1)), (3, (.aload_n 0, 1)), (4, (.getfield 40, 3)), (7, (.iload_n 1, 1)), (8, (.iaload, 1)), (9, (.if_icmp .ge 24, 3)), (12, (.aload_n 0, 1)), (13, (.aload_n 0, 1)), (14, (.getfield 43, 3)), (17, (.bipush 20, 2)), (19, (.iload_n 1, 1)), (20, (.imul, 1)), (21, (.iload_n 2, 1)), (22, (.iadd, 1)), (23, (.iaload, 1)), (24, (.invokevirtual 216, 3)), (27, (.iinc 2 1, 3)), (30, (.goto (-28), 3)), (33, (.return_, 1))]
def cd166 : List (Nat × (Instr × Nat)) := [(0, (.aload_n 0, 1)), (1, (.iconst 0, 1)), (2, (.putfield 201, 3)), (5, (.iconst 0, 1)), (6, (.istore_n 1, 1)), (7, (.iload_n 1, 1)), (8, (.aload_n 0, 1)), (9, (.getfield 111, 3)), (12, (.if_icmp .ge 19, 3)), (15, (.aload_n 0, 1)), (16, (.aload_n 0, 1)), (17, (.getfield 46, 3)), (20, (.iload_n 1, 1)), (21, (.iaload, 1)), (22, (.invokevirtual 216, 3)), (25, (.iinc 1 1, 3)), (28, (.goto (-21), 3)), (31, (.aload_n 0, 1)), (32, (.invokevirtual 219, 3)), (35, (.istore_n 1, 1)), (36, (.aload_n 0, 1)), (37, (.iload_n 1, 1)), (38, (.ifCond .ge 10, 3)), (41, (.aload_n 0, 1)), (42, (.getfield 111, 3)), (45, (.goto 4, 3)), (48, (.iconst 0, 1)), (49, (.putfield 111, 3)), (52, (.iload_n 1, 1)), (53, (.ireturn, 1))]
def cd167 : List (Nat × (Instr × Nat)) := [(0, (.aload_n 0, 1)), (1, (.iload_n 1, 1)), (2, (.invokevirtual 222, 3)), (5, (.ifCond .eq 12, 3)), (8, (.aload_n 0, 1)), (9, (.getfield 40, 3)), (12, (.iload_n 1, 1)), (13, (.iaload, 1)), (14, (.goto 6, 3)), (17, (.sipush (-1001), 3)), (20, (.ireturn, 1))]
def cd168 : List (Nat × (Instr × Nat)) := [(0, (.aload_n 0, 1)), (1, (.iload_n 1, 1)), (2, (.invokevirtual 222, 3)), (5, (.ifCond .ne 7, 3)), (8, (.sipush (-1001), 3)), (11, (.ireturn, 1)), (12, (.iload_n 2, 1)), (13, (.i2l, 1)), (14, (.lconst 0, 1)), (15, (.aload_n 0, 1)), (16, (.getfield 40, 3)), (19, (.iload_n 1, 1)), (20, (.iaload, 1)), (21, (.iconst 1, 1)), (22, (.isub, 1)), (23, (.i2l, 1)), (24, (.invokestatic 116, 3)), (27, (.ifCond .eq 17, 3)), (30, (.aload_n 0, 1)), (31, (.getfield 43, 3)), (34, (.bipush 20, 2)), (36, (.iload_n 1, 1)), (37, (.imul, 1)), (38, (.iload_n 2, 1)), (39, (.iadd, 1)), (40, (.iaload, 1)), (41, (.goto 4, 3)), (44, (.iconst (-1), 1)), (45, (.ireturn, 1))]
def cd169 : List (Nat × (Instr × Nat)) := [(0, (.aload_n 0, 1)), (1, (.invokevirtual 198, 3)), (4, (.iconst 0, 1)), (5, (.istore_n 3, 1)), (6, (.iload_n 3, 1)), (7, (.aload_n 0, 1)), (8, (.getfield 40, 3)), (11, (.iload_n 1, 1)), (12, (.iaload, 1)), (13, (.if_icmp .ge 41, 3)), (16, (.aload_n 0, 1)), (17, (.aload_n 0, 1)), (18, (.getfield 43, 3)), (21, (.bipush 20, 2)), (23, (.iload_n 1, 1)), (24, (.imul, 1)), (25, (.iload_n 2, 1)), (26, (.ifCond .eq 16, 3)), (29, (.aload_n 0, 1)), (30, (.getfield 40, 3)), (33, (.iload_n 1, 1)), (34, (.iaload, 1)), (35, (.iconst 1, 1)), (36, (.isub, 1)), (37, (.iload_n 3, 1)), (38, (.isub, 1)), (39, (.goto 4, 3)), (42, (.iload_n 3, 1)), (43, (.iadd, 1)), (44, (.iaload, 1)), (45, (.invokevirtual 204, 3)), (48, (.iinc 3 1, 3)), (51, (.goto (-45), 3)), (54, (.return_, 1))]
def cd170 : List (Nat × (Instr × Nat)) := [(0, (.aload_n 0, 1)), (1, (.iload_n 1, 1)), (2, (.invokevirtual 222, 3)), (5, (.ifCond .ne 7, 3)), (8, (.sipush (-1001), 3)), (11, (.ireturn, 1)), (12, (.iload_n 2, 1)), (13, (.i2l, 1)), (14, (.lconst 0, 1)), (15, (.lconst 1, 1)), (16, (.invokestatic 116, 3)), (19, (.ifCond .ne 7, 3)), (22, (.sipush (-1002), 3)), (25, (.ireturn, 1)), (26, (.aload_n 0, 1)), (27, (.iload_n 1, 1)), (28, (.iload_n 2, 1)), (29, (.ifCond .ne 7, 3)), (32, (.iconst 1, 1)), (33, (.goto 4, 3)), (36, (.iconst 0, 1)), (37, (.invokevirtual 225, 3)), (40, (.iconst 0, 1)), (41, (.istore_n 3, 1)), (42, (.iconst 0, 1)), (43, (.istore 4, 2)), (45, (.iload 4, 2)), (47, (.aload_n 0, 1)), (48, (.getfield 7, 3)), (51, (.if_icmp .ge 33, 3)), (54, (.iload_n 3, 1)), (55, (.aload_n 0, 1)), (56, (.getfield 33, 3)), (59, (.iconst 0, 1)), (60, (.iload 4, 2)), (62, (.invokestatic 194, 3)), (65, (.ifCond .eq 10, 3)), (68, (.iconst 1, 1)), (69, (.iload 4, 2)), (71, (.ishl, 1)), (72, (.goto 4, 3)), (75, (.iconst 0, 1)), (76, (.ior, 1)), (77, (.istore_n 3, 1)), (78, (.iinc 4 1, 3)), (81, (.goto (-36), 3)), (84, (.iload_n 3, 1)), (85, (.ireturn, 1))]
def cd171 : List (Nat × (Instr × Nat)) := [(0, (.aload_n 0, 1)), (1, (.iload_n 1, 1)), (2, (.invokevirtual 222, 3)), (5, (.ifCond .ne 7, 3)), (8, (.ldc2_w 229, 3)), (11, (.lreturn, 1)), (12, (.aload_n 0, 1)), (13, (.iload_n 2, 1)), (14, (.invokevirtual 186, 3)), (17, (.ifCond .eq 11, 3)), (20, (.aload_n 0, 1)), (21, (.iload_n 3, 1)), (22, (.invokevirtual 186, 3)), (25, (.ifCond .ne 7, 3)), (28, (.ldc2_w 231, 3)), (31, (.lreturn, 1)), (32, (.aload_n 0, 1)), (33, (.iload_n 1, 1)), (34, (.iconst 0, 1)), (35, (.invokevirtual 225, 3)), (38, (.aload_n 0, 1)), (39, (.getfield 33, 3)), (42, (.iconst 5, 1)), (43, (.iload_n 2, 1)), (44, (.imul, 1)), (45, (.iload_n 3, 1)), (46, (.iadd, 1)), (47, (.laload, 1)), (48, (.lreturn, 1))]
def cd172 : List (Nat × (Instr × Nat)) := [(0, (.aload_n 0, 1)), (1, (.iload_n 1, 1)), (2, (.invokevirtual 222, 3)), (5, (.ifCond .eq 11, 3)), (8, (.aload_n 0, 1)), (9, (.iload_n 2, 1)), (10, (.invokevirtual 222, 3)), (13, (.ifCond .ne 7, 3)), (16, (.sipush (-1001), 3)), (19, (.ireturn, 1)), (20, (.aload_n 0, 1)), (21, (.iload_n 1, 1)), (22, (.iconst 0, 1)), (23, (.invokevirtual 225, 3)), (26, (.aload_n 0, 1)), (27, (.getfield 40, 3)), (30, (.iload_n 1, 1)), (31, (.iaload, 1)), (32, (.istore_n 3, 1)), (33, (.iconst 0, 1)), (34, (.istore 4, 2)), (36, (.iload 4, 2)), (38, (.aload_n 0, 1)), (39, (.getfield 40, 3)), (42, (.iload_n 2, 1)), (43, (.iaload, 1)), (44, (.if_icmp .ge 60, 3)), (47, (.aload_n 0, 1)), (48, (.getfield 43, 3)), (51, (.bipush 20, 2)), (53, (.iload_n 2, 1)), (54, (.imul, 1)), (55, (.iload 4, 2)), (57, (.iadd, 1)), (58, (.iaload, 1)), (59, (.istore 5, 2)), (61, (.iload_n 3, 1)), (62, (.aload_n 0, 1)), (63, (.getfield 33, 3)), (66, (.iconst 0, 1)), (67, (.iload 5, 2)), (69, (.invokestatic 194, 3)), (72, (.ifCond .eq 7, 3)), (75, (.iconst (-1), 1)), (76, (.goto 4, 3)), (79, (.iconst 1, 1)), (80, (.iadd, 1)), (81, (.istore_n 3, 1)), (82, (.iload_n 3, 1)), (83, (.bipush 20, 2)), (85, (.if_icmp .le 7, 3)), (88, (.sipush (-1005), 3)), (91, (.ireturn, 1)), (92, (.aload_n 0, 1)), (93, (.iload 5, 2)), (95, (.invokevirtual 204, 3)), (98, (.iinc 4 1, 3)), (101, (.goto (-65), 3)), (104, (.aload_n 0, 1)), (105, (.iconst 0, 1)), (106, (.putfield 201, 3)), (109, (.aload_n 0, 1)), (110, (.iload_n 1, 1)), (111, (.invokevirtual 233, 3)), (114, (.aload_n 0, 1)), (115, (.iload_n 2, 1)), (116, (.invokevirtual 233, 3)), (119, (.aload_n 0, 1)), (120, (.invokevirtual 219, 3)), (123, (.ireturn, 1))]
def cd173 : List (Nat × (Instr × Nat)) := [(0, (.aload_n 0, 1)), (1, (.iload_n 1, 1)), (2, (.invokevirtual 222, 3)), (5, (.ifCond .ne 7, 3)), (8, (.sipush (-1001), 3)), (11, (.ireturn, 1)), (12, (.aload_n 0, 1)), (13, (.iconst 0, 1)), (14, (.putfield 201, 3)), (17, (.aload_n 0, 1)), (18, (.getfield 40, 3)), (21, (.iload_n 1, 1)), (22, (.iaload, 1)), (23, (.iconst 1, 1)), (24, (.isub, 1)), (25, (.istore_n 2, 1)), (26, (.iload_n 2, 1)), (27, (.ifCond .lt 24, 3)), (30, (.aload_n 0, 1)), (31, (.aload_n 0, 1)), (32, (.getfield 43, 3)), (35, (.bipush 20, 2)), (37, (.iload_n 1, 1)), (38, (.imul, 1)), (39, (.iload_n 2, 1)), (40, (.iadd, 1)), (41, (.iaload, 1)), (42, (.invokevirtual 216, 3)), (45, (.iinc 2 (-1), 3)), (48, (.goto (-22), 3)), (51, (.aload_n 0, 1)), (52, (.invokevirtual 219, 3)), (55, (.ireturn, 1))]
def cd174 : List (Nat × (Instr × Nat)) := [(0, (.iconst 1, 1)), (1, (.istore_n 1, 1)), (2, (.iconst 0, 1)), (3, (.istore_n 2, 1)), (4, (.iload_n 2, 1)), (5, (.bipush 25, 2)), (7, (.if_icmp .ge 43, 3)), (10, (.iload_n 1, 1)), (11, (.ifCond .eq 31, 3)), (14, (.aload_n 0, 1)), (15, (.getfield 33, 3)), (18, (.iload_n 2, 1)), (19, (.laload, 1)), (20, (.iload_n 2, 1)), (21, (.iconst 5, 1)), (22, (.idiv, 1)), (23, (.iload_n 2, 1)), (24, (.iconst 5, 1)), (25, (.irem, 1)), (26, (.if_icmp .ne 7, 3)), (29, (.lconst 1, 1)), (30, (.goto 4, 3)), (33, (.lconst 0, 1)), (34, (.lcmp, 1)), (35, (.ifCond .ne 7, 3)), (38, (.iconst 1, 1)), (39, (.goto 4, 3)), (42, (.iconst 0, 1)), (43, (.istore_n 1, 1)), (44, (.iinc 2 1, 3)), (47, (.goto (-43), 3)), (50, (.iload_n 1, 1)), (51, (.ireturn, 1))]
def cd175 : List (Nat × (Instr × Nat)) := [(0, (.aload_n 0, 1)), (1, (.iload_n 1, 1)), (2, (.invokevirtual 222, 3)), (5, (.ifCond .eq 11, 3)), (8, (.aload_n 0, 1)), (9, (.iload_n 2, 1)), (10, (.invokevirtual 222, 3)), (13, (.ifCond .ne 7, 3)), (16, (.sipush (-1001), 3)), (19, (.ireturn, 1)), (20, (.aload_n 0, 1)), (21, (.iload_n 1, 1)), (22, (.iconst 0, 1)), (23, (.invokevirtual 225, 3)), (26, (.aload_n 0, 1)), (27, (.getfield 40, 3)), (30, (.iload_n 2, 1)), (31, (.iaload, 1)), (32, (.iconst 1, 1)), (33, (.isub, 1)), (34, (.istore_n 3, 1)), (35, (.iload_n 3, 1)), (36, (.ifCond .lt 41, 3)), (39, (.aload_n 0, 1)), (40, (.getfield 43, 3)), (43, (.bipush 20, 2)), (45, (.iload_n 2, 1)), (46, (.imul, 1)), (47, (.iload_n 3, 1)), (48, (.iadd, 1)), (49, (.iaload, 1)), (50, (.istore 4, 2)), (52, (.aload_n 0, 1)), (53, (.getfield 33, 3)), (56, (.iconst 0, 1)), (57, (.iload 4, 2)), (59, (.invokestatic 194, 3)), (62, (.ifCond .eq 9, 3)), (65, (.aload_n 0, 1)), (66, (.iload 4, 2)), (68, (.invokevirtual 204, 3)), (71, (.iinc 3 (-1), 3)), (74, (.goto (-39), 3)), (77, (.aload_n 0, 1)), (78, (.invokevirtual 236, 3)), (81, (.ifCond .eq 7, 3)), (84, (.iconst 1, 1)), (85, (.goto 4, 3)), (88, (.iconst 0, 1)), (89, (.ireturn, 1))]
def cd176 : List (Nat × (Instr × Nat)) := [(0, (.iconst 1, 1)), (1, (.istore 4, 2)), (3, (.iconst 0, 1)), (4, (.istore 5, 2)), (6, (.iload 5, 2)), (8, (.bipush 25, 2)), (10, (.if_icmp .ge 37, 3)), (13, (.iload 4, 2)), (15, (.ifCond .eq 32, 3)), (18, (.aload_n 0, 1)), (19, (.iload_n 1, 1)), (20, (.iload 5, 2)), (22, (.iadd, 1)), (23, (.laload, 1)), (24, (.aload_n 2, 1)), (25, (.iload_n 3, 1)), (26, (.iload 5, 2)), (28, (.iadd, 1)), (29, (.laload, 1)), (30, (.lcmp, 1)), (31, (.ifCond .ne 7, 3)), (34, (.iconst 1, 1)), (35, (.goto 4, 3)), (38, (.iconst 0, 1)), (39, (.istore 4, 2)), (41, (.iinc 5 1, 3)), (44, (.goto (-38), 3)), (47, (.iload 4, 2)), (49, (.ireturn, 1))]
def cd177 : List (Nat × (Instr × Nat)) := [(0, (.iconst 0, 1)), (1, (.istore 4, 2)), (3, (.iload 4, 2)), (5, (.bipush 25, 2)), (7, (.if_icmp .ge 21, 3)), (10, (.aload_n 2, 1)), (11, (.iload_n 3, 1)), (12, (.iload 4, 2)), (14, (.iadd, 1)), (15, (.aload_n 0, 1)), (16, (.iload_n 1, 1)), (17, (.iload 4, 2)), (19, (.iadd, 1)), (20, (.laload, 1)), (21, (.lastore, 1)), (22, (.iinc 4 1, 3)), (25, (.goto (-22), 3)), (28, (.return_, 1))]
def cd178 : List (Nat × (Instr × Nat)) := [(0, (.iconst 0, 1)), (1, (.istore_n 3, 1)), (2, (.iload_n 3, 1)), (3, (.iload_n 2, 1)), (4, (.if_icmp .ge 27, 3)), (7, (.aload_n 0, 1)), (8, (.getfield 33, 3)), (11, (.iconst 0, 1)), (12, (.aload_n 1, 1)), (13, (.bipush 25, 2)), (15, (.iload_n 3, 1)), (16, (.imul, 1)), (17, (.invokestatic 240, 3)), (20, (.ifCond .eq 5, 3)), (23, (.iload_n 3, 1)), (24, (.ireturn, 1)), (25, (.iinc 3 1, 3)), (28, (.goto (-26), 3)), (31, (.aload_n 0, 1)), (32, (.getfield 33, 3)), (35, (.iconst 0, 1)), (36, (.aload_n 1, 1)), (37, (.bipush 25, 2)), (39, (.iload_n 2, 1)), (40, (.imul, 1)), (41, (.invokestatic 244, 3)), (44, (.iload_n 2, 1)), (45, (.ireturn, 1))]
def cd179 : List (Nat × (Instr × Nat)) := [(0, (.aload_n 0, 1)), (1, (.iload_n 1, 1)), (2, (.invokevirtual 222, 3)), (5, (.ifCond .ne 7, 3)), (8, (.sipush (-1001), 3)), (11, (.ireturn, 1)), (12, (.iconst 0, 1)), (13, (.istore_n 2, 1)), (14, (.iconst 0, 1)), (15, (.istore_n 3, 1)), (16, (.iload_n 3, 1)), (17, (.aload_n 0, 1)), (18, (.getfield 40, 3)), (21, (.iload_n 1, 1)), (22, (.iaload, 1)), (23, (.if_icmp .ge 119, 3)), (26, (.aload_n 0, 1)), (27, (.invokevirtual 198, 3)), (30, (.iconst 0, 1)), (31, (.istore 4, 2)), (33, (.iconst 0, 1)), (34, (.istore 5, 2)), (36, (.iload 5, 2)), (38, (.aload_n 0, 1)), (39, (.getfield 40, 3)), (42, (.iload_n 1, 1)), (43, (.iaload, 1)), (44, (.if_icmp .ge 58, 3)), (47, (.aload_n 0, 1)), (48, (.getfield 43, 3)), (51, (.bipush 20, 2)), (53, (.iload_n 1, 1)), (54, (.imul, 1)), (55, (.iload 5, 2)), (57, (.iadd, 1)), (58, (.iaload, 1)), (59, (.istore 6, 2)), (61, (.iload 5, 2)), (63, (.iload_n 3, 1)), (64, (.if_icmp .eq 32, 3)), (67, (.iload 4, 2)), (69, (.aload_n 0, 1)), (70, (.getfield 33, 3)), (73, (.iconst 0, 1)), (74, (.iload 6, 2)), (76, (.invokestatic 194, 3)), (79, (.ifCond .eq 7, 3)), (82, (.iconst (-1), 1)), (83, (.goto 4, 3)), (86, (.iconst 1, 1)), (87, (.iadd, 1)), (88, (.istore 4, 2)), (90, (.aload_n 0, 1)), (91, (.iload 6, 2)), (93, (.invokevirtual 204, 3)), (96, (.iinc 5 1, 3)), (99, (.goto (-63), 3)), (102, (.iload 4, 2)), (104, (.aload_n 0, 1)), (105, (.getfield 40, 3)), (108, (.iload_n 1, 1)), (109, (.iaload, 1)), (110, (.iconst 1, 1)), (111, (.isub, 1)), (112, (.if_icmp .ne 24, 3)), (115, (.iload_n 2, 1)), (116, (.aload_n 0, 1)), (117, (.aload_n 0, 1)), (118, (.getfield 50, 3)), (121, (.iload_n 2, 1)), (122, (.invokevirtual 248, 3)), (125, (.iload_n 2, 1)), (126, (.if_icmp .ne 7, 3)), (129, (.iconst 1, 1)), (130, (.goto 4, 3)), (133, (.iconst 0, 1)), (134, (.iadd, 1)), (135, (.istore_n 2, 1)), (136, (.iinc 3 1, 3)), (139, (.goto (-123), 3)), (142, (.iload_n 2, 1)), (143, (.ireturn, 1))]
def cd180 : List (Nat × (Instr × Nat)) := [(0, (.aload_n 0, 1)), (1, (.iload_n 1, 1)), (2, (.invokevirtual 222, 3)), (5, (.ifCond .ne 7, 3)), (8, (.ldc2_w 229, 3)), (11, (.lreturn, 1)), (12, (.aload_n 0, 1)), (13, (.getfield 40, 3)), (16, (.iload_n 1, 1)), (17, (.iaload, 1)), (18, (.bipush 12, 2)), (20, (.if_icmp .le 7, 3)), (23, (.ldc2_w 252, 3)), (26, (.lreturn, 1)), (27, (.aload_n 0, 1)), (28, (.iload_n 1, 1)), (29, (.iconst 0, 1)), (30, (.invokevirtual 225, 3)), (33, (.aload_n 0, 1)), (34, (.getfield 33, 3)), (37, (.iconst 0, 1)), (38, (.aload_n 0, 1)), (39, (.getfield 50, 3)), (42, (.iconst 0, 1)), (43, (.invokestatic 244, 3)), (46, (.aload_n 0, 1)), (47, (.getfield 56, 3)), (50, (.iconst 0, 1)), (51, (.lconst 1, 1)), (52, (.lastore, 1)), (53, (.iconst 1, 1)), (54, (.istore_n 2, 1)), (55, (.aload_n 0, 1)), (56, (.getfield 40, 3)), (59, (.iload_n 1, 1)), (60, (.iaload, 1)), (61, (.istore_n 3, 1)), (62, (.iload_n 3, 1)), (63, (.ifCond .le 206, 3)), (66, (.iconst 0, 1)), (67, (.istore 4, 2)), (69, (.iconst 0, 1)), (70, (.istore 5, 2)), (72, (.iload 5, 2)), (74, (.iload_n 2, 1)), (75, (.if_icmp .ge 135, 3)), (78, (.iconst 0, 1)), (79, (.istore 6, 2)), (81, (.iload 6, 2)), (83, (.aload_n 0, 1)), (84, (.getfield 7, 3)), (87, (.if_icmp .ge 117, 3)), (90, (.aload_n 0, 1)), (91, (.getfield 50, 3)), (94, (.bipush 25, 2)), (96, (.iload 5, 2)), (98, (.imul, 1)), (99, (.iload 6, 2)), (101, (.invokestatic 194, 3)), (104, (.ifCond .eq 94, 3)), (107, (.aload_n 0, 1)), (108, (.getfield 50, 3)), (111, (.bipush 25, 2)), (113, (.iload 5, 2)), (115, (.imul, 1)), (116, (.aload_n 0, 1)), (117, (.getfield 33, 3)), (120, (.iconst 0, 1)), (121, (.invokestatic 244, 3)), (124, (.aload_n 0, 1)), (125, (.iload 6, 2)), (127, (.invokevirtual 204, 3)), (130, (.aload_n 0, 1)), (131, (.aload_n 0, 1)), (132, (.getfield 53, 3)), (135, (.iload 4, 2)), (137, (.invokevirtual 248, 3)), (140, (.istore 7, 2)), (142, (.aload_n 0, 1)), (143, (.getfield 59, 3)), (146, (.iload 7, 2)), (148, (.iload 7, 2)), (150, (.iload 4, 2)), (152, (.if_icmp .ne 13, 3)), (155, (.aload_n 0, 1)), (156, (.getfield 56, 3)), (159, (.iload 5, 2)), (161, (.laload, 1)), (162, (.goto 18, 3)), (165, (.aload_n 0, 1)), (166, (.getfield 59, 3)), (169, (.iload 7, 2)), (171, (.laload, 1)), (172, (.aload_n 0, 1)), (173, (.getfield 56, 3)), (176, (.iload 5, 2)), (178, (.laload, 1)), (179, (.ladd, 1)), (180, (.lastore, 1)), (181, (.iload 4, 2)), (183, (.iload 7, 2)), (185, (.iload 4, 2)), (187, (.if_icmp .ne 7, 3)), (190, (.iconst 1, 1)), (191, (.goto 4, 3)), (194, (.iconst 0, 1)), (195, (.iadd, 1)), (196, (.istore 4, 2)), (198, (.iinc 6 1, 3)), (201, (.goto (-120), 3)), (204, (.iinc 5 1, 3)), (207, (.goto (-135), 3)), (210, (.iload 4, 2)), (212, (.istore_n 2, 1)), (213, (.iconst 0, 1)), (214, (.istore 5, 2)), (216, (.iload 5, 2)), (218, (.iload_n 2, 1)), (219, (.if_icmp .ge 44, 3)), (222, (.aload_n 0, 1)), (223, (.getfield 53, 3)), (226, (.bipush 25, 2)), (228, (.iload 5, 2)), (230, (.imul, 1)), (231, (.aload_n 0, 1)), (232, (.getfield 50, 3)), (235, (.bipush 25, 2)), (237, (.iload 5, 2)), (239, (.imul, 1)), (240, (.invokestatic 244, 3)), (243, (.aload_n 0, 1)), (244, (.getfield 56, 3)), (247, (.iload 5, 2)), (249, (.aload_n 0, 1)), (250, (.getfield 59, 3)), (253, (.iload 5, 2)), (255, (.laload, 1)), (256, (.lastore, 1)), (257, (.iinc 5 1, 3)), (260, (.goto (-44), 3)), (263, (.iinc 3 (-1), 3)), (266, (.goto (-204), 3)), (269, (.aload_n 0, 1)), (270, (.getfield 56, 3)), (273, (.iconst 0, 1)), (274, (.laload, 1)), (275, (.lreturn, 1))]
def cd181 : List (Nat × (Instr × Nat)) := [(0, (.aload_n 0, 1)), (1, (.iload_n 1, 1)), (2, (.invokevirtual 222, 3)), (5, (.ifCond .ne 7, 3)), (8, (.sipush (-1001), 3)), (11, (.ireturn, 1)), (12, (.aload_n 0, 1)), (13, (.iload_n 2, 1)), (14, (.invokevirtual 186, 3)), (17, (.ifCond .ne 7, 3)), (20, (.sipush (-1002), 3)), (23, (.ireturn, 1)), (24, (.aload_n 0, 1)), (25, (.iload_n 1, 1)), (26, (.iconst 0, 1)), (27, (.invokevirtual 225, 3)), (30, (.aload_n 0, 1)), (31, (.getfield 33, 3)), (34, (.iconst 0, 1)), (35, (.iload_n 2, 1)), (36, (.invokestatic 194, 3)), (39, (.ifCond .ne 7, 3)), (42, (.sipush (-1003), 3)), (45, (.ireturn, 1)), (46, (.aload_n 0, 1)), (47, (.iload_n 2, 1)), (48, (.invokevirtual 204, 3)), (51, (.aload_n 0, 1)), (52, (.getfield 33, 3)), (55, (.iconst 0, 1)), (56, (.aload_n 0, 1)), (57, (.getfield 50, 3)), (60, (.iconst 0, 1)), (61, (.invokestatic 244, 3)), (64, (.iconst (-1), 1)), (65, (.istore_n 3, 1)), (66, (.iconst 0, 1)), (67, (.istore 4, 2)), (69, (.iload 4, 2)), (71, (.ifCond .ne 70, 3)), (74, (.iinc 3 1, 3)), (77, (.aload_n 0, 1)), (78, (.invokevirtual 198, 3)), (81, (.iconst 0, 1)), (82, (.istore 5, 2)), (84, (.iload 5, 2)), (86, (.aload_n 0, 1)), (87, (.getfield 40, 3)), (90, (.iload_n 1, 1)), (91, (.iaload, 1)), (92, (.if_icmp .ge 31, 3)), (95, (.iload 5, 2)), (97, (.iload_n 3, 1)), (98, (.if_icmp .eq 19, 3)), (101, (.aload_n 0, 1)), (102, (.aload_n 0, 1)), (103, (.getfield 43, 3)), (106, (.bipush 20, 2)), (108, (.iload_n 1, 1)), (109, (.imul, 1)), (110, (.iload 5, 2)), (112, (.iadd, 1)), (113, (.iaload, 1)), (114, (.invokevirtual 204, 3)), (117, (.iinc 5 1, 3)), (120, (.goto (-36), 3)), (123, (.aload_n 0, 1)), (124, (.getfield 33, 3)), (127, (.iconst 0, 1)), (128, (.aload_n 0, 1)), (129, (.getfield 50, 3)), (132, (.iconst 0, 1)), (133, (.invokestatic 240, 3)), (136, (.istore 4, 2)), (138, (.goto (-69), 3)), (141, (.iload_n 3, 1)), (142, (.ireturn, 1))]
def cd182 : List (Nat × (Instr × Nat)) := [(0, (.lconst 0, 1)), (1, (.lstore_n 2, 1)), (2, (.iconst 0, 1)), (3, (.istore 4, 2)), (5, (.iload 4, 2)), (7, (.aload_n 0, 1)), (8, (.getfield 7, 3)), (11, (.if_icmp .ge 32, 3)), (14, (.lload_n 2, 1)), (15, (.aload_n 0, 1)), (16, (.getfield 17, 3)), (19, (.iconst 5, 1)), (20, (.iload_n 1, 1)), (21, (.imul, 1)), (22, (.iload 4, 2)), (24, (.iadd, 1)), (25, (.iaload, 1)), (26, (.i2l, 1)), (27, (.aload_n 0, 1)), (28, (.getfield 62, 3)), (31, (.iload 4, 2)), (33, (.laload, 1)), (34, (.lmul, 1)), (35, (.ladd, 1)), (36, (.lstore_n 2, 1)), (37, (.iinc 4 1, 3)), (40, (.goto (-35), 3)), (43, (.aload_n 0, 1)), (44, (.getfield 62, 3)), (47, (.iload_n 1, 1)), (48, (.dup2, 1)), (49, (.laload, 1)), (50, (.lload_n 2, 1)), (51, (.lsub, 1)), (52, (.lastore, 1)), (53, (.return_, 1))]
def cd183 : List (Nat × (Instr × Nat)) := [(0, (.aload_n 0, 1)), (1, (.iload_n 1, 1)), (2, (.invokevirtual 222, 3)), (5, (.ifCond .ne 7, 3)), (8, (.ldc2_w 229, 3)), (11, (.lreturn, 1)), (12, (.aload_n 0, 1)), (13, (.iload_n 3, 1)), (14, (.invokevirtual 186, 3)), (17, (.ifCond .ne 7, 3)), (20, (.ldc2_w 231, 3)), (23, (.lreturn, 1)), (24, (.iload_n 2, 1)), (25, (.i2l, 1)), (26, (.lconst 0, 1)), (27, (.aload_n 0, 1)), (28, (.getfield 40, 3)), (31, (.iload_n 1, 1)), (32, (.iaload, 1)), (33, (.iconst 1, 1)), (34, (.isub, 1)), (35, (.i2l, 1)), (36, (.invokestatic 116, 3)), (39, (.ifCond .ne 5, 3)), (42, (.lconst 0, 1)), (43, (.lreturn, 1)), (44, (.aload_n 0, 1)), (45, (.getfield 40, 3)), (48, (.iload_n 1, 1)), (49, (.iaload, 1)), (50, (.iconst 1, 1)), (51, (.isub, 1)), (52, (.iload_n 2, 1)), (53, (.isub, 1)), (54, (.istore 4, 2)), (56, (.iconst 0, 1)), (57, (.istore 5, 2)), (59, (.iload 5, 2)), (61, (.iconst 5, 1)), (62, (.if_icmp .ge 38, 3)), (65, (.aload_n 0, 1)), (66, (.getfield 62, 3)), (69, (.iload 5, 2)), (71, (.iload 5, 2)), (73, (.aload_n 0, 1)), (74, (.getfield 43, 3)), (77, (.bipush 20, 2)), (79, (.iload_n 1, 1)), (80, (.imul, 1)), (81, (.iload 4, 2)), (83, (.iadd, 1)), (84, (.iaload, 1)), (85, (.if_icmp .ne 7, 3)), (88, (.lconst 1, 1)), (89, (.goto 4, 3)), (92, (.lconst 0, 1)), (93, (.lastore, 1)), (94, (.iinc 5 1, 3)), (97, (.goto (-38), 3)), (100, (.iload 4, 2)), (102, (.iconst 1, 1)), (103, (.iadd, 1)), (104, (.istore 5, 2)), (106, (.iload 5, 2)), (108, (.aload_n 0, 1)), (109, (.getfield 40, 3)), (112, (.iload_n 1, 1)), (113, (.iaload, 1)), (114, (.if_icmp .ge 25, 3)), (117, (.aload_n 0, 1)), (118, (.aload_n 0, 1)), (119, (.getfield 43, 3)), (122, (.bipush 20, 2)), (124, (.iload_n 1, 1)), (125, (.imul, 1)), (126, (.iload 5, 2)), (128, (.iadd, 1)), (129, (.iaload, 1)), (130, (.invokevirtual 254, 3)), (133, (.iinc 5 1, 3)), (136, (.goto (-30), 3)), (139, (.aload_n 0, 1)), (140, (.getfield 62, 3)), (143, (.iload_n 3, 1)), (144, (.laload, 1)), (145, (.lreturn, 1))]
def cd184 : List (Nat × (Instr × Nat)) := [(0, (.iload_n 1, 1)), (1, (.i2l, 1)), (2, (.lconst 0, 1)), (3, (.iconst 1, 1)), (4, (.aload_n 0, 1)), (5, (.getfield 7, 3)), (8, (.ishl, 1)), (9, (.iconst 1, 1)), (10, (.isub, 1)), (11, (.i2l, 1)), (12, (.invokestatic 116, 3)), (15, (.ireturn, 1))]
def cd185 : List (Nat × (Instr × Nat)) := [(0, (.iconst 0, 1)), (1, (.istore_n 2, 1)), (2, (.iload_n 2, 1)), (3, (.aload_n 0, 1)), (4, (.getfield 7, 3)), (7, (.if_icmp .ge 32, 3)), (10, (.iload_n 1, 1)), (11, (.iload_n 2, 1)), (12, (.ishr, 1)), (13, (.iconst 1, 1)), (14, (.iand, 1)), (15, (.iconst 1, 1)), (16, (.if_icmp .ne 17, 3)), (19, (.aload_n 0, 1)), (20, (.getfield 33, 3)), (23, (.iconst 0, 1)), (24, (.iload_n 2, 1)), (25, (.invokestatic 194, 3)), (28, (.ifCond .eq 5, 3)), (31, (.iload_n 2, 1)), (32, (.ireturn, 1)), (33, (.iinc 2 1, 3)), (36, (.goto (-34), 3)), (39, (.iconst (-1), 1)), (40, (.ireturn, 1))]
def cd186 : List (Nat × (Instr × Nat)) := [(0, (.aload_n 0, 1)), (1, (.iload_n 1, 1)), (2, (.invokevirtual 222, 3)), (5, (.ifCond .ne 7, 3)), (8, (.sipush (-1001), 3)), (11, (.ireturn, 1)), (12, (.aload_n 0, 1)), (13, (.iload_n 2, 1)), (14, (.invokevirtual 257, 3)), (17, (.ifCond .eq 13, 3)), (20, (.iload_n 3, 1)), (21, (.i2l, 1)), (22, (.lconst 0, 1)), (23, (.lconst 1, 1)), (24, (.invokestatic 116, 3)), (27, (.ifCond .ne 7, 3)), (30, (.sipush (-1002), 3)), (33, (.ireturn, 1)), (34, (.aload_n 0, 1)), (35, (.iload_n 1, 1)), (36, (.iconst 0, 1)), (37, (.invokevirtual 225, 3)), (40, (.iconst 0, 1)), (41, (.istore 4, 2)), (43, (.aload_n 0, 1)), (44, (.iload_n 2, 1)), (45, (.invokevirtual 260, 3)), (48, (.istore 5, 2)), (50, (.iload 5, 2)), (52, (.ifCond .lt 31, 3)), (55, (.aload_n 0, 1)), (56, (.getfield 65, 3)), (59, (.iload 4, 2)), (61, (.iload 5, 2)), (63, (.iastore, 1)), (64, (.iinc 4 1, 3)), (67, (.aload_n 0, 1)), (68, (.iload 5, 2)), (70, (.invokevirtual 204, 3)), (73, (.aload_n 0, 1)), (74, (.iload_n 2, 1)), (75, (.invokevirtual 260, 3)), (78, (.istore 5, 2)), (80, (.goto (-30), 3)), (83, (.aload_n 0, 1)), (84, (.iconst 0, 1)), (85, (.putfield 201, 3)), (88, (.iload_n 3, 1)), (89, (.ifCond .ne 38, 3)), (92, (.aload_n 0, 1)), (93, (.iload_n 1, 1)), (94, (.invokevirtual 233, 3)), (97, (.iconst 0, 1)), (98, (.istore 6, 2)), (100, (.iload 6, 2)), (102, (.iload 4, 2)), (104, (.if_icmp .ge 20, 3)), (107, (.aload_n 0, 1)), (108, (.aload_n 0, 1)), (109, (.getfield 65, 3)), (112, (.iload 6, 2)), (114, (.iaload, 1)), (115, (.invokevirtual 216, 3)), (118, (.iinc 6 1, 3)), (121, (.goto (-21), 3)), (124, (.goto 31, 3)), (127, (.iload 4, 2)), (129, (.iconst 1, 1)), (130, (.isub, 1)), (131, (.istore 6, 2)), (133, (.iload 6, 2)), (135, (.ifCond .lt 20, 3)), (138, (.aload_n 0, 1)), (139, (.aload_n 0, 1)), (140, (.getfield 65, 3)), (143, (.iload 6, 2)), (145, (.iaload, 1)), (146, (.invokevirtual 216, 3)), (149, (.iinc 6 (-1), 3)), (152, (.goto (-19), 3)), (155, (.aload_n 0, 1)), (156, (.invokevirtual 219, 3)), (159, (.ireturn, 1))]
def cd187 : List (Nat × (Instr × Nat)) := [(0, (.aload_n 0, 1)), (1, (.invokevirtual 198, 3)), (4, (.iconst 0, 1)), (5, (.istore_n 2, 1)), (6, (.iload_n 2, 1)), (7, (.aload_n 0, 1)), (8, (.getfield 201, 3)), (11, (.if_icmp .ge 19, 3)), (14, (.aload_n 0, 1)), (15, (.aload_n 0, 1)), (16, (.getfield 37, 3)), (19, (.iload_n 2, 1)), (20, (.iaload, 1)), (21, (.invokevirtual 204, 3)), (24, (.iinc 2 1, 3)), (27, (.goto (-21), 3)), (30, (.aload_n 0, 1)), (31, (.iload_n 1, 1)), (32, (.invokevirtual 260, 3)), (35, (.istore_n 2, 1)), (36, (.iload_n 2, 1)), (37, (.ifCond .lt 22, 3)), (40, (.aload_n 0, 1)), (41, (.iload_n 2, 1)), (42, (.invokevirtual 216, 3)), (45, (.aload_n 0, 1)), (46, (.iload_n 2, 1)), (47, (.invokevirtual 204, 3)), (50, (.aload_n 0, 1)), (51, (.iload_n 1, 1)), (52, (.invokevirtual 260, 3)), (55, (.istore_n 2, 1)), (56, (.goto (-20), 3)), (59, (.aload_n 0, 1)), (60, (.invokevirtual 210, 3)), (63, (.return_, 1))]
def cd188 : List (Nat × (Instr × Nat)) := [(0, (.iconst 0, 1)), (1, (.istore_n 1, 1)), (2, (.iload_n 1, 1)), (3, (.aload_n 0, 1)), (4, (.getfield 201, 3)), (7, (.iconst 1, 1)), (8, (.isub, 1)), (9, (.iload_n 1, 1)), (10, (.isub, 1)), (11, (.if_icmp .ge 49, 3)), (14, (.aload_n 0, 1)), (15, (.getfield 37, 3)), (18, (.iload_n 1, 1)), (19, (.iaload, 1)), (20, (.istore_n 2, 1)), (21, (.aload_n 0, 1)), (22, (.getfield 37, 3)), (25, (.iload_n 1, 1)), (26, (.aload_n 0, 1)), (27, (.getfield 37, 3)), (30, (.aload_n 0, 1)), (31, (.getfield 201, 3)), (34, (.iconst 1, 1)), (35, (.isub, 1)), (36, (.iload_n 1, 1)), (37, (.isub, 1)), (38, (.iaload, 1)), (39, (.iastore, 1)), (40, (.aload_n 0, 1)), (41, (.getfield 37, 3)), (44, (.aload_n 0, 1)), (45, (.getfield 201, 3)), (48, (.iconst 1, 1)), (49, (.isub, 1)), (50, (.iload_n 1, 1)), (51, (.isub, 1)), (52, (.iload_n 2, 1)), (53, (.iastore, 1)), (54, (.iinc 1 1, 3)), (57, (.goto (-55), 3)), (60, (.return_, 1))]
def cd189 : List (Nat × (Instr × Nat)) := [(0, (.aload_n 0, 1)), (1, (.iload_n 1, 1)), (2, (.invokevirtual 222, 3)), (5, (.ifCond .ne 7, 3)), (8, (.sipush (-1001), 3)), (11, (.ireturn, 1)), (12, (.aload_n 0, 1)), (13, (.iload_n 2, 1)), (14, (.invokevirtual 257, 3)), (17, (.ifCond .eq 11, 3)), (20, (.aload_n 0, 1)), (21, (.iload_n 3, 1)), (22, (.invokevirtual 257, 3)), (25, (.ifCond .ne 7, 3)), (28, (.sipush (-1002), 3)), (31, (.ireturn, 1)), (32, (.aload_n 0, 1)), (33, (.iconst 0, 1)), (34, (.putfield 201, 3)), (37, (.aload_n 0, 1)), (38, (.iload_n 1, 1)), (39, (.invokevirtual 233, 3)), (42, (.iconst (-1), 1)), (43, (.istore 4, 2)), (45, (.iload 4, 2)), (47, (.aload_n 0, 1)), (48, (.getfield 201, 3)), (51, (.if_icmp .eq 30, 3)), (54, (.aload_n 0, 1)), (55, (.getfield 201, 3)), (58, (.istore 4, 2)), (60, (.aload_n 0, 1)), (61, (.iload_n 3, 1)), (62, (.invokevirtual 263, 3)), (65, (.aload_n 0, 1)), (66, (.invokevirtual 266, 3)), (69, (.aload_n 0, 1)), (70, (.iload_n 2, 1)), (71, (.invokevirtual 263, 3)), (74, (.aload_n 0, 1)), (75, (.invokevirtual 266, 3)), (78, (.goto (-33), 3)), (81, (.aload_n 0, 1)), (82, (.getfield 201, 3)), (85, (.ireturn, 1))]
def cd190 : List (Nat × (Instr × Nat)) := [(0, (.iconst 0, 1)), (1, (.istore_n 2, 1)), (2, (.iconst 0, 1)), (3, (.istore_n 3, 1)), (4, (.iload_n 3, 1)), (5, (.iload_n 1, 1)), (6, (.if_icmp .ge 100, 3)), (9, (.iconst 0, 1)), (10, (.istore 4, 2)), (12, (.iload 4, 2)), (14, (.aload_n 0, 1)), (15, (.getfield 7, 3)), (18, (.if_icmp .ge 82, 3)), (21, (.aload_n 0, 1)), (22, (.getfield 50, 3)), (25, (.bipush 25, 2)), (27, (.iload_n 3, 1)), (28, (.imul, 1)), (29, (.iload 4, 2)), (31, (.invokestatic 194, 3)), (34, (.ifCond .ne 60, 3)), (37, (.aload_n 0, 1)), (38, (.getfield 50, 3)), (41, (.bipush 25, 2)), (43, (.iload_n 3, 1)), (44, (.imul, 1)), (45, (.aload_n 0, 1)), (46, (.getfield 33, 3)), (49, (.iconst 0, 1)), (50, (.invokestatic 244, 3)), (53, (.aload_n 0, 1)), (54, (.iload 4, 2)), (56, (.invokevirtual 204, 3)), (59, (.iload_n 2, 1)), (60, (.aload_n 0, 1)), (61, (.aload_n 0, 1)), (62, (.getfield 53, 3)), (65, (.iload_n 2, 1)), (66, (.invokevirtual 248, 3)), (69, (.iload_n 2, 1)), (70, (.if_icmp .ne 7, 3)), (73, (.iconst 1, 1)), (74, (.goto 4, 3)), (77, (.iconst 0, 1)), (78, (.iadd, 1)), (79, (.istore_n 2, 1)), (80, (.aload_n 0, 1)), (81, (.getfield 269, 3)), (84, (.iload_n 2, 1)), (85, (.iadd, 1)), (86, (.sipush 2000, 3)), (89, (.if_icmp .le 5, 3)), (92, (.iconst (-1), 1)), (93, (.ireturn, 1)), (94, (.iinc 4 1, 3)), (97, (.goto (-85), 3)), (100, (.iinc 3 1, 3)), (103, (.goto (-99), 3)), (106, (.iconst 0, 1)), (107, (.istore_n 3, 1)), (108, (.iload_n 3, 1)), (109, (.iload_n 2, 1)), (110, (.if_icmp .ge 28, 3)), (113, (.aload_n 0, 1)), (114, (.getfield 53, 3)), (117, (.bipush 25, 2)), (119, (.iload_n 3, 1)), (120, (.imul, 1)), (121, (.aload_n 0, 1)), (122, (.getfield 50, 3)), (125, (.bipush 25, 2)), (127, (.iload_n 3, 1)), (128, (.imul, 1)), (129, (.invokestatic 244, 3)), (132, (.iinc 3 1, 3)), (135, (.goto (-27), 3)), (138, (.aload_n 0, 1)), (139, (.dup, 1)), (140, (.getfield 269, 3)), (143, (.iload_n 2, 1)), (144, (.iadd, 1)), (145, (.putfield 269, 3)), (148, (.iload_n 2, 1)), (149, (.ireturn, 1))]
def cd191 : List (Nat × (Instr × Nat)) := [(0, (.aload_n 0, 1)), (1, (.invokevirtual 198, 3)), (4, (.aload_n 0, 1)), (5, (.getfield 33, 3)), (8, (.iconst 0, 1)), (9, (.aload_n 0, 1)), (10, (.getfield 50, 3)), (13, (.iconst 0, 1)), (14, (.invokestatic 244, 3)), (17, (.aload_n 0, 1)), (18, (.iconst 1, 1)), (19, (.putfield 269, 3)), (22, (.return_, 1))]
def cd192 : List (Nat × (Instr × Nat)) := [(0, (.iload_n 1, 1)), (1, (.i2l, 1)), (2, (.lconst 0, 1)), (3, (.ldc2_w 272, 3)), (6, (.invokestatic 116, 3)), (9, (.ifCond .ne 7, 3)), (12, (.sipush (-1002), 3)), (15, (.ireturn, 1)), (16, (.aload_n 0, 1)), (17, (.invokevirtual 274, 3)), (20, (.iconst 1, 1)), (21, (.istore_n 2, 1)), (22, (.iconst 0, 1)), (23, (.istore_n 3, 1)), (24, (.iload_n 3, 1)), (25, (.iload_n 1, 1)), (26, (.if_icmp .ge 19, 3)), (29, (.iload_n 2, 1)), (30, (.ifCond .le 15, 3)), (33, (.aload_n 0, 1)), (34, (.iload_n 2, 1)), (35, (.invokevirtual 277, 3)), (38, (.istore_n 2, 1)), (39, (.iinc 3 1, 3)), (42, (.goto (-18), 3)), (45, (.iload_n 2, 1)), (46, (.ifCond .ge 9, 3)), (49, (.sipush (-1005), 3)), (52, (.goto 4, 3)), (55, (.iload_n 2, 1)), (56, (.ireturn, 1))]
def cd193 : List (Nat × (Instr × Nat)) := [(0, (.iload_n 1, 1)), (1, (.i2l, 1)), (2, (.lconst 0, 1)), (3, (.lconst 1, 1)), (4, (.invokestatic 116, 3)), (7, (.ifCond .ne 7, 3)), (10, (.sipush (-1002), 3)), (13, (.ireturn, 1)), (14, (.aload_n 0, 1)), (15, (.invokevirtual 274, 3)), (18, (.iconst 1, 1)), (19, (.istore_n 2, 1)), (20, (.iconst (-1), 1)), (21, (.istore_n 3, 1)), (22, (.iload_n 2, 1)), (23, (.ifCond .le 25, 3)), (26, (.iinc 3 1, 3)), (29, (.iload_n 3, 1)), (30, (.bipush 30, 2)), (32, (.if_icmp .le 7, 3)), (35, (.sipush (-1005), 3)), (38, (.ireturn, 1)), (39, (.aload_n 0, 1)), (40, (.iload_n 2, 1)), (41, (.invokevirtual 277, 3)), (44, (.istore_n 2, 1)), (45, (.goto (-23), 3)), (48, (.iload_n 2, 1)), (49, (.ifCond .ge 9, 3)), (52, (.sipush (-1005), 3)), (55, (.goto 15, 3)), (58, (.iload_n 1, 1)), (59, (.ifCond .ne 10, 3)), (62, (.aload_n 0, 1)), (63, (.getfield 269, 3)), (66, (.goto 4, 3)), (69, (.iload_n 3, 1)), (70, (.ireturn, 1))]
def cd194 : List (Nat × (Instr × Nat)) := [(0, (.aload_n 0, 1)), (1, (.iload_n 1, 1)), (2, (.invokevirtual 222, 3)), (5, (.ifCond .ne 7, 3)), (8, (.sipush (-1001), 3)), (11, (.ireturn, 1)), (12, (.aload_n 0, 1)), (13, (.getfield 40, 3)), (16, (.iload_n 1, 1)), (17, (.iaload, 1)), (18, (.bipush 8, 2)), (20, (.if_icmp .le 7, 3)), (23, (.sipush (-1005), 3)), (26, (.ireturn, 1)), (27, (.aload_n 0, 1)), (28, (.invokevirtual 198, 3)), (31, (.iconst 1, 1)), (32, (.istore_n 2, 1)), (33, (.iload_n 2, 1)), (34, (.bipush 30, 2)), (36, (.if_icmp .gt 93, 3)), (39, (.iconst 0, 1)), (40, (.istore_n 3, 1)), (41, (.iload_n 3, 1)), (42, (.aload_n 0, 1)), (43, (.getfield 40, 3)), (46, (.iload_n 1, 1)), (47, (.iaload, 1)), (48, (.if_icmp .ge 24, 3)), (51, (.aload_n 0, 1)), (52, (.aload_n 0, 1)), (53, (.getfield 43, 3)), (56, (.bipush 20, 2)), (58, (.iload_n 1, 1)), (59, (.imul, 1)), (60, (.iload_n 3, 1)), (61, (.iadd, 1)), (62, (.iaload, 1)), (63, (.invokevirtual 204, 3)), (66, (.iinc 3 1, 3)), (69, (.goto (-28), 3)), (72, (.iconst 0, 1)), (73, (.istore_n 3, 1)), (74, (.iload_n 3, 1)), (75, (.bipush 25, 2)), (77, (.if_icmp .ge 37, 3)), (80, (.aload_n 0, 1)), (81, (.getfield 33, 3)), (84, (.iload_n 3, 1)), (85, (.laload, 1)), (86, (.ldc2_w 280, 3)), (89, (.lcmp, 1)), (90, (.ifCond .gt 16, 3)), (93, (.aload_n 0, 1)), (94, (.getfield 33, 3)), (97, (.iload_n 3, 1)), (98, (.laload, 1)), (99, (.ldc2_w 282, 3)), (102, (.lcmp, 1)), (103, (.ifCond .ge 5, 3)), (106, (.iconst (-1), 1)), (107, (.ireturn, 1)), (108, (.iinc 3 1, 3)), (111, (.goto (-37), 3)), (114, (.aload_n 0, 1)), (115, (.invokevirtual 236, 3)), (118, (.ifCond .eq 5, 3)), (121, (.iload_n 2, 1)), (122, (.ireturn, 1)), (123, (.iinc 2 1, 3)), (126, (.goto (-93), 3)), (129, (.iconst (-1), 1)), (130, (.ireturn, 1))]
def cd195 : List (Nat × (Instr × Nat)) := [(0, (.iconst 0, 1)), (1, (.istore_n 2, 1)), (2, (.iload_n 2, 1)), (3, (.iload_n 1, 1)), (4, (.if_icmp .ge 84, 3)), (7, (.aload_n 0, 1)), (8, (.getfield 68, 3)), (11, (.iload_n 2, 1)), (12, (.iaload, 1)), (13, (.aload_n 0, 1)), (14, (.getfield 201, 3)), (17, (.if_icmp .ne 7, 3)), (20, (.iconst 1, 1)), (21, (.goto 4, 3)), (24, (.iconst 0, 1)), (25, (.istore_n 3, 1)), (26, (.iconst 0, 1)), (27, (.istore 4, 2)), (29, (.iload 4, 2)), (31, (.aload_n 0, 1)), (32, (.getfield 201, 3)), (35, (.if_icmp .ge 41, 3)), (38, (.iload_n 3, 1)), (39, (.ifCond .eq 37, 3)), (42, (.aload_n 0, 1)), (43, (.getfield 71, 3)), (46, (.bipush 20, 2)), (48, (.iload_n 2, 1)), (49, (.imul, 1)), (50, (.iload 4, 2)), (52, (.iadd, 1)), (53, (.iaload, 1)), (54, (.aload_n 0, 1)), (55, (.getfield 37, 3)), (58, (.iload 4, 2)), (60, (.iaload, 1)), (61, (.if_icmp .ne 7, 3)), (64, (.iconst 1, 1)), (65, (.goto 4, 3)), (68, (.iconst 0, 1)), (69, (.istore_n 3, 1)), (70, (.iinc 4 1, 3)), (73, (.goto (-44), 3)), (76, (.iload_n 3, 1)), (77, (.ifCond .eq 5, 3)), (80, (.iconst 1, 1)), (81, (.ireturn, 1)), (82, (.iinc 2 1, 3)), (85, (.goto (-83), 3)), (88, (.iconst 0, 1)), (89, (.ireturn, 1))]
def cd196 : List (Nat × (Instr × Nat)) := [(0, (.aload_n 0, 1)), (1, (.getfield 68, 3)), (4, (.iload_n 1, 1)), (5, (.aload_n 0, 1)), (6, (.getfield 201, 3)), (9, (.iastore, 1)), (10, (.iconst 0, 1)), (11, (.istore_n 2, 1)), (12, (.iload_n 2, 1)), (13, (.aload_n 0, 1)), (14, (.getfield 201, 3)), (17, (.if_icmp .ge 26, 3)), (20, (.aload_n 0, 1)), (21, (.getfield 71, 3)), (24, (.bipush 20, 2)), (26, (.iload_n 1, 1)), (27, (.imul, 1)), (28, (.iload_n 2, 1)), (29, (.iadd, 1)), (30, (.aload_n 0, 1)), (31, (.getfield 37, 3)), (34, (.iload_n 2, 1)), (35, (.iaload, 1)), (36, (.iastore, 1)), (37, (.iinc 2 1, 3)), (40, (.goto (-28), 3)), (43, (.return_, 1))]
def cd197 : List (Nat × (Instr × Nat)) := [(0, (.aload_n 0, 1)), (1, (.iload_n 1, 1)), (2, (.invokevirtual 222, 3)), (5, (.ifCond .ne 7, 3)), (8, (.sipush (-1001), 3)), (11, (.ireturn, 1)), (12, (.iload_n 2, 1)), (13, (.i2l, 1)), (14, (.lconst 0, 1)), (15, (.ldc2_w 284, 3)), (18, (.invokestatic 116, 3)), (21, (.ifCond .ne 7, 3)), (24, (.sipush (-1002), 3)), (27, (.ireturn, 1)), (28, (.aload_n 0, 1)), (29, (.iconst 0, 1)), (30, (.putfield 201, 3)), (33, (.aload_n 0, 1)), (34, (.iload_n 1, 1)), (35, (.invokevirtual 233, 3)), (38, (.aload_n 0, 1)), (39, (.iconst 0, 1)), (40, (.invokevirtual 286, 3)), (43, (.iconst 1, 1)), (44, (.istore_n 3, 1)), (45, (.iconst 0, 1)), (46, (.istore 4, 2)), (48, (.iload 4, 2)), (50, (.iload_n 3, 1)), (51, (.if_icmp .ge 127, 3)), (54, (.iconst 0, 1)), (55, (.istore 5, 2)), (57, (.iload 5, 2)), (59, (.aload_n 0, 1)), (60, (.getfield 7, 3)), (63, (.if_icmp .ge 109, 3)), (66, (.aload_n 0, 1)), (67, (.iconst 0, 1)), (68, (.putfield 201, 3)), (71, (.aload_n 0, 1)), (72, (.iload 5, 2)), (74, (.invokevirtual 216, 3)), (77, (.iconst 0, 1)), (78, (.istore 6, 2)), (80, (.iload 6, 2)), (82, (.aload_n 0, 1)), (83, (.getfield 68, 3)), (86, (.iload 4, 2)), (88, (.iaload, 1)), (89, (.if_icmp .ge 26, 3)), (92, (.aload_n 0, 1)), (93, (.aload_n 0, 1)), (94, (.getfield 71, 3)), (97, (.bipush 20, 2)), (99, (.iload 4, 2)), (101, (.imul, 1)), (102, (.iload 6, 2)), (104, (.iadd, 1)), (105, (.iaload, 1)), (106, (.invokevirtual 216, 3)), (109, (.iinc 6 1, 3)), (112, (.goto (-32), 3)), (115, (.aload_n 0, 1)), (116, (.iload 5, 2)), (118, (.invokevirtual 216, 3)), (121, (.aload_n 0, 1)), (122, (.invokevirtual 210, 3)), (125, (.aload_n 0, 1)), (126, (.getfield 201, 3)), (129, (.aload_n 0, 1)), (130, (.getfield 68, 3)), (133, (.iload 4, 2)), (135, (.iaload, 1)), (136, (.if_icmp .gt 30, 3)), (139, (.aload_n 0, 1)), (140, (.iload_n 3, 1)), (141, (.invokevirtual 289, 3)), (144, (.ifCond .ne 22, 3)), (147, (.iload_n 3, 1)), (148, (.sipush 300, 3)), (151, (.if_icmp .ne 7, 3)), (154, (.sipush (-1005), 3)), (157, (.ireturn, 1)), (158, (.aload_n 0, 1)), (159, (.iload_n 3, 1)), (160, (.invokevirtual 286, 3)), (163, (.iinc 3 1, 3)), (166, (.iinc 5 1, 3)), (169, (.goto (-112), 3)), (172, (.iinc 4 1, 3)), (175, (.goto (-127), 3)), (178, (.bipush 20, 2)), (180, (.istore 4, 2)), (182, (.iconst 0, 1)), (183, (.istore 5, 2)), (185, (.iload 5, 2)), (187, (.iload_n 3, 1)), (188, (.if_icmp .ge 35, 3)), (191, (.aload_n 0, 1)), (192, (.getfield 68, 3)), (195, (.iload 5, 2)), (197, (.iaload, 1)), (198, (.iload 4, 2)), (200, (.if_icmp .ge 13, 3)), (203, (.aload_n 0, 1)), (204, (.getfield 68, 3)), (207, (.iload 5, 2)), (209, (.iaload, 1)), (210, (.goto 5, 3)), (213, (.iload 4, 2)), (215, (.istore 4, 2)), (217, (.iinc 5 1, 3)), (220, (.goto (-35), 3)), (223, (.iconst 0, 1)), (224, (.istore 5, 2)), (226, (.iconst 0, 1)), (227, (.istore 6, 2)), (229, (.iload 6, 2)), (231, (.iload_n 3, 1)), (232, (.if_icmp .ge 31, 3)), (235, (.iload 5, 2)), (237, (.aload_n 0, 1)), (238, (.getfield 68, 3)), (241, (.iload 6, 2)), (243, (.iaload, 1)), (244, (.iload 4, 2)), (246, (.if_icmp .ne 7, 3)), (249, (.iconst 1, 1)), (250, (.goto 4, 3)), (253, (.iconst 0, 1)), (254, (.iadd, 1)), (255, (.istore 5, 2)), (257, (.iinc 6 1, 3)), (260, (.goto (-31), 3)), (263, (.iload_n 2, 1)), (264, (.ifCond .ne 8, 3)), (267, (.iload 4, 2)), (269, (.goto 14, 3)), (272, (.iload_n 2, 1)), (273, (.iconst 1, 1)), (274, (.if_icmp .ne 8, 3)), (277, (.iload 5, 2)), (279, (.goto 4, 3)), (282, (.iload_n 3, 1)), (283, (.ireturn, 1))]
def cd198 : List (Nat × (Instr × Nat)) := [(0, (.aload_n 0, 1)), (1, (.invokevirtual 198, 3)), (4, (.aload_n 0, 1)), (5, (.getfield 33, 3)), (8, (.iconst 0, 1)), (9, (.aload_n 0, 1)), (10, (.getfield 77, 3)), (13, (.iconst 0, 1)), (14, (.invokestatic 244, 3)), (17, (.aload_n 0, 1)), (18, (.getfield 80, 3)), (21, (.iconst 0, 1)), (22, (.iconst 0, 1)), (23, (.iastore, 1)), (24, (.aload_n 0, 1)), (25, (.iconst 1, 1)), (26, (.putfield 292, 3)), (29, (.iconst 0, 1)), (30, (.istore_n 2, 1)), (31, (.iload_n 2, 1)), (32, (.aload_n 0, 1)), (33, (.getfield 40, 3)), (36, (.iload_n 1, 1)), (37, (.iaload, 1)), (38, (.if_icmp .ge 138, 3)), (41, (.aload_n 0, 1)), (42, (.getfield 43, 3)), (45, (.bipush 20, 2)), (47, (.iload_n 1, 1)), (48, (.imul, 1)), (49, (.iload_n 2, 1)), (50, (.iadd, 1)), (51, (.iaload, 1)), (52, (.istore_n 3, 1)), (53, (.aload_n 0, 1)), (54, (.getfield 292, 3)), (57, (.istore 4, 2)), (59, (.iconst 0, 1)), (60, (.istore 5, 2)), (62, (.iload 5, 2)), (64, (.iload 4, 2)), (66, (.if_icmp .ge 104, 3)), (69, (.aload_n 0, 1)), (70, (.getfield 77, 3)), (73, (.bipush 25, 2)), (75, (.iload 5, 2)), (77, (.imul, 1)), (78, (.aload_n 0, 1)), (79, (.getfield 33, 3)), (82, (.iconst 0, 1)), (83, (.invokestatic 244, 3)), (86, (.aload_n 0, 1)), (87, (.getfield 80, 3)), (90, (.iload 5, 2)), (92, (.iaload, 1)), (93, (.aload_n 0, 1)), (94, (.getfield 33, 3)), (97, (.iconst 0, 1)), (98, (.iload_n 3, 1)), (99, (.invokestatic 194, 3)), (102, (.ifCond .eq 7, 3)), (105, (.iconst (-1), 1)), (106, (.goto 4, 3)), (109, (.iconst 1, 1)), (110, (.iadd, 1)), (111, (.istore 6, 2)), (113, (.aload_n 0, 1)), (114, (.iload_n 3, 1)), (115, (.invokevirtual 204, 3)), (118, (.aload_n 0, 1)), (119, (.aload_n 0, 1)), (120, (.getfield 77, 3)), (123, (.aload_n 0, 1)), (124, (.getfield 292, 3)), (127, (.invokevirtual 248, 3)), (130, (.istore 7, 2)), (132, (.aload_n 0, 1)), (133, (.getfield 80, 3)), (136, (.iload 7, 2)), (138, (.iload 6, 2)), (140, (.iastore, 1)), (141, (.aload_n 0, 1)), (142, (.dup, 1)), (143, (.getfield 292, 3)), (146, (.iload 7, 2)), (148, (.aload_n 0, 1)), (149, (.getfield 292, 3)), (152, (.if_icmp .ne 7, 3)), (155, (.iconst 1, 1)), (156, (.goto 4, 3)), (159, (.iconst 0, 1)), (160, (.iadd, 1)), (161, (.putfield 292, 3)), (164, (.iinc 5 1, 3)), (167, (.goto (-105), 3)), (170, (.iinc 2 1, 3)), (173, (.goto (-142), 3)), (176, (.iconst 0, 1)), (177, (.istore_n 2, 1)), (178, (.iload_n 2, 1)), (179, (.aload_n 0, 1)), (180, (.getfield 292, 3)), (183, (.if_icmp .ge 79, 3)), (186, (.iconst 0, 1)), (187, (.istore_n 3, 1)), (188, (.iload_n 3, 1)), (189, (.aload_n 0, 1)), (190, (.getfield 7, 3)), (193, (.if_icmp .ge 63, 3)), (196, (.aload_n 0, 1)), (197, (.getfield 77, 3)), (200, (.bipush 25, 2)), (202, (.iload_n 2, 1)), (203, (.imul, 1)), (204, (.aload_n 0, 1)), (205, (.getfield 33, 3)), (208, (.iconst 0, 1)), (209, (.invokestatic 244, 3)), (212, (.aload_n 0, 1)), (213, (.getfield 86, 3)), (216, (.iconst 5, 1)), (217, (.iload_n 2, 1)), (218, (.imul, 1)), (219, (.iload_n 3, 1)), (220, (.iadd, 1)), (221, (.aload_n 0, 1)), (222, (.getfield 33, 3)), (225, (.iconst 0, 1)), (226, (.iload_n 3, 1)), (227, (.invokestatic 194, 3)), (230, (.bastore, 1)), (231, (.aload_n 0, 1)), (232, (.iload_n 3, 1)), (233, (.invokevirtual 204, 3)), (236, (.aload_n 0, 1)), (237, (.getfield 83, 3)), (240, (.iconst 5, 1)), (241, (.iload_n 2, 1)), (242, (.imul, 1)), (243, (.iload_n 3, 1)), (244, (.iadd, 1)), (245, (.aload_n 0, 1)), (246, (.invokevirtual 295, 3)), (249, (.iastore, 1)), (250, (.iinc 3 1, 3)), (253, (.goto (-65), 3)), (256, (.iinc 2 1, 3)), (259, (.goto (-81), 3)), (262, (.return_, 1))]
def cd199 : List (Nat × (Instr × Nat)) := [(0, (.iconst 0, 1)), (1, (.istore_n 1, 1)), (2, (.iload_n 1, 1)), (3, (.aload_n 0, 1)), (4, (.getfield 292, 3)), (7, (.if_icmp .ge 30, 3)), (10, (.aload_n 0, 1)), (11, (.getfield 33, 3)), (14, (.iconst 0, 1)), (15, (.aload_n 0, 1)), (16, (.getfield 77, 3)), (19, (.bipush 25, 2)), (21, (.iload_n 1, 1)), (22, (.imul, 1)), (23, (.invokestatic 240, 3)), (26, (.ifCond .eq 5, 3)), (29, (.iload_n 1, 1)), (30, (.ireturn, 1)), (31, (.iinc 1 1, 3)), (34, (.goto (-32), 3)), (37, (.iconst (-1), 1)), (38, (.ireturn, 1))]
def cd200 : List (Nat × (Instr × Nat)) := [(0, (.iload_n 1, 1)), (1, (.ifCond .lt 7, 3)), (4, (.iload_n 2, 1)), (5, (.ifCond .ge 7, 3)), (8, (.iconst 0, 1)), (9, (.goto 14, 3)), (12, (.aload_n 0, 1)), (13, (.getfield 89, 3)), (16, (.bipush 9, 2)), (18, (.iload_n 1, 1)), (19, (.imul, 1)), (20, (.iload_n 2, 1)), (21, (.iadd, 1)), (22, (.iaload, 1)), (23, (.ireturn, 1))]
def cd201 : List (Nat × (Instr × Nat)) := [(0, (.iconst 0, 1)), (1, (.istore_n 2, 1)), (2, (.iload_n 1, 1)), (3, (.istore_n 3, 1)), (4, (.aload_n 0, 1)), (5, (.getfield 80, 3)), (8, (.iload_n 3, 1)), (9, (.iaload, 1)), (10, (.ifCond .le 52, 3)), (13, (.iconst 0, 1)), (14, (.istore 4, 2)), (16, (.aload_n 0, 1)), (17, (.getfield 86, 3)), (20, (.iconst 5, 1)), (21, (.iload_n 3, 1)), (22, (.imul, 1)), (23, (.iload 4, 2)), (25, (.iadd, 1)), (26, (.baload, 1)), (27, (.ifCond .ne 9, 3)), (30, (.iinc 4 1, 3)), (33, (.goto (-17), 3)), (36, (.aload_n 0, 1)), (37, (.getfield 95, 3)), (40, (.iload_n 2, 1)), (41, (.iload 4, 2)), (43, (.iastore, 1)), (44, (.iinc 2 1, 3)), (47, (.aload_n 0, 1)), (48, (.getfield 83, 3)), (51, (.iconst 5, 1)), (52, (.iload_n 3, 1)), (53, (.imul, 1)), (54, (.iload 4, 2)), (56, (.iadd, 1)), (57, (.iaload, 1)), (58, (.istore_n 3, 1)), (59, (.goto (-55), 3)), (62, (.iconst 0, 1)), (63, (.istore 4, 2)), (65, (.iload 4, 2)), (67, (.sipush 2304, 3)), (70, (.if_icmp .ge 30, 3)), (73, (.aload_n 0, 1)), (74, (.getfield 89, 3)), (77, (.iload 4, 2)), (79, (.iload 4, 2)), (81, (.bipush 9, 2)), (83, (.iload_n 3, 1)), (84, (.imul, 1)), (85, (.if_icmp .ne 7, 3)), (88, (.iconst 1, 1)), (89, (.goto 4, 3)), (92, (.iconst 0, 1)), (93, (.iastore, 1)), (94, (.iinc 4 1, 3)), (97, (.goto (-32), 3)), (100, (.iload_n 2, 1)), (101, (.iconst 1, 1)), (102, (.isub, 1)), (103, (.istore 4, 2)), (105, (.iload 4, 2)), (107, (.ifCond .lt 170, 3)), (110, (.aload_n 0, 1)), (111, (.getfield 95, 3)), (114, (.iload 4, 2)), (116, (.iaload, 1)), (117, (.istore 5, 2)), (119, (.iconst 0, 1)), (120, (.istore 6, 2)), (122, (.iload 6, 2)), (124, (.aload_n 0, 1)), (125, (.getfield 292, 3)), (128, (.if_icmp .ge 108, 3)), (131, (.aload_n 0, 1)), (132, (.getfield 83, 3)), (135, (.iconst 5, 1)), (136, (.iload 6, 2)), (138, (.imul, 1)), (139, (.iload 5, 2)), (141, (.iadd, 1)), (142, (.iaload, 1)), (143, (.istore 7, 2)), (145, (.iconst 0, 1)), (146, (.istore 8, 2)), (148, (.iload 8, 2)), (150, (.bipush 9, 2)), (152, (.if_icmp .ge 78, 3)), (155, (.aload_n 0, 1)), (156, (.getfield 92, 3)), (159, (.bipush 9, 2)), (161, (.iload 6, 2)), (163, (.imul, 1)), (164, (.iload 8, 2)), (166, (.iadd, 1)), (167, (.aload_n 0, 1)), (168, (.getfield 86, 3)), (171, (.iconst 5, 1)), (172, (.iload 6, 2)), (174, (.imul, 1)), (175, (.iload 5, 2)), (177, (.iadd, 1)), (178, (.baload, 1)), (179, (.ifCond .eq 14, 3)), (182, (.aload_n 0, 1)), (183, (.iload 7, 2)), (185, (.iload 8, 2)), (187, (.invokevirtual 298, 3)), (190, (.goto 33, 3)), (193, (.aload_n 0, 1)), (194, (.iload 6, 2)), (196, (.iload 8, 2)), (198, (.iconst 1, 1)), (199, (.isub, 1)), (200, (.invokevirtual 298, 3)), (203, (.aload_n 0, 1)), (204, (.iload 6, 2)), (206, (.iload 8, 2)), (208, (.invokevirtual 298, 3)), (211, (.isub, 1)), (212, (.aload_n 0, 1)), (213, (.iload 7, 2)), (215, (.iload 8, 2)), (217, (.iconst 1, 1)), (218, (.isub, 1)), (219, (.invokevirtual 298, 3)), (222, (.iadd, 1)), (223, (.iastore, 1)), (224, (.iinc 8 1, 3)), (227, (.goto (-79), 3)), (230, (.iinc 6 1, 3)), (233, (.goto (-111), 3)), (236, (.iconst 0, 1)), (237, (.istore 6, 2)), (239, (.iload 6, 2)), (241, (.bipush 9, 2)), (243, (.aload_n 0, 1)), (244, (.getfield 292, 3)), (247, (.imul, 1)), (248, (.if_icmp .ge 23, 3)), (251, (.aload_n 0, 1)), (252, (.getfield 89, 3)), (255, (.iload 6, 2)), (257, (.aload_n 0, 1)), (258, (.getfield 92, 3)), (261, (.iload 6, 2)), (263, (.iaload, 1)), (264, (.iastore, 1)), (265, (.iinc 6 1, 3)), (268, (.goto (-29), 3)), (271, (.iinc 4 (-1), 3)), (274, (.goto (-169), 3)), (277, (.return_, 1))]
def cd202 : List (Nat × (Instr × Nat)) := [(0, (.iconst 0, 1)), (1, (.istore_n 3, 1)), (2, (.iload_n 3, 1)), (3, (.bipush 9, 2)), (5, (.if_icmp .ge 68, 3)), (8, (.iconst 0, 1)), (9, (.istore 4, 2)), (11, (.iload_n 3, 1)), (12, (.iload 4, 2)), (14, (.iadd, 1)), (15, (.bipush 9, 2)), (17, (.if_icmp .ge 50, 3)), (20, (.aload_n 0, 1)), (21, (.getfield 101, 3)), (24, (.bipush 9, 2)), (26, (.iload_n 1, 1)), (27, (.imul, 1)), (28, (.iload_n 3, 1)), (29, (.iadd, 1)), (30, (.iload 4, 2)), (32, (.iadd, 1)), (33, (.dup2, 1)), (34, (.iaload, 1)), (35, (.aload_n 0, 1)), (36, (.getfield 89, 3)), (39, (.bipush 9, 2)), (41, (.iload_n 1, 1)), (42, (.imul, 1)), (43, (.iload_n 3, 1)), (44, (.iadd, 1)), (45, (.iaload, 1)), (46, (.aload_n 0, 1)), (47, (.getfield 98, 3)), (50, (.bipush 9, 2)), (52, (.iload_n 2, 1)), (53, (.imul, 1)), (54, (.iload 4, 2)), (56, (.iadd, 1)), (57, (.iaload, 1)), (58, (.imul, 1)), (59, (.iadd, 1)), (60, (.iastore, 1)), (61, (.iinc 4 1, 3)), (64, (.goto (-53), 3)), (67, (.iinc 3 1, 3)), (70, (.goto (-68), 3)), (73, (.return_, 1))]
def cd203 : List (Nat × (Instr × Nat)) := [(0, (.aload_n 0, 1)), (1, (.getfield 74, 3)), (4, (.iload_n 1, 1)), (5, (.if_icmp .ne 4, 3)), (8, (.return_, 1)), (9, (.aload_n 0, 1)), (10, (.iload_n 1, 1)), (11, (.invokevirtual 301, 3)), (14, (.iconst 0, 1)), (15, (.istore_n 2, 1)), (16, (.iload_n 2, 1)), (17, (.sipush 2304, 3)), (20, (.if_icmp .ge 23, 3)), (23, (.aload_n 0, 1)), (24, (.getfield 98, 3)), (27, (.iload_n 2, 1)), (28, (.iconst 0, 1)), (29, (.iastore, 1)), (30, (.aload_n 0, 1)), (31, (.getfield 101, 3)), (34, (.iload_n 2, 1)), (35, (.iconst 0, 1)), (36, (.iastore, 1)), (37, (.iinc 2 1, 3)), (40, (.goto (-24), 3)), (43, (.aload_n 0, 1)), (44, (.getfield 40, 3)), (47, (.iload_n 1, 1)), (48, (.iaload, 1)), (49, (.istore_n 2, 1)), (50, (.iload_n 2, 1)), (51, (.ifCond .lt 155, 3)), (54, (.iconst 0, 1)), (55, (.istore_n 3, 1)), (56, (.iload_n 3, 1)), (57, (.aload_n 0, 1)), (58, (.getfield 292, 3)), (61, (.if_icmp .ge 139, 3)), (64, (.aload_n 0, 1)), (65, (.getfield 80, 3)), (68, (.iload_n 3, 1)), (69, (.iaload, 1)), (70, (.iload_n 2, 1)), (71, (.if_icmp .ne 123, 3)), (74, (.aload_n 0, 1)), (75, (.getfield 40, 3)), (78, (.iload_n 1, 1)), (79, (.iaload, 1)), (80, (.iload_n 2, 1)), (81, (.isub, 1)), (82, (.istore 4, 2)), (84, (.aload_n 0, 1)), (85, (.getfield 98, 3)), (88, (.bipush 9, 2)), (90, (.iload_n 3, 1)), (91, (.imul, 1)), (92, (.iload 4, 2)), (94, (.ifCond .ne 7, 3)), (97, (.iconst 1, 1)), (98, (.goto 4, 3)), (101, (.iconst 0, 1)), (102, (.iastore, 1)), (103, (.iconst 0, 1)), (104, (.istore 5, 2)), (106, (.iload 4, 2)), (108, (.ifCond .le 45, 3)), (111, (.iconst 2, 1)), (112, (.iload 5, 2)), (114, (.imul, 1)), (115, (.iload 4, 2)), (117, (.iconst 1, 1)), (118, (.isub, 1)), (119, (.if_icmp .gt 34, 3)), (122, (.aload_n 0, 1)), (123, (.getfield 98, 3)), (126, (.bipush 9, 2)), (128, (.iload_n 3, 1)), (129, (.imul, 1)), (130, (.iload 5, 2)), (132, (.iadd, 1)), (133, (.aload_n 0, 1)), (134, (.getfield 101, 3)), (137, (.bipush 9, 2)), (139, (.iload_n 3, 1)), (140, (.imul, 1)), (141, (.iload 5, 2)), (143, (.iadd, 1)), (144, (.iaload, 1)), (145, (.ineg, 1)), (146, (.iastore, 1)), (147, (.iinc 5 1, 3)), (150, (.goto (-44), 3)), (153, (.aload_n 0, 1)), (154, (.iload_n 3, 1)), (155, (.invokevirtual 304, 3)), (158, (.iconst 0, 1)), (159, (.istore 5, 2)), (161, (.iload 5, 2)), (163, (.aload_n 0, 1)), (164, (.getfield 292, 3)), (167, (.if_icmp .ge 27, 3)), (170, (.aload_n 0, 1)), (171, (.getfield 80, 3)), (174, (.iload 5, 2)), (176, (.iaload, 1)), (177, (.iload_n 2, 1)), (178, (.if_icmp .ge 10, 3)), (181, (.aload_n 0, 1)), (182, (.iload 5, 2)), (184, (.iload_n 3, 1)), (185, (.invokevirtual 307, 3)), (188, (.iinc 5 1, 3)), (191, (.goto (-30), 3)), (194, (.iinc 3 1, 3)), (197, (.goto (-141), 3)), (200, (.iinc 2 (-1), 3)), (203, (.goto (-153), 3)), (206, (.aload_n 0, 1)), (207, (.iload_n 1, 1)), (208, (.putfield 74, 3)), (211, (.return_, 1))]
def cd204 : List (Nat × (Instr × Nat)) := [(0, (.aload_n 0, 1)), (1, (.iload_n 1, 1)), (2, (.iconst 0, 1)), (3, (.invokevirtual 225, 3)), (6, (.aload_n 0, 1)), (7, (.invokevirtual 295, 3)), (10, (.ireturn, 1))]
def cd205 : List (Nat × (Instr × Nat)) := [(0, (.aload_n 0, 1)), (1, (.iload_n 1, 1)), (2, (.invokevirtual 222, 3)), (5, (.ifCond .eq 11, 3)), (8, (.aload_n 0, 1)), (9, (.iload_n 2, 1)), (10, (.invokevirtual 222, 3)), (13, (.ifCond .ne 7, 3)), (16, (.sipush (-1001), 3)), (19, (.ireturn, 1)), (20, (.iload_n 3, 1)), (21, (.ifCond .ge 7, 3)), (24, (.sipush (-1002), 3)), (27, (.ireturn, 1)), (28, (.aload_n 0, 1)), (29, (.getfield 40, 3)), (32, (.iload_n 2, 1)), (33, (.iaload, 1)), (34, (.bipush 8, 2)), (36, (.if_icmp .le 7, 3)), (39, (.sipush (-1005), 3)), (42, (.ireturn, 1)), (43, (.aload_n 0, 1)), (44, (.iload_n 2, 1)), (45, (.invokevirtual 301, 3)), (48, (.aload_n 0, 1)), (49, (.iconst (-1), 1)), (50, (.putfield 74, 3)), (53, (.aload_n 0, 1)), (54, (.iload_n 2, 1)), (55, (.invokevirtual 311, 3)), (58, (.istore 4, 2)), (60, (.aload_n 0, 1)), (61, (.iload_n 1, 1)), (62, (.invokevirtual 311, 3)), (65, (.istore 5, 2)), (67, (.aload_n 0, 1)), (68, (.iload 4, 2)), (70, (.invokevirtual 304, 3)), (73, (.iload 5, 2)), (75, (.ifCond .lt 9, 3)), (78, (.iload_n 3, 1)), (79, (.bipush 8, 2)), (81, (.if_icmp .le 7, 3)), (84, (.iconst 0, 1)), (85, (.goto 15, 3)), (88, (.aload_n 0, 1)), (89, (.getfield 89, 3)), (92, (.bipush 9, 2)), (94, (.iload 5, 2)), (96, (.imul, 1)), (97, (.iload_n 3, 1)), (98, (.iadd, 1)), (99, (.iaload, 1)), (100, (.ireturn, 1))]
def cd206 : List (Nat × (Instr × Nat)) := [(0, (.aload_n 0, 1)), (1, (.iload_n 1, 1)), (2, (.invokevirtual 222, 3)), (5, (.ifCond .eq 11, 3)), (8, (.aload_n 0, 1)), (9, (.iload_n 2, 1)), (10, (.invokevirtual 222, 3)), (13, (.ifCond .ne 7, 3)), (16, (.sipush (-1001), 3)), (19, (.ireturn, 1)), (20, (.iload_n 3, 1)), (21, (.ifCond .ge 7, 3)), (24, (.sipush (-1002), 3)), (27, (.ireturn, 1)), (28, (.aload_n 0, 1)), (29, (.getfield 40, 3)), (32, (.iload_n 2, 1)), (33, (.iaload, 1)), (34, (.bipush 8, 2)), (36, (.if_icmp .le 7, 3)), (39, (.sipush (-1005), 3)), (42, (.ireturn, 1)), (43, (.aload_n 0, 1)), (44, (.iload_n 2, 1)), (45, (.invokevirtual 314, 3)), (48, (.aload_n 0, 1)), (49, (.iload_n 1, 1)), (50, (.invokevirtual 311, 3)), (53, (.istore 4, 2)), (55, (.iload 4, 2)), (57, (.ifCond .lt 9, 3)), (60, (.iload_n 3, 1)), (61, (.bipush 8, 2)), (63, (.if_icmp .le 7, 3)), (66, (.iconst 0, 1)), (67, (.goto 15, 3)), (70, (.aload_n 0, 1)), (71, (.getfield 98, 3)), (74, (.bipush 9, 2)), (76, (.iload 4, 2)), (78, (.imul, 1)), (79, (.iload_n 3, 1)), (80, (.iadd, 1)), (81, (.iaload, 1)), (82, (.ireturn, 1))]
def cd207 : List (Nat × (Instr × Nat)) := [(0, (.aload_n 0, 1)), (1, (.iload_n 1, 1)), (2, (.invokevirtual 222, 3)), (5, (.ifCond .eq 11, 3)), (8, (.aload_n 0, 1)), (9, (.iload_n 2, 1)), (10, (.invokevirtual 222, 3)), (13, (.ifCond .ne 7, 3)), (16, (.sipush (-1001), 3)), (19, (.ireturn, 1)), (20, (.aload_n 0, 1)), (21, (.getfield 40, 3)), (24, (.iload_n 2, 1)), (25, (.iaload, 1)), (26, (.bipush 8, 2)), (28, (.if_icmp .le 7, 3)), (31, (.sipush (-1005), 3)), (34, (.ireturn, 1)), (35, (.aload_n 0, 1)), (36, (.iload_n 2, 1)), (37, (.invokevirtual 314, 3)), (40, (.aload_n 0, 1)), (41, (.iload_n 1, 1)), (42, (.invokevirtual 311, 3)), (45, (.istore_n 3, 1)), (46, (.aload_n 0, 1)), (47, (.getfield 40, 3)), (50, (.iload_n 2, 1)), (51, (.iaload, 1)), (52, (.aload_n 0, 1)), (53, (.getfield 40, 3)), (56, (.iload_n 1, 1)), (57, (.iaload, 1)), (58, (.isub, 1)), (59, (.istore 4, 2)), (61, (.iload_n 3, 1)), (62, (.ifCond .lt 10, 3)), (65, (.iload 4, 2)), (67, (.iconst 2, 1)), (68, (.irem, 1)), (69, (.ifCond .ne 7, 3)), (72, (.iconst 0, 1)), (73, (.goto 19, 3)), (76, (.aload_n 0, 1)), (77, (.getfield 98, 3)), (80, (.bipush 9, 2)), (82, (.iload_n 3, 1)), (83, (.imul, 1)), (84, (.iload 4, 2)), (86, (.iconst 1, 1)), (87, (.isub, 1)), (88, (.iconst 2, 1)), (89, (.idiv, 1)), (90, (.iadd, 1)), (91, (.iaload, 1)), (92, (.ireturn, 1))]
def cd208 : List (Nat × (Instr × Nat)) := [(0, (.aload_n 0, 1)), (1, (.iload_n 1, 1)), (2, (.invokevirtual 222, 3)), (5, (.ifCond .ne 7, 3)), (8, (.sipush (-1001), 3)), (11, (.ireturn, 1)), (12, (.aload_n 0, 1)), (13, (.getfield 40, 3)), (16, (.iload_n 1, 1)), (17, (.iaload, 1)), (18, (.bipush 8, 2)), (20, (.if_icmp .le 7, 3)), (23, (.sipush (-1005), 3)), (26, (.ireturn, 1)), (27, (.aload_n 0, 1)), (28, (.iload_n 1, 1)), (29, (.invokevirtual 314, 3)), (32, (.iconst 0, 1)), (33, (.istore_n 2, 1)), (34, (.iconst 0, 1)), (35, (.istore_n 3, 1)), (36, (.iload_n 3, 1)), (37, (.aload_n 0, 1)), (38, (.getfield 292, 3)), (41, (.if_icmp .ge 85, 3)), (44, (.aload_n 0, 1)), (45, (.getfield 98, 3)), (48, (.bipush 9, 2)), (50, (.iload_n 3, 1)), (51, (.imul, 1)), (52, (.iaload, 1)), (53, (.iconst 1, 1)), (54, (.if_icmp .ne 7, 3)), (57, (.iconst 1, 1)), (58, (.goto 4, 3)), (61, (.iconst 0, 1)), (62, (.istore 4, 2)), (64, (.iconst 1, 1)), (65, (.istore 5, 2)), (67, (.iload 5, 2)), (69, (.bipush 9, 2)), (71, (.if_icmp .ge 36, 3)), (74, (.iload 4, 2)), (76, (.ifCond .eq 22, 3)), (79, (.aload_n 0, 1)), (80, (.getfield 98, 3)), (83, (.bipush 9, 2)), (85, (.iload_n 3, 1)), (86, (.imul, 1)), (87, (.iload 5, 2)), (89, (.iadd, 1)), (90, (.iaload, 1)), (91, (.ifCond .ne 7, 3)), (94, (.iconst 1, 1)), (95, (.goto 4, 3)), (98, (.iconst 0, 1)), (99, (.istore 4, 2)), (101, (.iinc 5 1, 3)), (104, (.goto (-37), 3)), (107, (.iload_n 2, 1)), (108, (.iload 4, 2)), (110, (.ifCond .eq 7, 3)), (113, (.iconst 0, 1)), (114, (.goto 4, 3)), (117, (.iconst 1, 1)), (118, (.iadd, 1)), (119, (.istore_n 2, 1)), (120, (.iinc 3 1, 3)), (123, (.goto (-87), 3)), (126, (.iload_n 2, 1)), (127, (.ireturn, 1))]
def cdt (k : Nat) : List (Nat × (Instr × Nat)) := match k with
  | 0 => cd0
  | 1 => cd1
  | 2 => cd2
  | 3 => cd3
  | 4 => cd4
  | 5 => cd5
  | 6 => cd6
  | 7 => cd7
  | 8 => cd8
  | 9 => cd9
  | 10 => cd10
  | 11 => cd11
  | 12 => cd12
  | 13 => cd13
  | 14 => cd14
  | 15 => cd15
  | 16 => cd16
  | 17 => cd17
  | 18 => cd18
  | 19 => cd19
  | 20 => cd20
  | 21 => cd21
  | 22 => cd22
  | 23 => cd23
  | 24 => cd24
  | 25 => cd25
  | 26 => cd26
  | 27 => cd27
  | 28 => cd28
  | 29 => cd29
  | 30 => cd30
  | 31 => cd31
  | 32 => cd32
  | 33 => cd33
  | 34 => cd34
  | 35 => cd35
  | 36 => cd36
  | 37 => cd37
  | 38 => cd38
  | 39 => cd39
  | 40 => cd40
  | 41 => cd41
  | 42 => cd42
  | 43 => cd43
  | 44 => cd44
  | 45 => cd45
  | 46 => cd46
  | 47 => cd47
  | 48 => cd48
  | 49 => cd49
  | 50 => cd50
  | 51 => cd51
  | 52 => cd52
  | 53 => cd53
  | 54 => cd54
  | 55 => cd55
  | 56 => cd56
  | 57 => cd57
  | 58 => cd58
  | 59 => cd59
  | 60 => cd60
  | 61 => cd61
  | 62 => cd62
  | 63 => cd63
  | 64 => cd64
  | 65 => cd65
  | 66 => cd66
  | 67 => cd67
  | 68 => cd68
  | 69 => cd69
  | 70 => cd70
  | 71 => cd71
  | 72 => cd72
  | 73 => cd73
  | 74 => cd74
  | 75 => cd75
  | 76 => cd76
  | 77 => cd77
  | 78 => cd78
  | 79 => cd79
  | 80 => cd80
  | 81 => cd81
  | 82 => cd82
  | 83 => cd83
  | 84 => cd84
  | 85 => cd85
  | 86 => cd86
  | 87 => cd87
  | 88 => cd88
  | 89 => cd89
  | 90 => cd90
  | 91 => cd91
  | 92 => cd92
  | 93 => cd93
  | 94 => cd94
  | 95 => cd95
  | 96 => cd96
  | 97 => cd97
  | 98 => cd98
  | 99 => cd99
  | 100 => cd100
  | 101 => cd101
  | 102 => cd102
  | 103 => cd103
  | 104 => cd104
  | 105 => cd105
  | 106 => cd106
  | 107 => cd107
  | 108 => cd108
  | 109 => cd109
  | 110 => cd110
  | 111 => cd111
  | 112 => cd112
  | 113 => cd113
  | 114 => cd114
  | 115 => cd115
  | 116 => cd116
  | 117 => cd117
  | 118 => cd118
  | 119 => cd119
  | 120 => cd120
  | 121 => cd121
  | 122 => cd122
  | 123 => cd123
  | 124 => cd124
  | 125 => cd125
  | 126 => cd126
  | 127 => cd127
  | 128 => cd128
  | 129 => cd129
  | 130 => cd130
  | 131 => cd131
  | 132 => cd132
  | 133 => cd133
  | 134 => cd134
  | 135 => cd135
  | 136 => cd136
  | 137 => cd137
  | 138 => cd138
  | 139 => cd139
  | 140 => cd140
  | 141 => cd141
  | 142 => cd142
  | 143 => cd143
  | 144 => cd144
  | 145 => cd145
  | 146 => cd146
  | 147 => cd147
  | 148 => cd148
  | 149 => cd149
  | 150 => cd150
  | 151 => cd151
  | 152 => cd152
  | 153 => cd153
  | 154 => cd154
  | 155 => cd155
  | 156 => cd156
  | 157 => cd157
  | 158 => cd158
  | 159 => cd159
  | 160 => cd160
  | 161 => cd161
  | 162 => cd162
  | 163 => cd163
  | 164 => cd164
  | 165 => cd165
  | 166 => cd166
  | 167 => cd167
  | 168 => cd168
  | 169 => cd169
  | 170 => cd170
  | 171 => cd171
  | 172 => cd172
  | 173 => cd173
  | 174 => cd174
  | 175 => cd175
  | 176 => cd176
  | 177 => cd177
  | 178 => cd178
  | 179 => cd179
  | 180 => cd180
  | 181 => cd181
  | 182 => cd182
  | 183 => cd183
  | 184 => cd184
  | 185 => cd185
  | 186 => cd186
  | 187 => cd187
  | 188 => cd188
  | 189 => cd189
  | 190 => cd190
  | 191 => cd191
  | 192 => cd192
  | 193 => cd193
  | 194 => cd194
  | 195 => cd195
  | 196 => cd196
  | 197 => cd197
  | 198 => cd198
  | 199 => cd199
  | 200 => cd200
  | 201 => cd201
  | 202 => cd202
  | 203 => cd203
  | 204 => cd204
  | 205 => cd205
  | 206 => cd206
  | 207 => cd207
  | 208 => cd208
  | _ => []
/-- (class, entry) to (nest, class, field, place of the word) -/
def flt : List ((Nat × Nat) × (Bool × Nat × Nat × Nat)) := [
  ((0, 11), (false, 0, 3, 1009)),
  ((0, 15), (false, 0, 4, 1010)),
  ((0, 20), (false, 0, 5, 1011)),
  ((0, 23), (false, 0, 6, 1012)),
  ((0, 27), (false, 0, 7, 1013)),
  ((0, 31), (false, 0, 0, 1006)),
  ((0, 35), (false, 0, 1, 1007)),
  ((0, 44), (false, 0, 2, 1008)),
  ((0, 48), (true, 1, 5, 257)),
  ((0, 63), (false, 0, 8, 1014)),
  ((0, 70), (true, 6, 2, 694)),
  ((0, 95), (true, 1, 3, 247)),
  ((0, 106), (true, 6, 3, 698)),
  ((0, 113), (true, 6, 4, 703)),
  ((1, 9), (false, 1, 2, 241)),
  ((1, 15), (false, 1, 3, 242)),
  ((1, 18), (false, 1, 4, 250)),
  ((1, 22), (false, 1, 5, 254)),
  ((1, 25), (false, 1, 6, 260)),
  ((1, 28), (false, 1, 0, 238)),
  ((1, 35), (false, 1, 1, 239)),
  ((2, 9), (false, 2, 3, 724)),
  ((2, 15), (false, 2, 4, 725)),
  ((2, 18), (false, 2, 5, 726)),
  ((2, 22), (false, 2, 8, 729)),
  ((2, 26), (false, 2, 0, 721)),
  ((2, 30), (false, 2, 1, 722)),
  ((2, 39), (false, 2, 2, 723)),
  ((2, 47), (false, 2, 6, 727)),
  ((2, 54), (false, 2, 7, 728)),
  ((2, 70), (true, 6, 2, 695)),
  ((2, 73), (true, 6, 4, 702)),
  ((2, 79), (true, 3, 0, 173)),
  ((2, 84), (true, 6, 3, 699)),
  ((2, 103), (true, 1, 5, 258)),
  ((2, 108), (true, 1, 3, 248)),
  ((3, 9), (false, 3, 1, 175)),
  ((3, 15), (false, 3, 2, 177)),
  ((3, 18), (false, 3, 0, 169)),
  ((4, 9), (false, 4, 2, 329)),
  ((4, 15), (false, 4, 3, 330)),
  ((4, 19), (false, 4, 0, 327)),
  ((4, 23), (false, 4, 1, 328)),
  ((4, 27), (true, 1, 3, 244)),
  ((4, 32), (true, 1, 5, 256)),
  ((5, 9), (false, 5, 2, 310)),
  ((5, 15), (false, 5, 3, 311)),
  ((5, 18), (false, 5, 0, 308)),
  ((5, 22), (false, 5, 1, 309)),
  ((5, 26), (true, 1, 3, 243)),
  ((5, 49), (true, 3, 0, 172)),
  ((6, 9), (false, 6, 2, 692)),
  ((6, 15), (false, 6, 0, 690)),
  ((6, 19), (false, 6, 1, 691)),
  ((6, 22), (false, 6, 3, 696)),
  ((6, 26), (false, 6, 4, 700)),
  ((6, 30), (false, 6, 5, 704)),
  ((6, 33), (false, 6, 6, 705)),
  ((6, 61), (true, 3, 0, 174)),
  ((7, 11), (false, 7, 3, 907)),
  ((7, 15), (false, 7, 4, 908)),
  ((7, 18), (false, 7, 5, 909)),
  ((7, 22), (false, 7, 0, 904)),
  ((7, 26), (false, 7, 1, 905)),
  ((7, 35), (false, 7, 2, 906)),
  ((7, 43), (false, 7, 6, 910)),
  ((7, 50), (false, 7, 7, 911)),
  ((7, 53), (false, 7, 8, 912)),
  ((7, 56), (false, 7, 9, 913)),
  ((7, 59), (true, 6, 2, 693)),
  ((7, 62), (true, 6, 4, 701)),
  ((7, 75), (true, 1, 4, 251)),
  ((7, 86), (true, 1, 3, 246)),
  ((7, 91), (true, 3, 0, 171)),
  ((7, 120), (true, 3, 2, 179)),
  ((7, 123), (true, 6, 3, 697)),
  ((8, 9), (false, 8, 0, 194)),
  ((8, 15), (false, 8, 1, 195)),
  ((8, 19), (false, 8, 4, 199)),
  ((8, 22), (false, 8, 6, 203)),
  ((8, 25), (false, 8, 7, 205)),
  ((8, 34), (false, 8, 3, 198)),
  ((8, 41), (false, 8, 2, 197)),
  ((8, 55), (false, 8, 5, 202)),
  ((9, 9), (false, 9, 2, 285)),
  ((9, 15), (false, 9, 3, 286)),
  ((9, 18), (false, 9, 4, 287)),
  ((9, 22), (false, 9, 5, 288)),
  ((9, 25), (false, 9, 0, 283)),
  ((9, 29), (false, 9, 1, 284)),
  ((9, 33), (true, 1, 5, 255)),
  ((9, 44), (true, 1, 3, 245)),
  ((9, 69), (true, 1, 4, 252)),
  ((10, 12), (false, 10, 0, 340)),
  ((10, 19), (false, 10, 1, 341)),
  ((10, 28), (false, 10, 2, 342)),
  ((10, 37), (false, 10, 3, 343)),
  ((10, 44), (false, 10, 4, 344)),
  ((10, 51), (false, 10, 5, 345)),
  ((10, 55), (false, 10, 6, 346)),
  ((10, 59), (false, 10, 7, 347)),
  ((10, 63), (false, 10, 8, 348)),
  ((10, 67), (false, 10, 9, 349)),
  ((10, 71), (false, 10, 10, 350)),
  ((10, 83), (true, 8, 5, 201)),
  ((10, 86), (true, 8, 6, 204)),
  ((10, 99), (true, 3, 0, 170)),
  ((10, 111), (true, 8, 4, 200)),
  ((10, 118), (true, 3, 1, 176)),
  ((10, 119), (true, 3, 2, 178)),
  ((10, 122), (true, 1, 1, 240)),
  ((10, 123), (true, 8, 1, 196)),
  ((10, 131), (true, 1, 3, 249)),
  ((10, 138), (true, 1, 4, 253)),
  ((10, 142), (true, 1, 5, 259)),
  ((11, 7), (false, 11, 0, 1109)),
  ((11, 13), (false, 11, 1, 1110)),
  ((11, 17), (false, 11, 2, 1111)),
  ((11, 20), (false, 11, 3, 1112)),
  ((11, 23), (false, 11, 4, 1113)),
  ((11, 26), (false, 11, 6, 1115)),
  ((11, 29), (false, 11, 11, 1120)),
  ((11, 33), (false, 11, 13, 1122)),
  ((11, 37), (false, 11, 14, 1123)),
  ((11, 40), (false, 11, 17, 1126)),
  ((11, 43), (false, 11, 18, 1127)),
  ((11, 46), (false, 11, 20, 1129)),
  ((11, 50), (false, 11, 21, 1130)),
  ((11, 53), (false, 11, 22, 1131)),
  ((11, 56), (false, 11, 23, 1132)),
  ((11, 59), (false, 11, 24, 1133)),
  ((11, 62), (false, 11, 25, 1134)),
  ((11, 65), (false, 11, 26, 1135)),
  ((11, 68), (false, 11, 28, 1137)),
  ((11, 71), (false, 11, 29, 1138)),
  ((11, 74), (false, 11, 30, 1139)),
  ((11, 77), (false, 11, 32, 1141)),
  ((11, 80), (false, 11, 33, 1142)),
  ((11, 83), (false, 11, 34, 1143)),
  ((11, 86), (false, 11, 35, 1144)),
  ((11, 89), (false, 11, 36, 1145)),
  ((11, 92), (false, 11, 37, 1146)),
  ((11, 95), (false, 11, 38, 1147)),
  ((11, 98), (false, 11, 39, 1148)),
  ((11, 101), (false, 11, 40, 1149)),
  ((11, 108), (false, 11, 16, 1125)),
  ((11, 111), (false, 11, 19, 1128)),
  ((11, 120), (false, 11, 5, 1114)),
  ((11, 125), (false, 11, 7, 1116)),
  ((11, 132), (false, 11, 8, 1117)),
  ((11, 136), (false, 11, 9, 1118)),
  ((11, 159), (false, 11, 10, 1119)),
  ((11, 176), (false, 11, 12, 1121)),
  ((11, 201), (false, 11, 15, 1124)),
  ((11, 269), (false, 11, 27, 1136)),
  ((11, 292), (false, 11, 31, 1140))]
/-- (class, entry) to (kind, method, place of the link, of instanceMethod or static, of selects) -/
def mlt : List ((Nat × Nat) × (Nat × Nat × Nat × Nat × Nat)) := [
  ((0, 5), (6, 0, 1002, 0, 0)),
  ((0, 41), (5, 59, 1005, 687, 0)),
  ((0, 53), (1, 42, 1054, 556, 26)),
  ((0, 59), (1, 63, 1057, 964, 76)),
  ((0, 66), (2, 4, 1075, 1076, 0)),
  ((0, 73), (0, 6, 1038, 1040, 81)),
  ((0, 77), (2, 10, 1058, 1059, 0)),
  ((0, 81), (1, 60, 1042, 755, 46)),
  ((0, 84), (1, 40, 1043, 236, 2)),
  ((0, 88), (1, 62, 1044, 760, 47)),
  ((0, 92), (0, 8, 1045, 1047, 82)),
  ((0, 98), (1, 17, 1049, 572, 30)),
  ((0, 102), (0, 7, 1050, 1052, 83)),
  ((0, 109), (1, 41, 1055, 544, 23)),
  ((0, 114), (1, 61, 1056, 783, 52)),
  ((0, 118), (1, 46, 1061, 564, 28)),
  ((0, 122), (1, 45, 1062, 568, 29)),
  ((0, 126), (0, 9, 1063, 1065, 84)),
  ((0, 129), (0, 11, 1067, 1069, 85)),
  ((0, 133), (0, 12, 1071, 1073, 86)),
  ((0, 136), (0, 13, 1078, 1080, 87)),
  ((1, 3), (6, 0, 229, 0, 0)),
  ((1, 32), (0, 15, 230, 232, 1)),
  ((1, 39), (1, 40, 234, 236, 2)),
  ((1, 45), (1, 41, 542, 544, 23)),
  ((1, 49), (1, 43, 546, 548, 24)),
  ((1, 53), (0, 19, 550, 552, 25)),
  ((1, 56), (1, 42, 554, 556, 26)),
  ((1, 60), (0, 20, 558, 560, 27)),
  ((1, 64), (0, 17, 570, 572, 30)),
  ((1, 68), (1, 46, 562, 564, 28)),
  ((1, 72), (1, 45, 566, 568, 29)),
  ((2, 3), (6, 0, 683, 0, 0)),
  ((2, 36), (5, 59, 686, 687, 0)),
  ((2, 43), (0, 27, 846, 848, 63)),
  ((2, 50), (0, 26, 866, 868, 66)),
  ((2, 57), (1, 60, 753, 755, 46)),
  ((2, 60), (1, 40, 850, 236, 2)),
  ((2, 66), (1, 64, 851, 778, 51)),
  ((2, 76), (0, 28, 852, 854, 64)),
  ((2, 80), (1, 61, 781, 783, 52)),
  ((2, 87), (1, 42, 757, 556, 26)),
  ((2, 91), (1, 41, 789, 544, 23)),
  ((2, 95), (1, 46, 856, 564, 28)),
  ((2, 99), (1, 45, 857, 568, 29)),
  ((2, 109), (1, 62, 758, 760, 47)),
  ((2, 113), (0, 30, 785, 787, 53)),
  ((3, 3), (6, 0, 158, 0, 0)),
  ((3, 22), (2, 32, 159, 160, 0)),
  ((3, 26), (0, 34, 162, 164, 0)),
  ((3, 30), (2, 35, 166, 167, 0)),
  ((4, 3), (6, 0, 326, 0, 0)),
  ((4, 35), (1, 42, 981, 556, 26)),
  ((4, 41), (2, 49, 982, 983, 0)),
  ((4, 45), (2, 50, 987, 988, 0)),
  ((4, 49), (1, 17, 985, 572, 30)),
  ((4, 52), (1, 41, 986, 544, 23)),
  ((5, 3), (6, 0, 307, 0, 0)),
  ((5, 32), (1, 17, 613, 572, 30)),
  ((5, 36), (1, 39, 614, 616, 36)),
  ((5, 42), (1, 38, 605, 607, 34)),
  ((5, 45), (0, 52, 609, 611, 35)),
  ((5, 53), (0, 57, 882, 884, 69)),
  ((5, 57), (0, 58, 887, 889, 70)),
  ((5, 60), (1, 43, 886, 548, 24)),
  ((6, 3), (6, 0, 689, 0, 0)),
  ((6, 36), (0, 66, 762, 764, 48)),
  ((6, 40), (0, 65, 771, 773, 50)),
  ((6, 44), (0, 64, 776, 778, 51)),
  ((6, 48), (1, 42, 780, 556, 26)),
  ((6, 54), (0, 67, 766, 768, 49)),
  ((6, 57), (1, 43, 775, 548, 24)),
  ((7, 3), (6, 0, 901, 0, 0)),
  ((7, 32), (5, 59, 903, 687, 0)),
  ((7, 39), (0, 72, 939, 941, 72)),
  ((7, 47), (0, 71, 966, 968, 77)),
  ((7, 72), (1, 60, 943, 755, 46)),
  ((7, 80), (1, 42, 944, 556, 26)),
  ((7, 87), (1, 62, 945, 760, 47)),
  ((7, 92), (1, 38, 946, 607, 34)),
  ((7, 96), (1, 17, 947, 572, 30)),
  ((7, 99), (1, 39, 948, 616, 36)),
  ((7, 102), (0, 73, 949, 951, 73)),
  ((7, 106), (0, 74, 953, 955, 74)),
  ((7, 109), (1, 41, 957, 544, 23)),
  ((7, 112), (0, 75, 958, 960, 75)),
  ((7, 116), (1, 63, 962, 964, 76)),
  ((8, 3), (6, 0, 193, 0, 0)),
  ((8, 31), (0, 79, 391, 393, 5)),
  ((8, 37), (0, 87, 395, 397, 6)),
  ((8, 44), (0, 88, 399, 401, 7)),
  ((8, 48), (0, 80, 403, 405, 8)),
  ((8, 52), (0, 81, 472, 474, 13)),
  ((8, 60), (0, 86, 408, 410, 9)),
  ((8, 64), (0, 89, 460, 462, 10)),
  ((8, 68), (0, 84, 464, 466, 11)),
  ((8, 72), (0, 85, 468, 470, 12)),
  ((8, 75), (0, 83, 476, 478, 14)),
  ((8, 78), (0, 82, 481, 483, 15)),
  ((9, 3), (6, 0, 282, 0, 0)),
  ((9, 38), (1, 42, 626, 556, 26)),
  ((9, 47), (1, 17, 627, 572, 30)),
  ((9, 51), (1, 41, 628, 544, 23)),
  ((9, 55), (0, 101, 629, 631, 38)),
  ((9, 59), (0, 102, 634, 636, 39)),
  ((9, 63), (0, 99, 818, 820, 58)),
  ((9, 66), (0, 100, 834, 836, 61)),
  ((9, 72), (1, 46, 655, 564, 28)),
  ((9, 75), (1, 45, 656, 568, 29)),
  ((9, 79), (1, 40, 665, 236, 2)),
  ((9, 83), (0, 98, 666, 668, 43)),
  ((9, 87), (1, 20, 633, 560, 27)),
  ((9, 91), (1, 18, 638, 540, 22)),
  ((10, 3), (6, 0, 150, 0, 0)),
  ((10, 11), (5, 31, 155, 156, 0)),
  ((10, 18), (5, 76, 190, 191, 0)),
  ((10, 25), (5, 14, 226, 227, 0)),
  ((10, 34), (5, 90, 279, 280, 0)),
  ((10, 43), (5, 51, 304, 305, 0)),
  ((10, 50), (5, 47, 323, 324, 0)),
  ((10, 75), (1, 77, 378, 380, 3)),
  ((10, 79), (1, 78, 387, 389, 4)),
  ((10, 89), (1, 33, 485, 487, 16)),
  ((10, 93), (1, 15, 489, 232, 1)),
  ((10, 96), (0, 106, 490, 492, 17)),
  ((10, 100), (1, 22, 494, 496, 18)),
  ((10, 105), (1, 69, 499, 501, 19)),
  ((10, 108), (1, 1, 504, 506, 20)),
  ((10, 114), (1, 36, 518, 520, 21)),
  ((10, 126), (1, 18, 538, 540, 22)),
  ((10, 130), (1, 16, 578, 580, 31)),
  ((10, 134), (1, 17, 586, 572, 30)),
  ((10, 145), (1, 44, 591, 593, 32)),
  ((10, 153), (1, 53, 601, 603, 33)),
  ((10, 157), (1, 91, 622, 624, 37)),
  ((10, 160), (1, 92, 643, 645, 40)),
  ((10, 164), (1, 96, 651, 653, 41)),
  ((10, 168), (1, 97, 661, 663, 42)),
  ((10, 173), (0, 128, 675, 677, 44)),
  ((10, 177), (1, 29, 749, 751, 45)),
  ((10, 181), (1, 55, 794, 796, 54)),
  ((10, 184), (1, 54, 802, 804, 55)),
  ((10, 187), (1, 37, 810, 812, 56)),
  ((10, 190), (1, 93, 814, 816, 57)),
  ((10, 193), (1, 94, 822, 824, 59)),
  ((10, 196), (1, 95, 830, 832, 60)),
  ((10, 200), (1, 23, 842, 844, 62)),
  ((10, 203), (1, 24, 862, 864, 65)),
  ((10, 206), (1, 25, 870, 872, 67)),
  ((10, 209), (5, 21, 680, 681, 0)),
  ((10, 210), (1, 56, 878, 880, 68)),
  ((10, 213), (5, 68, 898, 899, 0)),
  ((10, 214), (1, 70, 935, 937, 71)),
  ((10, 217), (1, 48, 977, 979, 78)),
  ((10, 220), (0, 135, 994, 996, 79)),
  ((10, 224), (1, 5, 1034, 1036, 80)),
  ((10, 228), (1, 2, 1082, 1084, 88)),
  ((10, 230), (1, 3, 1094, 1096, 89)),
  ((10, 233), (5, 0, 999, 1000, 0)),
  ((11, 1), (6, 0, 1103, 0, 0)),
  ((11, 104), (0, 138, 1105, 1107, 90)),
  ((11, 116), (2, 137, 1238, 1239, 0)),
  ((11, 128), (0, 140, 1246, 1248, 91)),
  ((11, 155), (0, 141, 1267, 1269, 94)),
  ((11, 162), (0, 142, 1256, 1258, 93)),
  ((11, 165), (2, 143, 1264, 1265, 0)),
  ((11, 169), (0, 144, 1271, 1273, 95)),
  ((11, 172), (0, 145, 1281, 1283, 97)),
  ((11, 179), (0, 146, 1277, 1279, 96)),
  ((11, 182), (0, 147, 1250, 1252, 92)),
  ((11, 186), (0, 150, 1293, 1295, 98)),
  ((11, 190), (2, 155, 1333, 1334, 0)),
  ((11, 194), (2, 157, 1340, 1341, 0)),
  ((11, 198), (0, 154, 1325, 1327, 102)),
  ((11, 204), (0, 156, 1329, 1331, 103)),
  ((11, 207), (0, 158, 1336, 1338, 104)),
  ((11, 210), (0, 159, 1321, 1323, 101)),
  ((11, 213), (0, 162, 1343, 1345, 105)),
  ((11, 216), (0, 164, 1313, 1315, 99)),
  ((11, 219), (0, 163, 1317, 1319, 100)),
  ((11, 222), (0, 160, 1351, 1353, 106)),
  ((11, 225), (0, 169, 1363, 1365, 107)),
  ((11, 233), (0, 165, 1377, 1379, 108)),
  ((11, 236), (0, 174, 1389, 1391, 109)),
  ((11, 240), (2, 176, 1401, 1402, 0)),
  ((11, 244), (2, 177, 1404, 1405, 0)),
  ((11, 248), (0, 178, 1397, 1399, 110)),
  ((11, 254), (0, 182, 1420, 1422, 111)),
  ((11, 257), (0, 184, 1428, 1430, 112)),
  ((11, 260), (0, 185, 1432, 1434, 113)),
  ((11, 263), (0, 187, 1440, 1442, 114)),
  ((11, 266), (0, 188, 1444, 1446, 115)),
  ((11, 274), (0, 191, 1453, 1455, 116)),
  ((11, 277), (0, 190, 1457, 1459, 117)),
  ((11, 286), (0, 196, 1476, 1478, 118)),
  ((11, 289), (0, 195, 1480, 1482, 119)),
  ((11, 295), (0, 199, 1492, 1494, 121)),
  ((11, 298), (0, 200, 1504, 1506, 124)),
  ((11, 301), (0, 198, 1488, 1490, 120)),
  ((11, 304), (0, 201, 1500, 1502, 123)),
  ((11, 307), (0, 202, 1516, 1518, 126)),
  ((11, 311), (0, 204, 1496, 1498, 122)),
  ((11, 314), (0, 203, 1512, 1514, 125))]
def nlt : List ((Nat × Nat) × (Nat × Nat × Nat × Nat)) := [
  ((0, 39), (6, 1004, 685, 141)),
  ((2, 34), (6, 684, 685, 141)),
  ((7, 30), (6, 902, 685, 141)),
  ((10, 9), (3, 153, 154, 129)),
  ((10, 16), (8, 188, 189, 130)),
  ((10, 23), (1, 224, 225, 131)),
  ((10, 32), (9, 277, 278, 132)),
  ((10, 41), (5, 302, 303, 133)),
  ((10, 48), (4, 321, 322, 134)),
  ((10, 101), (2, 679, 497, 140)),
  ((10, 106), (7, 897, 502, 142)),
  ((10, 109), (0, 998, 507, 144))]
def ilt : List ((Nat × Nat) × (Int32 × Nat)) := [
  ((0, 19), ((65536 : Int32), 1003)),
  ((11, 49), ((50000 : Int32), 1104))]
def llt : List ((Nat × Nat) × (Int64 × Nat)) := [
  ((5, 64), ((1000000000000 : Int64), 891)),
  ((5, 66), ((-1000000000000 : Int64), 892)),
  ((6, 62), ((-7046029254386353131 : Int64), 770)),
  ((8, 29), ((255 : Int64), 382)),
  ((10, 149), ((-1001 : Int64), 599)),
  ((10, 151), ((-1002 : Int64), 600)),
  ((10, 171), ((-1005 : Int64), 674)),
  ((11, 114), ((8 : Int64), 1237)),
  ((11, 123), ((255 : Int64), 1241)),
  ((11, 139), ((97 : Int64), 1254)),
  ((11, 141), ((122 : Int64), 1255)),
  ((11, 143), ((20000000000 : Int64), 1260)),
  ((11, 145), ((40000000000 : Int64), 1261)),
  ((11, 147), ((27 : Int64), 1262)),
  ((11, 149), ((96 : Int64), 1263)),
  ((11, 151), ((48 : Int64), 1275)),
  ((11, 153), ((57 : Int64), 1276)),
  ((11, 229), ((-1001 : Int64), 1371)),
  ((11, 231), ((-1002 : Int64), 1372)),
  ((11, 252), ((-1005 : Int64), 1411)),
  ((11, 272), ((20 : Int64), 1452)),
  ((11, 280), ((1000000000000 : Int64), 1469)),
  ((11, 282), ((-1000000000000 : Int64), 1470)),
  ((11, 284), ((2 : Int64), 1475))]
def apos (t : Nat) : Nat := match t with | 0 => 187 | 1 => 276 | _ => 223
def mnix : Nat × Nat := (7, 66)
def slt : List ((Nat × Nat) × Nat) := [((8, 58), 0), ((8, 82), 1)]
def slx : Nat × Nat × Nat := (8, 84, 89)
def sLen : List Nat := [7, 5]
def sByt : List (List Int32) := [[109, 105, 114, 114, 111, 114, 115], [110, 101, 118, 101, 114]]
def opos : Nat × Nat := (151, 152)
